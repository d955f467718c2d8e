section
variable {M : vMe} {x r a d b : Nat} {G F C E : Nat → Nat → Value} {u hz n k : Nat}
theorem bk_p6 {i j : Nat} (hj : j < 2) (hi : i < 14) : bkG (pu G 6 j (.ref b)) i = if i = j + 12 then some b else bkG G i := by
  by_cases e : i = j + 12
  · subst e
    rw [if_pos rfl]; unfold bkG
    rw [if_neg (by omega), if_neg (by omega), if_neg (by omega), Nat.add_sub_cancel, pu_eq]; rfl
  · rw [if_neg e]
    unfold bkG
    by_cases e0 : i = 0
    · rw [if_pos e0, if_pos e0, pu_ne (by omega)]
    · rw [if_neg e0, if_neg e0]
      by_cases e1 : i = 1
      · rw [if_pos e1, if_pos e1, pu_ne (by omega)]
      · rw [if_neg e1, if_neg e1]
        by_cases e2 : i < 12
        · rw [if_pos e2, if_pos e2, pu_ne (by omega)]
        · rw [if_neg e2, if_neg e2, pu_ne (by omega)]
theorem own_p6 {q j : Nat} (hj : j < 2) (h : ¬ own x r G q) (hb : ¬ (b ≤ q ∧ q < b + 50)) : ¬ own x r (pu G 6 j (.ref b)) q := by
  rintro (g | g | ⟨i, c, hi, hc, g1, g2⟩)
  · exact h (.inl g)
  · exact h (.inr (.inl g))
  · rw [bk_p6 hj hi] at hc
    by_cases e : i = j + 12
    · rw [if_pos e] at hc; cases hc
      exact hb ⟨g1, g2⟩
    · rw [if_neg e] at hc
      exact h (own_bk hi hc g1 g2)
theorem store_J {N : vMe} {j n0 s0 : Nat} {Eb : Nat → Nat → Value} (hg : hG N x G) (gO : gOk N x G) (ha : hB N a C) (hb : hB N b Eb) (cO : cOk N a C) (bO : cOk N b Eb) (hab : apart b a) (hxb : x + 8 ≤ b) (hn : G 6 j = .ref b) (hj : j < 2)
    (hz' : bz C) (hcnt : (∀ s, s < n → ∃ m, m ≤ 60 ∧ gt C (4 + 8 * s + 4) 3 = Int32.ofNat m) ∧ gt C 0 5 = Int32.ofNat n ∧ n ≤ 5) (hq : ∀ s, s < n → ∃ q, C (4 + 8 * s) 4 = .ref q) (hm : N.2.1 ≤ n0 + 50) (hs : N.2.2.1 ≤ s0 + 2001) :
    ∃ E1, tX4_store_J22 n0 s0 (x + 5) (Int32.ofNat j) a N = some ((), gv (cv N b E1) x (pu G 7 j (.int 1))) ∧ cOk N b E1 ∧ (∀ k, 3 ≤ k → k < 9 → gt E1 0 k = gt C 0 k) ∧ (∀ i, i < 8 → gt E1 3 i = gt C 3 i) ∧ (∀ c, c < 6 → ∀ k, k < 8 → gt E1 (44 + c) k = gt C (44 + c) k) ∧
      ∀ s, s < n → ∀ m, gt C (4 + 8 * s + 4) 3 = Int32.ofNat m → m ≤ 60 → cpS E1 C s m := by
  obtain ⟨E1, e1, e2, e3, e4, e5, e6⟩ := c_copy (M := N) (C := Eb) (E := C) (a := b) (b := a) bO cO hab hz' hcnt.2.1 hcnt.2.2 hcnt.1 hq
  have eN : cv (cv N a C) b Eb = N := by rw [ha.eq, hb.eq]
  have eN1 : cv (cv N a C) b E1 = cv N b E1 := by rw [ha.eq]
  rw [eN, eN1] at e1
  have hg1 : hG (cv N b E1) x G := hg.cv (.inl hxb)
  refine ⟨E1, ?_, e2, e3, e4, e5, e6⟩
  have f1 : gA N (x + 5) 7 0 = some (x + 6) := by rw [← hg.eq]; exact g_gA (i := 5) (by omega) rfl gO.2.2.2.2.2.2.1
  have f3 : aA N (x + 6) 106 (Int32.ofNat j) = some b := by rw [← hg.eq]; exact g_aA (i := 6) (len := 2) (by omega) rfl hj (by omega) hn
  have f4 : (N.1 b).1 = 8 := by have := hb 0 (by omega); rw [Nat.add_zero] at this; rw [this]; rfl
  rw [tX4_store_J22, f1, Option.bind_some, f3, Option.bind_some, if_pos ⟨by omega, by omega⟩, if_pos f4, e1, Option.bind_some]
  have f5 : gA (cv N b E1) (x + 5) 7 1 = some (x + 7) := by rw [← hg1.eq]; exact g_gA (i := 5) (by omega) rfl gO.2.2.2.2.2.2.2
  have f6 : sA (cv N b E1) (x + 7) 103 (Int32.ofNat j) (.int (1 &&& 1)) = some (gv (cv N b E1) x (pu G 7 j (.int 1))) := by
    have := g_sA (M := cv N b E1) (x := x) (G := G) (i := 7) (n := j) (tg := 103) (len := 2) (v := .int (1 &&& 1)) gO.1 (by omega) rfl hj (by omega)
    rw [hg1.eq] at this; exact this
  show ((gA (cv N b E1) (x + 5) 7 1).bind _) = _
  rw [f5, Option.bind_some, f6, Option.bind_some, if_pos (show (gv (cv N b E1) x (pu G 7 j (.int 1))).2.1 ≤ n0 + 50 ∧ (gv (cv N b E1) x (pu G 7 j (.int 1))).2.2.1 ≤ s0 + 2001 from ⟨hm, hs⟩)]
/-- a state is stored, on both sides -/
theorem store_P {Gs : Nat → Nat} {j : Nat} (hj : j < 2) (h : simD M x r G F a d C u hz n k) (hz' : bz C) :
    ∃ M1 G1, tX4_store Gs (x + 5) (Int32.ofNat j) a M = some ((), M1) ∧ M.2.1 ≤ M1.2.1 ∧ M1.2.1 ≤ M.2.1 + 50 ∧ M1.2.2.1 ≤ M.2.2.1 + 2001 ∧ M1.2.2.2 = M.2.2.2 ∧ hR M1 r F ∧ rOk M1 r F ∧ zk x r M M1 ∧
      ∀ F1, (∀ i, i ≠ 0 → i ≠ 8 → i ≠ 9 → F1 i = F i) → (∀ l, l ≠ 0 → F1 0 l = F 0 l) → (∀ l, gt F1 8 l = if 1952 * j ≤ l ∧ l < 1952 * j + 1952 then gt F 1 (l - 1952 * j) else gt F 8 l) → (∀ l, gt F1 9 l = if l = j then 1 else gt F 9 l) → rOk M1 r F1 → simD (rv M1 r F1) x r G1 F1 a d C u hz n k := by
  obtain ⟨⟨a1, a2, a3, a4, a5, a6⟩, ⟨b1, b2, b3, b4⟩, c1, d1, ⟨f1, f2, f3, f4⟩, ⟨len, g1, g2, g3⟩, gby, i1, ⟨nx, cnt, j1, j2, j3, j4, j5, j6⟩, l1⟩ := h
  have ka := bk0 b1
  have hn5 := f3.1.2.2.1.2
  obtain ⟨⟨xa, am, ar⟩, -⟩ := c1 0 a (by omega) ka
  have hN : ∃ (N : vMe) (b : Nat) (Eb : Nat → Nat → Value), tX4_store Gs (x + 5) (Int32.ofNat j) a M = tX4_store_J22 M.2.1 M.2.2.1 (x + 5) (Int32.ofNat j) a N ∧ hG N x (pu G 6 j (.ref b)) ∧ N.2.2.2 = M.2.2.2 ∧ M.2.1 ≤ N.2.1 ∧ N.2.1 ≤ M.2.1 + 50 ∧ N.2.2.1 ≤ M.2.2.1 + 2001 ∧ hB N b Eb ∧ cOk N b Eb ∧
      (∀ i c, i < 14 → i ≠ j + 12 → bkG G i = some c → apart b c) ∧ (∀ c E, c + 50 ≤ M.2.1 → x + 8 ≤ c → hB M c E → hB N c E) ∧ x + 8 ≤ b ∧ b + 50 ≤ N.2.1 ∧ (b + 50 ≤ r ∨ r + 12 ≤ b) ∧ (∀ q, q < M.2.1 → ¬ own x r G q → N.1 q = M.1 q ∧ ¬ (b ≤ q ∧ q < b + 50)) ∧ hR N r F ∧ zk x r M N := by
    have e1 : gA M (x + 5) 7 0 = some (x + 6) := by rw [← a1.eq]; exact g_gA (i := 5) (by omega) rfl a2.2.2.2.2.2.2.1
    have e3 : aR M (x + 6) 106 (Int32.ofNat j) = some (vR (G 6 j)) := by rw [← a1.eq]; exact g_aR (i := 6) (len := 2) (by omega) rfl hj (by omega)
    rcases b4 j hj with hv | ⟨b, hv⟩
    · obtain ⟨C0, n1, n2⟩ := c_newState (M := M) (G := Gs) (by have := a2.1; omega)
      have hgN : hG (cv (mem50 M) M.2.1 C0) x G := fun i hi => by rw [cv_out (by omega)]; exact a1 i hi
      have tg : ((gv (cv (mem50 M) M.2.1 C0) x G).1 M.2.1).1 = 8 := by rw [gv_out (by omega), cv_at0]
      have q1 := g_sQ (M := cv (mem50 M) M.2.1 C0) (x := x) (G := G) (i := 6) (n := j) (tg := 106) (len := 2) (v := M.2.1) (et := 8) a2.1 (by omega) rfl hj (by omega) tg
      rw [hgN.eq] at q1
      refine ⟨gv (cv (mem50 M) M.2.1 C0) x (pu G 6 j (.ref M.2.1)), M.2.1, C0, ?_, hG_gv, rfl, ?_, ?_, ?_, hB_cv.gv (by omega), n2, fun i c hi hne hc => ?_, fun c E hc hx' hE => ?_, by omega, ?_, by omega, fun q hq ho => ⟨?_, fun g => absurd g.1 (Nat.not_le.mpr hq)⟩, fun i hi => ?_, fun q hq => ?_⟩
      · rw [tX4_store, e1, Option.bind_some, e3, Option.bind_some, hv, if_pos (show vR Value.null = none from rfl), Option.bind_some]
        unfold nwO
        rw [if_pos ⟨by omega, by omega, by omega⟩, Option.bind_some, if_pos ⟨by show M.2.1 + 1 + 49 ≤ _; omega, by show M.2.2.1 + 9 + 1992 ≤ _; omega⟩, n1, Option.bind_some]
        show ((sQ (cv (mem50 M) M.2.1 C0) (x + 6) 106 (Int32.ofNat j) M.2.1 8).bind _) = _
        rw [q1, Option.bind_some]
      · show M.2.1 ≤ M.2.1 + 50; omega
      · show M.2.1 + 50 ≤ M.2.1 + 50; omega
      · show M.2.2.1 + 2001 ≤ M.2.2.1 + 2001; omega
      · have := (c1 i c hi hc).1.2.1; unfold apart; omega
      · have hh : hB (cv (mem50 M) M.2.1 C0) c E := fun i hi => by rw [cv_out (by omega)]; exact hE i hi
        exact hh.gv (.inl hx')
      · show M.2.1 + 50 ≤ M.2.1 + 50; omega
      · rw [gv_out (fun g => ho (.inl g)), cv_out (by omega)]; rfl
      · rw [gv_out (by omega), cv_out (by omega)]; exact a3 i hi
      · rw [gv_out (by omega), cv_out (by omega)]; rfl
    · have hG' : pu G 6 j (.ref b) = G := by
        funext i l
        unfold pu updV
        by_cases e : i = 6
        · subst e
          by_cases e' : l = j
          · subst e'; rw [if_pos rfl, if_pos rfl, hv]
          · rw [if_pos rfl, if_neg e']
        · rw [if_neg e]
      have kb := bk3 hv
      obtain ⟨⟨w1, w2, w3⟩, Eb, w4, w5⟩ := c1 _ b (by omega) kb
      refine ⟨M, b, Eb, ?_, by rw [hG']; exact a1, rfl, Nat.le_refl _, by omega, by omega, w4, w5, fun i c hi hne hc => d1 (j + 12) i b c (by omega) hi (by omega) kb hc, fun c E _ _ hE => hE, w1, w2, w3, fun q hq ho => ⟨rfl, fun g => ho (own_bk (by omega) kb g.1 g.2)⟩, a3, fun _ _ => rfl⟩
      rw [tX4_store, e1, Option.bind_some, e3, Option.bind_some, hv, if_neg (by show ¬ (some b = none); exact fun q => by cases q)]
  obtain ⟨N, b, Eb, h1, h2, h3, h4, h5, h6, h7, h8, h9, h10, h11, h12, h13, h14, h15, h16⟩ := hN
  have hab : apart b a := h9 0 a (by omega) (by omega) ka
  have gO' : gOk N x (pu G 6 j (.ref b)) := ⟨by rw [h3]; exact a2.1, by rw [pu_ne (by omega)]; exact a2.2.1, by rw [pu_ne (by omega)]; exact a2.2.2.1, by rw [pu_ne (by omega)]; exact a2.2.2.2.1, by rw [pu_ne (by omega)]; exact a2.2.2.2.2.1, by rw [pu_ne (by omega)]; exact a2.2.2.2.2.2.1, by rw [pu_ne (by omega)]; exact a2.2.2.2.2.2.2.1, by rw [pu_ne (by omega)]; exact a2.2.2.2.2.2.2.2⟩
  have haN : hB N a C := h10 a C (by omega) xa f1
  have caN : cOk N a C := ⟨by rw [h3]; exact f2.1, f2.2⟩
  obtain ⟨E1, r1, r2, r3, r4, r5, r6⟩ := store_J (n := n) (n0 := M.2.1) (s0 := M.2.2.1) h2 gO' haN h7 caN h8 hab h11 (pu_eq _ _ _) hj hz' (simP_cnt f3) (simNm_q f4) h5 h6
  obtain ⟨G1, hG1⟩ : ∃ G1, G1 = pu (pu G 6 j (.ref b)) 7 j (.int 1) := ⟨_, rfl⟩
  rw [← hG1] at r1
  have gr : ∀ i, i ≠ 6 → i ≠ 7 → G1 i = G i := fun i p1 p2 => by rw [hG1, pu_o p2, pu_o p1]
  have gO1 : gOk (gv (cv N b E1) x G1) x G1 := ⟨by show N.2.2.2 ≤ x; rw [h3]; exact a2.1, by rw [gr _ (by omega) (by omega)]; exact a2.2.1, by rw [gr _ (by omega) (by omega)]; exact a2.2.2.1, by rw [gr _ (by omega) (by omega)]; exact a2.2.2.2.1, by rw [gr _ (by omega) (by omega)]; exact a2.2.2.2.2.1, by rw [gr _ (by omega) (by omega)]; exact a2.2.2.2.2.2.1, by rw [gr _ (by omega) (by omega)]; exact a2.2.2.2.2.2.2.1, by rw [gr _ (by omega) (by omega)]; exact a2.2.2.2.2.2.2.2⟩
  have g6 : ∀ i, G1 6 i = if i = j then .ref b else G 6 i := fun i => by
    rw [hG1, pu_ne (by omega)]
    by_cases e : i = j
    · rw [if_pos e, e, pu_eq]
    · rw [if_neg e, pu_ne (by omega)]
  have g7 : ∀ i, gt G1 7 i = if i = j then 1 else gt G 7 i := fun i => by
    by_cases e : i = j
    · rw [if_pos e, e, hG1, gt_eq]
    · rw [if_neg e, hG1, gt_ne (by omega), gt_ne (by omega)]
  have bkr : ∀ i, i < 14 → bkG G1 i = if i = j + 12 then some b else bkG G i := fun i hi => by
    rw [← bk_p6 hj hi]
    exact bk_row (by rw [hG1, pu_o (by omega)]) (by rw [hG1, pu_o (by omega)]) (by rw [hG1, pu_o (by omega)]) i
  have ownr : ∀ q, q < M.2.1 → ¬ own x r G q → ¬ own x r G1 q := fun q hq ho => by
    rw [own_row (G := pu G 6 j (.ref b)) (by rw [hG1, pu_o (by omega)]) (by rw [hG1, pu_o (by omega)]) (by rw [hG1, pu_o (by omega)])]
    exact own_p6 hj ho (h14 q hq ho).2
  have hR1 : hR (gv (cv N b E1) x G1) r F := (h15.cv h13.symm).gv (.inl a5)
  have zq : zk x r M (gv (cv N b E1) x G1) := fun q hq => by
    have n1 : ¬ (x ≤ q ∧ q < x + 8) := by omega
    have n2 : ¬ (b ≤ q ∧ q < b + 50) := by
      rcases hq with e | e | e <;> rcases h13 with g | g <;> omega
    rw [gv_out n1, cv_out n2]
    exact h16 q hq
  refine ⟨gv (cv N b E1) x G1, G1, by rw [h1]; exact r1, h4, h5, h6, h3, hR1, ⟨by show N.2.2.2 ≤ r; rw [h3]; exact a4.1, a4.2⟩, zq, fun F1 k0 k00 k8 k9 rO => ?_⟩
  -- any old block but b
  have sb : ∀ i c E, i < 14 → i ≠ j + 12 → bkG G i = some c → hB M c E → hB (rv (gv (cv N b E1) x G1) r F1) c E := fun i c E hi hne hc hE => by
    obtain ⟨q1, q2, q3⟩ := (c1 i c hi hc).1
    exact (((h10 c E q2 q1 hE).cv (h9 i c hi hne hc)).gv (.inl q1)).rv (by omega)
  have hbN : hB (rv (gv (cv N b E1) x G1) r F1) b E1 := (hB_cv.gv (.inl h11)).rv h13.symm
  have tx : ∀ q, ¬ own x r G q → q < M.2.1 → (rv (gv (cv N b E1) x G1) r F1).1 q = M.1 q := fun q ho hq => by
    rw [rv_out (fun g => ho (.inr (.inl (ow g)))), gv_out (fun g => ho (.inl g)), cv_out (h14 q hq ho).2, (h14 q hq ho).1]
  have nm : ∀ E E', (∀ t, t < 5 → t < n → E' (4 + 8 * t) 4 = E (4 + 8 * t) 4) → simNm M x r G E F 2 n → simNm (rv (gv (cv N b E1) x G1) r F1) x r G1 E' F1 2 n := fun E E' he hE s hs => by
    obtain ⟨q, l, q1, ⟨p, p1, p2, p3, p4, p5⟩, q3, q4⟩ := hE s hs
    exact ⟨q, l, by rw [he s (by omega) hs]; exact q1, ⟨p, p1.same (tx q p2 p4) (tx p p3 p5), ownr q p4 p2, ownr p p5 p3, Nat.lt_of_lt_of_le p4 h4, Nat.lt_of_lt_of_le p5 h4⟩, q3, by rw [k0 2 (by omega) (by omega) (by omega)]; exact q4⟩
  have cOm : ∀ c E, cOk M c E → cOk (rv (gv (cv N b E1) x G1) r F1) c E := fun c E hE => ⟨by show N.2.2.2 ≤ c; rw [h3]; exact hE.1, hE.2⟩
  have r0 : ∀ l, l ≠ 0 → gt F1 0 l = gt F 0 l := fun l hl => by unfold gt; rw [k00 l hl]
  refine ⟨⟨hG_gv.rv (.inl a5), gO1, hR_rv, rO, a5, by show r + 12 ≤ N.2.1; omega⟩, ⟨by rw [gr 0 (by omega) (by omega)]; exact b1, by rw [gr 0 (by omega) (by omega)]; exact b2, fun i hi => by rw [gr 4 (by omega) (by omega)]; exact b3 i hi, fun i hi => ?_⟩, fun i c hi hc => ?_, fun i j' c e hi hj' hij hc he => ?_,
    ⟨(((haN.cv hab).gv (.inl xa)).rv (by omega)), cOm _ _ f2, simP_row f3 (fun l _ => by rw [gt_row (k0 1 (by omega) (by omega) (by omega))]), nm C C (fun _ _ _ => rfl) f4⟩, ⟨len, g1, by rw [gt_row (gr 1 (by omega) (by omega))]; exact g2, by rw [r0 4 (by omega)]; exact g3⟩, fun i hi => by rw [gt_row (gr 2 (by omega) (by omega)), gt_row (k0 3 (by omega) (by omega) (by omega))]; exact gby i hi,
    by rw [gt_row (gr 0 (by omega) (by omega)), r0 12 (by omega)]; exact i1, ⟨nx, cnt, j1, j2, by rw [gt_row (gr 3 (by omega) (by omega))]; exact j3, by rw [gt_row (gr 3 (by omega) (by omega))]; exact j4, by rw [r0 18 (by omega)]; exact j5, fun i hi => ?_⟩, fun i hi => ?_⟩
  · rw [g6]
    by_cases e : i = j
    · rw [if_pos e]; exact .inr ⟨b, rfl⟩
    · rw [if_neg e]; exact b4 i hi
  · rw [bkr i hi] at hc
    by_cases e : i = j + 12
    · rw [if_pos e] at hc; cases hc
      exact ⟨⟨h11, h12, h13⟩, E1, hbN, ⟨r2.1, r2.2⟩⟩
    · rw [if_neg e] at hc
      obtain ⟨⟨q1, q2, q3⟩, E, q4, q5⟩ := c1 i c hi hc
      exact ⟨⟨q1, Nat.le_trans q2 h4, q3⟩, E, sb i c E hi e hc q4, cOm _ _ q5⟩
  · rw [bkr _ hi] at hc
    rw [bkr _ hj'] at he
    by_cases e1 : i = j + 12
    · rw [if_pos e1] at hc; cases hc
      rw [if_neg (by omega)] at he
      exact h9 j' e hj' (by omega) he
    · rw [if_neg e1] at hc
      by_cases e2 : j' = j + 12
      · rw [if_pos e2] at he; cases he
        have := h9 i c hi e1 hc
        unfold apart at *; omega
      · rw [if_neg e2] at he
        exact d1 i j' c e hi hj' hij hc he
  · obtain ⟨c, E, k', q1, q2, q3, q4⟩ := j6 i hi
    have hlt : (nx + 10 - cnt + i) % 10 < 10 := Nat.mod_lt _ (by omega)
    exact ⟨c, E, k', by rw [gr 4 (by omega) (by omega)]; exact q1, sb _ c E (by omega) (by omega) (bk2 hlt q1) q2, simP_row q3 (fun l _ => by rw [gt_rw, gt_rw, gt_row (k0 7 (by omega) (by omega) (by omega))]), nm E E (fun _ _ _ => rfl) q4⟩
  · by_cases e : i = j
    · subst e
      refine .inr ⟨by rw [g7, if_pos rfl], by rw [k9, if_pos rfl], b, E1, k, by rw [g6, if_pos rfl], hbN, simP_row (simP_copy f3 r3 r4 r5 r6) (fun l hl => ?_), nm C E1 (fun t _ ht => ?_) f4⟩
      · rw [gt_rw, k8, if_pos (by omega), Nat.add_sub_cancel_left]
      · obtain ⟨m, m1, m2⟩ := (simP_cnt f3).1 t ht
        exact (r6 t ht m m2 m1).1
    · rcases l1 i hi with ⟨q1, q2⟩ | ⟨q1, q2, c, E, k', q3, q4, q5, q6⟩
      · exact .inl ⟨by rw [g7, if_neg e]; exact q1, by rw [k9, if_neg e]; exact q2⟩
      · exact .inr ⟨by rw [g7, if_neg e]; exact q1, by rw [k9, if_neg e]; exact q2, c, E, k', by rw [g6, if_neg e]; exact q3, sb _ c E (by omega) (by omega) (bk3 q3) q4, simP_row q5 (fun l hl => by rw [gt_rw, gt_rw, k8, if_neg (by omega)]), nm E E (fun _ _ _ => rfl) q6⟩
/-- saveSnapshot -/
theorem O_save {Gs : Nat → Nat} (h : simD M x r G F a d C u hz n k) (w : wf M) (s : Int32) : opR x r M (tX9_saveSnapshot Gs x s M) (fun M' => tX10_saveSnapshot r s M') mp1 := by
  have hb := D_b h
  obtain ⟨⟨a1, a2, a3, a4, a5, a6⟩, -, -, -, -, -, -, -, -, l1⟩ := id h
  rcases arg_s2 s with ⟨j, hj, rfl⟩ | g
  · obtain ⟨M1, G1, q1, q2, q3, q4, q5, q6, q7, qz, q8⟩ := store_P (Gs := Gs) hj h (wf_bz w hb)
    have e7 : gA M (x + 5) 7 1 = some (x + 7) := by rw [← a1.eq]; exact g_gA (i := 5) (by omega) rfl a2.2.2.2.2.2.2.2
    have ef : aI M (x + 7) 103 (Int32.ofNat j) = some (gt G 7 j) := by rw [← a1.eq]; exact g_aI (i := 7) (len := 2) (by omega) rfl hj (by omega)
    obtain ⟨v, v1, v2, v3⟩ : ∃ v, gt G 7 j = v ∧ gt F 9 j = v ∧ fits .boolean (.int v) = true := by
      rcases l1 j hj with ⟨p1, p2⟩ | ⟨p1, p2, -⟩
      · exact ⟨0, p1, p2, fz0⟩
      · exact ⟨1, p1, p2, fz1⟩
    refine opR_chg (w0 := 0) (Mc := M1) (v := v) ?_ q5 q2 qz a5 q6 q7 (fun N9 hs => ?_)
    · rw [tX9_saveSnapshot, if_pos ⟨by omega, by omega⟩, if_pos (T_x a1), (c_checkSlot M _).1 j hj rfl, Option.bind_some]
      simp only [Sum.elim_inl]
      rw [A_sl h, Option.bind_some, e7, Option.bind_some, ef, Option.bind_some, Option.bind_some, A_no h, Option.bind_some, if_pos ⟨by omega, by omega⟩, if_pos (T_sl a1), q1, Option.bind_some, v1, if_pos (show M1.2.1 ≤ M.2.1 + 50 ∧ M1.2.2.1 ≤ M.2.2.1 + 2001 from ⟨q3, q4⟩), if_pos v3]
    · have rM : rOk N9 r F := hs.ok q7
      obtain ⟨F1, k1, k2, k3, k4⟩ := r_copies (i := 1) (j := 8) (x := 0) (y := 1952 * j) (Fth_ok (c := 0) rM) rfl rfl (by omega) (by omega) (by show _ ≤ 1952; omega) (by show _ ≤ 3904; omega) (by omega)
      have o9 : rOk N9 r (pu F1 9 j (.int 1)) := pu_ok k2 (.inl (by omega))
      refine ⟨pu F1 9 j (.int 1), ?_, ?_, ?_⟩
      · rw [tX10_saveSnapshot, if_pos r_tag, (r_noSlot rM _).1 j hj rfl, Option.bind_some, if_pos rfl, rA21 (Fth_ok rM), Option.bind_some, r_sav hj, Option.bind_some, rA1 (Fth_ok rM), Option.bind_some, rA20 (Fth_ok rM), Option.bind_some, l1952, show tX10_copies (r + 1) 0 (r + 8) (Int32.ofNat (1952 * j)) _ = some ((), rv N9 r F1) from k1, Option.bind_some, rA21 k2, Option.bind_some, show (1 &&& 1 : Int32) = 1 from rfl, r_savS k2 hj, Option.bind_some, Fth_gt (.inl (by omega)), v2, if_pos v3]
      · have rs : rOk M1 r (pu F1 9 j (.int 1)) := ⟨by rw [← hs.1]; exact o9.1, o9.2⟩
        have S := q8 (pu F1 9 j (.int 1)) (fun i i0 i8 i9 => by rw [pu_o i9, k4 i i8, Fth_r i0]) (fun l hl => by rw [pu_ne (by omega), k4 0 (by omega)]; unfold Fth; rw [pu_ne (by omega)])
          (fun l => by
            rw [gt_ne (by omega), k3, Nat.zero_add]
            by_cases e : 1952 * j ≤ l ∧ l < 1952 * j + 1952
            · rw [if_pos e, if_pos e, Fth_gt (.inl (by omega))]
            · rw [if_neg e, if_neg e, Fth_gt (.inl (by omega))])
          (fun l => by
            by_cases e : l = j
            · rw [if_pos e, e, gt_eq]
            · rw [if_neg e, gt_ne (by omega)]; unfold gt; rw [k4 9 (by omega), Fth_r (by omega)]) rs
        exact ⟨_, _, _, _, _, _, _, _, _, simD_slk S hs⟩
      · rw [gt_ne (by omega)]; unfold gt; rw [k4 0 (by omega)]; exact Fth_at
  · refine opR_thr (j := 1) h ?_ (fun M' hr => ?_)
    · rw [tX9_saveSnapshot, if_pos ⟨by omega, by omega⟩, if_pos (T_x a1), (c_checkSlot M s).2 g, Option.bind_some]; rfl
    · rw [tX10_saveSnapshot, if_pos r_tag, (r_noSlot hr _).2 g, Option.bind_some, if_neg n10]; rfl
end
