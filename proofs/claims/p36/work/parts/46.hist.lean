section
variable {M : vMe} {x r a d b : Nat} {G F C E : Nat → Nat → Value} {u hz n k : Nat}
theorem n_ring : ∀ nx, nx < 10 → (Int32.ofNat nx + 1) - (Int32.ofNat nx + 1) / 10 * 10 = Int32.ofNat ((nx + 1) % 10) := by decide +kernel
theorem n_back : ∀ nx, nx < 10 → ((Int32.ofNat nx + 10) - 1) - ((Int32.ofNat nx + 10) - 1) / 10 * 10 = Int32.ofNat ((nx + 9) % 10) := by decide +kernel
theorem n_min : ∀ c, c < 11 → (if (10 : Int32) < Int32.ofNat c + 1 then 10 else Int32.ofNat c + 1) = Int32.ofNat (if c < 10 then c + 1 else 10) := by decide +kernel
theorem g_h {k : Nat} : gI (gv M x G) (x + 3) 10 k = some (gt G 3 k) := g_gI (i := 3) (by omega) rfl
/-- what keeps makes of the reference's rows -/
def kpF (F F1 : Nat → Nat → Value) (c c1 sh : Nat) : Prop :=
  ((c < 10 ∧ c1 = c ∧ sh = 0) ∨ (c = 10 ∧ c1 = 9 ∧ sh = 1)) ∧ gt F1 0 18 = Int32.ofNat (c1 + 1) ∧ (∀ l, l < 1952 → gt F1 7 (1952 * c1 + l) = gt F 1 l) ∧ (∀ j l, j < c1 → l < 1952 → gt F1 7 (1952 * j + l) = gt F 7 (1952 * (j + sh) + l)) ∧
  (∀ i', i' ≠ 7 → i' ≠ 0 → F1 i' = F i') ∧ ∀ l, l ≠ 18 → l ≠ 0 → F1 0 l = F 0 l
theorem own_pu {q nx b : Nat} (hnx : nx < 10) (h : ¬ own x r G q) (hb : ¬ (b ≤ q ∧ q < b + 50)) : ¬ own x r (pu G 4 nx (.ref b)) q := by
  rintro (g | g | ⟨i, c, hi, hc, g1, g2⟩)
  · exact h (.inl g)
  · exact h (.inr (.inl g))
  · by_cases e : i = nx + 2
    · subst e
      unfold bkG at hc
      rw [if_neg (by omega), if_neg (by omega), if_pos (by omega), Nat.add_sub_cancel, pu_eq] at hc
      cases hc
      exact hb ⟨g1, g2⟩
    · refine h (own_bk hi (?_ : bkG G i = some c) g1 g2)
      unfold bkG at hc ⊢
      by_cases e0 : i = 0
      · rw [if_pos e0] at hc ⊢; rw [pu_ne (by omega)] at hc; exact hc
      · rw [if_neg e0] at hc ⊢
        by_cases e1 : i = 1
        · rw [if_pos e1] at hc ⊢; rw [pu_ne (by omega)] at hc; exact hc
        · rw [if_neg e1] at hc ⊢
          by_cases e2 : i < 12
          · rw [if_pos e2] at hc ⊢; rw [pu_ne (by omega)] at hc; exact hc
          · rw [if_neg e2] at hc ⊢; rw [pu_ne (by omega)] at hc; exact hc
theorem bk_pu {nx i : Nat} (hnx : nx < 10) : bkG (pu G 4 nx (.ref b)) i = if i = nx + 2 then some b else bkG G i := by
  by_cases e : i = nx + 2
  · subst e
    rw [if_pos rfl]; unfold bkG
    rw [if_neg (by omega), if_neg (by omega), if_pos (by omega), Nat.add_sub_cancel, pu_eq]; rfl
  · rw [if_neg e]
    unfold bkG
    by_cases e0 : i = 0
    · rw [if_pos e0, if_pos e0, pu_ne (by omega)]
    · rw [if_neg e0, if_neg e0]
      by_cases e1 : i = 1
      · rw [if_pos e1, if_pos e1, pu_ne (by omega)]
      · rw [if_neg e1, if_neg e1]
        by_cases e2 : i < 12
        · rw [if_pos e2, if_pos e2, pu_ne (by omega)]
        · rw [if_neg e2, if_neg e2, pu_ne (by omega)]
theorem bk_row {G2 : Nat → Nat → Value} (h0 : G2 0 = G 0) (h4 : G2 4 = G 4) (h6 : G2 6 = G 6) (i : Nat) : bkG G2 i = bkG G i := by
  unfold bkG; rw [h0, h4, h6]
theorem own_row {G2 : Nat → Nat → Value} (h0 : G2 0 = G 0) (h4 : G2 4 = G 4) (h6 : G2 6 = G 6) (q : Nat) : own x r G2 q ↔ own x r G q := by
  unfold own; simp only [bk_row h0 h4 h6]
/-- what the copies of a block want of it -/
theorem simP_cnt (h : simP C F u hz n k) : (∀ s, s < n → ∃ m, m ≤ 60 ∧ gt C (4 + 8 * s + 4) 3 = Int32.ofNat m) ∧ gt C 0 5 = Int32.ofNat n ∧ n ≤ 5 := by
  refine ⟨fun s hs => ?_, h.2.1.2.2.1.trans h.1.2.2.1.1, h.1.2.2.1.2⟩
  obtain ⟨g1, -, -, -, m, g2, g3⟩ := h.2.2.2.2.2 s hs
  exact ⟨m, by have := h.1.2.1.2.2; omega, g1.2.2.2.2.2.1.trans g3⟩
theorem simNm_q (h : simNm M x r G C F 2 n) : ∀ s, s < n → ∃ q, C (4 + 8 * s) 4 = .ref q := fun s hs => by
  obtain ⟨q, -, h1, -⟩ := h s hs
  exact ⟨q, h1⟩
/-- the block that is written at last -/
theorem rem_J {N : vMe} {nx cnt n0 s0 : Nat} {Eb : Nat → Nat → Value} (hg : hG N x G) (gO : gOk N x G) (ha : hB N a C) (hb : hB N b Eb) (cO : cOk N a C) (bO : cOk N b Eb) (hab : apart b a) (hxb : x + 8 ≤ b) (hxa : x + 8 ≤ a) (hn : G 4 nx = .ref b) (hnx : nx < 10) (h1 : gt G 3 1 = Int32.ofNat nx) (h2 : gt G 3 2 = Int32.ofNat cnt) (hc : cnt ≤ 10)
    (hz' : bz C) (hcnt : (∀ s, s < n → ∃ m, m ≤ 60 ∧ gt C (4 + 8 * s + 4) 3 = Int32.ofNat m) ∧ gt C 0 5 = Int32.ofNat n ∧ n ≤ 5) (hq : ∀ s, s < n → ∃ q, C (4 + 8 * s) 4 = .ref q) (hm : N.2.1 ≤ n0 + 50) (hs : N.2.2.1 ≤ s0 + 2001) :
    ∃ E1, tX8_remember_J28 n0 s0 (x + 3) a N = some ((), gv (cv N b E1) x (pu (pu G 3 1 (.int (Int32.ofNat ((nx + 1) % 10)))) 3 2 (.int (Int32.ofNat (if cnt < 10 then cnt + 1 else 10))))) ∧ cOk N b E1 ∧ (∀ k, 3 ≤ k → k < 9 → gt E1 0 k = gt C 0 k) ∧ (∀ i, i < 8 → gt E1 3 i = gt C 3 i) ∧ (∀ c, c < 6 → ∀ k, k < 8 → gt E1 (44 + c) k = gt C (44 + c) k) ∧
      ∀ s, s < n → ∀ m, gt C (4 + 8 * s + 4) 3 = Int32.ofNat m → m ≤ 60 → cpS E1 C s m := by
  obtain ⟨E1, e1, e2, e3, e4, e5, e6⟩ := c_copy (M := N) (C := Eb) (E := C) (a := b) (b := a) bO cO hab hz' hcnt.2.1 hcnt.2.2 hcnt.1 hq
  have eN : cv (cv N a C) b Eb = N := by rw [ha.eq, hb.eq]
  have eN1 : cv (cv N a C) b E1 = cv N b E1 := by rw [ha.eq]
  rw [eN, eN1] at e1
  have t10 : (gT 3).1 = 10 := rfl
  have hg1 : hG (cv N b E1) x G := hg.cv (.inl hxb)
  have gO1 : gOk (cv N b E1) x G := gO
  refine ⟨E1, ?_, e2, e3, e4, e5, e6⟩
  have f1 : gA N (x + 3) 10 0 = some (x + 4) := by rw [← hg.eq]; exact g_gA (by omega) rfl gO.2.2.2.2.2.1
  have f2 : gI N (x + 3) 10 1 = some (Int32.ofNat nx) := by rw [← hg.eq, g_h, h1]
  have f3 : aA N (x + 4) 106 (Int32.ofNat nx) = some b := by rw [← hg.eq]; exact g_aA (len := 10) (by omega) rfl hnx (by omega) hn
  have f4 : (N.1 b).1 = 8 := by have := hb 0 (by omega); rw [Nat.add_zero] at this; rw [this]; rfl
  rw [tX8_remember_J28, f1, Option.bind_some, f2, Option.bind_some, f3, Option.bind_some, if_pos ⟨by omega, by omega⟩, if_pos f4, e1, Option.bind_some]
  show ((gI (cv N b E1) (x + 3) 10 1).bind _) = _
  have f5 : gI (cv N b E1) (x + 3) 10 1 = some (Int32.ofNat nx) := by rw [← hg1.eq, g_h, h1]
  rw [f5, Option.bind_some, n_ring nx hnx]
  have f6 : sV (cv N b E1) (x + 3) 10 1 (.int (Int32.ofNat ((nx + 1) % 10))) = some (gv (cv N b E1) x (pu G 3 1 (.int (Int32.ofNat ((nx + 1) % 10))))) := by
    have := g_sV (M := cv N b E1) (G := G) (i := 3) (k := 1) (v := .int (Int32.ofNat ((nx + 1) % 10))) gO1.1 (by omega) t10
    rw [hg1.eq] at this; exact this
  rw [f6, Option.bind_some, g_gI (by omega) t10, Option.bind_some, gt_ne (by omega), h2, gv_2, cv_2, if_pos ⟨hm, hs⟩, n_min cnt (by omega)]
  have f7 := g_sV (M := cv N b E1) (x := x) (G := pu G 3 1 (.int (Int32.ofNat ((nx + 1) % 10)))) (i := 3) (k := 2) (v := .int (Int32.ofNat (if cnt < 10 then cnt + 1 else 10))) gO1.1 (by omega) t10
  rw [f7, Option.bind_some, gv_2, cv_2, if_pos ⟨hm, hs⟩]
theorem idx_new {nx cnt i sh c1 : Nat} (hnx : nx < 10) (hc : (cnt < 10 ∧ c1 = cnt ∧ sh = 0) ∨ (cnt = 10 ∧ c1 = 9 ∧ sh = 1)) (hi : i < c1) : ((nx + 1) % 10 + 10 - (c1 + 1) + i) % 10 = (nx + 10 - cnt + (i + sh)) % 10 ∧ (nx + 10 - cnt + (i + sh)) % 10 ≠ nx ∧ i + sh < cnt := by
  omega
theorem idx_last {nx c1 : Nat} (hnx : nx < 10) (hc : c1 < 10) : ((nx + 1) % 10 + 10 - (c1 + 1) + c1) % 10 = nx := by omega
/-- a state is remembered, on both sides -/
theorem remember_P {Gs : Nat → Nat} (h : simD M x r G F a d C u hz n k) (hz' : bz C) :
    ∃ M1 G1 cnt, tX8_remember Gs (x + 3) a M = some ((), M1) ∧ gt F 0 18 = Int32.ofNat cnt ∧ cnt ≤ 10 ∧ M.2.1 ≤ M1.2.1 ∧ M1.2.1 ≤ M.2.1 + 50 ∧ M1.2.2.1 ≤ M.2.2.1 + 2001 ∧ M1.2.2.2 = M.2.2.2 ∧ G1 0 = G 0 ∧ hG M1 x G1 ∧ gOk M1 x G1 ∧ hB M1 a C ∧ cOk M1 a C ∧ hR M1 r F ∧ rOk M1 r F ∧ x + 8 ≤ a ∧ (a + 50 ≤ r ∨ r + 0 ≤ a) ∧ (∀ q, ¬ own x r G q → q < M.2.1 → M1.1 q = M.1 q ∧ ¬ own x r G1 q) ∧
      ∀ F1 c1 sh, kpF F F1 cnt c1 sh → rOk M1 r F1 → simD (rv M1 r F1) x r G1 F1 a d C u hz n k := by
  obtain ⟨⟨a1, a2, a3, a4, a5, a6⟩, ⟨b1, b2, b3, b4⟩, c1, d1, ⟨f1, f2, f3, f4⟩, ⟨len, g1, g2, g3⟩, gby, i1, ⟨nx, cnt, j1, j2, j3, j4, j5, j6⟩, l1⟩ := h
  have ka := bk0 b1
  have hn5 := f3.1.2.2.1.2
  obtain ⟨⟨xa, am, ar⟩, -⟩ := c1 0 a (by omega) ka
  have hN : ∃ (N : vMe) (b : Nat) (Eb : Nat → Nat → Value), tX8_remember Gs (x + 3) a M = tX8_remember_J28 M.2.1 M.2.2.1 (x + 3) a N ∧ hG N x (pu G 4 nx (.ref b)) ∧ N.2.2.2 = M.2.2.2 ∧ M.2.1 ≤ N.2.1 ∧ N.2.1 ≤ M.2.1 + 50 ∧ N.2.2.1 ≤ M.2.2.1 + 2001 ∧ hB N b Eb ∧ cOk N b Eb ∧
      (∀ i c, i < 14 → i ≠ nx + 2 → bkG G i = some c → apart b c) ∧ (∀ c E, c + 50 ≤ M.2.1 → x + 8 ≤ c → hB M c E → hB N c E) ∧ x + 8 ≤ b ∧ b + 50 ≤ N.2.1 ∧ (b + 50 ≤ r ∨ r + 0 ≤ b) ∧ (∀ q, q < M.2.1 → ¬ own x r G q → N.1 q = M.1 q ∧ ¬ (b ≤ q ∧ q < b + 50)) ∧ hR N r F ∧ True := by
    have e1 : gA M (x + 3) 10 0 = some (x + 4) := by rw [← a1.eq]; exact g_gA (by omega) rfl a2.2.2.2.2.2.1
    have e2 : gI M (x + 3) 10 1 = some (Int32.ofNat nx) := by rw [← a1.eq, g_h, j3]
    have e3 : aR M (x + 4) 106 (Int32.ofNat nx) = some (vR (G 4 nx)) := by rw [← a1.eq]; exact g_aR (len := 10) (by omega) rfl j1 (by omega)
    rcases b3 nx j1 with hv | ⟨b, hv⟩
    · obtain ⟨C0, n1, n2⟩ := c_newState (M := M) (G := Gs) (by have := a2.1; omega)
      have hgN : hG (cv (mem50 M) M.2.1 C0) x G := fun i hi => by rw [cv_out (by omega)]; exact a1 i hi
      have tg : ((gv (cv (mem50 M) M.2.1 C0) x G).1 M.2.1).1 = 8 := by rw [gv_out (by omega), cv_at0]
      have q1 := g_sQ (M := cv (mem50 M) M.2.1 C0) (x := x) (G := G) (i := 4) (n := nx) (tg := 106) (len := 10) (v := M.2.1) (et := 8) a2.1 (by omega) rfl j1 (by omega) tg
      rw [hgN.eq] at q1
      refine ⟨gv (cv (mem50 M) M.2.1 C0) x (pu G 4 nx (.ref M.2.1)), M.2.1, C0, ?_, hG_gv, rfl, ?_, ?_, ?_, hB_cv.gv (by omega), n2, fun i c hi hne hc => ?_, fun c E hc hx' hE => ?_, by omega, ?_, by omega, fun q hq ho => ⟨?_, fun g => absurd g.1 (Nat.not_le.mpr hq)⟩, trivial, trivial⟩
      · rw [tX8_remember, e1, Option.bind_some, e2, Option.bind_some, e3, Option.bind_some, hv, if_pos (show vR Value.null = none from rfl), Option.bind_some, Option.bind_some]
        unfold nwO
        rw [if_pos ⟨by omega, by omega, by omega⟩, Option.bind_some, if_pos ⟨by show M.2.1 + 1 + 49 ≤ _; omega, by show M.2.2.1 + 9 + 1992 ≤ _; omega⟩, n1, Option.bind_some]
        show ((sQ (cv (mem50 M) M.2.1 C0) (x + 4) 106 (Int32.ofNat nx) M.2.1 8).bind _) = _
        rw [q1, Option.bind_some]
      · show M.2.1 ≤ M.2.1 + 50; omega
      · show M.2.1 + 50 ≤ M.2.1 + 50; omega
      · show M.2.2.1 + 2001 ≤ M.2.2.1 + 2001; omega
      · have := (c1 i c hi hc).1.2.1; unfold apart; omega
      · have hh : hB (cv (mem50 M) M.2.1 C0) c E := fun i hi => by rw [cv_out (by omega)]; exact hE i hi
        exact hh.gv (.inl hx')
      · show M.2.1 + 50 ≤ M.2.1 + 50; omega
      · rw [gv_out (fun g => ho (.inl g)), cv_out (by omega)]; rfl
    · have hG' : pu G 4 nx (.ref b) = G := by
        funext i l
        unfold pu updV
        by_cases e : i = 4
        · subst e
          by_cases e' : l = nx
          · subst e'; rw [if_pos rfl, if_pos rfl, hv]
          · rw [if_pos rfl, if_neg e']
        · rw [if_neg e]
      have kb := bk2 j1 hv
      obtain ⟨⟨w1, w2, w3⟩, Eb, w4, w5⟩ := c1 _ b (by omega) kb
      refine ⟨M, b, Eb, ?_, by rw [hG']; exact a1, rfl, Nat.le_refl _, by omega, by omega, w4, w5, fun i c hi hne hc => d1 (nx + 2) i b c (by omega) hi (by omega) kb hc, fun c E _ _ hE => hE, w1, w2, w3, fun q hq ho => ⟨rfl, fun g => ho (own_bk (by omega) kb g.1 g.2)⟩, a3, trivial⟩
      rw [tX8_remember, e1, Option.bind_some, e2, Option.bind_some, e3, Option.bind_some, hv, if_neg (by show ¬ (some b = none); exact fun q => by cases q)]
  obtain ⟨N, b, Eb, h1, h2, h3, h4, h5, h6, h7, h8, h9, h10, h11, h12, h13, h14, h15, h16⟩ := hN
  have hab : apart b a := h9 0 a (by omega) (by omega) ka
  have gO' : gOk N x (pu G 4 nx (.ref b)) := ⟨by rw [h3]; exact a2.1, by rw [pu_ne (by omega)]; exact a2.2.1, by rw [pu_ne (by omega)]; exact a2.2.2.1, by rw [pu_ne (by omega)]; exact a2.2.2.2.1, by rw [pu_ne (by omega)]; exact a2.2.2.2.2.1, by rw [pu_ne (by omega)]; exact a2.2.2.2.2.2.1, by rw [pu_ne (by omega)]; exact a2.2.2.2.2.2.2.1, by rw [pu_ne (by omega)]; exact a2.2.2.2.2.2.2.2⟩
  have haN : hB N a C := h10 a C (by omega) xa f1
  have caN : cOk N a C := ⟨by rw [h3]; exact f2.1, f2.2⟩
  obtain ⟨E1, r1, r2, r3, r4, r5, r6⟩ := rem_J (n := n) (n0 := M.2.1) (s0 := M.2.2.1) h2 gO' haN h7 caN h8 hab h11 xa (pu_eq _ _ _) j1 (by rw [gt_ne (by omega)]; exact j3) (by rw [gt_ne (by omega)]; exact j4) j2 hz' (simP_cnt f3) (simNm_q f4) h5 h6
  obtain ⟨G1, hG1⟩ : ∃ G1, G1 = pu (pu (pu G 4 nx (.ref b)) 3 1 (.int (Int32.ofNat ((nx + 1) % 10)))) 3 2 (.int (Int32.ofNat (if cnt < 10 then cnt + 1 else 10))) := ⟨_, rfl⟩
  rw [← hG1] at r1
  have gr : ∀ i, i ≠ 3 → i ≠ 4 → G1 i = G i := fun i p1 p2 => by rw [hG1, pu_o p1, pu_o p1, pu_o p2]
  have g30 : G1 3 0 = G 3 0 := by rw [hG1, pu_ne (by omega), pu_ne (by omega), pu_ne (by omega)]
  have gO1 : gOk (gv (cv N b E1) x G1) x G1 := ⟨by show N.2.2.2 ≤ x; rw [h3]; exact a2.1, by rw [gr _ (by omega) (by omega)]; exact a2.2.1, by rw [gr _ (by omega) (by omega)]; exact a2.2.2.1, by rw [gr _ (by omega) (by omega)]; exact a2.2.2.2.1, by rw [gr _ (by omega) (by omega)]; exact a2.2.2.2.2.1, by rw [g30]; exact a2.2.2.2.2.2.1, by rw [gr _ (by omega) (by omega)]; exact a2.2.2.2.2.2.2.1, by rw [gr _ (by omega) (by omega)]; exact a2.2.2.2.2.2.2.2⟩
  have g4 : ∀ i, G1 4 i = if i = nx then .ref b else G 4 i := fun i => by
    rw [hG1, pu_ne (by omega), pu_ne (by omega)]
    by_cases e : i = nx
    · rw [if_pos e, e, pu_eq]
    · rw [if_neg e, pu_ne (by omega)]
  have bkr : ∀ i, bkG G1 i = if i = nx + 2 then some b else bkG G i := fun i => by
    rw [← bk_pu j1]
    exact bk_row (by rw [hG1, pu_o (by omega), pu_o (by omega)]) (by rw [hG1, pu_o (by omega), pu_o (by omega)]) (by rw [hG1, pu_o (by omega), pu_o (by omega)]) i
  have ownr : ∀ q, q < M.2.1 → ¬ own x r G q → ¬ own x r G1 q := fun q hq ho => by
    rw [own_row (G := pu G 4 nx (.ref b)) (by rw [hG1, pu_o (by omega), pu_o (by omega)]) (by rw [hG1, pu_o (by omega), pu_o (by omega)]) (by rw [hG1, pu_o (by omega), pu_o (by omega)])]
    exact own_pu j1 ho (h14 q hq ho).2
  have hR1 : hR (gv (cv N b E1) x G1) r F := (h15.cv h13.symm).gv (.inl a5)
  have zq : ∀ q, ¬ own x r G q → q < M.2.1 → (gv (cv N b E1) x G1).1 q = M.1 q ∧ ¬ own x r G1 q := fun q ho hq => ⟨by
    rw [gv_out (fun g => ho (.inl g)), cv_out (h14 q hq ho).2, (h14 q hq ho).1], ownr q hq ho⟩
  refine ⟨gv (cv N b E1) x G1, G1, cnt, by rw [h1]; exact r1, j5, j2, h4, h5, h6, h3, gr 0 (by omega) (by omega), hG_gv, gO1, (haN.cv hab).gv (.inl xa), caN, hR1, ⟨by show N.2.2.2 ≤ r; rw [h3]; exact a4.1, a4.2⟩, xa, ar, zq, fun F1 c1' sh hk rO => ?_⟩
  obtain ⟨k1, k2, k3, k4, k5, k6⟩ := hk
  -- any old block but b
  have sb : ∀ i c E, i < 14 → i ≠ nx + 2 → bkG G i = some c → hB M c E → hB (rv (gv (cv N b E1) x G1) r F1) c E := fun i c E hi hne hc hE => by
    obtain ⟨q1, q2, q3⟩ := (c1 i c hi hc).1
    exact (((h10 c E q2 q1 hE).cv (h9 i c hi hne hc)).gv (.inl q1)).rv (by omega)
  have hbN : hB (rv (gv (cv N b E1) x G1) r F1) b E1 := (hB_cv.gv (.inl h11)).rv h13.symm
  have tx : ∀ q, ¬ own x r G q → q < M.2.1 → (rv (gv (cv N b E1) x G1) r F1).1 q = M.1 q := fun q ho hq => by
    rw [rv_out (fun g => ho (.inr (.inl (ow g)))), gv_out (fun g => ho (.inl g)), cv_out (h14 q hq ho).2, (h14 q hq ho).1]
  have nm : ∀ E E', (∀ t, t < 5 → t < n → E' (4 + 8 * t) 4 = E (4 + 8 * t) 4) → simNm M x r G E F 2 n → simNm (rv (gv (cv N b E1) x G1) r F1) x r G1 E' F1 2 n := fun E E' he hE s hs => by
    obtain ⟨q, l, q1, ⟨p, p1, p2, p3, p4, p5⟩, q3, q4⟩ := hE s hs
    exact ⟨q, l, by rw [he s (by omega) hs]; exact q1, ⟨p, p1.same (tx q p2 p4) (tx p p3 p5), ownr q p4 p2, ownr p p5 p3, Nat.lt_of_lt_of_le p4 h4, Nat.lt_of_lt_of_le p5 h4⟩, q3, by rw [k5 2 (by omega) (by omega)]; exact q4⟩
  have cOm : ∀ c E, cOk M c E → cOk (rv (gv (cv N b E1) x G1) r F1) c E := fun c E hE => ⟨by show N.2.2.2 ≤ c; rw [h3]; exact hE.1, hE.2⟩
  have p1row : ∀ l, l < 1952 → gt F1 1 l = gt F 1 l := fun l _ => by unfold gt; rw [k5 1 (by omega) (by omega)]
  refine ⟨⟨hG_gv.rv (.inl a5), gO1, hR_rv, rO, a5, by show r + 0 ≤ N.2.1; omega⟩, ⟨by rw [gr 0 (by omega) (by omega)]; exact b1, by rw [gr 0 (by omega) (by omega)]; exact b2, fun i hi => ?_, fun i hi => by rw [gr 6 (by omega) (by omega)]; exact b4 i hi⟩, fun i c hi hc => ?_, fun i j c e hi hj hij hc he => ?_,
    ⟨(((haN.cv hab).gv (.inl xa)).rv (by omega)), cOm _ _ f2, simP_row f3 p1row, nm C C (fun _ _ _ => rfl) f4⟩, ⟨len, g1, by rw [gt_row (gr 1 (by omega) (by omega))]; exact g2, by rw [show gt F1 0 4 = gt F 0 4 from by unfold gt; rw [k6 4 (by omega) (by omega)]]; exact g3⟩, fun i hi => by rw [gt_row (gr 2 (by omega) (by omega)), gt_row (k5 3 (by omega) (by omega))]; exact gby i hi,
    by rw [gt_row (gr 0 (by omega) (by omega)), show gt F1 0 12 = gt F 0 12 from by unfold gt; rw [k6 12 (by omega) (by omega)]]; exact i1, ⟨(nx + 1) % 10, c1' + 1, Nat.mod_lt _ (by omega), by omega, by rw [hG1, gt_ne (by omega), gt_eq], ?_, k2, fun i hi => ?_⟩, fun j hj => ?_⟩
  · rw [g4]
    by_cases e : i = nx
    · rw [if_pos e]; exact .inr ⟨b, rfl⟩
    · rw [if_neg e]; exact b3 i hi
  · rw [bkr] at hc
    by_cases e : i = nx + 2
    · rw [if_pos e] at hc; cases hc
      exact ⟨⟨h11, h12, h13⟩, E1, hbN, ⟨r2.1, r2.2⟩⟩
    · rw [if_neg e] at hc
      obtain ⟨⟨q1, q2, q3⟩, E, q4, q5⟩ := c1 i c hi hc
      exact ⟨⟨q1, Nat.le_trans q2 h4, q3⟩, E, sb i c E hi e hc q4, cOm _ _ q5⟩
  · rw [bkr] at hc he
    by_cases e1 : i = nx + 2
    · rw [if_pos e1] at hc; cases hc
      rw [if_neg (by omega)] at he
      exact h9 j e hj (by omega) he
    · rw [if_neg e1] at hc
      by_cases e2 : j = nx + 2
      · rw [if_pos e2] at he; cases he
        have := h9 i c hi e1 hc
        unfold apart at *; omega
      · rw [if_neg e2] at he
        exact d1 i j c e hi hj hij hc he
  · rw [hG1, gt_eq]; congr 1
    rcases k1 with ⟨p1, p2, -⟩ | ⟨p1, p2, -⟩
    · rw [if_pos p1, p2]
    · rw [if_neg (by omega), p2]
  · by_cases e : i = c1'
    · subst e
      refine ⟨b, E1, k, ?_, hbN, ?_, ?_⟩
      · rw [idx_last j1 (by omega), g4, if_pos rfl]
      · exact simP_row (simP_copy f3 r3 r4 r5 r6) (fun l hl => by rw [gt_rw]; exact k3 l hl)
      · exact nm C E1 (fun t _ ht => by
          obtain ⟨m, m1, m2⟩ := (simP_cnt f3).1 t ht
          exact (r6 t ht m m2 m1).1) f4
    · obtain ⟨w1, w2, w3⟩ := idx_new (i := i) j1 k1 (by omega)
      have hlt : (nx + 10 - cnt + (i + sh)) % 10 < 10 := Nat.mod_lt _ (by omega)
      obtain ⟨c, E, k', q1, q2, q3, q4⟩ := j6 (i + sh) w3
      refine ⟨c, E, k', ?_, sb _ c E (by omega) (by omega) (bk2 hlt q1) q2, simP_row q3 (fun l hl => ?_), nm E E (fun _ _ _ => rfl) q4⟩
      · rw [w1, g4, if_neg w2]; exact q1
      · rw [gt_rw, gt_rw]; exact k4 i l (by omega) hl
  · rcases l1 j hj with ⟨q1, q2⟩ | ⟨q1, q2, c, E, k', q3, q4, q5, q6⟩
    · exact .inl ⟨by rw [gt_row (gr 7 (by omega) (by omega))]; exact q1, by rw [gt_row (k5 9 (by omega) (by omega))]; exact q2⟩
    · exact .inr ⟨by rw [gt_row (gr 7 (by omega) (by omega))]; exact q1, by rw [gt_row (k5 9 (by omega) (by omega))]; exact q2, c, E, k', by rw [gr 6 (by omega) (by omega)]; exact q3, sb _ c E (by omega) (by omega) (bk3 q3) q4, simP_row q5 (fun l hl => by rw [gt_rw, gt_rw, gt_row (k5 8 (by omega) (by omega))]), nm E E (fun _ _ _ => rfl) q6⟩
end
