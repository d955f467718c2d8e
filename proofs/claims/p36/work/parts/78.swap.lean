section
variable {M M' N : vMe} {x y r a d u hz n k : Nat} {G F C D : Nat → Nat → Value} {P : Nat → Value} {T : Nat → Nat} {len : Nat} {Gs : Nat → Nat}
/-- the slots are emptied -/
theorem c_emptyAll (gO : gOk M x G) : tX4_emptyAll (x + 5) (gv M x G) = some ((), gv M x (pu (pu G 7 0 (.int 0)) 7 1 (.int 0))) := by
  obtain ⟨f, hf⟩ : ∃ f, vF = f + 3 := ⟨vF - 3, by unfold vF; omega⟩
  have o1 : gOk M x (pu G 7 0 (.int 0)) := ⟨gO.1, by rw [pu_ne (by omega)]; exact gO.2.1, by rw [pu_ne (by omega)]; exact gO.2.2.1, by rw [pu_ne (by omega)]; exact gO.2.2.2.1, by rw [pu_ne (by omega)]; exact gO.2.2.2.2.1, by rw [pu_ne (by omega)]; exact gO.2.2.2.2.2.1, by rw [pu_ne (by omega)]; exact gO.2.2.2.2.2.2.1, by rw [pu_ne (by omega)]; exact gO.2.2.2.2.2.2.2⟩
  have a0 : gA (gv M x G) (x + 5) 7 1 = some (x + 7) := g_gA (i := 5) (by omega) rfl gO.2.2.2.2.2.2.2
  have a1 : gA (gv M x (pu G 7 0 (.int 0))) (x + 5) 7 1 = some (x + 7) := g_gA (i := 5) (by omega) rfl o1.2.2.2.2.2.2.2
  have s0 : sA (gv M x G) (x + 7) 103 0 (.int (0 &&& 1)) = some (gv M x (pu G 7 0 (.int 0))) := g_sA (i := 7) (n := 0) (len := 2) gO.1 (by omega) rfl (by omega) (by omega)
  have s1 : sA (gv M x (pu G 7 0 (.int 0))) (x + 7) 103 (0 + 1) (.int (0 &&& 1)) = some (gv M x (pu (pu G 7 0 (.int 0)) 7 1 (.int 0))) := g_sA (i := 7) (n := 1) (len := 2) gO.1 (by omega) rfl (by omega) (by omega)
  rw [tX4_emptyAll, hf, tX4_emptyAll_L2, if_neg (by decide), a0, Option.bind_some, s0, Option.bind_some, tX4_emptyAll_L2, if_neg (by decide), a1, Option.bind_some, s1, Option.bind_some, tX4_emptyAll_L2, if_pos (by decide), Option.bind_some]
theorem bk_swap {G2 : Nat → Nat → Value} {i : Nat} (h3 : G2 0 3 = G 0 4) (h4 : G2 0 4 = G 0 3) (e4 : G2 4 = G 4) (e6 : G2 6 = G 6) : bkG G2 i = bkG G (if i = 0 then 1 else if i = 1 then 0 else i) := by
  unfold bkG
  by_cases i0 : i = 0
  · rw [if_pos i0, if_pos i0, if_neg (by omega), if_pos rfl, h3]
  · rw [if_neg i0, if_neg i0]
    by_cases i1 : i = 1
    · rw [if_pos i1, if_pos i1, if_pos rfl, h4]
    · rw [if_neg i1, if_neg i1, if_neg i0, if_neg i1, e4, e6]
theorem own_swap {G2 : Nat → Nat → Value} (h3 : G2 0 3 = G 0 4) (h4 : G2 0 4 = G 0 3) (e4 : G2 4 = G 4) (e6 : G2 6 = G 6) (q : Nat) : own x r G2 q ↔ own x r G q := by
  have key : ∀ (A B : Nat → Nat → Value), (∀ i, bkG A i = bkG B (if i = 0 then 1 else if i = 1 then 0 else i)) → own x r A q → own x r B q := fun A B h g => by
    rcases g with g | g | ⟨i, b, hi, hb, g1, g2⟩
    · exact .inl g
    · exact .inr (.inl g)
    · rw [h i] at hb
      have hlt : (if i = 0 then 1 else if i = 1 then 0 else i) < 14 := by
        by_cases i0 : i = 0
        · rw [if_pos i0]; omega
        · rw [if_neg i0]
          by_cases i1 : i = 1
          · rw [if_pos i1]; omega
          · rw [if_neg i1]; exact hi
      exact own_bk hlt hb g1 g2
  exact ⟨key G2 G (fun i => bk_swap h3 h4 e4 e6), key G G2 (fun i => bk_swap h4.symm h3.symm e4.symm e6.symm)⟩
/-- a good parse: the draft is the present state now -/
theorem simD_swap {M2 : vMe} {G2 F2 : Nat → Nat → Value} {u2 hz2 n2 k2 : Nat} (h : simD M x r G F a d C u hz n k) (g4 : G2 4 = G 4) (g5 : G2 5 = G 5) (g6 : G2 6 = G 6) (g0 : ∀ l, l < 3 → G2 0 l = G 0 l) (g03 : G2 0 3 = .ref d) (g04 : G2 0 4 = .ref a) (g10 : G2 1 0 = G 1 0) (g30 : G2 3 0 = G 3 0) (g31 : gt G2 3 1 = gt G 3 1) (g32 : gt G2 3 2 = 0) (g7 : ∀ j, j < 2 → gt G2 7 j = 0)
    (hG2 : hG M2 x G2) (hR2 : hR M2 r F2) (rO : rOk M2 r F2) (hb : M2.2.2.2 = M.2.2.2) (hm : M.2.1 ≤ M2.2.1) (ob : ∀ i b E, i < 14 → i ≠ 1 → bkG G i = some b → x + 8 ≤ b → b + 50 ≤ M.2.1 → (b + 50 ≤ r ∨ r + 0 ≤ b) → hB M b E → hB M2 b E) (hD : hB M2 d D) (cD : cOk M d D) (hP : simP D F2 u2 hz2 n2 k2) (hN : simNm M2 x r G2 D F2 2 n2)
    (eL : ∃ len, len ≤ 600 ∧ gt G2 1 1 = Int32.ofNat len ∧ gt F2 0 4 = Int32.ofNat len) (eB : ∀ i, i < 600 → gt G2 2 i = gt F2 3 i) (eE : gt G2 0 5 = gt F2 0 12) (e18 : gt F2 0 18 = 0) (e9 : ∀ j, j < 2 → gt F2 9 j = 0) : simD M2 x r G2 F2 d a D u2 hz2 n2 k2 := by
  obtain ⟨⟨a1, a2, a3, a4, a5, a6⟩, ⟨b1, b2, b3, b4⟩, c1, d1, ⟨f1, f2, f3, f4⟩, -, -, -, ⟨nx, cnt, j1, j2, j3, j4, j5, j6⟩, -⟩ := h
  have ka := bk0 b1
  have bks : ∀ i, bkG G2 i = bkG G (if i = 0 then 1 else if i = 1 then 0 else i) := fun i => bk_swap (by rw [g03, b2]) (by rw [g04, b1]) g4 g6
  have sw : ∀ i, i < 14 → (if i = 0 then 1 else if i = 1 then 0 else i) < 14 ∧ ((if i = 0 then 1 else if i = 1 then 0 else i) = 1 ↔ i = 0) := fun i hi => by
    by_cases i0 : i = 0
    · rw [if_pos i0]; omega
    · rw [if_neg i0]
      by_cases i1 : i = 1
      · rw [if_pos i1]; omega
      · rw [if_neg i1]; omega
  have inj : ∀ i j, i < 14 → j < 14 → i ≠ j → (if i = 0 then 1 else if i = 1 then 0 else i) ≠ (if j = 0 then 1 else if j = 1 then 0 else j) := fun i j hi hj hij => by
    by_cases i0 : i = 0
    · rw [if_pos i0, if_neg (show ¬ j = 0 by omega)]
      by_cases j1 : j = 1
      · rw [if_pos j1]; omega
      · rw [if_neg j1]; omega
    · rw [if_neg i0]
      by_cases i1 : i = 1
      · rw [if_pos i1]
        by_cases j0 : j = 0
        · rw [if_pos j0]; omega
        · rw [if_neg j0, if_neg (show ¬ j = 1 by omega)]; omega
      · rw [if_neg i1]
        by_cases j0 : j = 0
        · rw [if_pos j0]; omega
        · rw [if_neg j0]
          by_cases j1 : j = 1
          · rw [if_pos j1]; omega
          · rw [if_neg j1]; exact hij
  have cOm : ∀ b E, cOk M b E → cOk M2 b E := fun b E hE => ⟨by rw [hb]; exact hE.1, hE.2⟩
  refine ⟨⟨hG2, ⟨by rw [hb]; exact a2.1, by rw [g0 _ (by omega)]; exact a2.2.1, by rw [g0 _ (by omega)]; exact a2.2.2.1, by rw [g0 _ (by omega)]; exact a2.2.2.2.1, by rw [g10]; exact a2.2.2.2.2.1, by rw [g30]; exact a2.2.2.2.2.2.1, by rw [g5]; exact a2.2.2.2.2.2.2.1, by rw [g5]; exact a2.2.2.2.2.2.2.2⟩, hR2, rO, a5, by omega⟩, ⟨g03, g04, fun i hi => by rw [g4]; exact b3 i hi, fun i hi => by rw [g6]; exact b4 i hi⟩, fun i b hi hbk => ?_, fun i j b c hi hj hij hb1 hb2 => ?_, ⟨hD, cOm _ _ cD, hP, hN⟩, eL, eB, eE, ⟨nx, 0, j1, by omega, by rw [g31]; exact j3, by rw [g32]; rfl, by rw [e18]; rfl, fun i hi => absurd hi (Nat.not_lt_zero _)⟩, fun j hj => .inl ⟨g7 j hj, e9 j hj⟩⟩
  · rw [bks i] at hbk
    obtain ⟨s1, s2⟩ := sw i hi
    obtain ⟨⟨q1, q2, q3⟩, E, q4, q5⟩ := c1 _ b s1 hbk
    refine ⟨⟨q1, by omega, q3⟩, ?_⟩
    by_cases e : i = 0
    · subst e
      rw [if_pos rfl] at hbk
      cases Option.some.inj ((bk1 b2).symm.trans hbk)
      exact ⟨D, hD, cOm _ _ cD⟩
    · exact ⟨E, ob _ b E s1 (fun g => e (s2.mp g)) hbk q1 q2 q3 q4, cOm _ _ q5⟩
  · rw [bks i] at hb1
    rw [bks j] at hb2
    exact d1 _ _ b c (sw i hi).1 (sw j hj).1 (inj i j hi hj hij) hb1 hb2
end
