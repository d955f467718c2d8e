section
variable {M : vMe} {x r a d : Nat} {G F C : Nat → Nat → Value} {u hz n k : Nat}
theorem bk0 (h : G 0 3 = .ref a) : bkG G 0 = some a := by unfold bkG; rw [if_pos rfl, h]; rfl
theorem bk1 (h : G 0 4 = .ref d) : bkG G 1 = some d := by unfold bkG; rw [if_neg (by omega), if_pos rfl, h]; rfl
theorem bk2 {i b : Nat} (hi : i < 10) (h : G 4 i = .ref b) : bkG G (i + 2) = some b := by unfold bkG; rw [if_neg (by omega), if_neg (by omega), if_pos (by omega), Nat.add_sub_cancel, h]; rfl
theorem bk3 {i b : Nat} (h : G 6 i = .ref b) : bkG G (i + 12) = some b := by unfold bkG; rw [if_neg (by omega), if_neg (by omega), if_neg (by omega), Nat.add_sub_cancel, h]; rfl
theorem own_bk {i b q : Nat} (hi : i < 14) (h : bkG G i = some b) (h1 : b ≤ q) (h2 : q < b + 50) : own x r G q := .inr (.inr ⟨i, b, hi, h, h1, h2⟩)
theorem simNm_mv {M2 : vMe} {F2 C2 : Nat → Nat → Value} (h : simNm M x r G C F 2 n) (hn : n ≤ 5) (tx : ∀ q, ¬ own x r G q → q < M.2.1 → M2.1 q = M.1 q) (hm : M.2.1 ≤ M2.2.1) (e2 : F2 2 = F 2) (hk : ∀ t, t < 5 → C2 (4 + 8 * t) 4 = C (4 + 8 * t) 4) : simNm M2 x r G C2 F2 2 n := by
  intro s hs
  obtain ⟨q, l, h1, ⟨p, p1, p2, p3, p4, p5⟩, h3, h4⟩ := h s hs
  exact ⟨q, l, by rw [hk s (by omega)]; exact h1, ⟨p, p1.same (tx q p2 p4) (tx p p3 p5), p2, p3, by omega, by omega⟩, h3, by rw [e2]; exact h4⟩
theorem simD_gen {M2 : vMe} {F2 C2 : Nat → Nat → Value} {k2 : Nat} (h : simD M x r G F a d C u hz n k) (hG2 : hG M2 x G) (hR2 : hR M2 r F2) (rO : rOk M2 r F2) (hb : M2.2.2.2 = M.2.2.2) (hm : M.2.1 ≤ M2.2.1)
    (ob : ∀ b E, x + 8 ≤ b → b + 50 ≤ M.2.1 → (b + 50 ≤ r ∨ r + 0 ≤ b) → apart a b → hB M b E → hB M2 b E) (hB2 : hB M2 a C2) (cO : cOk M a C2) (hP : simP C2 F2 u hz n k2) (hk : kN C C2) (tx : ∀ q, ¬ own x r G q → q < M.2.1 → M2.1 q = M.1 q)
    (e4 : gt F2 0 4 = gt F 0 4) (e12 : gt F2 0 12 = gt F 0 12) (e18 : gt F2 0 18 = gt F 0 18) (eR : ∀ i, i = 2 ∨ i = 3 ∨ i = 7 ∨ i = 8 ∨ i = 9 → F2 i = F i) : simD M2 x r G F2 a d C2 u hz n k2 := by
  obtain ⟨⟨a1, a2, a3, a4, a5, a6⟩, ⟨b1, b2, b3, b4⟩, c1, d1, ⟨f1, f2, f3, f4⟩, ⟨len, g1, g2, g3⟩, g4, i1, ⟨nx, cnt, j1, j2, j3, j4, j5, j6⟩, l1⟩ := h
  have hn5 := f3.1.2.2.1.2
  have ka := bk0 b1
  have sb : ∀ i b E, i < 14 → i ≠ 0 → bkG G i = some b → hB M b E → hB M2 b E := fun i b E hi h0 hbk hE => by
    obtain ⟨q1, q2, q3⟩ := (c1 i b hi hbk).1
    exact ob b E q1 q2 q3 (d1 0 i a b (by omega) hi (by omega) ka hbk) hE
  have nm : ∀ E, simNm M x r G E F 2 n → simNm M2 x r G E F2 2 n := fun E hE => simNm_mv hE hn5 tx hm (eR 2 (.inl rfl)) (fun _ _ => rfl)
  have cOm : ∀ b E, cOk M b E → cOk M2 b E := fun b E hE => ⟨by rw [hb]; exact hE.1, hE.2⟩
  refine ⟨⟨hG2, ⟨by rw [hb]; exact a2.1, a2.2⟩, hR2, rO, a5, by omega⟩, ⟨b1, b2, b3, b4⟩, fun i b hi hbk => ?_, d1, ⟨hB2, cOm _ _ cO, hP, simNm_mv f4 hn5 tx hm (eR 2 (.inl rfl)) hk⟩, ⟨len, g1, g2, by rw [e4]; exact g3⟩, fun i hi => ?_, by rw [e12]; exact i1, ⟨nx, cnt, j1, j2, j3, j4, by rw [e18]; exact j5, fun i hi => ?_⟩, fun j hj => ?_⟩
  · obtain ⟨⟨q1, q2, q3⟩, E, q4, q5⟩ := c1 i b hi hbk
    refine ⟨⟨q1, by omega, q3⟩, ?_⟩
    by_cases e : i = 0
    · subst e
      cases Option.some.inj (ka.symm.trans hbk)
      exact ⟨C2, hB2, cOm _ _ cO⟩
    · exact ⟨E, sb i b E hi e hbk q4, cOm _ _ q5⟩
  · unfold gt; rw [eR 3 (by omega)]; exact g4 i hi
  · obtain ⟨b, E, k', q1, q2, q3, q4⟩ := j6 i hi
    have hlt : (nx + 10 - cnt + i) % 10 < 10 := Nat.mod_lt _ (by omega)
    exact ⟨b, E, k', q1, sb _ b E (by omega) (by omega) (bk2 hlt q1) q2, simP_row q3 (fun l _ => by rw [gt_rw, gt_rw]; unfold gt; rw [eR 7 (by omega)]), nm E q4⟩
  · rcases l1 j hj with ⟨q1, q2⟩ | ⟨q1, q2, b, E, k', q3, q4, q5, q6⟩
    · exact .inl ⟨q1, by unfold gt; rw [eR 9 (by omega)]; exact q2⟩
    · exact .inr ⟨q1, by unfold gt; rw [eR 9 (by omega)]; exact q2, b, E, k', q3, sb _ b E (by omega) (by omega) (bk3 q3) q4, simP_row q5 (fun l _ => by rw [gt_rw, gt_rw]; unfold gt; rw [eR 8 (by omega)]), nm E q6⟩
/-- the present state has changed -/
theorem simD_now {F2 C2 : Nat → Nat → Value} {k2 : Nat} (h : simD M x r G F a d C u hz n k) (cO : cOk M a C2) (rO : rOk M r F2) (hF : kF F F2) (hk : kN C C2) (hP : simP C2 F2 u hz n k2) : simD (rv (cv M a C2) r F2) x r G F2 a d C2 u hz n k2 := by
  have h0 := h
  obtain ⟨⟨a1, a2, a3, a4, a5, a6⟩, ⟨b1, b2, b3, b4⟩, c1, d1, -⟩ := h
  have ka := bk0 b1
  obtain ⟨⟨q1, q2, q3⟩, -⟩ := c1 0 a (by omega) ka
  have e0 := hF 0 (by omega) (by omega)
  refine simD_gen h0 ((a1.cv (.inl q1)).rv (.inl a5)) hR_rv rO rfl (Nat.le_refl _) (fun b E p1 p2 p3 p4 hE => (hE.cv p4).rv (by omega)) (hB_cv.rv (by omega)) cO hP hk (fun q hq _ => ?_) (by unfold gt; rw [e0]) (by unfold gt; rw [e0]) (by unfold gt; rw [e0]) (fun i hi => hF i (by omega) (by omega))
  rw [rv_out (fun g => hq (.inr (.inl (ow g)))), cv_out (fun g => hq (own_bk (by omega) ka g.1 g.2))]
/-- only fields of the reference's object have changed -/
theorem simD_F0 {F2 : Nat → Nat → Value} (h : simD M x r G F a d C u hz n k) (rO : rOk M r F2) (e4 : gt F2 0 4 = gt F 0 4) (e12 : gt F2 0 12 = gt F 0 12) (e18 : gt F2 0 18 = gt F 0 18) (eR : ∀ i, i ≠ 0 → F2 i = F i) : simD (rv M r F2) x r G F2 a d C u hz n k := by
  have h0 := h
  obtain ⟨⟨a1, a2, a3, a4, a5, a6⟩, ⟨b1, b2, b3, b4⟩, c1, d1, ⟨f1, f2, f3, f4⟩, -⟩ := h
  have ka := bk0 b1
  obtain ⟨⟨q1, q2, q3⟩, -⟩ := c1 0 a (by omega) ka
  refine simD_gen h0 (a1.rv (.inl a5)) hR_rv rO rfl (Nat.le_refl _) (fun b E p1 p2 p3 p4 hE => hE.rv (by omega)) (f1.rv (by omega)) f2 (simP_row f3 (fun l _ => by unfold gt; rw [eR 1 (by omega)])) (fun _ _ => rfl) (fun q hq _ => rv_out (fun g => hq (.inr (.inl (ow g))))) e4 e12 e18 (fun i hi => eR i (by omega))
theorem simD_slack {A B : Nat} (h : simD M x r G F a d C u hz n k) (hA : M.2.1 ≤ A) : simD (M.1, A, B, M.2.2.2) x r G F a d C u hz n k := by
  have h0 := h
  obtain ⟨⟨a1, a2, a3, a4, a5, a6⟩, ⟨b1, b2, b3, b4⟩, c1, d1, ⟨f1, f2, f3, f4⟩, -⟩ := h
  exact simD_gen (M2 := (M.1, A, B, M.2.2.2)) h0 a1 a3 a4 rfl hA (fun b E _ _ _ _ hE => hE) f1 f2 f3 (fun _ _ => rfl) (fun _ _ _ => rfl) rfl rfl rfl (fun _ _ => rfl)
end
