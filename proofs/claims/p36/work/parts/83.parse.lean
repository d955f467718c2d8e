section
variable {M M' N : vMe} {x y r a d b u hz n k : Nat} {G F C D E E2 : Nat → Nat → Value} {P : Nat → Value} {T : Nat → Nat} {len : Nat} {Gs : Nat → Nat}
/-- the ghost behind the parse -/
def gPar (F E G : Nat → Nat → Value) (e : Value) : Nat → Nat → Value := fun i => if i = 1 then eR E else if i = 2 then (fun s => .long (pkL [97 + s])) else if i = 3 then G 2 else if i = 0 then updV (updV (updV (F 0) 4 (.int 0)) 12 e) 18 (.int 0) else fun _ => .int 0
theorem gPar_1 {e : Value} : gPar F E G e 1 = eR E := rfl
theorem gPar_ok {e : Value} (h : rOk M r F) : rOk M r (gPar F E G e) := ⟨h.1, fun i h1 h2 => by
  rw [← h.2 i h1 h2]
  show updV (updV (updV (F 0) 4 (.int 0)) 12 e) 18 (.int 0) (rFld i) = _
  rw [u_ne (f18 i), u_ne (by unfold rFld; split <;> omega), u_ne (f4 i)]⟩
theorem okE_rowP {F2 : Nat → Nat → Value} {clk : Nat} (h : okE b E F n clk) (e : F2 1 = F 1) : okE b E F2 n clk := by
  obtain ⟨h1, h2, h3, h4⟩ := h
  refine ⟨h1, h2, h3, fun s hs => ?_⟩
  obtain ⟨N, l1, l2, l3, l4, l5, l6⟩ := h4 s hs
  refine ⟨N, l1, l2, l3, l4, l5, fun y hy => (l6 y hy).trans (isM_congr (fun w _ => ?_) hy)⟩
  show gt F 1 (aS s w) = gt F2 1 (aS s w)
  unfold gt; rw [e]
set_option maxRecDepth 20000 in
/-- the class parses the law's text -/
theorem parse_P {u0 hz0 n0 k0 k2 len2 : Nat} {scr : List (Bool × Nat × List Nat × Bool)} (h : simD M x r G F a d C u0 hz0 n0 k0) (hT : gX G T) (g2 : gt G 1 1 = Int32.ofNat len2) (hl2 : len ≤ len2 ∧ len2 ≤ 600) (R : Rt T len 0 (txT u hz n scr)) (hd : tkD Gs) (wd : wds M.2.1 d M Gs) (ws : wq M.2.1 d M (Gs 13) [115, 101, 116, 115]) (hbz : ∀ E, hB M d E → bz E) (hu : 1 ≤ u ∧ u ≤ 64) (hh : 1 ≤ hz ∧ hz ≤ 60) (hn4 : n ≤ 4) (hz0 : zE u hz n E) (ho : ∀ q, q ∈ scr → scrO u n q) (hl : scr.length ≤ 4) (hR : scrR b scr E E2 0 k2) :
    ∃ M2 G2 D2 E' F2 clk2, tX9_parse Gs x (Int32.ofNat len) M = some (.inl 0, M2) ∧ simD M2 x r G2 F2 d a D2 u hz n k2 ∧ F2 1 = eR E' ∧ sm E' E2 ∧ okE b E' F2 n clk2 ∧ clk2 ≤ 24 ∧ bz D2 ∧ gt G2 1 1 = 0 ∧ (∀ q, q < M.2.1 → ¬ own x r G q → M2.1 q = M.1 q) ∧ (∀ q, own x r G2 q ↔ own x r G q) ∧ M2.2.2.2 = M.2.2.2 ∧ M.2.1 ≤ M2.2.1 ∧ M2.2.1 ≤ M.2.1 + 26 ∧ M2.2.2.1 ≤ M.2.2.1 + 669 := by
  obtain ⟨⟨a1, a2, a3, a4, a5, a6⟩, ⟨b1, b2, b3, b4⟩, bc, bd, -, -, -, -, -⟩ := id h
  obtain ⟨⟨q1, q2, q3⟩, -⟩ := bc 1 d (by omega) (bk1 b2)
  obtain ⟨N0, P0, E0, s1, s2, s3, s4, s5, s6, s7, s8, S⟩ := start_N (Gs := Gs) (T := T) (len := len) h hT (by omega)
  have n1 : N0.2.1 = M.2.1 + 1 := by rw [s3]
  have n2 : N0.2.2.1 = M.2.2.1 + 9 := by rw [s3]
  have n3 : N0.2.2.2 = M.2.2.2 := by rw [s3]
  have fw : ∀ q l, wq M.2.1 d M q l → wq M.2.1 d N0 q l := fun q l w => by
    obtain ⟨o, w1, ⟨w2, w3⟩, w4, w5⟩ := w
    exact ⟨o, w1.same (s4 q w2) (s4 o w4), ⟨w2, w3⟩, w4, w5⟩
  obtain ⟨N2, P2, D2, clk2, t1, t2, t3, t4, t5, t6, t7, t8, t9, t10⟩ := text_P (b := b) S s5 R hd ⟨fw _ _ wd.1, fw _ _ wd.2.1, fw _ _ wd.2.2.1, fw _ _ wd.2.2.2.1, fw _ _ wd.2.2.2.2⟩ (fw _ _ ws) (hbz E0 s8) (by have := a2.1; omega) hu hh (by omega) hn4 hz0 ho hl hR
  obtain ⟨⟨p1, p2, p3, p4⟩, ⟨p5, p6, p7, p8⟩, ⟨p9, p10⟩, -⟩ := id t2
  have frM : ∀ q, q < M.2.1 → ¬ (d ≤ q ∧ q < d + 50) → N2.1 q = M.1 q := fun q h1 h2 => by rw [t7.1 q (by omega) h2 (by omega)]; exact s4 q h1
  have bM : N2.2.2.2 = M.2.2.2 := t7.2.1.trans n3
  have m3 : M.2.1 < N2.2.1 := by have := t7.2.2; omega
  have pm : pM x d M N2 G P2 D2 := ⟨p1, p5, p9, p10, frM, bM, m3, by omega, by omega⟩
  have cp := c_parse (v := len) h g2 hl2.1 hl2.2 s1 s2 s3 (by rw [S.2.1.1]) t1 pm
  rw [if_neg n10] at cp
  have e7 : vI (P2 7) = 0 := by rw [t10 7 (by omega)]; exact s6
  obtain ⟨G3, hG3⟩ : ∃ G3, G3 = pu (pu G 1 1 (.int 0)) 0 5 (.int (vI (P2 8))) := ⟨_, rfl⟩
  rw [← hG3] at cp
  have gO : gOk N2 x G := p2
  have gO1 : gOk N2 x (pu G 1 1 (.int 0)) := ⟨gO.1, by rw [pu_ne (by omega)]; exact gO.2.1, by rw [pu_ne (by omega)]; exact gO.2.2.1, by rw [pu_ne (by omega)]; exact gO.2.2.2.1, by rw [pu_ne (by omega)]; exact gO.2.2.2.2.1, by rw [pu_ne (by omega)]; exact gO.2.2.2.2.2.1, by rw [pu_ne (by omega)]; exact gO.2.2.2.2.2.2.1, by rw [pu_ne (by omega)]; exact gO.2.2.2.2.2.2.2⟩
  have gO3 : gOk N2 x G3 := hG3 ▸ gOk_0 gO1 (by omega)
  obtain ⟨G4, c1, c2, c3, c4, c5, c6, c7, c8, c9, c10, c11, c12, c13⟩ := c_swap gO3 (a := a) (d := d) (by rw [hG3, pu_ne (by omega), pu_ne (by omega)]; exact b1) (by rw [hG3, pu_ne (by omega), pu_ne (by omega)]; exact b2)
  have yo : (gv N2 x G4).1 M.2.1 = (6, 0, P2) := by rw [gv_out (by omega)]; exact p5
  have q8 : gI (gv N2 x G4) M.2.1 6 7 = some (vI (P2 7)) := by simp [gI, yo]
  rw [c1, Option.bind_some, tX9_parse_J71, q8, Option.bind_some, if_pos (show (gv N2 x G4).2.1 ≤ M.2.1 + 26 ∧ (gv N2 x G4).2.2.1 ≤ M.2.2.1 + 669 from ⟨by show N2.2.1 ≤ _; omega, by show N2.2.2.1 ≤ _; omega⟩), e7] at cp
  obtain ⟨E1, F1, l1, l2, l3, l4⟩ := t3
  have e4 : G4 4 = G 4 := by rw [c2, hG3, pu_o (by omega), pu_o (by omega)]
  have e5 : G4 5 = G 5 := by rw [c3, hG3, pu_o (by omega), pu_o (by omega)]
  have e6 : G4 6 = G 6 := by rw [c4, hG3, pu_o (by omega), pu_o (by omega)]
  have e2 : G4 2 = G 2 := by rw [c6, hG3, pu_o (by omega), pu_o (by omega)]
  have e11 : gt G4 1 1 = 0 := by unfold gt; rw [c5, hG3, pu_o (by omega), pu_eq]; rfl
  have e3 : G3 3 = G 3 := by rw [hG3, pu_o (by omega), pu_o (by omega)]
  have ownE : ∀ q, own x r G4 q ↔ own x r G q := own_swap (by rw [c8, b2]) (by rw [c9, b1]) e4 e6
  obtain ⟨F2, hF2⟩ : ∃ F2, F2 = gPar F E1 G (G4 0 5) := ⟨_, rfl⟩
  have r1 : F2 1 = eR E1 := by rw [hF2]; rfl
  have f1 : F2 1 = F1 1 := r1.trans l3.symm
  have hP2 : simP D2 F2 u hz n k2 := simP_row l2 (fun l _ => by unfold gt; rw [f1])
  have rO : rOk (gv N2 x G4) r F2 := by
    rw [hF2]
    exact gPar_ok ⟨by show N2.2.2.2 ≤ r; rw [bM]; exact a4.1, a4.2⟩
  refine ⟨gv N2 x G4, G4, D2, E1, F2, clk2, cp, ?_, r1, l1, okE_rowP l4 f1, t4, t6, e11, fun q h1 h2 => ?_, ownE, bM, by show M.2.1 ≤ N2.2.1; omega, by show N2.2.1 ≤ _; omega, by show N2.2.2.1 ≤ _; omega⟩
  · refine simD_swap h e4 e5 e6 (fun l hl => by rw [c7 l (by omega) (by omega), hG3, pu_ne (by omega), pu_ne (by omega)]) c8 c9 (by rw [c5, hG3, pu_o (by omega), pu_ne (by omega)]) (by rw [c10, e3]) (by rw [c11]; unfold gt; rw [e3]) c12 c13 hG_gv trivial rO bM (by show M.2.1 ≤ N2.2.1; omega) (fun i b E hi hne hbk b0 bm br hE => ?_) (p9.gv (.inl q1)) ⟨by rw [← bM]; exact p10.1, p10.2⟩ hP2 (fun s hs => ?_) ⟨0, by omega, e11, by rw [hF2]; rfl⟩ (fun i hi => by rw [hF2]; unfold gt; rw [e2]; rfl) (by rw [hF2]; rfl) (by rw [hF2]; rfl) (fun j hj => by rw [hF2]; rfl)
    · have ap := bd i 1 b d hi (by omega) hne hbk (bk1 b2)
      refine hB.gv (fun j hj => ?_) (.inl b0)
      rw [frM _ (by omega) (by unfold apart at ap; omega)]; exact hE j hj
    · obtain ⟨q, p, h1, h2, ⟨h3, h4⟩, h5, h6⟩ := t5 s hs
      have nq : ∀ q, M.2.1 < q → ¬ own x r G4 q := fun q hq g => by have := own_lt h ((ownE q).mp g); omega
      refine ⟨q, [97 + s], h1, ⟨p, h2.same (by rw [gv_out (by omega)]) (by rw [gv_out (by omega)]), nq q h3, nq p h5, h4, h6⟩, ⟨by show 1 ≤ 1; omega, by show 1 ≤ 8; omega, fun i hi => ?_⟩, by rw [hF2]; rfl⟩
      have hi' : i < 1 := hi
      have : i = 0 := by omega
      subst this
      show 97 ≤ 97 + s ∧ 97 + s ≤ 122
      omega
  · have h3 : ¬ (x ≤ q ∧ q < x + 8) := fun g => h2 (.inl g)
    rw [gv_out h3]
    exact frM q h1 (fun g => h2 (own_bk (i := 1) (by omega) (bk1 b2) g.1 g.2))
end
