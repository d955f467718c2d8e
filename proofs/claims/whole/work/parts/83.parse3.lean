section
variable {M M' N : vMe} {x y r a d u hz n k : Nat} {G F C D : Nat → Nat → Value} {P : Nat → Value} {T : Nat → Nat} {len : Nat} {Gs : Nat → Nat}
theorem hY_inj {P1 P2 : Nat → Value} (h : hY M y P1) (g : hY M y P2) : P1 = P2 := congrArg (fun o : vOb => o.2.2) (h.symm.trans g)
/-- parse -/
theorem O_parse {wl : Nat → List Nat} {ws : List Nat} (h : simD M x r G F a d C u hz n k) (w : wb M) (hd : tkD Gs) (hwc : ∀ i, i < 5 → nmAt M x r G (Gs (14 + i)) (wl i)) (hws : nmAt M x r G (Gs 13) ws) (hwr : ∀ i, i < 5 → nmAt M x r G (Gs (20 + i)) (wl i)) (hwr5 : nmAt M x r G (Gs 25) ws) (v : Int32) :
    opR x r M (tX9_parse Gs x v M) (fun M' => tX10_parse Gs r v M') mp0 := by
  obtain ⟨⟨a1, a2, a3, a4, a5, a6⟩, ⟨b1, b2, b3, b4⟩, c1, d1, ⟨f1, f2, f3, fn⟩, ⟨len, g1, g2, g3⟩, gby, i1, -, -⟩ := id h
  have q0 : gA M x 11 0 = some (x + 1) := A_in h
  have q1 : gI M (x + 1) 4 1 = some (Int32.ofNat len) := by rw [← a1.eq, g_t1, g2]
  rcases arg_c v (n := len + 1) (by omega) with ⟨v, hv, rfl⟩ | g
  · obtain ⟨⟨dx, dm, dr⟩, -⟩ := c1 1 d (by omega) (bk1 b2)
    obtain ⟨N0, P0, T, E, s1, s2, s3, s4, s5, s6, s7, s8, s9⟩ := start_P (Gs := Gs) h w (v := v) (by omega)
    have HD := fun (M' : vMe) (rO : rOk M' r F) (e : ∀ q, ¬ own x r G q → q < M.2.1 → M'.1 q = M.1 q) => run_P (Gs := Gs) (M' := M') h hd hwc hws g3 (show v ≤ len by omega) g1 s3 s4 s5 s6 s7 s9 rO (fun i hi => nm_wS (hwr i hi) e) (nm_wS hwr5 e)
    have t0 : (N0.1 M.2.1).1 = 6 := p_tg (s9 M (pu F 0 5 (.int (Int32.ofNat v))) (rOk_0 a4 f5) (pu_o (by omega)) (gt_eq _ _ _))
    have ob : ∀ (N2 : vMe) (G3 : Nat → Nat → Value) (P2 : Nat → Value) (D2 F2 : Nat → Nat → Value), pM x d M N2 G P2 D2 → ∀ i b E, i < 14 → i ≠ 1 → bkG G i = some b → x + 8 ≤ b → b + 50 ≤ M.2.1 → (b + 50 ≤ r ∨ r + 12 ≤ b) → hB M b E → hB (rv (gv N2 x G3) r F2) b E := fun N2 G3 P2 D2 F2 m i b E hi hne hbk b0 bm br hE j hj => by
      have ap := d1 i 1 b d hi (by omega) hne hbk (bk1 b2)
      rw [rv_out (by omega), gv_out (by omega), m.2.2.2.2.1 (b + j) (by omega) (by unfold apart at ap; omega)]
      exact hE j hj
    have hrr : ∀ (N2 : vMe) (G3 : Nat → Nat → Value) (P2 : Nat → Value) (D2 : Nat → Nat → Value), pM x d M N2 G P2 D2 → hR (gv N2 x G3) r F := fun N2 G3 P2 D2 m i hi => by
      rw [gv_out (by omega), m.2.2.2.2.1 (r + i) (by omega) (by omega)]
      exact a3 i hi
    have out : ∀ (N2 : vMe) (G3 : Nat → Nat → Value) (P2 : Nat → Value) (D2 : Nat → Nat → Value), pM x d M N2 G P2 D2 → ∀ q, ¬ own x r G q → q < M.2.1 → (gv N2 x G3).1 q = M.1 q := fun N2 G3 P2 D2 m q hq hm => by
      rw [gv_out (fun g => hq (.inl g)), m.2.2.2.2.1 q hm (fun g => hq (own_bk (i := 1) (by omega) (bk1 b2) g.1 g.2))]
    have zz : ∀ (N2 : vMe) (G3 : Nat → Nat → Value) (P2 : Nat → Value) (D2 : Nat → Nat → Value), pM x d M N2 G P2 D2 → zk x r M (gv N2 x G3) := fun N2 G3 P2 D2 m q hq => by
      rw [gv_out (by omega), m.2.2.2.2.1 q (by omega) (by omega)]
    rcases HD M a4 (fun _ _ _ => rfl) with ⟨N2, P2, D2, F2, k1, k2, m, -⟩ | ⟨N2, P2, D2, F2, u2, hz2, n2, k2', k1, k2, m, m7, -⟩
    · obtain ⟨G3, hG3⟩ : ∃ G3, G3 = pu (pu G 1 1 (.int 0)) 0 5 (.int (vI (P2 8))) := ⟨_, rfl⟩
      have cp := c_parse h g2 (show v ≤ len by omega) g1 s1 s2 s3 t0 k1 m
      rw [if_pos rfl, ← hG3] at cp
      refine opR_chg (w0 := 0) (Mc := gv N2 x G3) (v := vI (P2 7)) cp m.2.2.2.2.2.1 (Nat.le_of_lt m.2.2.2.2.2.2.1) (zz N2 G3 P2 D2 m) a5 (hrr N2 G3 P2 D2 m) ⟨by show N2.2.2.2 ≤ r; rw [m.2.2.2.2.2.1]; exact a4.1, a4.2⟩ (fun N9 hs => ?_)
      have rO' : rOk N9 r F := hs.ok (M := gv N2 x G3) ⟨by show N2.2.2.2 ≤ r; rw [m.2.2.2.2.2.1]; exact a4.1, a4.2⟩
      rcases HD N9 rO' (fun q hq hm => by rw [hs.2.2 q (fun e => hq (.inr (.inl ⟨by omega, by omega⟩))) (fun e => hq (.inr (.inl ⟨by omega, by omega⟩)))]; exact out N2 G3 P2 D2 m q hq hm) with ⟨N3, P3, D3, F3, j1, j2, m', j3, j4, j5, j6, j7, j8, j9⟩ | ⟨N3, P3, D3, F3, u3, hz3, n3, k3', j1, -⟩
      · obtain ⟨-, eN⟩ := Prod.mk.inj (Option.some.inj (k1.symm.trans j1))
        subst eN
        have eP := hY_inj m.2.1 m'.2.1
        subst eP
        refine ⟨F3, j2, ?_, j5⟩
        have S := simD_tx2 (M2 := rv (gv N2 x G3) r F3) (G2 := G3) (F2 := F3) h (fun i h0 h1 h2 => by rw [hG3, pu_o h0, pu_o h1]) (fun l hl => by rw [hG3, pu_ne (by omega), pu_ne (by omega)]) (by rw [hG3, pu_ne (by omega), pu_ne (by omega)]) (hG_gv.rv (.inl a5)) hR_rv ⟨by show N2.2.2.2 ≤ r; rw [m.2.2.2.2.2.1]; exact a4.1, j4.2⟩ m.2.2.2.2.2.1 (Nat.le_of_lt m.2.2.2.2.2.2.1) (ob N2 G3 P2 D3 F3 m')
          ⟨D3, (m'.2.2.1.gv (.inl dx)).rv (by omega), ⟨by rw [← m.2.2.2.2.2.1]; exact m'.2.2.2.1.1, m'.2.2.2.1.2⟩⟩ (fun q hq hm => by rw [rv_out (fun g => hq (.inr (.inl (ow g))))]; exact out N2 G3 P2 D2 m q hq hm) ⟨0, by omega, by rw [hG3, gt_ne (by omega), gt_eq]; rfl, by rw [j6]; rfl⟩ (fun i hi => by rw [gt_row (j9 3 (by omega)), ← gby i hi, hG3, gt_ne (by omega), gt_ne (by omega)]) (by rw [← j3, hG3, gt_eq]) j7 j8 (fun i hi => j9 i (by omega))
        exact ⟨_, _, _, _, _, _, _, _, _, simD_slk S hs⟩
      · exact absurd (Prod.mk.inj (Option.some.inj (k1.symm.trans j1))).1 (by decide)
    · obtain ⟨G3, hG3⟩ : ∃ G3, G3 = pu (pu G 1 1 (.int 0)) 0 5 (.int (vI (P2 8))) := ⟨_, rfl⟩
      have cp := c_parse h g2 (show v ≤ len by omega) g1 s1 s2 s3 t0 k1 m
      rw [if_neg n10, ← hG3] at cp
      have e1 : ∀ i, i ≠ 0 → i ≠ 1 → G3 i = G i := fun i h0 h1 => by rw [hG3, pu_o h0, pu_o h1]
      have e2 : ∀ l, l ≠ 5 → G3 0 l = G 0 l := fun l hl => by rw [hG3, pu_ne (by omega), pu_ne (by omega)]
      have e3 : G3 1 0 = G 1 0 := by rw [hG3, pu_ne (by omega), pu_ne (by omega)]
      have gO : gOk N2 x G3 := ⟨by rw [m.2.2.2.2.2.1]; exact a2.1, by rw [e2 _ (by omega)]; exact a2.2.1, by rw [e2 _ (by omega)]; exact a2.2.2.1, by rw [e2 _ (by omega)]; exact a2.2.2.2.1, by rw [e3]; exact a2.2.2.2.2.1, by rw [e1 _ (by omega) (by omega)]; exact a2.2.2.2.2.2.1, by rw [e1 _ (by omega) (by omega)]; exact a2.2.2.2.2.2.2.1, by rw [e1 _ (by omega) (by omega)]; exact a2.2.2.2.2.2.2.2⟩
      obtain ⟨G2, w1, w4, w5, w6, wi1, wi2, w0, w03, w04, w30, w31, w32, w7⟩ := c_swap gO (by rw [e2 _ (by omega)]; exact b1) (by rw [e2 _ (by omega)]; exact b2)
      have yo : (gv N2 x G2).1 M.2.1 = (6, 0, P2) := by rw [gv_out (by omega)]; exact m.2.1
      have q8 : gI (gv N2 x G2) M.2.1 6 7 = some 0 := by simp [gI, yo, m7]
      have J : tX9_parse_J71 M.2.1 M.2.2.1 M.2.1 (gv N2 x G2) = some (.inl 0, gv N2 x G2) := by
        rw [tX9_parse_J71, q8, Option.bind_some, if_pos (show (gv N2 x G2).2.1 ≤ M.2.1 + 26 ∧ (gv N2 x G2).2.2.1 ≤ M.2.2.1 + 269 from ⟨m.2.2.2.2.2.2.2.1, m.2.2.2.2.2.2.2.2⟩)]
      rw [w1, Option.bind_some, J] at cp
      refine opR_chg (w0 := 0) (Mc := gv N2 x G2) (v := 0) cp m.2.2.2.2.2.1 (Nat.le_of_lt m.2.2.2.2.2.2.1) (zz N2 G2 P2 D2 m) a5 (hrr N2 G2 P2 D2 m) ⟨by show N2.2.2.2 ≤ r; rw [m.2.2.2.2.2.1]; exact a4.1, a4.2⟩ (fun N9 hs => ?_)
      have rO' : rOk N9 r F := hs.ok (M := gv N2 x G2) ⟨by show N2.2.2.2 ≤ r; rw [m.2.2.2.2.2.1]; exact a4.1, a4.2⟩
      rcases HD N9 rO' (fun q hq hm => by rw [hs.2.2 q (fun e => hq (.inr (.inl ⟨by omega, by omega⟩))) (fun e => hq (.inr (.inl ⟨by omega, by omega⟩)))]; exact out N2 G2 P2 D2 m q hq hm) with ⟨N3, P3, D3, F3, j1, -⟩ | ⟨N3, P3, D3, F3, u3, hz3, n3, k3', j1, j2, m', j3, j4, j5, j6, j7, j8, j9, j10, j11, j12⟩
      · exact absurd (Prod.mk.inj (Option.some.inj (k1.symm.trans j1))).1 (by decide)
      · obtain ⟨-, eN⟩ := Prod.mk.inj (Option.some.inj (k1.symm.trans j1))
        subst eN
        have eP := hY_inj m.2.1 m'.2.1
        subst eP
        refine ⟨F3, j2, ?_, j6⟩
        have g1' : ∀ l, G2 1 l = G3 1 l := fun l => by rw [wi1]
        have S := simD_swap (M2 := rv (gv N2 x G2) r F3) (G2 := G2) (F2 := F3) h (by rw [w4, e1 _ (by omega) (by omega)]) (by rw [w5, e1 _ (by omega) (by omega)]) (by rw [w6, e1 _ (by omega) (by omega)]) (fun l hl => by rw [w0 l (by omega) (by omega), e2 l (by omega)]) w03 w04 (by rw [wi1, e3]) (by rw [w30, e1 _ (by omega) (by omega)]) (by rw [w31, gt_row (e1 3 (by omega) (by omega))]) w32 w7 (hG_gv.rv (.inl a5)) hR_rv ⟨by show N2.2.2.2 ≤ r; rw [m.2.2.2.2.2.1]; exact a4.1, j5.2⟩ m.2.2.2.2.2.1 (Nat.le_of_lt m.2.2.2.2.2.2.1) (ob N2 G2 P2 D3 F3 m')
          ((m'.2.2.1.gv (.inl dx)).rv (by omega)) ⟨by rw [← m.2.2.2.2.2.1]; exact m'.2.2.2.1.1, m'.2.2.2.1.2⟩ j10 (fun s hs => ?_) ⟨0, by omega, by rw [gt_row wi1, hG3, gt_ne (by omega), gt_eq]; rfl, by rw [j7]; rfl⟩ (fun i hi => by rw [gt_row j12, ← gby i hi, gt_row wi2, gt_row (e1 2 (by omega) (by omega))]) (by rw [← j4]; unfold gt; rw [w0 5 (by omega) (by omega), hG3, pu_eq]; rfl) j8 j9
        · exact ⟨_, _, _, _, _, _, _, _, _, simD_slk S hs⟩
        · obtain ⟨q, l, z1, ⟨p, p1, p2, p3, p4, p5⟩, z3, z4⟩ := j11 s hs
          have sw := fun q => own_swap (x := x) (r := r) (G := G) (G2 := G2) (by rw [w03, b2]) (by rw [w04, b1]) (by rw [w4, e1 _ (by omega) (by omega)]) (by rw [w6, e1 _ (by omega) (by omega)]) q
          exact ⟨q, l, z1, ⟨p, p1.same (by rw [rv_out (fun g => p2 (.inr (.inl (ow g)))), gv_out (fun g => p2 (.inl g))]) (by rw [rv_out (fun g => p3 (.inr (.inl (ow g)))), gv_out (fun g => p3 (.inl g))]), fun g => p2 ((sw q).mp g), fun g => p3 ((sw p).mp g), p4, p5⟩, z3, z4⟩
  · have J : tX9_parse_J15 M.2.1 M.2.2.1 M = some (.inr 0, M) := if_pos ⟨by omega, by omega⟩
    refine opR_thr (j := 0) h ?_ (fun M' hr => ?_)
    · rw [tX9_parse]
      by_cases h0 : v < 0
      · rw [if_pos h0, J]
      · have hgt : ¬ v ≤ Int32.ofNat len := fun c => by
          have e := g.resolve_left h0
          rw [Int32.lt_iff_toInt_lt, n_toInt (by omega)] at e
          rw [Int32.le_iff_toInt_le, n_toInt (by omega)] at c
          omega
        rw [if_neg h0, q0, Option.bind_some, q1, Option.bind_some, if_neg hgt, J]
    · rw [tX10_parse, r_th0 hr, Option.bind_some, r_gI, Option.bind_some, Fth_gt (.inr (by omega)), g3, r_out (show v < 0 ∨ Int32.ofNat len < v from inv_w (m := len + 1) (by omega) (by omega) g), Option.bind_some, if_pos rfl, tX10_parse_J23, if_pos r_tag, r_thr1 hr (by decide), Option.bind_some, if_neg n10]
      rfl
end
