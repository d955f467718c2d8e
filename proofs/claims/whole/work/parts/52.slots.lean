section
variable {M : vMe} {x r a d b : Nat} {G F C E : Nat → Nat → Value} {u hz n k : Nat}
/-- a state that was kept becomes the present one -/
theorem simD_inst {C1 F1 G2 : Nat → Nat → Value} {k1 nx' cnt' : Nat} (h : simD M x r G F a d C u hz n k) (g0 : ∀ i, i ≠ 3 → G2 i = G i) (g3 : G2 3 0 = G 3 0) (gn : gt G2 3 1 = Int32.ofNat nx') (gc : gt G2 3 2 = Int32.ofNat cnt') (hnx : nx' < 10) (hcn : cnt' ≤ 10) (cO : cOk M a C1) (hP : simP C1 F1 u hz n k1) (hN : simNm M x r G C1 F 2 n)
    (rO : rOk M r F1) (f0 : ∀ i, i ≠ 0 → i ≠ 1 → F1 i = F i) (f1 : ∀ l, l ≠ 18 → l ≠ 0 → F1 0 l = F 0 l) (f18 : gt F1 0 18 = Int32.ofNat cnt')
    (hh : ∀ i, i < cnt' → ∃ b E k', G 4 ((nx' + 10 - cnt' + i) % 10) = .ref b ∧ hB M b E ∧ simP E (rwF F 7 (1952 * i)) u hz n k' ∧ simNm M x r G E F 2 n) : simD (rv (gv (cv M a C1) x G2) r F1) x r G2 F1 a d C1 u hz n k1 := by
  obtain ⟨⟨a1, a2, a3, a4, a5, a6⟩, ⟨b1, b2, b3, b4⟩, c1, d1, ⟨e1, e2, e3, e4⟩, ⟨len, p1, p2, p3⟩, gby, i1, -, l1⟩ := h
  have ka := bk0 b1
  have hn5 := e3.1.2.2.1.2
  obtain ⟨⟨xa, am, ar⟩, -⟩ := c1 0 a (by omega) ka
  have bkr : ∀ i, bkG G2 i = bkG G i := fun i => bk_row (g0 0 (by omega)) (g0 4 (by omega)) (g0 6 (by omega)) i
  have ownr : ∀ q, own x r G2 q ↔ own x r G q := fun q => own_row (g0 0 (by omega)) (g0 4 (by omega)) (g0 6 (by omega)) q
  have gO2 : gOk M x G2 := ⟨a2.1, by rw [g0 _ (by omega)]; exact a2.2.1, by rw [g0 _ (by omega)]; exact a2.2.2.1, by rw [g0 _ (by omega)]; exact a2.2.2.2.1, by rw [g0 _ (by omega)]; exact a2.2.2.2.2.1, by rw [g3]; exact a2.2.2.2.2.2.1, by rw [g0 _ (by omega)]; exact a2.2.2.2.2.2.2.1, by rw [g0 _ (by omega)]; exact a2.2.2.2.2.2.2.2⟩
  have sb : ∀ i c E, i < 14 → i ≠ 0 → bkG G i = some c → hB M c E → hB (rv (gv (cv M a C1) x G2) r F1) c E := fun i c E hi hne hc hE => by
    obtain ⟨q1, q2, q3⟩ := (c1 i c hi hc).1
    exact ((hE.cv (d1 0 i a c (by omega) hi (by omega) ka hc)).gv (.inl q1)).rv (by omega)
  have haN : hB (rv (gv (cv M a C1) x G2) r F1) a C1 := (hB_cv.gv (.inl xa)).rv (by omega)
  have tx : ∀ q, ¬ own x r G q → q < M.2.1 → (rv (gv (cv M a C1) x G2) r F1).1 q = M.1 q := fun q ho hq => by
    rw [rv_out (fun g => ho (.inr (.inl (ow g)))), gv_out (fun g => ho (.inl g)), cv_out (fun g => ho (own_bk (by omega) ka g.1 g.2))]
  have nm : ∀ E, simNm M x r G E F 2 n → simNm (rv (gv (cv M a C1) x G2) r F1) x r G2 E F1 2 n := fun E hE s hs => by
    obtain ⟨q, l, q1, ⟨p, p1, p2, p3, p4, p5⟩, q3, q4⟩ := hE s hs
    exact ⟨q, l, q1, ⟨p, p1.same (tx q p2 p4) (tx p p3 p5), fun g => p2 ((ownr q).mp g), fun g => p3 ((ownr p).mp g), p4, p5⟩, q3, by rw [f0 2 (by omega) (by omega)]; exact q4⟩
  refine ⟨⟨hG_gv.rv (.inl a5), gO2, hR_rv, rO, a5, a6⟩, ⟨by rw [g0 0 (by omega)]; exact b1, by rw [g0 0 (by omega)]; exact b2, by rw [g0 4 (by omega)]; exact b3, by rw [g0 6 (by omega)]; exact b4⟩, fun i c hi hc => ?_, fun i j c e hi hj hij hc he => d1 i j c e hi hj hij (by rw [← bkr]; exact hc) (by rw [← bkr]; exact he), ⟨haN, cO, hP, nm C1 hN⟩,
    ⟨len, p1, by rw [gt_row (g0 1 (by omega))]; exact p2, by rw [show gt F1 0 4 = gt F 0 4 from by unfold gt; rw [f1 4 (by omega) (by omega)]]; exact p3⟩, fun i hi => by rw [gt_row (g0 2 (by omega)), gt_row (f0 3 (by omega) (by omega))]; exact gby i hi, by rw [gt_row (g0 0 (by omega)), show gt F1 0 12 = gt F 0 12 from by unfold gt; rw [f1 12 (by omega) (by omega)]]; exact i1,
    ⟨nx', cnt', hnx, hcn, gn, gc, f18, fun i hi => ?_⟩, fun j hj => ?_⟩
  · rw [bkr] at hc
    obtain ⟨q0, E, q4, q5⟩ := c1 i c hi hc
    refine ⟨q0, ?_⟩
    by_cases e : i = 0
    · subst e
      cases Option.some.inj (ka.symm.trans hc)
      exact ⟨C1, haN, cO⟩
    · exact ⟨E, sb i c E hi e hc q4, q5⟩
  · obtain ⟨c, E, k', q1, q2, q3, q4⟩ := hh i hi
    have hlt : (nx' + 10 - cnt' + i) % 10 < 10 := Nat.mod_lt _ (by omega)
    exact ⟨c, E, k', by rw [g0 4 (by omega)]; exact q1, sb _ c E (by omega) (by omega) (bk2 hlt q1) q2, simP_row q3 (fun l _ => by rw [gt_rw, gt_rw, gt_row (f0 7 (by omega) (by omega))]), nm E q4⟩
  · rcases l1 j hj with ⟨q1, q2⟩ | ⟨q1, q2, c, E, k', q3, q4, q5, q6⟩
    · exact .inl ⟨by rw [gt_row (g0 7 (by omega))]; exact q1, by rw [gt_row (f0 9 (by omega) (by omega))]; exact q2⟩
    · exact .inr ⟨by rw [gt_row (g0 7 (by omega))]; exact q1, by rw [gt_row (f0 9 (by omega) (by omega))]; exact q2, c, E, k', by rw [g0 6 (by omega)]; exact q3, sb _ c E (by omega) (by omega) (bk3 q3) q4, simP_row q5 (fun l _ => by rw [gt_rw, gt_rw, gt_row (f0 8 (by omega) (by omega))]), nm E q6⟩
/-- the present state copied out of a block -/
theorem c_inst {k' : Nat} (h : simD M x r G F a d C u hz n k) (w : wf M) {F' : Nat → Nat → Value} (hE : hB M b E) (cE : cOk M b E) (hab : apart a b) (pE : simP E F' u hz n k') (nE : simNm M x r G E F 2 n) :
    ∃ C1, tX5_copyFrom a b M = some ((), cv M a C1) ∧ cOk M a C1 ∧ simP C1 F' u hz n k' ∧ simNm M x r G C1 F 2 n := by
  have cn := simP_cnt pE
  obtain ⟨C1, e1, e2, e3, e4, e5, e6⟩ := c_copy (M := M) (C := C) (E := E) (a := a) (b := b) (D_c h) cE hab (wf_bz w hE) cn.2.1 cn.2.2 cn.1 (simNm_q nE)
  rw [hE.eq, (D_b h).eq] at e1
  refine ⟨C1, e1, e2, simP_copy pE e3 e4 e5 e6, fun s hs => ?_⟩
  obtain ⟨m, m1, m2⟩ := cn.1 s hs
  obtain ⟨q, l, q1, q2⟩ := nE s hs
  exact ⟨q, l, by rw [(e6 s hs m m2 m1).1]; exact q1, q2⟩
theorem n_18 (h : rOk M r F) {v : Int32} : rOk M r (pu F 0 18 (.int v)) := rOk_0 h f18
/-- undo -/
theorem O_undo (h : simD M x r G F a d C u hz n k) (w : wf M) : opR x r M ((tX9_undo x M).bind fun z => some (Sum.inl z.1, z.2)) (fun M' => tX10_undo r M') mp0 := by
  have h0 := h
  have hb := D_b h
  obtain ⟨⟨a1, a2, a3, a4, a5, a6⟩, ⟨b1, b2, b3, b4⟩, c1, d1, -, -, -, -, ⟨nx, cnt, j1, j2, j3, j4, j5, j6⟩, -⟩ := h0
  have ka := bk0 b1
  obtain ⟨⟨xa, am, ar⟩, -⟩ := c1 0 a (by omega) ka
  have e1 : gI M (x + 3) 10 1 = some (Int32.ofNat nx) := by rw [← a1.eq, g_h, j3]
  have e2 : gI M (x + 3) 10 2 = some (Int32.ofNat cnt) := by rw [← a1.eq, g_h, j4]
  by_cases q : cnt = 0
  · subst q
    refine opR_read (z := .inl (-1)) (c := 0) h ?_ (fun M' hr => ?_) rfl (fun v e => Sum.inl.inj e)
    · rw [tX9_undo, A_hi h, Option.bind_some, A_no h, Option.bind_some, if_pos (T_hi a1), tX8_takeBack, e1, Option.bind_some, e2, Option.bind_some, if_pos (by decide), Option.bind_some, if_pos rfl, Option.bind_some]
    · rw [tX10_undo, r_th0 hr, Option.bind_some, r_gI, Option.bind_some, Fth_gt (.inr (by omega)), j5, if_pos (by decide)]
  · obtain ⟨b, E, k', w1, w2, w3, w4⟩ := j6 (cnt - 1) (by omega)
    have ix : (nx + 10 - cnt + (cnt - 1)) % 10 = (nx + 9) % 10 := by omega
    rw [ix] at w1
    have hlt : (nx + 9) % 10 < 10 := Nat.mod_lt _ (by omega)
    have kb := bk2 hlt w1
    obtain ⟨⟨xb, bm, br⟩, E', hE', cE'⟩ := c1 _ b (by omega) kb
    have cE : cOk M b E := ⟨cE'.1, by rw [hE'.same w2 0 (by omega)]; exact cE'.2.1, by rw [hE'.same w2 1 (by omega)]; exact cE'.2.2.1, by rw [hE'.same w2 2 (by omega)]; exact cE'.2.2.2.1, fun i k hi hk => by rw [hE'.same w2 _ (by omega)]; exact cE'.2.2.2.2.1 i k hi hk, fun i k hi hk => by rw [hE'.same w2 _ (by omega)]; exact cE'.2.2.2.2.2 i k hi hk⟩
    obtain ⟨C1, f1, f2, f3, f4⟩ := c_inst (E := E) (F' := rwF F 7 (1952 * (cnt - 1))) h w w2 cE (d1 0 _ a b (by omega) (by omega) (by omega) ka kb) w3 w4
    have hg1 : hG (cv M a C1) x G := a1.cv (.inl xa)
    obtain ⟨G2, hG2⟩ : ∃ G2, G2 = pu (pu G 3 1 (.int (Int32.ofNat ((nx + 9) % 10)))) 3 2 (.int (Int32.ofNat (cnt - 1))) := ⟨_, rfl⟩
    have nz : ¬ Int32.ofNat cnt = 0 := n_z (by omega) q
    have x3 : gA M (x + 3) 10 0 = some (x + 4) := by rw [← a1.eq]; exact g_gA (i := 3) (by omega) rfl a2.2.2.2.2.2.1
    have x4 : aR M (x + 4) 106 (Int32.ofNat ((nx + 9) % 10)) = some (some b) := by
      have : aR M (x + 4) 106 (Int32.ofNat ((nx + 9) % 10)) = some (vR (G 4 ((nx + 9) % 10))) := by rw [← a1.eq]; exact g_aR (i := 4) (len := 10) (by omega) rfl hlt (by omega)
      rw [this, w1]; rfl
    have x5 : aA M (x + 4) 106 (Int32.ofNat ((nx + 9) % 10)) = some b := by rw [← a1.eq]; exact g_aA (i := 4) (len := 10) (by omega) rfl hlt (by omega) w1
    have y1 : sV (cv M a C1) (x + 3) 10 1 (.int (Int32.ofNat ((nx + 9) % 10))) = some (gv (cv M a C1) x (pu G 3 1 (.int (Int32.ofNat ((nx + 9) % 10))))) := by
      have := g_sV (M := cv M a C1) (G := G) (i := 3) (k := 1) (t := 10) (v := .int (Int32.ofNat ((nx + 9) % 10))) a2.1 (by omega) rfl
      rw [hg1.eq] at this; exact this
    have y2 : sV (gv (cv M a C1) x (pu G 3 1 (.int (Int32.ofNat ((nx + 9) % 10))))) (x + 3) 10 2 (.int (Int32.ofNat (cnt - 1))) = some (gv (cv M a C1) x G2) := by
      rw [hG2]; exact g_sV (i := 3) a2.1 (by omega) rfl
    have tb : tX8_takeBack (x + 3) a M = some (1, gv (cv M a C1) x G2) := by
      rw [tX8_takeBack, e1, Option.bind_some, e2, Option.bind_some, if_neg nz, x3, Option.bind_some, n_back nx j1, x4, Option.bind_some, if_neg (fun e => by cases e), Option.bind_some, x5, Option.bind_some, if_pos (T_b hb), f1, Option.bind_some]
      show ((sV (cv M a C1) (x + 3) 10 1 _).bind _) = _
      rw [y1, Option.bind_some, g_h, Option.bind_some, gt_ne (by omega), j4, n_pred (by omega), y2, Option.bind_some]
    have hgz : hG (gv (cv M a C1) x G2) x G2 := hG_gv
    refine opR_chg (w0 := 0) (Mc := gv (cv M a C1) x G2) (v := Int32.ofNat (cnt - 1)) ?_ rfl (Nat.le_refl _) (fun q hq => by rw [gv_out (by omega), cv_out (by omega)]) a5 ((a3.cv (by omega)).gv (.inl a5)) a4 (fun N9 hs => ?_)
    · rw [tX9_undo, A_hi h, Option.bind_some, A_no h, Option.bind_some, if_pos (T_hi a1), tb, Option.bind_some, if_neg n10]
      have z0 : G2 0 1 = .ref (x + 3) := by rw [hG2, pu_ne (by omega), pu_ne (by omega)]; exact a2.2.2.1
      rw [show gA (gv (cv M a C1) x G2) x 11 1 = some (x + 3) from g_gA (i := 0) (by omega) rfl z0, Option.bind_some, g_h, Option.bind_some, Option.bind_some, hG2, gt_eq]
    · have rM : rOk N9 r F := hs.ok (M := gv (cv M a C1) x G2) a4
      have o1 : rOk N9 r (pu (Fth F 0) 0 18 (.int (Int32.ofNat (cnt - 1)))) := n_18 (Fth_ok rM)
      obtain ⟨F1, k1, k2, k3, k4⟩ := r_copies (i := 7) (j := 1) (x := 1952 * (cnt - 1)) (y := 0) o1 rfl rfl (by omega) (by omega) (by show _ ≤ 19520; omega) (by show _ ≤ 1952; omega) (by omega)
      have e18 : gt F1 0 18 = Int32.ofNat (cnt - 1) := by unfold gt; rw [k4 0 (by omega)]; exact gt_eq _ _ _
      refine ⟨F1, ?_, ?_, ?_⟩
      · rw [tX10_undo, r_th0 rM, Option.bind_some, r_gI, Option.bind_some, Fth_gt (.inr (by omega)), j5, if_neg nz, Option.bind_some, n_pred (by omega), r_sV _ (Fth_ok rM), Option.bind_some, rA19 o1, Option.bind_some, r_gI, Option.bind_some, gt_eq, rA1 o1, Option.bind_some, l1952, show tX10_copies (r + 7) (Int32.ofNat (1952 * (cnt - 1))) (r + 1) 0 _ = some ((), rv N9 r F1) from k1, Option.bind_some, r_gI, Option.bind_some, e18]
      · have rr : ∀ l, l < 1952 → gt F1 1 l = gt F 7 (1952 * (cnt - 1) + l) := fun l hl => by
          rw [k3, if_pos (by omega), gt_ne (by omega), Fth_gt (.inl (by omega)), Nat.sub_zero]
        have S := simD_inst (C1 := C1) (F1 := F1) (G2 := G2) (nx' := (nx + 9) % 10) (cnt' := cnt - 1) (k1 := k') h (fun i hi => by rw [hG2, pu_o hi, pu_o hi]) (by rw [hG2, pu_ne (by omega), pu_ne (by omega)]) (by rw [hG2, gt_ne (by omega), gt_eq]) (by rw [hG2, gt_eq]) hlt (by omega) f2 (simP_row f3 (fun l hl => by rw [gt_rw, rr l hl])) f4 ⟨a4.1, k2.2⟩
          (fun i i0 i1 => by rw [k4 i i1, pu_o i0, Fth_r i0]) (fun l h1 h2 => by rw [k4 0 (by omega), pu_ne (by omega)]; unfold Fth; rw [pu_ne (by omega)]) e18 (fun i hi => by
            obtain ⟨c, E2, k2', v1, v2, v3, v4⟩ := j6 i (by omega)
            exact ⟨c, E2, k2', by rw [show ((nx + 9) % 10 + 10 - (cnt - 1) + i) % 10 = (nx + 10 - cnt + i) % 10 by omega]; exact v1, v2, v3, v4⟩)
        exact ⟨_, _, _, _, _, _, _, _, _, simD_slk S hs⟩
      · unfold gt; rw [k4 0 (by omega), pu_ne (by omega)]; exact Fth_at
theorem arg_s2 (s : Int32) : (∃ j, j < 2 ∧ s = Int32.ofNat j) ∨ (s < 0 ∨ ¬ s < Int32.ofNat 2) := arg_c s (by omega)
theorem c_checkSlot (M : vMe) (s : Int32) : (∀ j, j < 2 → s = Int32.ofNat j → tX9_checkSlot x s M = some (.inl (), M)) ∧ ((s < 0 ∨ ¬ s < Int32.ofNat 2) → tX9_checkSlot x s M = some (.inr 1, M)) := by
  have J : tX9_checkSlot_J9 M.2.1 M.2.2.1 M = some (.inr 1, M) := if_pos (ok2 M)
  constructor
  · rintro j hj rfl
    rw [tX9_checkSlot, if_neg (n_neg (by omega)), if_pos (show Int32.ofNat j < 2 from (n_lt (b := 2) (by omega) (by omega)).mpr hj), if_pos (ok1 M)]
  · intro g
    rw [tX9_checkSlot]
    by_cases q : s < 0
    · rw [if_pos q, J]
    · rw [if_neg q, if_neg (show ¬ s < 2 from g.resolve_left q), J]
theorem r_noSlot (hr : rOk M r F) (s : Int32) : (∀ j, j < 2 → s = Int32.ofNat j → tX10_noSlot r s (rv M r F) = some (0, rv M r (Fth F 0))) ∧ ((s < 0 ∨ ¬ s < Int32.ofNat 2) → tX10_noSlot r s (rv M r F) = some (1, rv M r (Fth F 1))) := by
  constructor
  · intro j hj e
    rw [tX10_noSlot, r_th0 hr, Option.bind_some, if_pos r_tag, l2, (r_no hr s (by omega) (by omega)).1 j hj e, Option.bind_some, if_pos fz0]
  · intro g
    rw [tX10_noSlot, r_th0 hr, Option.bind_some, if_pos r_tag, l2, (r_no hr s (by omega) (by omega)).2 g, Option.bind_some, if_pos fz1]
theorem r_sav {j : Nat} (hj : j < 2) : aI (rv M r F) (r + 9) 103 (Int32.ofNat j) = some (gt F 9 j) := by
  simp only [aI, rv_at M r 9 F (by omega), show rTag 9 = 103 from rfl, show rLen 9 = 2 from rfl, n_clamp (show j < 2147483648 by omega), n_neg (show j < 2147483648 by omega), gt]
  simp [hj]
theorem r_savS {j : Nat} {v : Value} (h : rOk M r F) (hj : j < 2) : sA (rv M r F) (r + 9) 103 (Int32.ofNat j) v = some (rv M r (pu F 9 j v)) := r_sA (i := 9) _ h (by decide) rfl hj
/-- restoreSnapshot -/
theorem O_restore (h : simD M x r G F a d C u hz n k) (w : wf M) (s : Int32) : opR x r M (tX9_restoreSnapshot x s M) (fun M' => tX10_restoreSnapshot r s M') mpC := by
  have h0 := h
  have hb := D_b h
  obtain ⟨⟨a1, a2, a3, a4, a5, a6⟩, ⟨b1, b2, b3, b4⟩, c1, d1, -, -, -, -, ⟨nx, cnt, j1, j2, j3, j4, j5, j6⟩, l1⟩ := h0
  have ka := bk0 b1
  obtain ⟨⟨xa, am, ar⟩, -⟩ := c1 0 a (by omega) ka
  rcases arg_s2 s with ⟨j, hj, rfl⟩ | g
  · have e7 : gA M (x + 5) 7 1 = some (x + 7) := by rw [← a1.eq]; exact g_gA (i := 5) (by omega) rfl a2.2.2.2.2.2.2.2
    have ef : aI M (x + 7) 103 (Int32.ofNat j) = some (gt G 7 j) := by rw [← a1.eq]; exact g_aI (i := 7) (len := 2) (by omega) rfl hj (by omega)
    have rd : ∀ {M' : vMe}, rOk M' r F → tX10_restoreSnapshot r (Int32.ofNat j) (rv M' r F) = if gt F 9 j = 0 then tX10_restoreSnapshot_J23 r (Int32.ofNat j) r 1 (rv M' r (Fth F 0)) else tX10_restoreSnapshot_J23 r (Int32.ofNat j) r 0 (rv M' r (Fth F 0)) := fun hr => by
      rw [tX10_restoreSnapshot, if_pos r_tag, (r_noSlot hr _).1 j hj rfl, Option.bind_some, if_pos rfl, rA21 (Fth_ok hr), Option.bind_some, r_sav hj, Option.bind_some, Fth_gt (.inl (by omega))]
    rcases l1 j hj with ⟨q1, q2⟩ | ⟨q1, q2, b, E, k', q3, q4, q5, q6⟩
    · refine opR_thr (j := 2) h ?_ (fun M' hr => ?_)
      · rw [tX9_restoreSnapshot, if_pos (ok2 M), if_pos (T_x a1), (c_checkSlot M _).1 j hj rfl, Option.bind_some]
        simp only [Sum.elim_inl]
        rw [A_sl h, Option.bind_some, if_pos (ok0 M), if_pos (T_sl a1), tX4_storedIn, e7, Option.bind_some, ef, Option.bind_some, q1, if_pos rfl, Option.bind_some, if_pos rfl, if_pos (ok2 M)]
      · rw [rd hr, if_pos q2, tX10_restoreSnapshot_J23, if_pos r_tag, r_thJ hr, Option.bind_some, if_neg n10]; rfl
    · have kb := bk3 q3
      obtain ⟨⟨xb, bm, br⟩, E', hE', cE'⟩ := c1 _ b (by omega) kb
      have cE : cOk M b E := ⟨cE'.1, by rw [hE'.same q4 0 (by omega)]; exact cE'.2.1, by rw [hE'.same q4 1 (by omega)]; exact cE'.2.2.1, by rw [hE'.same q4 2 (by omega)]; exact cE'.2.2.2.1, fun i k hi hk => by rw [hE'.same q4 _ (by omega)]; exact cE'.2.2.2.2.1 i k hi hk, fun i k hi hk => by rw [hE'.same q4 _ (by omega)]; exact cE'.2.2.2.2.2 i k hi hk⟩
      obtain ⟨C1, f1, f2, f3, f4⟩ := c_inst (E := E) (F' := rwF F 8 (1952 * j)) h w q4 cE (d1 0 _ a b (by omega) (by omega) (by omega) ka kb) q5 q6
      have hg1 : hG (cv M a C1) x G := a1.cv (.inl xa)
      obtain ⟨G2, hG2⟩ : ∃ G2, G2 = pu G 3 2 (.int 0) := ⟨_, rfl⟩
      have e6 : gA M (x + 5) 7 0 = some (x + 6) := by rw [← a1.eq]; exact g_gA (i := 5) (by omega) rfl a2.2.2.2.2.2.2.1
      have ea : aA M (x + 6) 106 (Int32.ofNat j) = some b := by rw [← a1.eq]; exact g_aA (i := 6) (len := 2) (by omega) rfl hj (by omega) q3
      have y1 : sV (cv M a C1) (x + 3) 10 2 (.int 0) = some (gv (cv M a C1) x G2) := by
        have := g_sV (M := cv M a C1) (G := G) (i := 3) (k := 2) (t := 10) (v := .int 0) a2.1 (by omega) rfl
        rw [hg1.eq] at this; rw [hG2]; exact this
      have hb2 : hB (gv (cv M a C1) x G2) a C1 := hB_cv.gv (.inl xa)
      have g20 : ∀ i, i ≠ 3 → G2 i = G i := fun i hi => by rw [hG2, pu_o hi]
      refine opR_chg (w0 := 0) (Mc := gv (cv M a C1) x G2) (v := gt C1 0 7) ?_ rfl (Nat.le_refl _) (fun q hq => by rw [gv_out (by omega), cv_out (by omega)]) a5 ((a3.cv (by omega)).gv (.inl a5)) a4 (fun N9 hs => ?_)
      · rw [tX9_restoreSnapshot, if_pos (ok2 M), if_pos (T_x a1), (c_checkSlot M _).1 j hj rfl, Option.bind_some]
        simp only [Sum.elim_inl]
        rw [A_sl h, Option.bind_some, if_pos (ok0 M), if_pos (T_sl a1), tX4_storedIn, e7, Option.bind_some, ef, Option.bind_some, q1, if_neg n10, e6, Option.bind_some, ea, Option.bind_some, Option.bind_some, if_neg (fun e => by cases e), Option.bind_some, A_no h, Option.bind_some, if_pos (ok0 M), if_pos (T_b hb), f1, Option.bind_some]
        have z1 : gA (cv M a C1) x 11 1 = some (x + 3) := by rw [← hg1.eq]; exact g_gA (i := 0) (by omega) rfl a2.2.2.1
        have z3 : gA (gv (cv M a C1) x G2) x 11 3 = some a := g_gA (i := 0) (by omega) rfl (by rw [g20 0 (by omega)]; exact b1)
        show ((gA (cv M a C1) x 11 1).bind _) = _
        rw [z1, Option.bind_some, if_pos (show (cv M a C1).2.1 + 0 ≤ M.2.1 + 1 ∧ (cv M a C1).2.2.1 + 0 ≤ M.2.2.1 + 6 from ok0 M), if_pos (T_hi hg1), tX8_forgetAll, y1, Option.bind_some, Option.bind_some]
        show ((gA (gv (cv M a C1) x G2) x 11 3).bind _) = _
        rw [z3, Option.bind_some, B_I0 hb2, Option.bind_some, if_pos (show (gv (cv M a C1) x G2).2.1 ≤ M.2.1 + 1 ∧ (gv (cv M a C1) x G2).2.2.1 ≤ M.2.2.1 + 6 from ok1 M)]
      · have rM : rOk N9 r F := hs.ok (M := gv (cv M a C1) x G2) a4
        obtain ⟨F1, k1, k2, k3, k4⟩ := r_copies (i := 8) (j := 1) (x := 1952 * j) (y := 0) (Fth_ok (c := 0) rM) rfl rfl (by omega) (by omega) (by show _ ≤ 3904; omega) (by show _ ≤ 1952; omega) (by omega)
        have rr : ∀ l, l < 1952 → gt F1 1 l = gt F 8 (1952 * j + l) := fun l hl => by
          rw [k3, if_pos (by omega), Fth_gt (.inl (by omega)), Nat.sub_zero]
        have cl : gt C1 0 7 = gt F1 1 3 := by rw [f3.2.1.2.2.2.2.1, gt_rw, rr 3 (by omega)]
        refine ⟨pu F1 0 18 (.int 0), ?_, ?_, ?_⟩
        · rw [rd rM, q2, if_neg n10, tX10_restoreSnapshot_J23, if_pos r_tag, r_thr0, Option.bind_some, if_pos rfl, rA20 (Fth_ok rM), Option.bind_some, rA1 (Fth_ok rM), Option.bind_some, l1952, show tX10_copies (r + 8) (Int32.ofNat (1952 * j)) (r + 1) 0 _ = some ((), rv N9 r F1) from k1, Option.bind_some, r_sV _ k2, Option.bind_some, rA1 (n_18 k2), Option.bind_some, l3, r_now (by omega), Option.bind_some, gt_ne (by omega), cl]
        · have S := simD_inst (C1 := C1) (F1 := pu F1 0 18 (.int 0)) (G2 := G2) (nx' := nx) (cnt' := 0) (k1 := k') h g20 (by rw [hG2, pu_ne (by omega)]) (by rw [hG2, gt_ne (by omega)]; exact j3) (by rw [hG2, gt_eq]; rfl) j1 (by omega) f2 (simP_row f3 (fun l hl => by rw [gt_rw, gt_ne (by omega), rr l hl])) f4 ⟨a4.1, (n_18 k2).2⟩
            (fun i i0 i1 => by rw [pu_o i0, k4 i i1, Fth_r i0]) (fun l h1 h2 => by rw [pu_ne (by omega), k4 0 (by omega)]; unfold Fth; rw [pu_ne (by omega)]) (gt_eq _ _ _) (fun i hi => by omega)
          exact ⟨_, _, _, _, _, _, _, _, _, simD_slk S hs⟩
        · rw [gt_ne (by omega)]; unfold gt; rw [k4 0 (by omega)]; exact Fth_at
  · refine opR_thr (j := 1) h ?_ (fun M' hr => ?_)
    · rw [tX9_restoreSnapshot, if_pos (ok2 M), if_pos (T_x a1), (c_checkSlot M s).2 g, Option.bind_some]; rfl
    · rw [tX10_restoreSnapshot, if_pos r_tag, (r_noSlot hr _).2 g, Option.bind_some, if_neg n10]; rfl
end
