section
variable {M : vMe} {x r a d : Nat} {G F C : Nat → Nat → Value} {u hz n k : Nat}
theorem cu6 (hP : simP C F u hz n k) : ∀ c, c < 6 → simC C F n c := hP.2.2.2.1
theorem inU_F1 {F1 : Nat → Nat → Value} (e : F1 1 = F 1) : inU F1 = inU F := by funext c; unfold inU oC gt; rw [e]
/-- open -/
theorem O_open {Gs : Nat → Nat} (h : simD M x r G F a d C u hz n k) (w : wf M) (s st : Int32) (hst : st = 0 ∨ st = 1) : opR x r M (tX9_open Gs x s st M) (fun M' => tX10_open r s st M') mpC := by
  have hP := D_p h
  have hb := D_b h
  have hc := D_c h
  have hn5 := hP.1.2.2.1.2
  have fst' : fits .boolean (.int st) = true := by rcases hst with e | e <;> (rw [e]; decide)
  rcases arg_c s (n := n) (by omega) with ⟨j, hj, rfl⟩ | g
  · have cs : ∀ {M' : vMe} (hr : rOk M' r F), tX10_cursorsMany r (rv M' r (Fth F 0)) = some (Int32.ofNat (sumU (inU F) 6 0)) := fun hr => by
      rw [r_cursorsMany (Fth_ok hr) (C := C) (n := n) (fun c hc => simC_congr (fun w _ => Fth_C) (fun _ => rfl) (hP.2.2.2.1 c hc))]
      have : inU (Fth F 0) = inU F := by funext c; unfold inU; rw [Fth_C]
      rw [this]
    have rd : ∀ {M' : vMe}, rOk M' r F → tX10_open r (Int32.ofNat j) st (rv M' r F) = if sumU (inU F) 6 0 = 6 then tX10_open_J23 r (Int32.ofNat j) st r 1 (rv M' r (Fth F 0)) else tX10_open_J23 r (Int32.ofNat j) st r 0 (rv M' r (Fth F 0)) := fun hr => by
      rw [tX10_open, if_pos r_tag, (r_noSetS h hr _).1 j hj rfl, Option.bind_some, if_pos rfl, if_pos r_tag, cs hr, Option.bind_some]
      have hle := sumU_le (inU F) 6 0
      by_cases q : sumU (inU F) 6 0 = 6
      · rw [if_pos q, if_pos (by rw [q]; rfl)]
      · rw [if_neg q, if_neg (show ¬ Int32.ofNat (sumU (inU F) 6 0) = 6 from fun g => q ((n_eq (b := 6) (by omega) (by omega)).mp g))]
    have ok5' : M.2.1 + 0 ≤ M.2.1 + 50 ∧ M.2.2.1 + 0 ≤ M.2.2.1 + 2001 := ok5 M
    rcases c_free (M := M) hc (cu6 hP) with ⟨f1, f2⟩ | ⟨c, c6, f1, f2, f3, f4⟩
    · rw [hb.eq] at f1
      refine opR_thr (j := 2) h ?_ (fun M' hr => ?_)
      · rw [tX9_open, if_pos (ok3 M), if_pos (T_x h.1.1), (c_checkSet h _).1 j hj rfl, Option.bind_some]
        simp only [Sum.elim_inl]
        rw [A_no h, Option.bind_some, if_pos ok5', if_pos (T_b hb), f1, Option.bind_some, if_pos rfl, if_pos (ok3 M)]
      · rw [rd hr, if_pos f2, tX10_open_J23, if_pos r_tag, r_thJ hr, Option.bind_some, if_neg n10]; rfl
    · rw [hb.eq] at f1
      have nm1 : ¬ Int32.ofNat c = -1 := fun e => by have := n_neg (a := c) (by omega); rw [e] at this; exact this (by decide)
      obtain ⟨M1, G1, Mc, v, C2, q1, q2, q3, q4, q5, q6, q7, q8, q9, q10, q11, q12, q13, q14, q15, q16, qz, q17⟩ := chgOp (Gs := Gs) (tcf := fun N => (gI N a 8 7).bind fun v14 => tX0_begin (a + (44 + c)) (Int32.ofNat j) st v14 N)
        (trf := fun N => (tX10_open_L38 r (Int32.ofNat j) st vF 0 N).bind fun z12 => if (z12.2.1 r).1 = 12 then ((tX10_setsCursor r z12.1 0 1 z12.2).bind fun z13 => if (z13.2.1 r).1 = 12 then ((tX10_setsCursor r z12.1 1 (Int32.ofNat j) z13.2).bind fun z14 => if (z14.2.1 r).1 = 12 then ((tX10_setsCursor r z12.1 2 0 z14.2).bind fun z15 => if (z15.2.1 r).1 = 12 then ((tX10_setsCursor r z12.1 3 1 z15.2).bind fun z16 =>
          if st = 0 then (tX10_open_J94 r z12.1 r z12.1 4 0 z16.2) else (tX10_open_J94 r z12.1 r z12.1 4 1 z16.2)) else none) else none) else none) else none) (rel := fun _ w => w = Int32.ofNat c) h w (fun N M' F1 c1 c2 e1 c4 => by
          have P2 := open_P (st := st) c4 c6 hj hst
          have k7 := c4.2.1.2.2.2.2.1
          obtain ⟨b1, b2⟩ := c_begin (M := N) (s := Int32.ofNat j) (clk := gt C 0 7) c1 c6 fst'
          refine ⟨cBeg C c (Int32.ofNat j) st (gt C 0 7), fBeg F1 c (Int32.ofNat j) st (gt F1 1 3), k, (), Int32.ofNat c, ?_, ?_, b2, fBeg_ok c2, kF.rf.C.C.C.C.C.C.C.C, fun t ht => ?_, P2, rfl⟩
          · show ((gI (cv N a C) a 8 7).bind _) = _
            rw [c_gI0, Option.bind_some, b1]
          · have s1 := sC_ok (c2) (s := c) (w := 0) (v := 1)
            have s2 := sC_ok s1 (s := c) (w := 1) (v := Int32.ofNat j)
            have s3 := sC_ok s2 (s := c) (w := 2) (v := 0)
            have s4 := sC_ok s3 (s := c) (w := 3) (v := 1)
            have s5 := sC_ok s4 (s := c) (w := 4) (v := st)
            have clk : gt (sC (sC (sC (sC (sC F1 c 0 1) c 1 (Int32.ofNat j)) c 2 0) c 3 1) c 4 st) 1 3 = gt F1 1 3 := by
              simp only [sC]
              rw [gt_ne (by unfold aC; omega), gt_ne (by unfold aC; omega), gt_ne (by unfold aC; omega), gt_ne (by unfold aC; omega), gt_ne (by unfold aC; omega)]
            have J94 : tX10_open_J94 r (Int32.ofNat c) r (Int32.ofNat c) 4 st (rv M' r (sC (sC (sC (sC F1 c 0 1) c 1 (Int32.ofNat j)) c 2 0) c 3 1)) = some (Int32.ofNat c, rv M' r (fBeg F1 c (Int32.ofNat j) st (gt F1 1 3))) := by
              have s6 := sC_ok s5 (s := c) (w := 5) (v := gt F1 1 3)
              have s7 := sC_ok s6 (s := c) (w := 6) (v := 0)
              rw [tX10_open_J94, if_pos r_tag, l4, r_setsCursor s4 c6 (by omega), Option.bind_some, rA1 s5, Option.bind_some, l3, r_now (by omega), Option.bind_some, clk, if_pos r_tag, l5, r_setsCursor s5 c6 (by omega), Option.bind_some, if_pos r_tag, l6, r_setsCursor s6 c6 (by omega), Option.bind_some, if_pos r_tag, l7, r_setsCursor s7 c6 (by omega), Option.bind_some]
              rfl
            show ((tX10_open_L38 r (Int32.ofNat j) st vF 0 (rv M' r F1)).bind _) = _
            rw [show tX10_open_L38 r (Int32.ofNat j) st vF 0 (rv M' r F1) = some (Int32.ofNat c, rv M' r F1) from r_open_L c2 c6 (by rw [inU_F1 e1]; exact f3) (fun d hd => by rw [inU_F1 e1]; exact f4 d hd) c vF 0 (by omega) (by unfold vF; omega), Option.bind_some, if_pos r_tag]
            rw [show tX10_setsCursor r (Int32.ofNat c) 0 1 (rv M' r F1) = _ from r_setsCursor (w := 0) c2 c6 (by omega), Option.bind_some, if_pos r_tag, show ∀ v N', tX10_setsCursor r (Int32.ofNat c) 1 v N' = tX10_setsCursor r (Int32.ofNat c) (Int32.ofNat 1) v N' from fun _ _ => rfl, r_setsCursor s1 c6 (by omega), Option.bind_some, if_pos r_tag, l2, r_setsCursor s2 c6 (by omega), Option.bind_some, if_pos r_tag, l3, r_setsCursor s3 c6 (by omega), Option.bind_some]
            rcases hst with e | e
            · rw [if_pos e]; rw [e] at J94; rw [e]; exact J94
            · rw [if_neg (by rw [e]; decide)]; rw [e] at J94; rw [e]; exact J94
          · simp only [cBeg]
            rw [pu_ne (by omega), pu_ne (by omega), pu_ne (by omega), pu_ne (by omega), pu_ne (by omega), pu_ne (by omega), pu_ne (by omega), pu_ne (by omega)])
      obtain ⟨v14, z1, z2⟩ := Option.bind_eq_some_iff.mp q9
      refine opR_chg (w0 := 0) (Mc := Mc) (v := Int32.ofNat c) ?_ (by rw [q10]; exact q5) (by rw [q10]; exact q4) qz h.1.2.2.2.2.1 q15 q16 (fun N9 hs => ?_)
      · have cm : Mc.2.1 ≤ M.2.1 + 50 ∧ Mc.2.2.1 ≤ M.2.2.1 + 2001 := by rw [q10]; exact ⟨q2, q3⟩
        rw [tX9_open, if_pos (ok3 M), if_pos (T_x h.1.1), (c_checkSet h _).1 j hj rfl, Option.bind_some]
        simp only [Sum.elim_inl]
        rw [A_no h, Option.bind_some, if_pos ok5', if_pos (T_b hb), f1, Option.bind_some, if_neg nm1, A_hi h, Option.bind_some, Option.bind_some, if_pos (ok4 M), if_pos (T_hi h.1.1), q1, Option.bind_some, q6, Option.bind_some, B_A1 q7 q8, Option.bind_some, B_U q7 q8 c6, Option.bind_some, Option.bind_some, z1, Option.bind_some, if_pos ⟨q2, q3⟩, if_pos (B_tU q7 c6), z2, Option.bind_some, if_pos cm]
      · obtain ⟨F1, F2, w0, t1, t2, t3, t4, t5⟩ := q17 N9 hs
        refine ⟨F2, ?_, t3, t4⟩
        have rM : rOk N9 r F := hs.ok q16
        rw [rd rM, if_neg f2, tX10_open_J23, if_pos r_tag, r_thr0, Option.bind_some, if_pos rfl, if_pos r_tag, t1, Option.bind_some, ← t5]
        exact t2
  · refine opR_thr (j := 1) h ?_ (fun M' hr => ?_)
    · rw [tX9_open, if_pos (ok3 M), if_pos (T_x h.1.1), (c_checkSet h s).2 g, Option.bind_some]; rfl
    · rw [tX10_open, if_pos r_tag, (r_noSetS h hr _).2 g, Option.bind_some, if_neg n10]; rfl
/-- close -/
theorem O_close {Gs : Nat → Nat} (h : simD M x r G F a d C u hz n k) (w : wf M) (s : Int32) : opR x r M (tX9_close Gs x s M) (fun M' => tX10_close r s M') mp1 := by
  have hP := D_p h
  have hb := D_b h
  rcases arg_u hP s with ⟨c, hc, h0, rfl⟩ | g
  · obtain ⟨M1, G1, Mc, v, C2, q1, q2, q3, q4, q5, q6, q7, q8, q9, q10, q11, q12, q13, q14, q15, q16, qz, q17⟩ := chgOp (Gs := Gs) (tcf := fun N => (sV N (a + (44 + c)) 3 0 (.int 0)).bind fun M7 => (sV M7 (a + (44 + c)) 3 1 (.int 0)).bind fun M8 => (gI M8 (a + (44 + c)) 3 6).bind fun v => some (v, M8))
        (trf := fun N => if (N.1 r).1 = 12 then ((tX10_setsCursor r (Int32.ofNat c) 0 0 N).bind fun z4 => if (z4.2.1 r).1 = 12 then ((tX10_ofCursor r (Int32.ofNat c) 6 z4.2).bind fun z5 => some (z5, z4.2)) else none) else none) (rel := fun v w => w = v) h w (fun N M' F1 c1 c2 e1 c4 => by
          have P2 := closeU_P c4 hc
          have o1 := cOk_u (k := 0) (v := .int 0) c1 hc
          have o2 := cOk_u (k := 1) (v := .int 0) o1 hc
          have e6 : gt C (44 + c) 6 = oC F1 c 6 := by
            rcases hP.2.2.2.1 c hc with ⟨g, -⟩ | ⟨-, -, -, -, -, -, -, g8, -⟩
            · rw [g] at h0; exact absurd h0 (by decide)
            · rw [g8]; unfold oC gt; rw [e1]
          refine ⟨_, _, k, oC F1 c 6, oC F1 c 6, ?_, ?_, o2, sC_ok c2, kF.rf.C, fun t ht => by rw [pu_ne (by omega), pu_ne (by omega)], P2, rfl⟩
          · show ((sV (cv N a C) (a + (44 + c)) 3 0 (.int 0)).bind _) = _
            rw [uV c1 hc, Option.bind_some, uV o1 hc, Option.bind_some, uI hc, Option.bind_some, gt_ne (by omega), gt_ne (by omega), e6]
          · show (if ((rv M' r F1).1 r).1 = 12 then _ else _) = _
            rw [if_pos r_tag, show tX10_setsCursor r (Int32.ofNat c) 0 0 (rv M' r F1) = some ((), rv M' r (sC F1 c 0 0)) from r_setsCursor (w := 0) c2 hc (by omega), Option.bind_some, if_pos r_tag, l6, r_ofCursor (sC_ok c2) hc (by omega), Option.bind_some, oC_sC, if_neg (by unfold aC; omega)])
    obtain ⟨M7, z1, z2⟩ := Option.bind_eq_some_iff.mp q9
    obtain ⟨M8, z3, z4⟩ := Option.bind_eq_some_iff.mp z2
    obtain ⟨v', z5, z6⟩ := Option.bind_eq_some_iff.mp z4
    obtain ⟨e1, e2⟩ := Prod.mk.inj (Option.some.inj z6)
    subst e1; subst e2
    refine opR_chg (w0 := 0) (Mc := M8) (v := v') ?_ (by rw [q10]; exact q5) (by rw [q10]; exact q4) qz h.1.2.2.2.2.1 q15 q16 (fun N9 hs => ?_)
    · have cm : M8.2.1 ≤ M.2.1 + 50 ∧ M8.2.2.1 ≤ M.2.2.1 + 2001 := by rw [q10]; exact ⟨q2, q3⟩
      rw [tX9_close, if_pos (ok3 M), if_pos (T_x h.1.1), (c_cursorOf h _).1 c hc h0 rfl, Option.bind_some]
      simp only [Sum.elim_inl]
      rw [A_hi h, Option.bind_some, A_no h, Option.bind_some, if_pos (ok4 M), if_pos (T_hi h.1.1), q1, Option.bind_some, z1, Option.bind_some, z3, Option.bind_some, z5, Option.bind_some, if_pos cm]
    · obtain ⟨F1, F2, w0, t1, t2, t3, t4, t5⟩ := q17 N9 hs
      refine ⟨F2, ?_, t3, t4⟩
      have rM : rOk N9 r F := hs.ok q16
      rw [tX10_close, if_pos r_tag, (r_noCursor rM _).1 c hc h0 rfl, Option.bind_some, if_pos rfl, if_pos r_tag, t1, Option.bind_some, ← t5]
      exact t2
  · refine opR_thr (j := 1) h ?_ (fun M' hr => ?_)
    · rw [tX9_close, if_pos (ok3 M), if_pos (T_x h.1.1), (c_cursorOf h s).2 g, Option.bind_some]; rfl
    · rw [tX10_close, if_pos r_tag, (r_noCursor hr _).2 g, Option.bind_some, if_neg n10]; rfl
/-- step -/
theorem O_step {Gs : Nat → Nat} (h : simD M x r G F a d C u hz n k) (w : wf M) (s : Int32) : opR x r M (tX9_step Gs x s M) (fun M' => tX10_step r s M') mp1 := by
  have hP := D_p h
  have hb := D_b h
  rcases arg_u hP s with ⟨c, hc, h0, rfl⟩ | g
  · obtain ⟨M1, G1, Mc, v, C2, q1, q2, q3, q4, q5, q6, q7, q8, q9, q10, q11, q12, q13, q14, q15, q16, qz, q17⟩ := chgOp (Gs := Gs) (tcf := fun N => (gI N (a + (44 + c)) 3 1).bind fun v7 => if v7 = 0 then some ((-1 : Int32), N) else tX5_meetNext a (a + (44 + c)) N)
        (trf := fun N => if (N.1 r).1 = 12 then ((tX10_ofCursor r (Int32.ofNat c) 1 N).bind fun z4 => (tX10_step_L21 r (Int32.ofNat c) z4 vF N).bind fun z39 => Sum.elim (fun r42 => some (r42, z39.2)) (fun w40 => tX10_step_J125 r (Int32.ofNat c) z39.2) z39.1) else none) (rel := fun v w => w = v) h w (fun N M' F1 c1 c2 e1 c4 => by
          obtain ⟨C2, F2, v, w1, w2, w3, w4, w5, w6, w7⟩ := step_P (M := N) (M' := M') c1 c2 c4 hc (by unfold oC gt at *; rw [e1]; exact h0)
          refine ⟨C2, F2, k, v, v, ?_, ?_, w3, w4, w5, w6, w7, rfl⟩
          · show ((gI (cv N a C) (a + (44 + c)) 3 1).bind _) = _
            rw [uI hc, Option.bind_some, w1]
          · show (if ((rv M' r F1).1 r).1 = 12 then _ else _) = _
            rw [if_pos r_tag, l1, r_ofCursor c2 hc (by omega), Option.bind_some]
            exact w2)
    obtain ⟨v7, z1, z2⟩ := Option.bind_eq_some_iff.mp q9
    refine opR_chg (w0 := 0) (Mc := Mc) (v := v) ?_ (by rw [q10]; exact q5) (by rw [q10]; exact q4) qz h.1.2.2.2.2.1 q15 q16 (fun N9 hs => ?_)
    · have cm : Mc.2.1 ≤ M.2.1 + 50 ∧ Mc.2.2.1 ≤ M.2.2.1 + 2001 := by rw [q10]; exact ⟨q2, q3⟩
      rw [tX9_step, if_pos (ok3 M), if_pos (T_x h.1.1), (c_cursorOf h _).1 c hc h0 rfl, Option.bind_some]
      simp only [Sum.elim_inl]
      rw [A_hi h, Option.bind_some, A_no h, Option.bind_some, if_pos (ok4 M), if_pos (T_hi h.1.1), q1, Option.bind_some, z1, Option.bind_some]
      by_cases q : v7 = 0
      · rw [if_pos q] at z2 ⊢
        obtain ⟨e1, e2⟩ := Prod.mk.inj (Option.some.inj z2)
        rw [if_pos ⟨q2, q3⟩, e1, e2]
      · rw [if_neg q] at z2 ⊢
        rw [q6, Option.bind_some, if_pos ⟨q2, q3⟩, if_pos (T_b q7), z2, Option.bind_some, if_pos cm]
    · obtain ⟨F1, F2, w0, t1, t2, t3, t4, t5⟩ := q17 N9 hs
      refine ⟨F2, ?_, t3, t4⟩
      have rM : rOk N9 r F := hs.ok q16
      rw [tX10_step, if_pos r_tag, (r_noCursor rM _).1 c hc h0 rfl, Option.bind_some, if_pos rfl, if_pos r_tag, t1, Option.bind_some, ← t5]
      exact t2
  · refine opR_thr (j := 1) h ?_ (fun M' hr => ?_)
    · rw [tX9_step, if_pos (ok3 M), if_pos (T_x h.1.1), (c_cursorOf h s).2 g, Option.bind_some]; rfl
    · rw [tX10_step, if_pos r_tag, (r_noCursor hr _).2 g, Option.bind_some, if_neg n10]; rfl
/-- removeMet -/
theorem O_removeMet {Gs : Nat → Nat} (h : simD M x r G F a d C u hz n k) (w : wf M) (s : Int32) : opR x r M (tX9_removeMet Gs x s M) (fun M' => tX10_removeMet r s M') mpC := by
  have hP := D_p h
  have hb := D_b h
  have hcO := D_c h
  have hn5 := hP.1.2.2.1.2
  have hu := hP.1.1.2
  rcases arg_u hP s with ⟨c, hc, h0, rfl⟩ | g
  · rcases hP.2.2.2.1 c hc with ⟨g1, -⟩ | ⟨g1, g2, g3, g4, g5, g6, g7, g8, g9, g10, g11, ⟨t, t1, t2⟩, g13, ⟨l, l1', l2'⟩⟩
    · rw [g1] at h0; exact absurd h0 (by decide)
    have ht5 : t < 5 := by omega
    have J37 : tX9_removeMet_J37 M.2.1 M.2.2.1 M = some (.inr 2, M) := if_pos (ok3 M)
    have cl : tX9_removeMet Gs x (Int32.ofNat c) M = if oC F c 3 = 0 then some (.inr 2, M) else ((tX7_has (a + (4 + 8 * t)) (Int32.ofNat l - 1) M).bind fun z11 => if z11 = 0 then some (.inr 2, M) else
        ((tX8_remember Gs (x + 3) a M).bind fun z15 => (gA z15.2 x 11 3).bind fun a16 => (gI z15.2 (a + (44 + c)) 3 3).bind fun v17 => if z15.2.2.1 + 0 ≤ M.2.1 + 50 ∧ z15.2.2.2.1 + 0 ≤ M.2.2.1 + 2001 then (if (z15.2.1 a16).1 = 8 then ((tX5_takeOut a16 v17 (Int32.ofNat l - 1) z15.2).bind fun z18 => if z18.2.2.1 ≤ M.2.1 + 50 ∧ z18.2.2.2.1 ≤ M.2.2.1 + 2001 then some (Sum.inl (Int32.ofNat l - 1), z18.2) else none) else none) else none)) := by
      rw [tX9_removeMet, if_pos (ok3 M), if_pos (T_x h.1.1), (c_cursorOf h _).1 c hc h0 rfl, Option.bind_some]
      simp only [Sum.elim_inl]
      rw [B_uI hb hc, Option.bind_some, B_uI hb hc, Option.bind_some, g3, g9, l2', J37]
      by_cases q : oC F c 3 = 0
      · rw [if_pos q, if_pos q]
      · rw [if_neg q, if_neg q, A_no h, Option.bind_some, B_A0 hb hcO, Option.bind_some, B_uI hb hc, Option.bind_some, g5, t2, B_S hb hcO ht5, Option.bind_some, if_pos (ok5 M), if_pos (B_tR hb ht5), A_hi h]
        congr 1
        funext z11
        by_cases q2 : z11 = 0
        · rw [if_pos q2, if_pos q2]
        · rw [if_neg q2, if_neg q2, Option.bind_some, Option.bind_some, if_pos (ok4 M), if_pos (T_hi h.1.1)]
    have rd : ∀ {M' : vMe}, rOk M' r F → tX10_removeMet r (Int32.ofNat c) (rv M' r F) = if Int32.ofNat l - 1 = -1 then tX10_removeMet_J42 r (Int32.ofNat t) (Int32.ofNat l - 1) r (rv M' r (Fth F 0)) else (if oC F c 3 = 0 then tX10_removeMet_J42 r (Int32.ofNat t) (Int32.ofNat l - 1) r (rv M' r (Fth F 0)) else tX10_removeMet_J47 r (Int32.ofNat t) (Int32.ofNat l - 1) r 0 (rv M' r (Fth F 0))) := fun hr => by
      rw [tX10_removeMet, if_pos r_tag, (r_noCursor hr _).1 c hc h0 rfl, Option.bind_some, if_pos rfl, if_pos r_tag, show ∀ N', tX10_ofCursor r (Int32.ofNat c) 1 N' = tX10_ofCursor r (Int32.ofNat c) (Int32.ofNat 1) N' from fun _ => rfl, r_ofCursor (Fth_ok hr) hc (by omega), Option.bind_some, if_pos r_tag, l7, r_ofCursor (Fth_ok hr) hc (by omega), Option.bind_some, Fth_C, Fth_C, l2', t2, if_pos r_tag, l3, r_ofCursor (Fth_ok hr) hc (by omega), Option.bind_some, Fth_C]
    have J42 : ∀ {M' : vMe}, rOk M' r F → tX10_removeMet_J42 r (Int32.ofNat t) (Int32.ofNat l - 1) r (rv M' r (Fth F 0)) = some (0, rv M' r (Fth F 2)) := fun hr => by
      rw [tX10_removeMet_J42, tX10_removeMet_J47, if_pos r_tag, r_thJ hr, Option.bind_some, if_neg n10]
    by_cases q : oC F c 3 = 0
    · refine opR_thr (j := 2) h (by rw [cl, if_pos q]) (fun M' hr => ?_)
      rw [rd hr]
      by_cases q2 : Int32.ofNat l - 1 = -1
      · rw [if_pos q2, J42 hr]; rfl
      · rw [if_neg q2, if_pos q, J42 hr]; rfl
    · by_cases l0' : l = 0
      · subst l0'
        have em : Int32.ofNat 0 - 1 = -1 := by decide
        rcases c_hasW h t1 (Int32.ofNat 0 - 1) with ⟨e, -⟩ | ⟨y, y1, y2, -⟩
        · refine opR_thr (j := 2) h (by rw [cl, if_neg q, e, Option.bind_some, if_pos rfl]) (fun M' hr => ?_)
          rw [rd hr, if_pos em, J42 hr]; rfl
        · rw [em] at y2
          have := n_neg (a := y) (by omega)
          rw [← y2] at this
          exact absurd (by decide) this
      · have ep : Int32.ofNat l - 1 = Int32.ofNat (l - 1) := n_pred (by omega)
        have nm : ¬ Int32.ofNat l - 1 = -1 := fun e => by have := n_neg (a := l - 1) (by omega); rw [← ep, e] at this; exact this (by decide)
        have rJ : ∀ {M' : vMe}, rOk M' r F → tX10_removeMet r (Int32.ofNat c) (rv M' r F) = ((tX10_isMember r (Int32.ofNat t) (Int32.ofNat (l - 1)) (rv M' r (Fth F 0))).bind fun z8 => if z8 = 0 then tX10_removeMet_J69 r (Int32.ofNat t) (Int32.ofNat (l - 1)) r 1 (rv M' r (Fth F 0)) else tX10_removeMet_J69 r (Int32.ofNat t) (Int32.ofNat (l - 1)) r 0 (rv M' r (Fth F 0))) := fun hr => by
          rw [rd hr, if_neg nm, if_neg q, tX10_removeMet_J47, if_pos r_tag, r_thr0, Option.bind_some, if_pos rfl, if_pos r_tag, ep]
        rcases c_hasW h t1 (Int32.ofNat l - 1) with ⟨e, g⟩ | ⟨y, y1, y2, y3, e⟩
        · refine opR_thr (j := 2) h (by rw [cl, if_neg q, e, Option.bind_some, if_pos rfl]) (fun M' hr => ?_)
          rw [rJ hr, (r_isMS h hr t1 (show l - 1 < 64 by omega)).2 (g (l - 1) (by omega) ep), Option.bind_some, if_pos rfl, tX10_removeMet_J69, if_pos r_tag, r_thJ hr, Option.bind_some, if_neg n10]; rfl
        · have ey : y = l - 1 := (n_eq (by omega) (by omega)).mp (y2.symm.trans ep)
          have yu := isM_lt (hP.2.2.2.2.2 t t1).2 hu.2 y1 y3
          subst ey
          obtain ⟨M1, G1, Mc, v, C2, q1, q2, q3, q4, q5, q6, q7, q8, q9, q10, q11, q12, q13, q14, q15, q16, qz, q17⟩ := chgOp (Gs := Gs) (tcf := fun N => tX5_takeOut a (Int32.ofNat t) (Int32.ofNat (l - 1)) N)
            (trf := fun N => if (N.1 r).1 = 12 then ((tX10_goes r (Int32.ofNat t) (Int32.ofNat (l - 1)) N).bind fun z13 => some (Int32.ofNat (l - 1), z13.2)) else none) (rel := fun _ w => w = Int32.ofNat (l - 1)) h w (fun N M' F1 c1 c2 e1 c4 => by
              have m1 : isM F1 t (l - 1) := (isM_congr (fun w _ => by unfold oS gt; rw [e1]) y1).mpr y3
              obtain ⟨C2, F2, w1, w2, w3, w4, w5, w6, w7, -⟩ := go_P (M := N) (M' := M') c1 c2 c4 t1 yu m1
              refine ⟨C2, F2, k, 1, Int32.ofNat (l - 1), w1, ?_, w3, w4, w5, w6, w7, rfl⟩
              show (if ((rv M' r F1).1 r).1 = 12 then _ else _) = _
              rw [if_pos r_tag, w2, Option.bind_some])
          refine opR_chg (w0 := 0) (Mc := Mc) (v := Int32.ofNat (l - 1)) ?_ (by rw [q10]; exact q5) (by rw [q10]; exact q4) qz h.1.2.2.2.2.1 q15 q16 (fun N9 hs => ?_)
          · have cm : Mc.2.1 ≤ M.2.1 + 50 ∧ Mc.2.2.1 ≤ M.2.2.1 + 2001 := by rw [q10]; exact ⟨q2, q3⟩
            have q9' : tX5_takeOut a (Int32.ofNat t) (Int32.ofNat (l - 1)) M1 = some (v, Mc) := q9
            rw [cl, if_neg q, e, Option.bind_some, if_neg n10, q1, Option.bind_some, q6, Option.bind_some, B_uI q7 hc, Option.bind_some, g5, t2, if_pos ⟨q2, q3⟩, if_pos (T_b q7), ep, q9', Option.bind_some, if_pos cm]
          · obtain ⟨F1, F2, w0, s1, s2, s3, s4, s5⟩ := q17 N9 hs
            refine ⟨F2, ?_, s3, s4⟩
            have rM : rOk N9 r F := hs.ok q16
            rw [rJ rM, (r_isMS h rM t1 y1).1 y3, Option.bind_some, if_neg n10, tX10_removeMet_J69, if_pos r_tag, r_thr0, Option.bind_some, if_pos rfl, if_pos r_tag, s1, Option.bind_some, ← s5]
            rw [s5]
            rw [s5] at s2
            exact s2
  · refine opR_thr (j := 1) h ?_ (fun M' hr => ?_)
    · rw [tX9_removeMet, if_pos (ok3 M), if_pos (T_x h.1.1), (c_cursorOf h s).2 g, Option.bind_some]; rfl
    · rw [tX10_removeMet, if_pos r_tag, (r_noCursor hr _).2 g, Option.bind_some, if_neg n10]; rfl
/-- keep -/
theorem O_keep {Gs : Nat → Nat} (h : simD M x r G F a d C u hz n k) (w : wf M) (s o : Int32) : opR x r M (tX9_keep Gs x s o M) (fun M' => tX10_keep r s o M') mp1 := by
  have hP := D_p h
  have hb := D_b h
  have hn5 := hP.1.2.2.1.2
  rcases arg_2 s o (n := n) (by omega) with ⟨i, j, hi, hj, rfl, rfl⟩ | g
  · obtain ⟨M1, G1, Mc, v, C2, q1, q2, q3, q4, q5, q6, q7, q8, q9, q10, q11, q12, q13, q14, q15, q16, qz, q17⟩ := chgOp (Gs := Gs) (tcf := fun N => tX5_keepCommon a (Int32.ofNat i) (Int32.ofNat j) N)
        (trf := fun N => if (N.1 r).1 = 12 then ((tX10_of r (Int32.ofNat i) 0 N).bind fun z4 => (tX10_keep_L27 r (Int32.ofNat i) (Int32.ofNat j) vF 0 (z4 - 1) N).bind fun z15 => some (z15.1, z15.2)) else none) (rel := fun v w => w = v) h w (fun N M' F1 c1 c2 e1 c4 => by
          obtain ⟨C2, F2, v, w1, w2, w3, w4, w5, w6, w7⟩ := keep_P (M := N) (M' := M') hi hj c1 c2 c4
          refine ⟨C2, F2, k, v, v, w1, ?_, w3, w4, w5, w6, w7, rfl⟩
          show (if ((rv M' r F1).1 r).1 = 12 then _ else _) = _
          rw [if_pos r_tag, show tX10_of r (Int32.ofNat i) 0 (rv M' r F1) = some (oS F1 i 0) from r_of (w := 0) c2 (by omega) (by omega), Option.bind_some, w2, Option.bind_some])
    refine opR_chg (w0 := 0) (Mc := Mc) (v := v) ?_ (by rw [q10]; exact q5) (by rw [q10]; exact q4) qz h.1.2.2.2.2.1 q15 q16 (fun N9 hs => ?_)
    · have cm : Mc.2.1 ≤ M.2.1 + 50 ∧ Mc.2.2.1 ≤ M.2.2.1 + 2001 := by rw [q10]; exact ⟨q2, q3⟩
      have q9' : tX5_keepCommon a (Int32.ofNat i) (Int32.ofNat j) M1 = some (v, Mc) := q9
      rw [tX9_keep, if_pos (ok3 M), if_pos (T_x h.1.1), (c_checkSet h _).1 i hi rfl, Option.bind_some]
      simp only [Sum.elim_inl]
      rw [if_pos (ok3 M), if_pos (T_x h.1.1), (c_checkSet h _).1 j hj rfl, Option.bind_some]
      simp only [Sum.elim_inl]
      rw [A_hi h, Option.bind_some, A_no h, Option.bind_some, if_pos (ok4 M), if_pos (T_hi h.1.1), q1, Option.bind_some, q6, Option.bind_some, if_pos ⟨q2, q3⟩, if_pos (T_b q7), q9', Option.bind_some, if_pos cm]
    · obtain ⟨F1, F2, w0, t1, t2, t3, t4, t5⟩ := q17 N9 hs
      refine ⟨F2, ?_, t3, t4⟩
      have rM : rOk N9 r F := hs.ok q16
      rw [tX10_keep, if_pos r_tag, (r_noSetsS h rM _ _).1 i j hi hj rfl rfl, Option.bind_some, if_pos rfl, if_pos r_tag, t1, Option.bind_some, ← t5]
      exact t2
  · refine opR_thr (j := 1) h ?_ (fun M' hr => ?_)
    · rcases g with g | ⟨⟨i, hi, rfl⟩, g⟩
      · rw [tX9_keep, if_pos (ok3 M), if_pos (T_x h.1.1), (c_checkSet h s).2 g, Option.bind_some]; rfl
      · rw [tX9_keep, if_pos (ok3 M), if_pos (T_x h.1.1), (c_checkSet h _).1 i hi rfl, Option.bind_some]
        simp only [Sum.elim_inl]
        rw [if_pos (ok3 M), if_pos (T_x h.1.1), (c_checkSet h _).2 g, Option.bind_some]
        rfl
    · rw [tX10_keep, if_pos r_tag, (r_noSetsS h hr _ _).2 g, Option.bind_some, if_neg n10]; rfl
/-- unite -/
theorem O_unite {Gs : Nat → Nat} (h : simD M x r G F a d C u hz n k) (w : wf M) (s o : Int32) : opR x r M (tX9_unite Gs x s o M) (fun M' => tX10_unite r s o M') mp1 := by
  have hP := D_p h
  have hb := D_b h
  have hn5 := hP.1.2.2.1.2
  rcases arg_2 s o (n := n) (by omega) with ⟨i, j, hi, hj, rfl, rfl⟩ | g
  · obtain ⟨M1, G1, Mc, v, C2, q1, q2, q3, q4, q5, q6, q7, q8, q9, q10, q11, q12, q13, q14, q15, q16, qz, q17⟩ := chgOp (Gs := Gs) (tcf := fun N => tX5_bringAll a (Int32.ofNat i) (Int32.ofNat j) N)
        (trf := fun N => if (N.1 r).1 = 12 then ((tX10_of r (Int32.ofNat i) 0 N).bind fun z4 => (tX10_unite_L25 r (Int32.ofNat i) (Int32.ofNat j) z4 vF 0 N).bind fun z15 => tX10_unite_J62 r (Int32.ofNat i) z4 z15.2) else none) (rel := fun v w => w = v) h w (fun N M' F1 c1 c2 e1 c4 => by
          obtain ⟨C2, F2, v, w1, w2, w3, w4, w5, w6, w7⟩ := unite_P (M := N) (M' := M') hi hj c1 c2 c4
          refine ⟨C2, F2, k, v, v, w1, ?_, w3, w4, w5, w6, w7, rfl⟩
          show (if ((rv M' r F1).1 r).1 = 12 then _ else _) = _
          rw [if_pos r_tag, show tX10_of r (Int32.ofNat i) 0 (rv M' r F1) = some (oS F1 i 0) from r_of (w := 0) c2 (by omega) (by omega), Option.bind_some, w2])
    refine opR_chg (w0 := 0) (Mc := Mc) (v := v) ?_ (by rw [q10]; exact q5) (by rw [q10]; exact q4) qz h.1.2.2.2.2.1 q15 q16 (fun N9 hs => ?_)
    · have cm : Mc.2.1 ≤ M.2.1 + 50 ∧ Mc.2.2.1 ≤ M.2.2.1 + 2001 := by rw [q10]; exact ⟨q2, q3⟩
      have q9' : tX5_bringAll a (Int32.ofNat i) (Int32.ofNat j) M1 = some (v, Mc) := q9
      rw [tX9_unite, if_pos (ok3 M), if_pos (T_x h.1.1), (c_checkSet h _).1 i hi rfl, Option.bind_some]
      simp only [Sum.elim_inl]
      rw [if_pos (ok3 M), if_pos (T_x h.1.1), (c_checkSet h _).1 j hj rfl, Option.bind_some]
      simp only [Sum.elim_inl]
      rw [A_hi h, Option.bind_some, A_no h, Option.bind_some, if_pos (ok4 M), if_pos (T_hi h.1.1), q1, Option.bind_some, q6, Option.bind_some, if_pos ⟨q2, q3⟩, if_pos (T_b q7), q9', Option.bind_some, if_pos cm]
    · obtain ⟨F1, F2, w0, t1, t2, t3, t4, t5⟩ := q17 N9 hs
      refine ⟨F2, ?_, t3, t4⟩
      have rM : rOk N9 r F := hs.ok q16
      rw [tX10_unite, if_pos r_tag, (r_noSetsS h rM _ _).1 i j hi hj rfl rfl, Option.bind_some, if_pos rfl, if_pos r_tag, t1, Option.bind_some, ← t5]
      exact t2
  · refine opR_thr (j := 1) h ?_ (fun M' hr => ?_)
    · rcases g with g | ⟨⟨i, hi, rfl⟩, g⟩
      · rw [tX9_unite, if_pos (ok3 M), if_pos (T_x h.1.1), (c_checkSet h s).2 g, Option.bind_some]; rfl
      · rw [tX9_unite, if_pos (ok3 M), if_pos (T_x h.1.1), (c_checkSet h _).1 i hi rfl, Option.bind_some]
        simp only [Sum.elim_inl]
        rw [if_pos (ok3 M), if_pos (T_x h.1.1), (c_checkSet h _).2 g, Option.bind_some]
        rfl
    · rw [tX10_unite, if_pos r_tag, (r_noSetsS h hr _ _).2 g, Option.bind_some, if_neg n10]; rfl
end
