section
variable {M : vMe} {x r a d : Nat} {G F C : Nat → Nat → Value} {u hz n k : Nat}
/-- truth values are truth values -/
def wf (M : vMe) : Prop := ∀ q, (M.1 q).1 = 3 → ∀ k, k < 3 → fits .boolean ((M.1 q).2.2 k) = true
theorem wf_bz (w : wf M) (h : hB M a C) : bz C := fun c hc k hk => by
  have e : M.1 (a + (44 + c)) = (3, 0, C (44 + c)) := by rw [h _ (by omega), cT_c hc]
  have g := w (a + (44 + c)) (by rw [e]) k hk
  rw [e] at g
  have g2 := vI_of g (.inr (.inl rfl))
  unfold gt
  rw [← g2]; exact g
theorem rv_cv_rv {F1 F2 C2 : Nat → Nat → Value} : rv (cv (rv M r F1) a C2) r F2 = rv (cv M a C2) r F2 := by
  refine Prod.ext (funext fun q => ?_) rfl
  by_cases g : r ≤ q ∧ q < r + 10
  · simp [rv, g]
  · rw [rv_out g, rv_out g]
    by_cases g2 : a ≤ q ∧ q < a + 50
    · simp [cv, g2]
    · rw [cv_out g2, cv_out g2, rv_out g]
theorem X_no (hg : hG M x G) (e : G 0 3 = .ref a) : gA M x 11 3 = some a := by rw [← hg.eq]; exact g_gA (i := 0) (by omega) rfl e
theorem kpF_of {F1 : Nat → Nat → Value} {cnt c1 sh : Nat} (hc : (cnt < 10 ∧ c1 = cnt ∧ sh = 0) ∨ (cnt = 10 ∧ c1 = 9 ∧ sh = 1)) (h1 : gt F1 0 18 = Int32.ofNat (c1 + 1)) (h2 : ∀ l, l < 1952 → gt F1 7 (1952 * c1 + l) = gt (Fth F 0) 1 l) (h3 : ∀ j l, j < c1 → l < 1952 → gt F1 7 (1952 * j + l) = gt (Fth F 0) 7 (1952 * (j + sh) + l))
    (h4 : ∀ i', i' ≠ 7 → i' ≠ 0 → F1 i' = (Fth F 0) i') (h5 : ∀ l, l ≠ 18 → F1 0 l = (Fth F 0) 0 l) : kpF F F1 cnt c1 sh :=
  ⟨hc, h1, fun l hl => by rw [h2 l hl, Fth_gt (.inl (by omega))], fun j l hj hl => by rw [h3 j l hj hl, Fth_gt (.inl (by omega))], fun i h6 h7 => by rw [h4 i h6 h7, Fth_r h7], fun l h6 h7 => by rw [h5 l h6]; unfold Fth; rw [pu_ne (by omega)]⟩
/-- a change, on both sides -/
theorem chgOp {α β : Type} {Gs : Nat → Nat} {tcf : vMe → Option (α × vMe)} {trf : vMe → Option (β × vMe)} {rel : α → β → Prop} (h : simD M x r G F a d C u hz n k) (w : wf M)
    (P : ∀ (N M' : vMe) (F1 : Nat → Nat → Value), cOk N a C → rOk M' r F1 → F1 1 = F 1 → simP C F1 u hz n k → ∃ C2 F2 k2 v w, tcf (cv N a C) = some (v, cv N a C2) ∧ trf (rv M' r F1) = some (w, rv M' r F2) ∧ cOk N a C2 ∧ rOk M' r F2 ∧ kF F1 F2 ∧ kN C C2 ∧ simP C2 F2 u hz n k2 ∧ rel v w) :
    ∃ M1 G1 Mc v C2, tX8_remember Gs (x + 3) a M = some ((), M1) ∧ M1.2.1 ≤ M.2.1 + 50 ∧ M1.2.2.1 ≤ M.2.2.1 + 2001 ∧ M.2.1 ≤ M1.2.1 ∧ M1.2.2.2 = M.2.2.2 ∧ gA M1 x 11 3 = some a ∧ hB M1 a C ∧ cOk M1 a C ∧ tcf M1 = some (v, Mc) ∧ Mc.2 = M1.2 ∧ hG Mc x G1 ∧ gA Mc x 11 3 = some a ∧ hB Mc a C2 ∧ cOk Mc a C2 ∧ hR Mc r F ∧ rOk Mc r F ∧
      zk x r M Mc ∧ ∀ N, slk r Mc N → ∃ F1 F2 w, tX10_keeps r (rv N r (Fth F 0)) = some ((), rv N r F1) ∧ trf (rv N r F1) = some (w, rv N r F2) ∧ SimX x r (rv N r F2) ∧ gt F2 0 0 = 0 ∧ rel v w := by
  have a5 : x + 8 ≤ r := h.1.2.2.2.2.1
  obtain ⟨M1, G1, cnt, m1, m2, m3, m4, m5, m6, m7, m8, m9, m10, m11, m12, m13, m14, m15, m16, m18, m17⟩ := remember_P (Gs := Gs) h (wf_bz w (D_b h))
  obtain ⟨C2, F0, k0, v, w0, p1, -, p3, -⟩ := P M1 M1 F m12 m14 rfl (D_p h)
  rw [m11.eq] at p1
  have hgc : hG (cv M1 a C2) x G1 := m9.cv (.inl m15)
  refine ⟨M1, G1, cv M1 a C2, v, C2, m1, m5, m6, m4, m7, X_no m9 (by rw [m8]; exact h.2.1.1), m11, m12, p1, rfl, hgc, X_no hgc (by rw [m8]; exact h.2.1.1), hB_cv, p3, m13.cv (by omega), m14, fun q hq => by rw [cv_out (by omega)]; exact m18 q hq, fun N hs => ?_⟩
  have rM : rOk N r F := hs.ok (M := cv M1 a C2) m14
  obtain ⟨F1, c1, sh, q1, q2, q3, q4, q5, q6, q7, q8⟩ := r_keeps (M := N) (c := cnt) (Fth_ok (c := 0) rM) (by rw [Fth_gt (.inr (by omega))]; exact m2) m3
  have e1 : F1 1 = F 1 := by rw [q7 1 (by omega) (by omega), Fth_r (by omega)]
  obtain ⟨C3, F2, k2, v3, w3, t1, t2, t3, t4, t5, t6, t7, t8⟩ := P M1 N F1 m12 q2 e1 (simP_row (D_p h) (fun l _ => by unfold gt; rw [e1]))
  rw [m11.eq] at t1
  obtain ⟨ev, em⟩ := Prod.mk.inj (Option.some.inj (p1.symm.trans t1))
  subst ev
  refine ⟨F1, F2, w3, q1, t2, ?_, ?_, t8⟩
  · have s1 := m17 F1 c1 sh (kpF_of q3 q4 q5 q6 q7 q8) ⟨m14.1, q2.2⟩
    have s2 := simD_now (F2 := F2) (C2 := C3) s1 t3 ⟨m14.1, t4.2⟩ t5 t6 t7
    rw [rv_cv_rv, ← em] at s2
    exact ⟨_, _, _, _, _, _, _, _, _, simD_slk s2 hs⟩
  · have g1 := t5 0 (by omega) (by omega)
    unfold gt
    rw [g1, q8 0 (by omega)]
    exact Fth_at
theorem ok3 (M : vMe) : M.2.1 + 1 ≤ M.2.1 + 50 ∧ M.2.2.1 + 6 ≤ M.2.2.1 + 2001 := ⟨Nat.add_le_add_left (by decide) _, Nat.add_le_add_left (by decide) _⟩
theorem ok4 (M : vMe) : M.2.1 + 50 ≤ M.2.1 + 50 ∧ M.2.2.1 + 2001 ≤ M.2.2.1 + 2001 := ⟨Nat.le_refl _, Nat.le_refl _⟩
theorem ok5 (M : vMe) : M.2.1 + 0 ≤ M.2.1 + 50 ∧ M.2.2.1 + 0 ≤ M.2.2.1 + 2001 := ⟨Nat.le_add_right _ _, Nat.le_add_right _ _⟩
/-- what a thrown change is -/
theorem opR_thr {tc : Option ((Int32 ⊕ Nat) × vMe)} {tr : vMe → Option (Int32 × vMe)} {mp : Nat → Int32} {j : Nat} (h : simD M x r G F a d C u hz n k) (htc : tc = some (.inr j, M)) (htr : ∀ M', rOk M' r F → tr (rv M' r F) = some (0, rv M' r (Fth F (mp j)))) (hne : mp j ≠ 0 := by decide) : opR x r M tc tr mp :=
  opR_read (z := .inr j) (b := 0) (c := mp j) h htc htr rfl (fun v e => by cases e) (fun i e => by cases e; exact hne)
/-- a change's answer -/
theorem opR_chg {v w0 : Int32} {tc : Option ((Int32 ⊕ Nat) × vMe)} {tr : vMe → Option (Int32 × vMe)} {mp : Nat → Int32} {Mc : vMe} (htc : tc = some (.inl v, Mc)) (hb : Mc.2.2.2 = M.2.2.2) (hm : M.2.1 ≤ Mc.2.1) (hzk : zk x r M Mc) (hxr : x + 8 ≤ r) (hr : hR Mc r F) (rO : rOk Mc r F)
    (K : ∀ N, slk r Mc N → ∃ F2, tr (rv N r F) = some (v, rv N r F2) ∧ SimX x r (rv N r F2) ∧ gt F2 0 0 = 0) : opR x r M tc tr mp := by
  refine ⟨.inl v, Mc, htc, hb, hm, hzk, T_r hr, (fun i e => by cases e), fun N hs => ?_⟩
  obtain ⟨F2, k1, k2, k3⟩ := K N hs
  have e : rv N r F = N := hR.eq (M := N) (hs.hR hr)
  rw [e] at k1
  exact ⟨v, _, k1, rfl, fun q hq => rv_out (by omega), k2, by rw [r_gI, k3]; rfl, fun v' e => Sum.inl.inj e⟩
/-- add -/
theorem O_add {Gs : Nat → Nat} (h : simD M x r G F a d C u hz n k) (w : wf M) (s p : Int32) : opR x r M (tX9_add Gs x s p M) (fun M' => tX10_add r s p M') mpA := by
  have hP := D_p h
  have hb := D_b h
  have hn5 := hP.1.2.2.1.2
  have hu := hP.1.1.2
  rcases arg_c s (n := n) (by omega) with ⟨j, hj, rfl⟩ | g
  · have hj5 : j < 5 := by omega
    rcases arg_c p (n := u) (by omega) with ⟨l, hl, rfl⟩ | g
    · obtain ⟨M1, G1, Mc, v, C2, q1, q2, q3, q4, q5, q6, q7, q8, q9, q10, q11, q12, q13, q14, q15, q16, qz, q17⟩ := chgOp (Gs := Gs) (tcf := fun N => (tX5_bringIn a (a + (4 + 8 * j)) (Int32.ofNat l) N).bind fun z => (tX7_placeOf (a + (4 + 8 * j)) (Int32.ofNat l) z.2).bind fun v => some (v, z.2))
        (trf := fun N => if (N.1 r).1 = 12 then ((tX10_comes r (Int32.ofNat j) (Int32.ofNat l) N).bind fun z8 => if (z8.2.1 r).1 = 12 then ((tX10_of r (Int32.ofNat j) (70 + Int32.ofNat l) z8.2).bind fun z9 => some (z9, z8.2)) else none) else none) (rel := fun v w => w = v) h w (fun N M' F1 c1 c2 _ c4 => by
          obtain ⟨C2, F2, v0, w1, w2, w3, w4, w5, w6, w7, w8, w9, w10, p0, w11, w12, w13⟩ := come_P (M := N) (M' := M') c1 c2 c4 hj hl
          obtain ⟨v, v1, v2⟩ := c_placeOf (M := N) (x := Int32.ofNat l) w3 hj5 (w7.2.2.2.2.2 j hj).2 (w7.2.2.2.2.2 j hj).1 w7.1.1.2.2
          have ev : v = oS F2 j (70 + l) := by
            rcases v2 with ⟨-, g⟩ | ⟨y, y1, y2, y3, y4⟩
            · exact absurd w13 (g l (by omega) rfl)
            · have : l = y := (n_eq (by omega) (by omega)).mp y2
              rw [this]; exact y4
          refine ⟨C2, F2, k, v, v, ?_, ?_, w3, w4, w5, w6, w7, rfl⟩
          · show ((tX5_bringIn a (a + (4 + 8 * j)) (Int32.ofNat l) (cv N a C)).bind _) = _
            rw [w1, Option.bind_some, v1, Option.bind_some]
          · show (if ((rv M' r F1).1 r).1 = 12 then _ else _) = _
            rw [if_pos r_tag, w2, Option.bind_some, if_pos r_tag, l70, n_add, r_of w4 hj5 (by omega), Option.bind_some, ev])
      obtain ⟨z, z1, z2⟩ := Option.bind_eq_some_iff.mp q9
      obtain ⟨v', z3, z4⟩ := Option.bind_eq_some_iff.mp z2
      obtain ⟨e1, e2⟩ := Prod.mk.inj (Option.some.inj z4)
      subst e1
      refine opR_chg (w0 := 0) (Mc := Mc) (v := v') ?_ (by rw [q10]; exact q5) (by rw [q10]; exact q4) qz h.1.2.2.2.2.1 q15 q16 (fun N9 hs => ?_)
      · have cm : Mc.2.1 ≤ M.2.1 + 50 ∧ Mc.2.2.1 ≤ M.2.2.1 + 2001 := by rw [q10]; exact ⟨q2, q3⟩
        rw [tX9_add, if_pos (ok3 M), if_pos (T_x h.1.1), (c_rowsOf h _).1 j hj rfl, Option.bind_some]
        simp only [Sum.elim_inl]
        rw [if_pos (ok3 M), if_pos (T_x h.1.1), (c_checkNumber h _).1 l hl rfl, Option.bind_some]
        simp only [Sum.elim_inl]
        rw [A_hi h, Option.bind_some, A_no h, Option.bind_some, if_pos (ok4 M), if_pos (T_hi h.1.1), q1, Option.bind_some, q6, Option.bind_some, if_pos ⟨q2, q3⟩, if_pos (T_b q7), z1, Option.bind_some, e2, if_pos (show Mc.2.1 + 0 ≤ M.2.1 + 50 ∧ Mc.2.2.1 + 0 ≤ M.2.2.1 + 2001 from cm), if_pos (B_tR q13 hj5)]
        rw [e2] at z3
        rw [z3, Option.bind_some, if_pos cm]
      · obtain ⟨F1, F2, w0, t1, t2, t3, t4, t5⟩ := q17 N9 hs
        refine ⟨F2, ?_, t3, t4⟩
        have rM : rOk N9 r F := hs.ok q16
        rw [tX10_add, if_pos r_tag, (r_noSetS h rM _).1 j hj rfl, Option.bind_some, if_pos rfl, if_pos r_tag, (r_insS h rM _).1 l hl rfl, Option.bind_some, if_neg n10, tX10_add_J22, if_pos r_tag, r_thr0, Option.bind_some, if_pos rfl, if_pos r_tag, t1, Option.bind_some, ← t5]
        exact t2
    · refine opR_thr (j := 0) h ?_ (fun M' hr => ?_)
      · rw [tX9_add, if_pos (ok3 M), if_pos (T_x h.1.1), (c_rowsOf h _).1 j hj rfl, Option.bind_some]
        simp only [Sum.elim_inl]
        rw [if_pos (ok3 M), if_pos (T_x h.1.1), (c_checkNumber h _).2 g, Option.bind_some]
        rfl
      · rw [tX10_add, if_pos r_tag, (r_noSetS h hr _).1 j hj rfl, Option.bind_some, if_pos rfl, if_pos r_tag, (r_insS h hr _).2 g, Option.bind_some, if_pos rfl, tX10_add_J22, if_pos r_tag, r_thJ hr, Option.bind_some, if_neg n10]
        rfl
  · refine opR_thr (j := 1) h ?_ (fun M' hr => ?_)
    · rw [tX9_add, if_pos (ok3 M), if_pos (T_x h.1.1), (c_rowsOf h s).2 g, Option.bind_some]; rfl
    · rw [tX10_add, if_pos r_tag, (r_noSetS h hr _).2 g, Option.bind_some, if_neg n10]; rfl
/-- remove -/
theorem O_remove {Gs : Nat → Nat} (h : simD M x r G F a d C u hz n k) (w : wf M) (s p : Int32) : opR x r M (tX9_remove Gs x s p M) (fun M' => tX10_remove r s p M') mpA := by
  have hP := D_p h
  have hb := D_b h
  have hn5 := hP.1.2.2.1.2
  have hu := hP.1.1.2
  rcases arg_c s (n := n) (by omega) with ⟨j, hj, rfl⟩ | g
  · have hj5 : j < 5 := by omega
    rcases arg_c p (n := u) (by omega) with ⟨l, hl, rfl⟩ | g
    · obtain ⟨M1, G1, Mc, v, C2, q1, q2, q3, q4, q5, q6, q7, q8, q9, q10, q11, q12, q13, q14, q15, q16, qz, q17⟩ := chgOp (Gs := Gs) (tcf := fun N => tX5_takeOut a (Int32.ofNat j) (Int32.ofNat l) N)
        (trf := fun N => if (N.1 r).1 = 12 then ((tX10_isMember r (Int32.ofNat j) (Int32.ofNat l) N).bind fun z8 => if z8 = 0 then (if fits .boolean (.int z8) = true then some (z8, N) else none) else (if (N.1 r).1 = 12 then ((tX10_goes r (Int32.ofNat j) (Int32.ofNat l) N).bind fun z10 => if fits .boolean (.int z8) = true then some (z8, z10.2) else none) else none)) else none) (rel := fun v w => w = v ∧ (v = 0 ∨ v = 1)) h w (fun N M' F1 c1 c2 _ c4 => by
          have im := r_isM (x := l) c2 hj5 (by omega) (c4.2.2.2.2.2 j hj).2 hu.2
          by_cases g : isM F1 j l
          · obtain ⟨C2, F2, w1, w2, w3, w4, w5, w6, w7, -⟩ := go_P (M := N) (M' := M') c1 c2 c4 hj hl g
            refine ⟨C2, F2, k, 1, 1, w1, ?_, w3, w4, w5, w6, w7, rfl, .inr rfl⟩
            show (if ((rv M' r F1).1 r).1 = 12 then _ else _) = _
            rw [if_pos r_tag, im.1 g, Option.bind_some, if_neg n10, if_pos r_tag, w2, Option.bind_some, if_pos fz1]
          · refine ⟨C, F1, k, 0, 0, c_takeOut_no c1 hj5 (c4.2.2.2.2.2 j hj).2 (c4.2.2.2.2.2 j hj).1 hu.2 (by omega) g, ?_, c1, c2, kF.rf, kN.rf, c4, rfl, .inl rfl⟩
            show (if ((rv M' r F1).1 r).1 = 12 then _ else _) = _
            rw [if_pos r_tag, im.2 g, Option.bind_some, if_pos rfl, if_pos fz0])
      have hv : v = 0 ∨ v = 1 := by
        obtain ⟨F1, F2, w0, -, -, -, -, -, t5⟩ := q17 Mc ⟨rfl, Nat.le_refl _, fun _ _ _ => rfl⟩
        exact t5
      refine opR_chg (w0 := 0) (Mc := Mc) (v := v) ?_ (by rw [q10]; exact q5) (by rw [q10]; exact q4) qz h.1.2.2.2.2.1 q15 q16 (fun N9 hs => ?_)
      · have cm : Mc.2.1 ≤ M.2.1 + 50 ∧ Mc.2.2.1 ≤ M.2.2.1 + 2001 := by rw [q10]; exact ⟨q2, q3⟩
        have q9' : tX5_takeOut a (Int32.ofNat j) (Int32.ofNat l) M1 = some (v, Mc) := q9
        rw [tX9_remove, if_pos (ok3 M), if_pos (T_x h.1.1), (c_checkSet h _).1 j hj rfl, Option.bind_some]
        simp only [Sum.elim_inl]
        rw [if_pos (ok3 M), if_pos (T_x h.1.1), (c_checkNumber h _).1 l hl rfl, Option.bind_some]
        simp only [Sum.elim_inl]
        rw [A_hi h, Option.bind_some, A_no h, Option.bind_some, if_pos (ok4 M), if_pos (T_hi h.1.1), q1, Option.bind_some, q6, Option.bind_some, if_pos ⟨q2, q3⟩, if_pos (T_b q7), q9', Option.bind_some, if_pos cm, if_pos (show fits .boolean (.int v) = true from by rcases hv with e | e <;> (rw [e]; decide))]
      · obtain ⟨F1, F2, w0, t1, t2, t3, t4, t5, -⟩ := q17 N9 hs
        refine ⟨F2, ?_, t3, t4⟩
        have rM : rOk N9 r F := hs.ok q16
        rw [tX10_remove, if_pos r_tag, (r_noSetS h rM _).1 j hj rfl, Option.bind_some, if_pos rfl, if_pos r_tag, (r_insS h rM _).1 l hl rfl, Option.bind_some, if_neg n10, tX10_remove_J22, if_pos r_tag, r_thr0, Option.bind_some, if_pos rfl, if_pos r_tag, t1, Option.bind_some, ← t5]
        exact t2
    · refine opR_thr (j := 0) h ?_ (fun M' hr => ?_)
      · rw [tX9_remove, if_pos (ok3 M), if_pos (T_x h.1.1), (c_checkSet h _).1 j hj rfl, Option.bind_some]
        simp only [Sum.elim_inl]
        rw [if_pos (ok3 M), if_pos (T_x h.1.1), (c_checkNumber h _).2 g, Option.bind_some]
        rfl
      · rw [tX10_remove, if_pos r_tag, (r_noSetS h hr _).1 j hj rfl, Option.bind_some, if_pos rfl, if_pos r_tag, (r_insS h hr _).2 g, Option.bind_some, if_pos rfl, tX10_remove_J22, if_pos r_tag, r_thJ hr, Option.bind_some, if_neg n10]
        rfl
  · refine opR_thr (j := 1) h ?_ (fun M' hr => ?_)
    · rw [tX9_remove, if_pos (ok3 M), if_pos (T_x h.1.1), (c_checkSet h s).2 g, Option.bind_some]; rfl
    · rw [tX10_remove, if_pos r_tag, (r_noSetS h hr _).2 g, Option.bind_some, if_neg n10]; rfl
/-- clear -/
theorem O_clear {Gs : Nat → Nat} (h : simD M x r G F a d C u hz n k) (w : wf M) (s : Int32) : opR x r M (tX9_clear Gs x s M) (fun M' => tX10_clear r s M') mp1 := by
  have hP := D_p h
  have hb := D_b h
  have hn5 := hP.1.2.2.1.2
  rcases arg_c s (n := n) (by omega) with ⟨j, hj, rfl⟩ | g
  · have hj5 : j < 5 := by omega
    obtain ⟨M1, G1, Mc, v, C2, q1, q2, q3, q4, q5, q6, q7, q8, q9, q10, q11, q12, q13, q14, q15, q16, qz, q17⟩ := chgOp (Gs := Gs) (tcf := fun N => tX5_emptySet a (Int32.ofNat j) N)
        (trf := fun N => if (N.1 r).1 = 12 then ((tX10_of r (Int32.ofNat j) 0 N).bind fun z4 => if (N.1 r).1 = 12 then ((tX10_clears r (Int32.ofNat j) N).bind fun z5 => some (z4, z5.2)) else none) else none) (rel := fun _ w => w = oS F j 0) h w (fun N M' F1 c1 c2 e1 c4 => by
          obtain ⟨C2, F2, w1, w2, w3, w4, w5, w6, w7⟩ := clear_P (M := N) (M' := M') c1 c2 c4 hj
          refine ⟨C2, F2, k, (), oS F j 0, w1, ?_, w3, w4, w5, w6, w7, rfl⟩
          show (if ((rv M' r F1).1 r).1 = 12 then _ else _) = _
          rw [if_pos r_tag, show tX10_of r (Int32.ofNat j) 0 (rv M' r F1) = some (oS F1 j 0) from r_of (w := 0) c2 hj5 (by omega), Option.bind_some, if_pos r_tag, w2, Option.bind_some]
          unfold oS gt; rw [e1])
    refine opR_chg (w0 := 0) (Mc := Mc) (v := oS F j 0) ?_ (by rw [q10]; exact q5) (by rw [q10]; exact q4) qz h.1.2.2.2.2.1 q15 q16 (fun N9 hs => ?_)
    · have cm : Mc.2.1 ≤ M.2.1 + 50 ∧ Mc.2.2.1 ≤ M.2.2.1 + 2001 := by rw [q10]; exact ⟨q2, q3⟩
      have q9' : tX5_emptySet a (Int32.ofNat j) M1 = some (v, Mc) := q9
      rw [tX9_clear, if_pos (ok3 M), if_pos (T_x h.1.1), (c_rowsOf h _).1 j hj rfl, Option.bind_some]
      simp only [Sum.elim_inl]
      rw [B_rI hb hj5, Option.bind_some, (hP.2.2.2.2.2 j hj).1.1, A_hi h, Option.bind_some, A_no h, Option.bind_some, if_pos (ok4 M), if_pos (T_hi h.1.1), q1, Option.bind_some, q6, Option.bind_some, if_pos ⟨q2, q3⟩, if_pos (T_b q7), q9', Option.bind_some, if_pos cm]
    · obtain ⟨F1, F2, w0, t1, t2, t3, t4, t5⟩ := q17 N9 hs
      refine ⟨F2, ?_, t3, t4⟩
      have rM : rOk N9 r F := hs.ok q16
      rw [tX10_clear, if_pos r_tag, (r_noSetS h rM _).1 j hj rfl, Option.bind_some, if_pos rfl, if_pos r_tag, t1, Option.bind_some, ← t5]
      exact t2
  · refine opR_thr (j := 1) h ?_ (fun M' hr => ?_)
    · rw [tX9_clear, if_pos (ok3 M), if_pos (T_x h.1.1), (c_rowsOf h s).2 g, Option.bind_some]; rfl
    · rw [tX10_clear, if_pos r_tag, (r_noSetS h hr _).2 g, Option.bind_some, if_neg n10]; rfl
/-- mark -/
theorem O_mark {Gs : Nat → Nat} (h : simD M x r G F a d C u hz n k) (w : wf M) : opR x r M (tX9_mark Gs x M) (fun M' => tX10_mark r M') mp2 := by
  have hP := D_p h
  have hb := D_b h
  have hk8 := hP.1.2.2.2.2
  have e4 := hP.1.2.2.2.1
  have e6 : gI M a 8 6 = some (Int32.ofNat k) := by rw [B_I0 hb, hP.2.1.2.2.2.1, e4]
  have rd : ∀ {M' : vMe}, rOk M' r F → tX10_mark r (rv M' r F) = if k = 8 then tX10_mark_J22 r r 1 (rv M' r (Fth F 0)) else tX10_mark_J22 r r 0 (rv M' r (Fth F 0)) := fun hr => by
    rw [tX10_mark, r_th0 hr, Option.bind_some, rA1 (Fth_ok hr), Option.bind_some, l4, r_n0 hr (by omega), Option.bind_some, e4]
    by_cases q : k = 8
    · rw [if_pos q, if_pos (by rw [q]; rfl)]
    · rw [if_neg q, if_neg (show ¬ Int32.ofNat k = 8 from fun g => q ((n_eq (b := 8) (by omega) (by omega)).mp g))]
  by_cases q : k = 8
  · refine opR_thr (j := 2) h ?_ (fun M' hr => ?_)
    · rw [tX9_mark, A_no h, Option.bind_some, e6, Option.bind_some, if_neg (show ¬ Int32.ofNat k < 8 from n_nlt (b := 8) (by omega) (by omega) (by omega)), if_pos (ok3 M)]
    · rw [rd hr, if_pos q, tX10_mark_J22, if_pos r_tag, r_thr1 hr (by decide), Option.bind_some, if_neg n10]; rfl
  · obtain ⟨M1, G1, Mc, v, C2, q1, q2, q3, q4, q5, q6, q7, q8, q9, q10, q11, q12, q13, q14, q15, q16, qz, q17⟩ := chgOp (Gs := Gs) (tcf := fun N => (tX5_makeMark a N).bind fun z => (gI z.2 a 8 6).bind fun v => some (v - 1, z.2))
        (trf := fun N => if (N.1 r).1 = 12 then ((tX10_marks r N).bind fun z8 => some (z8.1, z8.2)) else none) (rel := fun v w => w = v) h w (fun N M' F1 c1 c2 e1 c4 => by
          obtain ⟨C2, F2, w1, w2, w3, w4, w5, w6, w7, w8⟩ := mark_P (M := N) (M' := M') c1 c2 c4 (by omega)
          refine ⟨C2, F2, k + 1, Int32.ofNat k, Int32.ofNat k, ?_, ?_, w3, w4, w5, w6, w7, rfl⟩
          · show ((tX5_makeMark a (cv N a C)).bind _) = _
            rw [w1, Option.bind_some, c_gI0, Option.bind_some, w8, n_pred (by omega), Nat.add_sub_cancel]
          · show (if ((rv M' r F1).1 r).1 = 12 then _ else _) = _
            rw [if_pos r_tag, w2, Option.bind_some])
    obtain ⟨z, z1, z2⟩ := Option.bind_eq_some_iff.mp q9
    obtain ⟨v', z3, z4⟩ := Option.bind_eq_some_iff.mp z2
    obtain ⟨e1, e2⟩ := Prod.mk.inj (Option.some.inj z4)
    subst e1
    refine opR_chg (w0 := 0) (Mc := Mc) (v := v' - 1) ?_ (by rw [q10]; exact q5) (by rw [q10]; exact q4) qz h.1.2.2.2.2.1 q15 q16 (fun N9 hs => ?_)
    · have cm : Mc.2.1 ≤ M.2.1 + 50 ∧ Mc.2.2.1 ≤ M.2.2.1 + 2001 := by rw [q10]; exact ⟨q2, q3⟩
      rw [e2] at z3
      rw [tX9_mark, A_no h, Option.bind_some, e6, Option.bind_some, if_pos (show Int32.ofNat k < 8 from (n_lt (b := 8) (by omega) (by omega)).mpr (by omega)), A_hi h, Option.bind_some, Option.bind_some, if_pos (ok4 M), if_pos (T_hi h.1.1), q1, Option.bind_some, q6, Option.bind_some, if_pos ⟨q2, q3⟩, if_pos (T_b q7), z1, Option.bind_some, e2, q12, Option.bind_some, z3, Option.bind_some, if_pos cm]
    · obtain ⟨F1, F2, w0, t1, t2, t3, t4, t5⟩ := q17 N9 hs
      refine ⟨F2, ?_, t3, t4⟩
      have rM : rOk N9 r F := hs.ok q16
      rw [rd rM, if_neg q, tX10_mark_J22, if_pos r_tag, r_thr0, Option.bind_some, if_pos rfl, if_pos r_tag, t1, Option.bind_some, ← t5]
      exact t2
end
