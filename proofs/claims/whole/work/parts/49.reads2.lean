section
variable {M : vMe} {x r a d : Nat} {G F C : Nat → Nat → Value} {u hz n k : Nat}
theorem evs_th {c : Int32} {s : Nat} : evs (Fth F c) s = evs F s := by funext i w; exact Fth_S
theorem L_cnt (h : simP C F u hz n k) {s : Nat} (hs : s < n) : ∃ m, m ≤ 60 ∧ oS F s 3 = Int32.ofNat m := by
  obtain ⟨m, m1, m2⟩ := (h.2.2.2.2.2 s hs).2.2.2.2
  exact ⟨m, by have := h.1.2.1.2.2; omega, m2⟩
/-- event -/
theorem O_event (h : simD M x r G F a d C u hz n k) (s w p : Int32) : opR x r M (tX9_event x s w p M) (fun M' => tX10_event r s w p M') mpA := by
  have hP := D_p h
  have hb := D_b h
  have hc := D_c h
  have hn5 := hP.1.2.2.1.2
  rcases arg_c s (n := n) (by omega) with ⟨j, hj, rfl⟩ | g
  · have hj5 : j < 5 := by omega
    have cr := (c_rowsOf h (Int32.ofNat j)).1 j hj rfl
    obtain ⟨sS, sO⟩ := hP.2.2.2.2.2 j hj
    have hL := simS_L sS
    obtain ⟨m, m1, m2⟩ := L_cnt hP hj
    have rd : ∀ {M' : vMe}, rOk M' r F → (¬ p < 0) → (¬ (2 : Int32) < p) → tX10_event r (Int32.ofNat j) w p (rv M' r F) = ((tX10_within w 0 (Int32.ofNat m - 1) (rv M' r (Fth F 0))).bind fun z8 => if z8 = 0 then some (-1, rv M' r (Fth F 0)) else (if ((rv M' r (Fth F 0)).1 r).1 = 12 then (tX10_ofEvent r (Int32.ofNat j) w p (rv M' r (Fth F 0))).bind fun z10 => some (z10, rv M' r (Fth F 0)) else none)) := fun hr h1 h2 => by
      rw [tX10_event, if_pos r_tag, (r_noSetS h hr _).1 j hj rfl, Option.bind_some, if_pos rfl, r_in h1 h2, Option.bind_some, if_neg n10, tX10_event_J23, if_pos r_tag, r_thr0, Option.bind_some, if_pos rfl, if_pos r_tag, l3, r_of (Fth_ok hr) hj5 (by omega), Option.bind_some, Fth_S, m2]
    rcases arg_c p (n := 3) (by omega) with ⟨l, hl, rfl⟩ | g
    · have nl : ¬ Int32.ofNat l < 0 := n_neg (by omega)
      have nl2 : ¬ (2 : Int32) < Int32.ofNat l := n_nlt (a := 2) (by omega) (by omega) (by omega)
      have cl : tX9_event x (Int32.ofNat j) w (Int32.ofNat l) M = if w < 0 then some (Sum.inl (-1), M) else if w < Int32.ofNat m then (aI M (a + (4 + 8 * j + (5 + l))) 101 w).bind fun v => some (Sum.inl v, M) else some (Sum.inl (-1), M) := by
        have e3 : gI M (a + (4 + 8 * j + 4)) 5 3 = some (Int32.ofNat m) := by rw [B_lI hb hj5, hL.1, m2]
        rw [tX9_event, if_pos (ok2 M), if_pos (T_x h.1.1), cr, Option.bind_some]
        simp only [Sum.elim_inl]
        rw [B_rA hb hc hj5 (by omega), Option.bind_some, if_neg nl, if_pos (Int32.not_lt.mp nl2), show a + (4 + 8 * j + (3 + 1)) = a + (4 + 8 * j + 4) from rfl]
        by_cases q : w < 0
        · rw [if_pos q, if_pos q, if_pos (ok1 M)]
        · rw [if_neg q, if_neg q, e3, Option.bind_some]
          by_cases q2 : w < Int32.ofNat m
          · rw [if_pos q2, if_pos q2]
            rcases (show l = 0 ∨ l = 1 ∨ l = 2 by omega) with rfl | rfl | rfl
            · rw [if_pos (by decide), B_lA hb hc hj5 (by omega), Option.bind_some]; simp only [ok1 M, and_self, if_true]
            · rw [if_neg (by decide), if_pos (by decide), B_lA hb hc hj5 (by omega), Option.bind_some]; simp only [ok1 M, and_self, if_true]
            · rw [if_neg (by decide), if_neg (by decide), B_lA hb hc hj5 (by omega), Option.bind_some]; simp only [ok1 M, and_self, if_true]
          · rw [if_neg q2, if_neg q2, if_pos (ok1 M)]
      rcases arg_c w (n := m) (by omega) with ⟨i, hi, rfl⟩ | g
      · refine opR_read (z := .inl (oS F j (198 + 3 * i + l))) (c := 0) h ?_ (fun M' hr => ?_) rfl (fun v e => Sum.inl.inj e)
        · rw [cl, if_neg (n_neg (by omega)), if_pos ((n_lt (by omega) (by omega)).mpr hi), B_eI hb hj5 hl (by omega), Option.bind_some, hL.2.2.2 i m m2 hi m1 l hl]
        · rw [rd hr nl nl2, n_pred (by omega), r_in (n_neg (by omega)) (n_nlt (by omega) (by omega) (by omega)), Option.bind_some, if_neg n10, if_pos r_tag, r_ofEvent (Fth_ok hr) hj5 (by omega) hl, Option.bind_some, Fth_S]
      · refine opR_read (z := .inl (-1)) (c := 0) h ?_ (fun M' hr => ?_) rfl (fun v e => Sum.inl.inj e)
        · rw [cl]
          by_cases q : w < 0
          · rw [if_pos q]
          · rw [if_neg q, if_neg (g.resolve_left q)]
        · have wo : w < 0 ∨ Int32.ofNat m - 1 < w := by
            by_cases k0 : 1 ≤ m
            · rw [n_pred k0]; exact inv_w (by omega) k0 g
            · have : m = 0 := by omega
              subst this
              by_cases g0 : w < 0
              · exact .inl g0
              · right
                rw [show Int32.ofNat 0 - 1 = -1 from by decide]
                rw [Int32.lt_iff_toInt_lt] at g0 ⊢
                have e1 : (0 : Int32).toInt = 0 := rfl
                have e2 : (-1 : Int32).toInt = -1 := by decide
                omega
          rw [rd hr nl nl2, r_out wo, Option.bind_some, if_pos rfl]
    · have J : tX9_event_J19 M.2.1 M.2.2.1 M = some (Sum.inr 0, M) := if_pos (ok2 M)
      refine opR_read (z := .inr 0) (b := 0) (c := 2) h ?_ (fun M' hr => ?_) rfl (fun v e => by cases e)
      · rw [tX9_event, if_pos (ok2 M), if_pos (T_x h.1.1), cr, Option.bind_some]
        simp only [Sum.elim_inl]
        rw [B_rA hb hc hj5 (by omega), Option.bind_some]
        by_cases q : p < 0
        · rw [if_pos q, J]
        · rw [if_neg q, if_neg, J]
          intro e
          have := g.resolve_left q
          rw [Int32.lt_iff_toInt_lt, n_toInt (by omega)] at this
          rw [Int32.le_iff_toInt_le] at e
          have e2 : (2 : Int32).toInt = 2 := rfl
          omega
      · rw [tX10_event, if_pos r_tag, (r_noSetS h hr _).1 j hj rfl, Option.bind_some, if_pos rfl, r_out (show p < 0 ∨ (2 : Int32) < p from inv_w (m := 3) (by omega) (by omega) g), Option.bind_some, if_pos rfl, tX10_event_J23, if_pos r_tag, r_thJ hr, Option.bind_some, if_neg n10]
  · refine opR_read (z := .inr 1) (b := 0) (c := 1) h ?_ (fun M' hr => ?_) rfl (fun v e => by cases e)
    · rw [tX9_event, if_pos (ok2 M), if_pos (T_x h.1.1), (c_rowsOf h s).2 g, Option.bind_some]; rfl
    · rw [tX10_event, if_pos r_tag, (r_noSetS h hr _).2 g, Option.bind_some, if_neg n10]
/-- a stamp that is out of range, or not -/
theorem c_checkStamp (h : simD M x r G F a d C u hz n k) {j : Nat} (hj : j < n) (st : Int32) : tX9_checkStamp x (a + (4 + 8 * j + 4)) st M = some (if st < oS F j 2 ∨ gt F 1 3 < st then .inr 0 else .inl (), M) := by
  have hP := D_p h
  have hj5 : j < 5 := by have := hP.1.2.2.1.2; omega
  have J : tX9_checkStamp_J19 M.2.1 M.2.2.1 M = some (.inr 0, M) := if_pos (ok2 M)
  rw [tX9_checkStamp, B_lI (D_b h) hj5, Option.bind_some, (hP.2.2.2.2.2 j hj).1.2.2.2.2.2.2.1]
  by_cases q : st < oS F j 2
  · rw [if_pos q, J, if_pos (.inl q)]
  · rw [if_neg q, A_no h, Option.bind_some, B_I0 (D_b h), Option.bind_some, hP.2.1.2.2.2.2.1]
    by_cases q2 : gt F 1 3 < st
    · rw [if_neg (Int32.not_le.mpr q2), J, if_pos (.inr q2)]
    · rw [if_pos (Int32.not_lt.mp q2), if_pos (ok1 M), if_neg (fun g => g.elim q q2)]
theorem r_noStamp (hr : rOk M r F) {j : Nat} (hj5 : j < 5) (st : Int32) : tX10_noStamp r (Int32.ofNat j) st (rv M r (Fth F 0)) = if st < oS F j 2 ∨ gt F 1 3 < st then some (1, rv M r (Fth F 2)) else some (0, rv M r (Fth F 0)) := by
  rw [tX10_noStamp, if_pos r_tag, l2, r_of (Fth_ok hr) hj5 (by omega), Option.bind_some, Fth_S, rA1 (Fth_ok hr), Option.bind_some, l3, r_n0 hr (by omega), Option.bind_some]
  by_cases q : st < oS F j 2 ∨ gt F 1 3 < st
  · rw [r_out q, Option.bind_some, if_pos rfl, if_pos q, tX10_noStamp_J25, if_pos r_tag, r_thJ hr, Option.bind_some, if_pos fz1]
    rfl
  · rw [r_in (fun g => q (.inl g)) (fun g => q (.inr g)), Option.bind_some, if_neg n10, if_neg q, tX10_noStamp_J25, if_pos r_tag, r_thr0, Option.bind_some, if_pos fz0]
theorem c_bits_at (h : simD M x r G F a d C u hz n k) {j m : Nat} (hj : j < n) (hm : oS F j 3 = Int32.ofNat m) (hm60 : m ≤ 60) (st : Int32) : tX2_bitsAt (a + (4 + 8 * j + 4)) st M = some (cAt (evs F j) st m 0 (two (oS F j 5) (oS F j 4))) := by
  have hP := D_p h
  have := c_bitsAt (M := M) (st := st) (D_c h) (s := j) (by have := hP.1.2.2.1.2; omega) (simS_L (hP.2.2.2.2.2 j hj).1) hm hm60
  rw [(D_b h).eq] at this; exact this
theorem r_cont_at (hr : rOk M r F) {j m : Nat} (hj : j < 5) (hm : oS F j 3 = Int32.ofNat m) (hm60 : m ≤ 60) (st : Int32) : tX10_contentAt r (Int32.ofNat j) st (rv M r (Fth F 0)) = some (cAt (evs F j) st m 0 (two (oS F j 5) (oS F j 4))) := by
  rw [r_contentAt (Fth_ok hr) hj (by rw [Fth_S]; exact hm) hm60, evs_th, Fth_S, Fth_S]
/-- at -/
theorem O_at (h : simD M x r G F a d C u hz n k) (s st : Int32) : opR x r M (tX9_at x s st M) (fun M' => tX10_at r s st M') mpA := by
  have hP := D_p h
  have hb := D_b h
  have hc := D_c h
  have hn5 := hP.1.2.2.1.2
  rcases arg_c s (n := n) (by omega) with ⟨j, hj, rfl⟩ | g
  · have hj5 : j < 5 := by omega
    have cr := (c_rowsOf h (Int32.ofNat j)).1 j hj rfl
    obtain ⟨m, m1, m2⟩ := L_cnt hP hj
    have cl : tX9_at x (Int32.ofNat j) st M = if st < oS F j 2 ∨ gt F 1 3 < st then some (.inr 0, M) else some (.inl (cAt (evs F j) st m 0 (two (oS F j 5) (oS F j 4))), M) := by
      rw [tX9_at, if_pos (ok2 M), if_pos (T_x h.1.1), cr, Option.bind_some]
      simp only [Sum.elim_inl]
      rw [B_rA hb hc hj5 (by omega), Option.bind_some, show a + (4 + 8 * j + (3 + 1)) = a + (4 + 8 * j + 4) from rfl, if_pos (ok2 M), if_pos (T_x h.1.1), c_checkStamp h hj, Option.bind_some]
      by_cases q : st < oS F j 2 ∨ gt F 1 3 < st
      · rw [if_pos q, if_pos q]; rfl
      · rw [if_neg q, if_neg q]
        simp only [Sum.elim_inl]
        rw [if_pos (ok0 M), if_pos (B_tL hb hj5), c_bits_at h hj m2 m1, Option.bind_some, if_pos (ok1 M)]
    have rl : ∀ {M' : vMe}, rOk M' r F → tX10_at r (Int32.ofNat j) st (rv M' r F) = if st < oS F j 2 ∨ gt F 1 3 < st then some (0, rv M' r (Fth F 2)) else some (cAt (evs F j) st m 0 (two (oS F j 5) (oS F j 4)), rv M' r (Fth F 0)) := fun hr => by
      rw [tX10_at, if_pos r_tag, (r_noSetS h hr _).1 j hj rfl, Option.bind_some, if_pos rfl, if_pos r_tag, r_noStamp hr hj5]
      by_cases q : st < oS F j 2 ∨ gt F 1 3 < st
      · rw [if_pos q, if_pos q, Option.bind_some, if_neg n10]
      · rw [if_neg q, if_neg q, Option.bind_some, if_pos rfl, if_pos r_tag, r_cont_at hr hj5 m2 m1, Option.bind_some]
    by_cases q : st < oS F j 2 ∨ gt F 1 3 < st
    · exact opR_read (z := .inr 0) (b := 0) (c := 2) h (by rw [cl, if_pos q]) (fun M' hr => by rw [rl hr, if_pos q]) rfl (fun v e => by cases e)
    · exact opR_read (z := .inl _) (c := 0) h (by rw [cl, if_neg q]) (fun M' hr => by rw [rl hr, if_neg q]) rfl (fun v e => Sum.inl.inj e)
  · refine opR_read (z := .inr 1) (b := 0) (c := 1) h ?_ (fun M' hr => ?_) rfl (fun v e => by cases e)
    · rw [tX9_at, if_pos (ok2 M), if_pos (T_x h.1.1), (c_rowsOf h s).2 g, Option.bind_some]; rfl
    · rw [tX10_at, if_pos r_tag, (r_noSetS h hr _).2 g, Option.bind_some, if_neg n10]
/-- differs -/
theorem O_differs (h : simD M x r G F a d C u hz n k) (s st su came : Int32) : opR x r M (tX9_differs x s st su came M) (fun M' => tX10_differs r s st su came M') mpA := by
  have hP := D_p h
  have hb := D_b h
  have hc := D_c h
  have hn5 := hP.1.2.2.1.2
  rcases arg_c s (n := n) (by omega) with ⟨j, hj, rfl⟩ | g
  · have hj5 : j < 5 := by omega
    have cr := (c_rowsOf h (Int32.ofNat j)).1 j hj rfl
    obtain ⟨m, m1, m2⟩ := L_cnt hP hj
    obtain ⟨A, hA⟩ : ∃ A, A = cAt (evs F j) st m 0 (two (oS F j 5) (oS F j 4)) := ⟨_, rfl⟩
    obtain ⟨B, hB⟩ : ∃ B, B = cAt (evs F j) su m 0 (two (oS F j 5) (oS F j 4)) := ⟨_, rfl⟩
    obtain ⟨v, hv⟩ : ∃ v, v = if came = 0 then Int32.ofNat (pcI (A &&& (B ^^^ (-1)))) else Int32.ofNat (pcI (B &&& (A ^^^ (-1)))) := ⟨_, rfl⟩
    have cl : tX9_differs x (Int32.ofNat j) st su came M = if (st < oS F j 2 ∨ gt F 1 3 < st) ∨ (su < oS F j 2 ∨ gt F 1 3 < su) then some (.inr 0, M) else some (.inl v, M) := by
      rw [tX9_differs, if_pos (ok2 M), if_pos (T_x h.1.1), cr, Option.bind_some]
      simp only [Sum.elim_inl]
      rw [B_rA hb hc hj5 (by omega), Option.bind_some, show a + (4 + 8 * j + (3 + 1)) = a + (4 + 8 * j + 4) from rfl, if_pos (ok2 M), if_pos (T_x h.1.1), c_checkStamp h hj, Option.bind_some]
      by_cases q : st < oS F j 2 ∨ gt F 1 3 < st
      · have hq : (st < oS F j 2 ∨ gt F 1 3 < st) ∨ (su < oS F j 2 ∨ gt F 1 3 < su) := .inl q
        rw [if_pos q, if_pos hq]; rfl
      · rw [if_neg q]
        simp only [Sum.elim_inl]
        rw [if_pos (ok2 M), if_pos (T_x h.1.1), c_checkStamp h hj, Option.bind_some]
        by_cases q2 : su < oS F j 2 ∨ gt F 1 3 < su
        · have hq : (st < oS F j 2 ∨ gt F 1 3 < st) ∨ (su < oS F j 2 ∨ gt F 1 3 < su) := .inr q2
          rw [if_pos q2, if_pos hq]; rfl
        · have hq : ¬ ((st < oS F j 2 ∨ gt F 1 3 < st) ∨ (su < oS F j 2 ∨ gt F 1 3 < su)) := fun g => g.elim q q2
          rw [if_neg q2, if_neg hq]
          simp only [Sum.elim_inl]
          rw [if_pos (ok0 M), if_pos (B_tL hb hj5), c_bits_at h hj m2 m1, Option.bind_some, if_pos (ok0 M), c_bits_at h hj m2 m1, Option.bind_some, ← hA, ← hB, hv]
          by_cases q3 : came = 0
          · rw [if_pos q3, if_pos q3, tX9_differs_J66, if_pos (ok0 M), bitCount_eq, Option.bind_some, if_pos (ok1 M), if_pos (B_tL hb hj5)]
          · rw [if_neg q3, if_neg q3, tX9_differs_J66, if_pos (ok0 M), bitCount_eq, Option.bind_some, if_pos (ok1 M), if_pos (B_tL hb hj5)]
    have rl : ∀ {M' : vMe}, rOk M' r F → tX10_differs r (Int32.ofNat j) st su came (rv M' r F) = if (st < oS F j 2 ∨ gt F 1 3 < st) ∨ (su < oS F j 2 ∨ gt F 1 3 < su) then some (0, rv M' r (Fth F 2)) else some (v, rv M' r (Fth F 0)) := fun hr => by
      rw [tX10_differs, if_pos r_tag, (r_noSetS h hr _).1 j hj rfl, Option.bind_some, if_pos rfl, if_pos r_tag, r_noStamp hr hj5]
      by_cases q : st < oS F j 2 ∨ gt F 1 3 < st
      · rw [if_pos q, if_pos (.inl q), Option.bind_some, if_neg n10]
      · rw [if_neg q, Option.bind_some, if_pos rfl, if_pos r_tag, r_noStamp hr hj5]
        by_cases q2 : su < oS F j 2 ∨ gt F 1 3 < su
        · rw [if_pos q2, if_pos (.inr q2), Option.bind_some, if_neg n10]
        · rw [if_neg q2, if_neg (fun g => g.elim q q2), Option.bind_some, if_pos rfl, if_pos r_tag, r_cont_at hr hj5 m2 m1, Option.bind_some, if_pos r_tag, r_cont_at hr hj5 m2 m1, Option.bind_some, ← hA, ← hB, hv]
          by_cases q3 : came = 0
          · rw [if_pos q3, if_pos q3, tX10_differs_J70, ones_eq, Option.bind_some]
          · rw [if_neg q3, if_neg q3, tX10_differs_J70, ones_eq, Option.bind_some]
    by_cases q : (st < oS F j 2 ∨ gt F 1 3 < st) ∨ (su < oS F j 2 ∨ gt F 1 3 < su)
    · exact opR_read (z := .inr 0) (b := 0) (c := 2) h (by rw [cl, if_pos q]) (fun M' hr => by rw [rl hr, if_pos q]) rfl (fun v e => by cases e)
    · exact opR_read (z := .inl v) (c := 0) h (by rw [cl, if_neg q]) (fun M' hr => by rw [rl hr, if_neg q]) rfl (fun v e => Sum.inl.inj e)
  · refine opR_read (z := .inr 1) (b := 0) (c := 1) h ?_ (fun M' hr => ?_) rfl (fun v e => by cases e)
    · rw [tX9_differs, if_pos (ok2 M), if_pos (T_x h.1.1), (c_rowsOf h s).2 g, Option.bind_some]; rfl
    · rw [tX10_differs, if_pos r_tag, (r_noSetS h hr _).2 g, Option.bind_some, if_neg n10]
/-- since -/
theorem O_since (h : simD M x r G F a d C u hz n k) (s w : Int32) : opR x r M (tX9_since x s w M) (fun M' => tX10_since r s w M') mpA := by
  have hP := D_p h
  have hb := D_b h
  have hc := D_c h
  have hn5 := hP.1.2.2.1.2
  have hu := hP.1.1.2
  rcases arg_c s (n := n) (by omega) with ⟨j, hj, rfl⟩ | g
  · have hj5 : j < 5 := by omega
    have cr := (c_rowsOf h (Int32.ofNat j)).1 j hj rfl
    obtain ⟨m, m1, m2⟩ := L_cnt hP hj
    rcases arg_c w (n := u) (by omega) with ⟨l, hl, rfl⟩ | g
    · have e := c_since (M := M) hc hj5 (simS_L (hP.2.2.2.2.2 j hj).1) m2 m1 (show l < 64 by omega)
      rw [hb.eq] at e
      refine opR_read (z := .inl (snc (evs F j) l m 0 (-1) (two (oS F j 5) (oS F j 4)))) (c := 0) h ?_ (fun M' hr => ?_) rfl (fun v e => Sum.inl.inj e)
      · rw [tX9_since, if_pos (ok2 M), if_pos (T_x h.1.1), cr, Option.bind_some]
        simp only [Sum.elim_inl]
        rw [B_rA hb hc hj5 (by omega), Option.bind_some, show a + (4 + 8 * j + (3 + 1)) = a + (4 + 8 * j + 4) from rfl, if_pos (ok2 M), if_pos (T_x h.1.1), (c_checkNumber h _).1 l hl rfl, Option.bind_some]
        simp only [Sum.elim_inl]
        rw [if_pos (ok0 M), if_pos (B_tL hb hj5), e, Option.bind_some, if_pos (ok1 M)]
      · have q := r_since_L (M := M') (Fth_ok (c := 0) hr) hj5 (by rw [Fth_S]; exact m2) m1 (show l < 64 by omega) m vF 0 (-1) (two (oS F j 5) (oS F j 4)) (by omega) (by unfold vF; omega)
        rw [evs_th] at q
        rw [tX10_since, if_pos r_tag, (r_noSetS h hr _).1 j hj rfl, Option.bind_some, if_pos rfl, if_pos r_tag, (r_insS h hr _).1 l hl rfl, Option.bind_some, if_neg n10, tX10_since_J22, if_pos r_tag, r_thr0, Option.bind_some, if_pos rfl, if_pos r_tag, r_base (Fth_ok hr) hj5, Option.bind_some, Fth_S, Fth_S,
          show tX10_since_L43 r (Int32.ofNat j) (Int32.ofNat l) vF (-1) (two (oS F j 5) (oS F j 4)) 0 (rv M' r (Fth F 0)) = _ from q, Option.bind_some]
    · refine opR_read (z := .inr 0) (b := 0) (c := 2) h ?_ (fun M' hr => ?_) rfl (fun v e => by cases e)
      · rw [tX9_since, if_pos (ok2 M), if_pos (T_x h.1.1), cr, Option.bind_some]
        simp only [Sum.elim_inl]
        rw [B_rA hb hc hj5 (by omega), Option.bind_some, if_pos (ok2 M), if_pos (T_x h.1.1), (c_checkNumber h _).2 g, Option.bind_some]
        rfl
      · rw [tX10_since, if_pos r_tag, (r_noSetS h hr _).1 j hj rfl, Option.bind_some, if_pos rfl, if_pos r_tag, (r_insS h hr _).2 g, Option.bind_some, if_pos rfl, tX10_since_J22, if_pos r_tag, r_thJ hr, Option.bind_some, if_neg n10]
  · refine opR_read (z := .inr 1) (b := 0) (c := 1) h ?_ (fun M' hr => ?_) rfl (fun v e => by cases e)
    · rw [tX9_since, if_pos (ok2 M), if_pos (T_x h.1.1), (c_rowsOf h s).2 g, Option.bind_some]; rfl
    · rw [tX10_since, if_pos r_tag, (r_noSetS h hr _).2 g, Option.bind_some, if_neg n10]
/-- fullest -/
theorem O_fullest (h : simD M x r G F a d C u hz n k) (s : Int32) : opR x r M (tX9_fullest x s M) (fun M' => tX10_fullest r s M') mp1 := by
  have hP := D_p h
  have hb := D_b h
  have hc := D_c h
  have hn5 := hP.1.2.2.1.2
  rcases arg_c s (n := n) (by omega) with ⟨j, hj, rfl⟩ | g
  · have hj5 : j < 5 := by omega
    have cr := (c_rowsOf h (Int32.ofNat j)).1 j hj rfl
    obtain ⟨m, m1, m2⟩ := L_cnt hP hj
    have e := c_full (M := M) hc hj5 (simS_L (hP.2.2.2.2.2 j hj).1) m2 m1
    rw [hb.eq] at e
    refine opR_read (z := .inl (ful (evs F j) m 0 (oS F j 2) (two (oS F j 5) (oS F j 4)) (pcI (two (oS F j 5) (oS F j 4))))) (c := 0) h ?_ (fun M' hr => ?_) rfl (fun v e => Sum.inl.inj e)
    · rw [tX9_fullest, if_pos (ok2 M), if_pos (T_x h.1.1), cr, Option.bind_some]
      simp only [Sum.elim_inl]
      rw [B_rA hb hc hj5 (by omega), Option.bind_some, show a + (4 + 8 * j + (3 + 1)) = a + (4 + 8 * j + 4) from rfl, if_pos (ok0 M), if_pos (B_tL hb hj5), e, Option.bind_some, if_pos (ok1 M)]
    · have q := r_full_L (M := M') (Fth_ok (c := 0) hr) hj5 (by rw [Fth_S]; exact m2) m1 m vF 0 (oS F j 2) (two (oS F j 5) (oS F j 4)) (pcI (two (oS F j 5) (oS F j 4))) (pcI_le _) (by omega) (by unfold vF; omega)
      rw [evs_th] at q
      rw [tX10_fullest, if_pos r_tag, (r_noSetS h hr _).1 j hj rfl, Option.bind_some, if_pos rfl, if_pos r_tag, l2, r_of (Fth_ok hr) hj5 (by omega), Option.bind_some, if_pos r_tag, r_base (Fth_ok hr) hj5, Option.bind_some, Fth_S, Fth_S, Fth_S, ones_eq, Option.bind_some,
        show tX10_fullest_L32 r (Int32.ofNat j) vF (oS F j 2) (two (oS F j 5) (oS F j 4)) (Int32.ofNat (pcI (two (oS F j 5) (oS F j 4)))) 0 (rv M' r (Fth F 0)) = _ from q, Option.bind_some]
  · refine opR_read (z := .inr 1) (b := 0) (c := 1) h ?_ (fun M' hr => ?_) rfl (fun v e => by cases e)
    · rw [tX9_fullest, if_pos (ok2 M), if_pos (T_x h.1.1), (c_rowsOf h s).2 g, Option.bind_some]; rfl
    · rw [tX10_fullest, if_pos r_tag, (r_noSetS h hr _).2 g, Option.bind_some, if_neg n10]
/-- which cursors there are -/
theorem arg_u (hP : simP C F u hz n k) (s : Int32) : (∃ c, c < 6 ∧ oC F c 0 = 1 ∧ s = Int32.ofNat c) ∨ ((s < 0 ∨ ¬ s < Int32.ofNat 6) ∨ ∃ c, c < 6 ∧ s = Int32.ofNat c ∧ oC F c 0 = 0) := by
  rcases arg_c s (n := 6) (by omega) with ⟨c, hc, rfl⟩ | g
  · rcases hP.2.2.2.1 c hc with ⟨g, -⟩ | ⟨g, -⟩
    · exact .inr (.inr ⟨c, hc, rfl, g⟩)
    · exact .inl ⟨c, hc, g, rfl⟩
  · exact .inr (.inl g)
/-- cursor -/
theorem O_cursor (h : simD M x r G F a d C u hz n k) (s w : Int32) : opR x r M (tX9_cursor x s w M) (fun M' => tX10_cursor r s w M') mpA := by
  have hP := D_p h
  have hb := D_b h
  rcases arg_u hP s with ⟨c, hc, h0, rfl⟩ | g
  · have cr := (c_cursorOf h (Int32.ofNat c)).1 c hc h0 rfl
    rcases hP.2.2.2.1 c hc with ⟨g1, -⟩ | ⟨g1, g2, g3, g4, g5, g6, g7, g8, g9, g10, g11, g12, g13, g14⟩
    · rw [g1] at h0; exact absurd h0 (by decide)
    have rd : ∀ {M' : vMe} {l : Nat}, rOk M' r F → l < 7 → tX10_cursor r (Int32.ofNat c) (Int32.ofNat l) (rv M' r F) = some (if l = 6 then oC F c 7 - 1 else oC F c (l + 1), rv M' r (Fth F 0)) := fun {M' l} hr hl => by
      rw [tX10_cursor, if_pos r_tag, (r_noCursor hr _).1 c hc h0 rfl, Option.bind_some, if_pos rfl, show (6 : Int32) = Int32.ofNat 6 from rfl, r_in (n_neg (by omega)) (n_nlt (by omega) (by omega) (by omega)), Option.bind_some, if_neg n10, tX10_cursor_J24, if_pos r_tag, r_thr0, Option.bind_some, if_pos rfl]
      by_cases e : l = 6
      · rw [if_pos e, if_pos (by rw [e]; rfl), if_pos r_tag, l7, r_ofCursor (Fth_ok hr) hc (by omega), Option.bind_some, Fth_C]
      · rw [if_neg e, if_neg (show ¬ Int32.ofNat l = 6 from fun q => e ((n_eq (b := 6) (by omega) (by omega)).mp q)), if_pos r_tag, n_succ, r_ofCursor (Fth_ok hr) hc (by omega), Option.bind_some, Fth_C]
    have st : ∀ w, tX9_cursor x (Int32.ofNat c) w M = if w = 0 then some (Sum.inl (oC F c 1), M) else if w = 1 then some (Sum.inl (oC F c 2), M) else if w = 2 then some (Sum.inl (oC F c 3), M) else if w = 3 then some (Sum.inl (oC F c 4), M) else if w = 4 then some (Sum.inl (oC F c 5), M) else if w = 5 then some (Sum.inl (oC F c 6), M) else if w = 6 then some (Sum.inl (oC F c 7 - 1), M) else some (Sum.inr 0, M) := fun w => by
      rw [tX9_cursor, if_pos (ok2 M), if_pos (T_x h.1.1), cr, Option.bind_some]
      simp only [Sum.elim_inl, B_uI hb hc, Option.bind_some, g3, g4, g5, g6, g7, g8, g9, ok1 M, ok2 M, and_self, if_true]
      have e3 : (if oC F c 3 = 0 then some ((Sum.inl 0 : Int32 ⊕ Nat), M) else some (Sum.inl 1, M)) = some (Sum.inl (oC F c 3), M) := by
        rcases g10 with e | e
        · rw [if_pos e, e]
        · rw [if_neg (by rw [e]; decide), e]
      have e4 : (if oC F c 4 = 0 then some ((Sum.inl 0 : Int32 ⊕ Nat), M) else some (Sum.inl 1, M)) = some (Sum.inl (oC F c 4), M) := by
        rcases g11 with e | e
        · rw [if_pos e, e]
        · rw [if_neg (by rw [e]; decide), e]
      rw [e3, e4]
    rcases arg_c w (n := 7) (by omega) with ⟨l, hl, rfl⟩ | g
    · rcases (show l = 0 ∨ l = 1 ∨ l = 2 ∨ l = 3 ∨ l = 4 ∨ l = 5 ∨ l = 6 by omega) with rfl | rfl | rfl | rfl | rfl | rfl | rfl
      · exact opR_read (z := .inl _) (c := 0) h (by rw [st, if_pos (by decide)]) (fun M' hr => by rw [rd hr hl, if_neg (by omega)]) rfl (fun v e => Sum.inl.inj e)
      · exact opR_read (z := .inl _) (c := 0) h (by rw [st, if_neg (by decide), if_pos (by decide)]) (fun M' hr => by rw [rd hr hl, if_neg (by omega)]) rfl (fun v e => Sum.inl.inj e)
      · exact opR_read (z := .inl _) (c := 0) h (by rw [st, if_neg (by decide), if_neg (by decide), if_pos (by decide)]) (fun M' hr => by rw [rd hr hl, if_neg (by omega)]) rfl (fun v e => Sum.inl.inj e)
      · exact opR_read (z := .inl _) (c := 0) h (by rw [st, if_neg (by decide), if_neg (by decide), if_neg (by decide), if_pos (by decide)]) (fun M' hr => by rw [rd hr hl, if_neg (by omega)]) rfl (fun v e => Sum.inl.inj e)
      · exact opR_read (z := .inl _) (c := 0) h (by rw [st, if_neg (by decide), if_neg (by decide), if_neg (by decide), if_neg (by decide), if_pos (by decide)]) (fun M' hr => by rw [rd hr hl, if_neg (by omega)]) rfl (fun v e => Sum.inl.inj e)
      · exact opR_read (z := .inl _) (c := 0) h (by rw [st, if_neg (by decide), if_neg (by decide), if_neg (by decide), if_neg (by decide), if_neg (by decide), if_pos (by decide)]) (fun M' hr => by rw [rd hr hl, if_neg (by omega)]) rfl (fun v e => Sum.inl.inj e)
      · exact opR_read (z := .inl _) (c := 0) h (by rw [st, if_neg (by decide), if_neg (by decide), if_neg (by decide), if_neg (by decide), if_neg (by decide), if_neg (by decide), if_pos (by decide)]) (fun M' hr => by rw [rd hr hl, if_pos rfl]) rfl (fun v e => Sum.inl.inj e)
    · have ne : ∀ l, l < 7 → w ≠ Int32.ofNat l := fun l hl => inv_ne (by omega) g hl
      refine opR_read (z := .inr 0) (b := 0) (c := 2) h ?_ (fun M' hr => ?_) rfl (fun v e => by cases e)
      · rw [st, if_neg (show ¬ w = 0 from ne 0 (by omega)), if_neg (show ¬ w = 1 from ne 1 (by omega)), if_neg (show ¬ w = 2 from ne 2 (by omega)), if_neg (show ¬ w = 3 from ne 3 (by omega)), if_neg (show ¬ w = 4 from ne 4 (by omega)), if_neg (show ¬ w = 5 from ne 5 (by omega)), if_neg (show ¬ w = 6 from ne 6 (by omega))]
      · rw [tX10_cursor, if_pos r_tag, (r_noCursor hr _).1 c hc h0 rfl, Option.bind_some, if_pos rfl, r_out (show w < 0 ∨ (6 : Int32) < w from inv_w (m := 7) (by omega) (by omega) g), Option.bind_some, if_pos rfl, tX10_cursor_J24, if_pos r_tag, r_thJ hr, Option.bind_some, if_neg n10]
  · refine opR_read (z := .inr 1) (b := 0) (c := 1) h ?_ (fun M' hr => ?_) rfl (fun v e => by cases e)
    · rw [tX9_cursor, if_pos (ok2 M), if_pos (T_x h.1.1), (c_cursorOf h s).2 g, Option.bind_some]; rfl
    · rw [tX10_cursor, if_pos r_tag, (r_noCursor hr _).2 g, Option.bind_some, if_neg n10]
/-- ahead -/
theorem O_ahead (h : simD M x r G F a d C u hz n k) (s : Int32) : opR x r M (tX9_ahead x s M) (fun M' => tX10_ahead r s M') mp1 := by
  have hP := D_p h
  have hb := D_b h
  rcases arg_u hP s with ⟨c, hc, h0, rfl⟩ | g
  · have cr := (c_cursorOf h (Int32.ofNat c)).1 c hc h0 rfl
    have hP0 : simP C (Fth F 0) u hz n k := simP_row hP (fun l _ => Fth_gt (.inl (by omega)))
    have h00 : oC (Fth F 0) c 0 = 1 := by rw [Fth_C]; exact h0
    obtain ⟨v0, w1, w2⟩ := c_aheadP (M := M) (F := Fth F 0) (D_c h) (Fth_ok h.1.2.2.2.1) (Fth_ok h.1.2.2.2.1) hP0 hc h00
    refine opR_read (z := .inl v0) (c := 0) h ?_ (fun M' hr => ?_) rfl (fun v e => Sum.inl.inj e)
    · rw [hb.eq] at w1
      rw [tX9_ahead, A_no h, Option.bind_some, if_pos (ok2 M), if_pos (T_x h.1.1), cr, Option.bind_some]
      simp only [Sum.elim_inl]
      rw [if_pos (ok0 M), if_pos (T_b hb), w1, Option.bind_some, if_pos (ok1 M)]
    · obtain ⟨v1, q1, q2⟩ := c_aheadP (M := M) (M' := M') (F := Fth F 0) (D_c h) (Fth_ok h.1.2.2.2.1) (Fth_ok hr) hP0 hc h00
      have ev : v1 = v0 := Option.some.inj (q1.symm.trans w1)
      subst ev
      rw [tX10_ahead, if_pos r_tag, (r_noCursor hr _).1 c hc h0 rfl, Option.bind_some, if_pos rfl, if_pos r_tag, l3, r_ofCursor (Fth_ok hr) hc (by omega), Option.bind_some]
      by_cases o : oC (Fth F 0) c 3 = 0
      · rw [if_pos o] at q2 ⊢; exact q2
      · rw [if_neg o] at q2 ⊢
        rw [if_pos r_tag, l1, r_ofCursor (Fth_ok hr) hc (by omega), Option.bind_some, if_pos r_tag, l2, r_ofCursor (Fth_ok hr) hc (by omega), Option.bind_some, q2, Option.bind_some]
  · refine opR_read (z := .inr 1) (b := 0) (c := 1) h ?_ (fun M' hr => ?_) rfl (fun v e => by cases e)
    · rw [tX9_ahead, A_no h, Option.bind_some, if_pos (ok2 M), if_pos (T_x h.1.1), (c_cursorOf h s).2 g, Option.bind_some]; rfl
    · rw [tX10_ahead, if_pos r_tag, (r_noCursor hr _).2 g, Option.bind_some, if_neg n10]
/-- two sets asked for -/
theorem r_noSetsS (h : simD M x r G F a d C u hz n k) {M' : vMe} (hr : rOk M' r F) (s o : Int32) : (∀ i j, i < n → j < n → s = Int32.ofNat i → o = Int32.ofNat j → tX10_noSets r s o (rv M' r F) = some (0, rv M' r (Fth F 0))) ∧
    (((s < 0 ∨ ¬ s < Int32.ofNat n) ∨ ((∃ i, i < n ∧ s = Int32.ofNat i) ∧ (o < 0 ∨ ¬ o < Int32.ofNat n))) → tX10_noSets r s o (rv M' r F) = some (1, rv M' r (Fth F 1))) := by
  have hP := D_p h
  have e0 := hP.1.2.2.1.1
  constructor
  · rintro i j hi hj rfl rfl
    rw [tX10_noSets, if_pos r_tag, (r_noSetS h hr _).1 i hi rfl, Option.bind_some, if_pos rfl, rA1 (Fth_ok hr), Option.bind_some, l0, r_n0 hr (by omega), Option.bind_some, if_pos r_tag, e0, ← l0, (r_no hr _ (by have := hP.1.2.2.1.2; omega) (by omega)).1 j hj rfl, Option.bind_some, if_pos rfl]
  · rintro (g | ⟨⟨i, hi, rfl⟩, g⟩)
    · rw [tX10_noSets, if_pos r_tag, (r_noSetS h hr _).2 g, Option.bind_some, if_neg n10]
    · rw [tX10_noSets, if_pos r_tag, (r_noSetS h hr _).1 i hi rfl, Option.bind_some, if_pos rfl, rA1 (Fth_ok hr), Option.bind_some, l0, r_n0 hr (by omega), Option.bind_some, if_pos r_tag, e0, ← l0, (r_no hr _ (by have := hP.1.2.2.1.2; omega) (by omega)).2 g, Option.bind_some, if_neg n10]
theorem arg_2 (s o : Int32) {n : Nat} (hn : n < 2147483648) : (∃ i j, i < n ∧ j < n ∧ s = Int32.ofNat i ∧ o = Int32.ofNat j) ∨ ((s < 0 ∨ ¬ s < Int32.ofNat n) ∨ ((∃ i, i < n ∧ s = Int32.ofNat i) ∧ (o < 0 ∨ ¬ o < Int32.ofNat n))) := by
  rcases arg_c s hn with ⟨i, hi, e⟩ | g
  · rcases arg_c o hn with ⟨j, hj, e2⟩ | g
    · exact .inl ⟨i, j, hi, hj, e, e2⟩
    · exact .inr (.inr ⟨⟨i, hi, e⟩, g⟩)
  · exact .inr (.inl g)
/-- both sets as bits -/
theorem c_bitsS (h : simD M x r G F a d C u hz n k) {j : Nat} (hj : j < n) : ∃ B m, tX7_bits (a + (4 + 8 * j)) M = some B ∧ (∀ y, y < 64 → (bt B y = true ↔ isM F j y)) ∧ pcI B = m ∧ oS F j 0 = Int32.ofNat m ∧ m ≤ 64 := by
  have hP := D_p h
  obtain ⟨sS, sO⟩ := hP.2.2.2.2.2 j hj
  obtain ⟨m, m1, m2⟩ := okS_m sO
  have hu := hP.1.1.2.2
  obtain ⟨B, b1, b2, b3⟩ := c_bits (M := M) (D_c h) (s := j) (by have := hP.1.2.2.1.2; omega) sO sS hu m2 (by omega)
  rw [(D_b h).eq] at b1
  exact ⟨B, m, b1, b2, b3, m2, by omega⟩
theorem r_comS (h : simD M x r G F a d C u hz n k) {M' : vMe} (hr : rOk M' r F) {i j : Nat} (hi : i < n) (hj : j < n) {B1 B2 : Int64} (h1 : ∀ y, y < 64 → (bt B1 y = true ↔ isM F i y)) (h2 : ∀ y, y < 64 → (bt B2 y = true ↔ isM F j y)) :
    tX10_commonOf r (Int32.ofNat i) (Int32.ofNat j) (rv M' r (Fth F 0)) = some (Int32.ofNat (pcI (B1 &&& B2))) := by
  have hP := D_p h
  have hn5 := hP.1.2.2.1.2
  have e : ∀ s y, y < 64 → (isM (Fth F 0) s y ↔ isM F s y) := fun s y hy => isM_congr (fun _ _ => Fth_S) hy
  exact common_P (Fth_ok hr) (by omega) (by omega) (okS_congr (fun _ _ => Fth_S) hP.1.1.2.2 (hP.2.2.2.2.2 i hi).2) (okS_congr (fun _ _ => Fth_S) hP.1.1.2.2 (hP.2.2.2.2.2 j hj).2) hP.1.1.2.2 (by rw [Fth_gt (.inl (by omega))]; exact hP.1.1.1) (fun y hy => (h1 y hy).trans (e i y hy).symm) (fun y hy => (h2 y hy).trans (e j y hy).symm)
theorem O_common (h : simD M x r G F a d C u hz n k) (s o : Int32) : opR x r M (tX9_common x s o M) (fun M' => tX10_common r s o M') mp1 := by
  have hP := D_p h
  have hb := D_b h
  have hn5 := hP.1.2.2.1.2
  rcases arg_2 s o (n := n) (by omega) with ⟨i, j, hi, hj, rfl, rfl⟩ | g
  · have hi5 : i < 5 := by omega
    have hj5 : j < 5 := by omega
    obtain ⟨B1, m1, b1, b2, b3, b4, b5⟩ := c_bitsS h hi
    obtain ⟨B2, m2, e1, e2, e3, e4, e5⟩ := c_bitsS h hj
    refine opR_read (z := .inl (Int32.ofNat (pcI (B1 &&& B2)))) (c := 0) h ?_ (fun M' hr => ?_) rfl (fun v e => Sum.inl.inj e)
    · rw [tX9_common, if_pos (ok2 M), if_pos (T_x h.1.1), (c_rowsOf h _).1 i hi rfl, Option.bind_some]
      simp only [Sum.elim_inl]
      rw [if_pos (ok0 M), if_pos (B_tR hb hi5), b1, Option.bind_some, if_pos (ok2 M), if_pos (T_x h.1.1), (c_rowsOf h _).1 j hj rfl, Option.bind_some]
      simp only [Sum.elim_inl]
      rw [if_pos (ok0 M), if_pos (B_tR hb hj5), e1, Option.bind_some, if_pos (ok0 M), bitCount_eq, Option.bind_some, if_pos (ok1 M)]
    · rw [tX10_common, if_pos r_tag, (r_noSetsS h hr _ _).1 i j hi hj rfl rfl, Option.bind_some, if_pos rfl, if_pos r_tag, r_comS h hr hi hj b2 e2, Option.bind_some]
  · refine opR_read (z := .inr 1) (b := 0) (c := 1) h ?_ (fun M' hr => ?_) rfl (fun v e => by cases e)
    · rcases g with g | ⟨⟨i, hi, rfl⟩, g⟩
      · rw [tX9_common, if_pos (ok2 M), if_pos (T_x h.1.1), (c_rowsOf h s).2 g, Option.bind_some]; rfl
      · obtain ⟨B1, m1, b1, -⟩ := c_bitsS h hi
        rw [tX9_common, if_pos (ok2 M), if_pos (T_x h.1.1), (c_rowsOf h _).1 i hi rfl, Option.bind_some]
        simp only [Sum.elim_inl]
        rw [if_pos (ok0 M), if_pos (B_tR hb (by omega)), b1, Option.bind_some, if_pos (ok2 M), if_pos (T_x h.1.1), (c_rowsOf h _).2 g, Option.bind_some]
        rfl
    · rw [tX10_common, if_pos r_tag, (r_noSetsS h hr _ _).2 g, Option.bind_some, if_neg n10]
theorem O_isWithin (h : simD M x r G F a d C u hz n k) (s o : Int32) : opR x r M (tX9_isWithin x s o M) (fun M' => tX10_isWithin r s o M') mp1 := by
  have hP := D_p h
  have hb := D_b h
  have hn5 := hP.1.2.2.1.2
  rcases arg_2 s o (n := n) (by omega) with ⟨i, j, hi, hj, rfl, rfl⟩ | g
  · have hi5 : i < 5 := by omega
    have hj5 : j < 5 := by omega
    obtain ⟨B1, m1, b1, b2, b3, b4, b5⟩ := c_bitsS h hi
    obtain ⟨B2, m2, e1, e2, e3, e4, e5⟩ := c_bitsS h hj
    have hle := pcI_le (B1 &&& B2)
    refine opR_read (z := .inl (if pcI (B1 &&& B2) = pcI B1 then 1 else 0)) (c := 0) h ?_ (fun M' hr => ?_) rfl (fun v e => Sum.inl.inj e)
    · rw [tX9_isWithin, if_pos (ok2 M), if_pos (T_x h.1.1), (c_rowsOf h _).1 i hi rfl, Option.bind_some]
      simp only [Sum.elim_inl]
      rw [if_pos (ok0 M), if_pos (B_tR hb hi5), b1, Option.bind_some, if_pos (ok2 M), if_pos (T_x h.1.1), (c_rowsOf h _).1 j hj rfl, Option.bind_some]
      simp only [Sum.elim_inl]
      rw [if_pos (ok0 M), if_pos (B_tR hb hj5), e1, Option.bind_some]
      by_cases q : pcI (B1 &&& B2) = pcI B1
      · rw [if_pos q, if_pos (within_P.mpr q), if_pos (ok1 M)]
      · rw [if_neg q, if_neg (fun g => q (within_P.mp g)), if_pos (ok1 M)]
    · rw [tX10_isWithin, if_pos r_tag, (r_noSetsS h hr _ _).1 i j hi hj rfl rfl, Option.bind_some, if_pos rfl, if_pos r_tag, r_comS h hr hi hj b2 e2, Option.bind_some, if_pos r_tag, l0, r_of (Fth_ok hr) hi5 (by omega), Option.bind_some, Fth_S, b4, ← b3]
      by_cases q : pcI (B1 &&& B2) = pcI B1
      · rw [if_pos q, if_pos (by rw [q])]
      · rw [if_neg q, if_neg (fun g => q ((n_eq (by omega) (by omega)).mp g))]
  · refine opR_read (z := .inr 1) (b := 0) (c := 1) h ?_ (fun M' hr => ?_) rfl (fun v e => by cases e)
    · rcases g with g | ⟨⟨i, hi, rfl⟩, g⟩
      · rw [tX9_isWithin, if_pos (ok2 M), if_pos (T_x h.1.1), (c_rowsOf h s).2 g, Option.bind_some]; rfl
      · obtain ⟨B1, m1, b1, -⟩ := c_bitsS h hi
        rw [tX9_isWithin, if_pos (ok2 M), if_pos (T_x h.1.1), (c_rowsOf h _).1 i hi rfl, Option.bind_some]
        simp only [Sum.elim_inl]
        rw [if_pos (ok0 M), if_pos (B_tR hb (by omega)), b1, Option.bind_some, if_pos (ok2 M), if_pos (T_x h.1.1), (c_rowsOf h _).2 g, Option.bind_some]
        rfl
    · rw [tX10_isWithin, if_pos r_tag, (r_noSetsS h hr _ _).2 g, Option.bind_some, if_neg n10]
theorem n_un {a b c d : Nat} (h : d + c = a + b) : Int32.ofNat a + Int32.ofNat b - Int32.ofNat c = Int32.ofNat d := by
  rw [n_add, n_sub (by omega), show a + b - c = d by omega]
theorem n_z {a : Nat} (h : a < 2147483648) (g : ¬ a = 0) : ¬ Int32.ofNat a = 0 := fun e => g ((n_eq (b := 0) h (by omega)).mp e)
theorem n_z0 {a : Nat} (g : a = 0) : Int32.ofNat a = 0 := by rw [g]; rfl
theorem O_likeness (h : simD M x r G F a d C u hz n k) (s o : Int32) : opR x r M (tX9_likeness x s o M) (fun M' => tX10_likeness r s o M') mp1 := by
  have hP := D_p h
  have hb := D_b h
  have hn5 := hP.1.2.2.1.2
  rcases arg_2 s o (n := n) (by omega) with ⟨i, j, hi, hj, rfl, rfl⟩ | g
  · have hi5 : i < 5 := by omega
    have hj5 : j < 5 := by omega
    obtain ⟨B1, m1, b1, b2, b3, b4, b5⟩ := c_bitsS h hi
    obtain ⟨B2, m2, e1, e2, e3, e4, e5⟩ := c_bitsS h hj
    have hle := pcI_le (B1 &&& B2)
    have hlo := pcI_le (B1 ||| B2)
    have hun := union_P (B1 := B1) (B2 := B2)
    rw [b3, e3] at hun
    refine opR_read (z := .inl (if pcI (B1 ||| B2) = 0 then 0x3FF0000000000000 else FP.ddiv (FP.i2d (Int32.ofNat (pcI (B1 &&& B2)))) (FP.i2d (Int32.ofNat (pcI (B1 ||| B2)))))) (c := 0) h ?_ (fun M' hr => ?_) rfl (fun v e => Sum.inl.inj e)
    · rw [tX9_likeness, if_pos (ok2 M), if_pos (T_x h.1.1), (c_rowsOf h _).1 i hi rfl, Option.bind_some]
      simp only [Sum.elim_inl]
      rw [if_pos (ok0 M), if_pos (B_tR hb hi5), b1, Option.bind_some, if_pos (ok2 M), if_pos (T_x h.1.1), (c_rowsOf h _).1 j hj rfl, Option.bind_some]
      simp only [Sum.elim_inl]
      rw [if_pos (ok0 M), if_pos (B_tR hb hj5), e1, Option.bind_some, if_pos (ok0 M), bitCount_eq, Option.bind_some]
      by_cases q : pcI (B1 ||| B2) = 0
      · rw [if_pos q, if_pos (n_z0 q), if_pos (ok1 M)]
      · rw [if_neg q, if_neg (n_z (Nat.lt_of_le_of_lt hlo (by decide)) q), if_pos (ok0 M), bitCount_eq, Option.bind_some, if_pos (like_ok _ (Nat.lt_succ_of_le hle) _ (Nat.lt_succ_of_le hlo) (Nat.pos_of_ne_zero q)), if_pos (ok1 M)]
    · have ez : Int32.ofNat m1 + Int32.ofNat m2 - Int32.ofNat (pcI (B1 &&& B2)) = Int32.ofNat (pcI (B1 ||| B2)) := n_un hun
      rw [tX10_likeness, if_pos r_tag, (r_noSetsS h hr _ _).1 i j hi hj rfl rfl, Option.bind_some, if_pos rfl, if_pos r_tag, r_comS h hr hi hj b2 e2, Option.bind_some, if_pos r_tag, l0, r_of (Fth_ok hr) hi5 (by omega), Option.bind_some, Fth_S, b4, if_pos r_tag, r_of (Fth_ok hr) hj5 (by omega), Option.bind_some, Fth_S, e4, ez, ← l0]
      by_cases q : pcI (B1 ||| B2) = 0
      · rw [if_pos q, if_pos (n_z0 q)]
      · rw [if_neg q, if_neg (n_z (Nat.lt_of_le_of_lt hlo (by decide)) q), if_pos (like_ok _ (Nat.lt_succ_of_le hle) _ (Nat.lt_succ_of_le hlo) (Nat.pos_of_ne_zero q))]
  · refine opR_read (z := .inr 1) (b := 0) (c := 1) h ?_ (fun M' hr => ?_) rfl (fun v e => by cases e)
    · rcases g with g | ⟨⟨i, hi, rfl⟩, g⟩
      · rw [tX9_likeness, if_pos (ok2 M), if_pos (T_x h.1.1), (c_rowsOf h s).2 g, Option.bind_some]; rfl
      · obtain ⟨B1, m1, b1, -⟩ := c_bitsS h hi
        rw [tX9_likeness, if_pos (ok2 M), if_pos (T_x h.1.1), (c_rowsOf h _).1 i hi rfl, Option.bind_some]
        simp only [Sum.elim_inl]
        rw [if_pos (ok0 M), if_pos (B_tR hb (by omega)), b1, Option.bind_some, if_pos (ok2 M), if_pos (T_x h.1.1), (c_rowsOf h _).2 g, Option.bind_some]
        rfl
    · rw [tX10_likeness, if_pos r_tag, (r_noSetsS h hr _ _).2 g, Option.bind_some, if_neg n10]
end
