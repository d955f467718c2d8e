section
variable {M : vMe} {x r a d b : Nat} {G F C E : Nat → Nat → Value} {u hz n k : Nat}
/-! what the class's reading calls answer -/
theorem Q_set {j l : Nat} (h : simD M x r G F a d C u hz n k) (hj : j < n) (hl : l < 5) : tX9_set x (Int32.ofNat j) (Int32.ofNat l) M = some (.inl (if l = 4 then Int32.ofNat (sumU (onU F j) 6 0) else oS F j l), M) := by
  have hP := D_p h
  have hb := D_b h
  have hc := D_c h
  have hn5 := hP.1.2.2.1.2
  have hj5 : j < 5 := by omega
  have cr := (c_rowsOf h (Int32.ofNat j)).1 j hj rfl
  obtain ⟨sS, sO⟩ := hP.2.2.2.2.2 j hj
  rw [tX9_set, if_pos (ok2 M), if_pos (T_x h.1.1), cr, Option.bind_some]
  simp only [Sum.elim_inl]
  rcases (show l = 0 ∨ l = 1 ∨ l = 2 ∨ l = 3 ∨ l = 4 by omega) with rfl | rfl | rfl | rfl | rfl
  · rw [if_pos (by decide), B_rI hb hj5, Option.bind_some, if_pos (ok1 M), sS.1]; rfl
  · rw [if_neg (by decide), if_pos (by decide), B_rI hb hj5, Option.bind_some, if_pos (ok1 M), sS.2.1]; rfl
  · rw [if_neg (by decide), if_neg (by decide), if_pos (by decide), B_rA hb hc hj5 (by omega), Option.bind_some, show a + (4 + 8 * j + (3 + 1)) = a + (4 + 8 * j + 4) from rfl, B_lI hb hj5, Option.bind_some, if_pos (ok1 M), sS.2.2.2.2.2.2.1]; rfl
  · rw [if_neg (by decide), if_neg (by decide), if_neg (by decide), if_pos (by decide), B_rA hb hc hj5 (by omega), Option.bind_some, show a + (4 + 8 * j + (3 + 1)) = a + (4 + 8 * j + 4) from rfl, B_lI hb hj5, Option.bind_some, if_pos (ok1 M), sS.2.2.2.2.2.1]; rfl
  · have := c_countOpen (M := M) (s := j) hc hP.2.2.2.1
    rw [hb.eq] at this
    rw [if_neg (by decide), if_neg (by decide), if_neg (by decide), if_neg (by decide), if_pos (by decide), A_no h, Option.bind_some, if_pos (ok0 M), if_pos (T_b hb), this, Option.bind_some, if_pos (ok1 M)]; rfl
theorem Q_cell {j l : Nat} {pl : Int32} (h : simD M x r G F a d C u hz n k) (hj : j < n) (hl : l < u) : tX9_cell x (Int32.ofNat j) (Int32.ofNat l) pl M = some (.inl (if pl = 0 then oS F j (6 + l) else oS F j (70 + l)), M) := by
  have hP := D_p h
  have hb := D_b h
  have hc := D_c h
  have hj5 : j < 5 := by have := hP.1.2.2.1.2; omega
  have hu := hP.1.1.2
  obtain ⟨sS, sO⟩ := hP.2.2.2.2.2 j hj
  rw [tX9_cell, if_pos (ok2 M), if_pos (T_x h.1.1), (c_rowsOf h (Int32.ofNat j)).1 j hj rfl, Option.bind_some]
  show ((gA M x 11 3).bind _) = _
  rw [A_no h, Option.bind_some, if_pos (ok0 M), if_pos (T_b hb), (c_hasNumber hb hP _).1 l hl rfl, Option.bind_some, if_neg (by decide)]
  by_cases q : pl = 0
  · rw [if_pos q, if_pos q, B_rA hb hc hj5 (by omega), Option.bind_some, B_mI hb hj5 (by omega) (by omega), Option.bind_some, if_pos (ok1 M), show gt C (4 + 8 * j + (0 + 1)) l = oS F j (6 + l) from sS.2.2.1 l (by omega)]
  · rw [if_neg q, if_neg q, B_rA hb hc hj5 (by omega), Option.bind_some, B_mI hb hj5 (by omega) (by omega), Option.bind_some, if_pos (ok1 M), show gt C (4 + 8 * j + (1 + 1)) l = oS F j (70 + l) from sS.2.2.2.1 l (by omega)]
theorem Q_place {j l : Nat} (h : simD M x r G F a d C u hz n k) (hj : j < n) (hl : l < 64) : ∃ v, tX9_place x (Int32.ofNat j) (Int32.ofNat l) M = some (.inl v, M) ∧ (isM F j l → v = oS F j (70 + l)) ∧ (¬ isM F j l → v = -1) := by
  have hP := D_p h
  have hb := D_b h
  have hj5 : j < 5 := by have := hP.1.2.2.1.2; omega
  obtain ⟨v, v1, v2⟩ := c_pl h hj (Int32.ofNat l)
  refine ⟨v, ?_, fun g => ?_, fun g => ?_⟩
  · rw [tX9_place, if_pos (ok2 M), if_pos (T_x h.1.1), (c_rowsOf h (Int32.ofNat j)).1 j hj rfl, Option.bind_some]
    show (if M.2.1 + 0 ≤ M.2.1 + 1 ∧ M.2.2.1 + 0 ≤ M.2.2.1 + 6 then _ else _) = _
    rw [if_pos (ok0 M), if_pos (B_tR hb hj5), v1, Option.bind_some, if_pos (ok1 M)]
  · rcases v2 with ⟨-, q⟩ | ⟨y, y1, y2, y3, y4⟩
    · exact absurd g (q l hl rfl)
    · rw [y4, (n_eq (by omega) (by omega)).mp y2]
  · rcases v2 with ⟨q, -⟩ | ⟨y, y1, y2, y3, y4⟩
    · exact q
    · have : l = y := (n_eq (by omega) (by omega)).mp y2
      exact absurd (this ▸ y3) g
theorem Q_stampOf {j l : Nat} (h : simD M x r G F a d C u hz n k) (hj : j < n) (hl : l < 64) : ∃ v, tX9_stampOf x (Int32.ofNat j) (Int32.ofNat l) M = some (.inl v, M) ∧ (isM F j l → v = oS F j (134 + l)) ∧ (¬ isM F j l → v = -1) := by
  have hP := D_p h
  have hb := D_b h
  have hc := D_c h
  have hj5 : j < 5 := by have := hP.1.2.2.1.2; omega
  obtain ⟨sS, sO⟩ := hP.2.2.2.2.2 j hj
  have st : tX9_stampOf x (Int32.ofNat j) (Int32.ofNat l) M = (tX7_has (a + (4 + 8 * j)) (Int32.ofNat l) M).bind fun z4 => if z4 = 0 then (if M.2.1 ≤ M.2.1 + 1 ∧ M.2.2.1 ≤ M.2.2.1 + 6 then some (Sum.inl (-1), M) else none) else
      ((gA M (a + (4 + 8 * j)) 9 2).bind fun a6 => (aI M a6 101 (Int32.ofNat l)).bind fun v7 => if M.2.1 ≤ M.2.1 + 1 ∧ M.2.2.1 ≤ M.2.2.1 + 6 then some (Sum.inl v7, M) else none) := by
    rw [tX9_stampOf, if_pos (ok2 M), if_pos (T_x h.1.1), (c_rowsOf h (Int32.ofNat j)).1 j hj rfl, Option.bind_some]
    show (if M.2.1 + 0 ≤ M.2.1 + 1 ∧ M.2.2.1 + 0 ≤ M.2.2.1 + 6 then _ else _) = _
    rw [if_pos (ok0 M), if_pos (B_tR hb hj5)]
  rcases c_hasW h hj (Int32.ofNat l) with ⟨e, g⟩ | ⟨y, y1, y2, y3, e⟩
  · exact ⟨-1, by rw [st, e, Option.bind_some, if_pos rfl, if_pos (ok1 M)], fun q => absurd q (g l hl rfl), fun _ => rfl⟩
  · have : l = y := (n_eq (by omega) (by omega)).mp y2
    subst this
    exact ⟨oS F j (134 + l), by rw [st, e, Option.bind_some, if_neg (by decide), B_rA hb hc hj5 (by omega), Option.bind_some, B_mI hb hj5 (by omega) y1, Option.bind_some, if_pos (ok1 M), show gt C (4 + 8 * j + (2 + 1)) l = oS F j (134 + l) from sS.2.2.2.2.1 l y1 y3], fun _ => rfl, fun q => absurd y3 q⟩
theorem Q_event {j l m i : Nat} (h : simD M x r G F a d C u hz n k) (hj : j < n) (hl : l < 3) (m2 : oS F j 3 = Int32.ofNat m) (m1 : m ≤ 60) (hi : i ≤ m) : tX9_event x (Int32.ofNat j) (Int32.ofNat i) (Int32.ofNat l) M = some (.inl (if i = m then -1 else oS F j (198 + 3 * i + l)), M) := by
  have hP := D_p h
  have hb := D_b h
  have hc := D_c h
  have hj5 : j < 5 := by have := hP.1.2.2.1.2; omega
  obtain ⟨sS, sO⟩ := hP.2.2.2.2.2 j hj
  have hL := simS_L sS
  have nl : ¬ Int32.ofNat l < 0 := n_neg (by omega)
  have nl2 : ¬ (2 : Int32) < Int32.ofNat l := n_nlt (a := 2) (by omega) (by omega) (by omega)
  have e3 : gI M (a + (4 + 8 * j + 4)) 5 3 = some (Int32.ofNat m) := by rw [B_lI hb hj5, hL.1, m2]
  rw [tX9_event, if_pos (ok2 M), if_pos (T_x h.1.1), (c_rowsOf h (Int32.ofNat j)).1 j hj rfl, Option.bind_some]
  simp only [Sum.elim_inl]
  rw [B_rA hb hc hj5 (by omega), Option.bind_some, if_neg nl, if_pos (Int32.not_lt.mp nl2), show a + (4 + 8 * j + (3 + 1)) = a + (4 + 8 * j + 4) from rfl, if_neg (n_neg (by omega)), e3, Option.bind_some]
  by_cases q : i = m
  · rw [if_neg (n_nlt (by omega) (by omega) (by omega)), if_pos (ok1 M), if_pos q]
  · have g := hL.2.2.2 i m m2 (by omega) m1 l hl
    rw [if_pos ((n_lt (by omega) (by omega)).mpr (by omega)), if_neg q]
    rcases (show l = 0 ∨ l = 1 ∨ l = 2 by omega) with rfl | rfl | rfl
    · rw [if_pos (by decide), B_lA hb hc hj5 (by omega), Option.bind_some, B_eI hb hj5 (by omega) (by omega), Option.bind_some, if_pos (ok1 M), g]
    · rw [if_neg (by decide), if_pos (by decide), B_lA hb hc hj5 (by omega), Option.bind_some, B_eI hb hj5 (by omega) (by omega), Option.bind_some, if_pos (ok1 M), g]
    · rw [if_neg (by decide), if_neg (by decide), B_lA hb hc hj5 (by omega), Option.bind_some, B_eI hb hj5 (by omega) (by omega), Option.bind_some, if_pos (ok1 M), g]
theorem Q_cursor {c l : Nat} (h : simD M x r G F a d C u hz n k) (hc : c < 6) (h0 : oC F c 0 = 1) (hl : l < 7) : tX9_cursor x (Int32.ofNat c) (Int32.ofNat l) M = some (.inl (if l = 6 then oC F c 7 - 1 else oC F c (l + 1)), M) := by
  have hP := D_p h
  have hb := D_b h
  rcases hP.2.2.2.1 c hc with ⟨g1, -⟩ | ⟨g1, g2, g3, g4, g5, g6, g7, g8, g9, g10, g11, -⟩
  · rw [g1] at h0; exact absurd h0 (by decide)
  have e3 : (if oC F c 3 = 0 then some ((Sum.inl 0 : Int32 ⊕ Nat), M) else some (Sum.inl 1, M)) = some (Sum.inl (oC F c 3), M) := by
    rcases g10 with e | e
    · rw [if_pos e, e]
    · rw [if_neg (by rw [e]; decide), e]
  have e4 : (if oC F c 4 = 0 then some ((Sum.inl 0 : Int32 ⊕ Nat), M) else some (Sum.inl 1, M)) = some (Sum.inl (oC F c 4), M) := by
    rcases g11 with e | e
    · rw [if_pos e, e]
    · rw [if_neg (by rw [e]; decide), e]
  rw [tX9_cursor, if_pos (ok2 M), if_pos (T_x h.1.1), (c_cursorOf h (Int32.ofNat c)).1 c hc h0 rfl, Option.bind_some]
  simp only [Sum.elim_inl, B_uI hb hc, Option.bind_some, g3, g4, g5, g6, g7, g8, g9, ok1 M, ok2 M, and_self, if_true]
  rw [e3, e4]
  rcases (show l = 0 ∨ l = 1 ∨ l = 2 ∨ l = 3 ∨ l = 4 ∨ l = 5 ∨ l = 6 by omega) with rfl | rfl | rfl | rfl | rfl | rfl | rfl
  · rw [if_pos (by decide)]; rfl
  · rw [if_neg (by decide), if_pos (by decide)]; rfl
  · rw [if_neg (by decide), if_neg (by decide), if_pos (by decide)]; rfl
  · rw [if_neg (by decide), if_neg (by decide), if_neg (by decide), if_pos (by decide)]; rfl
  · rw [if_neg (by decide), if_neg (by decide), if_neg (by decide), if_neg (by decide), if_pos (by decide)]; rfl
  · rw [if_neg (by decide), if_neg (by decide), if_neg (by decide), if_neg (by decide), if_neg (by decide), if_pos (by decide)]; rfl
  · rw [if_neg (by decide), if_neg (by decide), if_neg (by decide), if_neg (by decide), if_neg (by decide), if_neg (by decide), if_pos (by decide)]; rfl
theorem Q_size {l : Nat} (h : simD M x r G F a d C u hz n k) (hl : l < 7) : tX9_size x (Int32.ofNat l) M = some (.inl (if l = 5 then Int32.ofNat (sumU (inU F) 6 0) else if l = 6 then gt F 1 5 else gt F 1 l), M) := by
  have hP := D_p h
  have hb := D_b h
  have hh := hP.2.1
  rcases (show l = 0 ∨ l = 1 ∨ l = 2 ∨ l = 3 ∨ l = 4 ∨ l = 5 ∨ l = 6 by omega) with rfl | rfl | rfl | rfl | rfl | rfl | rfl
  · rw [tX9_size, if_pos (by decide), A_no h, Option.bind_some, B_I0 hb, Option.bind_some, if_pos (ok1 M), hh.2.2.1]; rfl
  · rw [tX9_size, if_neg (by decide), if_pos (by decide), A_no h, Option.bind_some, B_I0 hb, Option.bind_some, if_pos (ok1 M), hh.1]; rfl
  · rw [tX9_size, if_neg (by decide), if_neg (by decide), if_pos (by decide), A_no h, Option.bind_some, B_I0 hb, Option.bind_some, if_pos (ok1 M), hh.2.1]; rfl
  · rw [tX9_size, if_neg (by decide), if_neg (by decide), if_neg (by decide), if_pos (by decide), A_no h, Option.bind_some, B_I0 hb, Option.bind_some, if_pos (ok1 M), hh.2.2.2.2.1]; rfl
  · rw [tX9_size, if_neg (by decide), if_neg (by decide), if_neg (by decide), if_neg (by decide), if_pos (by decide), A_no h, Option.bind_some, B_I0 hb, Option.bind_some, if_pos (ok1 M), hh.2.2.2.1]; rfl
  · have := c_countCursors (M := M) (D_c h) hP.2.2.2.1
    rw [hb.eq] at this
    rw [tX9_size, if_neg (by decide), if_neg (by decide), if_neg (by decide), if_neg (by decide), if_neg (by decide), if_pos (by decide), A_no h, Option.bind_some, if_pos (ok0 M), if_pos (T_b hb), this, Option.bind_some, if_pos (ok1 M)]; rfl
  · rw [tX9_size, if_neg (by decide), if_neg (by decide), if_neg (by decide), if_neg (by decide), if_neg (by decide), if_neg (by decide), if_pos (by decide), A_no h, Option.bind_some, B_I0 hb, Option.bind_some, if_pos (ok1 M), hh.2.2.2.2.2]; rfl
theorem Q_marked {i : Nat} (h : simD M x r G F a d C u hz n k) (hi : i < 9) : tX9_marked x (Int32.ofNat i) M = some (if i < k then gt F 1 (6 + i) else -1) := by
  have hP := D_p h
  have hb := D_b h
  have hk8 := hP.1.2.2.2.2
  have e6 : gI M a 8 6 = some (Int32.ofNat k) := by rw [B_I0 hb, hP.2.1.2.2.2.1, hP.1.2.2.2.1]
  rw [tX9_marked, if_neg (n_neg (by omega)), A_no h, Option.bind_some, e6, Option.bind_some]
  by_cases q : i < k
  · rw [if_neg (fun g => by have := (n_le (by omega) (by omega)).mp g; omega), Option.bind_some, B_A2 hb (D_c h), Option.bind_some, B_mk hb (by omega), Option.bind_some, hP.2.2.1 i q, if_pos q]
  · rw [if_pos ((n_le (by omega) (by omega)).mpr (by omega)), if_neg q]
theorem Q_ahead {c s m : Nat} (h : simD M x r G F a d C u hz n k) (hc : c < 6) (h0 : oC F c 0 = 1) (hs : s < n) (h1 : oC F c 1 = Int32.ofNat s) (hm : oS F s 0 = Int32.ofNat m) (hm64 : m ≤ 64) {p : Nat} (hp : oC F c 2 = Int32.ofNat p) (hp64 : p ≤ 64) : tX9_ahead x (Int32.ofNat c) M = some (.inl (if oC F c 3 = 0 then 0 else Int32.ofNat (sumU (ahU F c s) (m - p) p)), M) := by
  have hP := D_p h
  have hb := D_b h
  have hs5 : s < 5 := by have := hP.1.2.2.1.2; omega
  rcases hP.2.2.2.1 c hc with ⟨g1, -⟩ | ⟨g1, g2, g3, g4, g5, g6, g7, g8, g9, g10, g11, -⟩
  · rw [g1] at h0; exact absurd h0 (by decide)
  have key : tX5_countAhead a (a + (44 + c)) M = some (if oC F c 3 = 0 then 0 else Int32.ofNat (sumU (ahU F c s) (m - p) p)) := by
    have e := (c_ahead_L (M := M) (D_c h) hP hc h0 (s := s) (m := m))
    rw [tX5_countAhead, B_A0 hb (D_c h), Option.bind_some, B_uI hb hc, Option.bind_some, g5, h1, B_S hb (D_c h) hs5, Option.bind_some, B_uI hb hc, Option.bind_some, g6, hp]
    by_cases q : oC F c 3 = 0
    · rw [if_pos q, show vF = 99999 + 1 from rfl, tX5_countAhead_L18, B_uI hb hc, Option.bind_some, g3, if_pos q]; rfl
    · have q1 : oC F c 3 = 1 := g10.resolve_left q
      have hpm : p ≤ m := hP.2.2.2.2.1 c s p m hc hs ⟨h0, q1, h1⟩ hp hp64 hm hm64
      have := e q1 hs hm hm64 (m - p) vF p 0 (by omega) (by unfold vF; omega)
      rw [hb.eq] at this
      rw [if_neg q, show (0 : Int32) = Int32.ofNat 0 from rfl, this, Option.bind_some, Nat.zero_add]
  rw [tX9_ahead, A_no h, Option.bind_some, if_pos (ok2 M), if_pos (T_x h.1.1), (c_cursorOf h (Int32.ofNat c)).1 c hc h0 rfl, Option.bind_some]
  simp only [Sum.elim_inl]
  rw [if_pos (ok0 M), if_pos (T_b hb), key, Option.bind_some, if_pos (ok1 M)]
end
