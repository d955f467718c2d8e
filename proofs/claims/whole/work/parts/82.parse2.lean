section
variable {M M' N : vMe} {x y r a d u hz n k : Nat} {G F C D : Nat → Nat → Value} {P : Nat → Value} {T : Nat → Nat} {len : Nat} {Gs : Nat → Nat}
/-- what a parse leaves of the memory -/
def pM (x d : Nat) (M N2 : vMe) (G : Nat → Nat → Value) (P2 : Nat → Value) (D2 : Nat → Nat → Value) : Prop :=
  hG N2 x G ∧ hY N2 M.2.1 P2 ∧ hB N2 d D2 ∧ cOk N2 d D2 ∧ (∀ q, q < M.2.1 → ¬ (d ≤ q ∧ q < d + 50) → N2.1 q = M.1 q) ∧ N2.2.2.2 = M.2.2.2 ∧ M.2.1 < N2.2.1 ∧ N2.2.1 ≤ M.2.1 + 26 ∧ N2.2.2.1 ≤ M.2.2.1 + 269
/-- the parse on both sides, up to what the class does with its end -/
theorem run_P {wl : Nat → List Nat} {ws : List Nat} {v : Nat} (h : simD M x r G F a d C u hz n k) (hd : tkD Gs) (hwc : ∀ i, i < 5 → nmAt M x r G (Gs (14 + i)) (wl i)) (hws : nmAt M x r G (Gs 13) ws) (h4 : gt F 0 4 = Int32.ofNat len) (hv : v ≤ len) (hl : len ≤ 600)
    {N0 : vMe} {P0 : Nat → Value} {E : Nat → Nat → Value} (s3 : N0.2 = (M.2.1 + 1, M.2.2.1 + 9, M.2.2.2)) (s4 : ∀ q, q < M.2.1 → N0.1 q = M.1 q) (s5 : vI (P0 5) = Int32.ofNat 0) (s6 : vI (P0 7) = 0) (s7 : vI (P0 8) = -1)
    (s9 : ∀ M' F2, rOk M' r F2 → F2 3 = F 3 → gt F2 0 5 = Int32.ofNat v → pS x M.2.1 d r v T G N0 M' P0 E F2) (rO : rOk M' r F) (hwr : ∀ i, i < 5 → wS M' r (Gs (20 + i)) (wl i)) (hwr5 : wS M' r (Gs 25) ws) :
    (∃ N2 P2 D2 F2, tX3_readText Gs M.2.1 N0 = some (0, N2) ∧ tX10_parse Gs r (Int32.ofNat v) (rv M' r F) = some (vI (P2 7), rv M' r F2) ∧ pM x d M N2 G P2 D2 ∧ vI (P2 8) = gt F2 0 12 ∧ rOk M' r F2 ∧ gt F2 0 0 = 0 ∧ gt F2 0 4 = 0 ∧ gt F2 0 18 = gt F 0 18 ∧ (∀ l, l < 1952 → gt F2 1 l = gt F 1 l) ∧ ∀ i, i = 2 ∨ i = 3 ∨ i = 7 ∨ i = 8 ∨ i = 9 → F2 i = F i) ∨
    (∃ N2 P2 D2 F2 u2 hz2 n2 k2, tX3_readText Gs M.2.1 N0 = some (1, N2) ∧ tX10_parse Gs r (Int32.ofNat v) (rv M' r F) = some (0, rv M' r F2) ∧ pM x d M N2 G P2 D2 ∧ vI (P2 7) = 0 ∧ vI (P2 8) = gt F2 0 12 ∧ rOk M' r F2 ∧ gt F2 0 0 = 0 ∧ gt F2 0 4 = 0 ∧ gt F2 0 18 = 0 ∧ (∀ j, j < 2 → gt F2 9 j = 0) ∧ simP D2 F2 u2 hz2 n2 k2 ∧ simNm N2 x r G D2 F2 2 n2 ∧ F2 3 = F 3) := by
  obtain ⟨⟨a1, a2, a3, a4, a5, a6⟩, ⟨b1, b2, b3, b4⟩, c1, d1, -, -, -, -, -, -⟩ := id h
  obtain ⟨⟨dx, dm, dr⟩, -⟩ := c1 1 d (by omega) (bk1 b2)
  obtain ⟨F3, p1, p2, p00, p04, p05, p07, p11, p12, p18, pz, pw, po⟩ := r_pre (Gs := Gs) rO h4 hv hl
  have n1 : N0.2.1 = M.2.1 + 1 := by rw [s3]
  have n2 : N0.2.2.1 = M.2.2.1 + 9 := by rw [s3]
  have n3 : N0.2.2.2 = M.2.2.2 := by rw [s3]
  have S := s9 M' F3 p2 (po 3 (by omega) (by omega) (by omega)) p05
  have mv : ∀ q l, nmAt M x r G q l → nmAt N0 x r G q l := fun q l ⟨p, p1, p2, p3, p4, p5⟩ => ⟨p, p1.same (s4 q p4) (s4 p p5), p2, p3, by omega, by omega⟩
  have ho : ∀ q, own x r G q → q < N0.2.1 := fun q hq => by
    rcases hq with g | g | ⟨i, b, hi, hb, g1, g2⟩
    · omega
    · omega
    · have := (c1 i b hi hb).1.2.1; omega
  have mem : ∀ (N2 : vMe) (P2 D2 F2), pS x M.2.1 d r v T G N2 M' P2 D2 F2 → fr M.2.1 d N0 N2 P2 P2 F3 F2 → N2.2.1 ≤ N0.2.1 + 25 → N2.2.2.1 ≤ N0.2.2.1 + 260 → pM x d M N2 G P2 D2 := fun N2 P2 D2 F2 S2 f m1 m2 =>
    ⟨S2.1.1, S2.2.1.1, S2.2.2.1.1, S2.2.2.1.2, fun q q1 q2 => by rw [f.1 q (by omega) q2 (by omega), s4 q q1], by rw [f.2.1, n3], by have := f.2.2.1; omega, by omega, by omega⟩
  rcases head_P (Gs := Gs) S hd s5 p07 p11 b2 pz ⟨s6, s7, p12⟩ (fun i hi => mv _ _ (hwc i hi)) (mv _ _ hws) hwr hwr5 (by omega) (by omega) (by omega) (by rw [n3]; have := a2.1; omega) ho with ⟨N2, P2, D2, F2, k1, k2, k3, k4, k5, k6, k7⟩ | ⟨N2, P2, D2, F2, u2, hz2, n2', k2', c2, e2, e3, k1, k2, k3, k5, k6, k7⟩
  · left
    obtain ⟨F5, e1, e2, e3, e4⟩ := r_bad k3.2.2.2.1.1
    have z : ∀ l, l < 6 ∨ 16 < l → gt F5 0 l = gt F3 0 l := fun l hl => by rw [gt_row (e4 0 (by omega))]; unfold gt; rw [k5.2.2.2.2.2 l hl]
    refine ⟨N2, P2, D2, F5, k1, by rw [p1, k2, e1, ← k4.1], mem N2 P2 D2 F2 k3 k5 k6 k7, by rw [gt_row (e4 0 (by omega))]; exact k4.2, e2, by rw [z 0 (by omega)]; exact p00, by rw [z 4 (by omega)]; exact p04, by rw [z 18 (by omega)]; exact p18, fun l hl => by rw [e3 l hl, gt_row (k5.2.2.2.2.1 4 (by omega)), pw l hl], fun i hi => by rw [e4 i (by omega), k5.2.2.2.2.1 i (by omega), po i (by omega) (by omega) (by omega)]⟩
  · right
    obtain ⟨J1, J2, J3, J4, J5, J6, J7, J8⟩ := k3
    obtain ⟨F5, e1, e2, e3, e4, e5, e6, e7⟩ := r_good J1.2.2.2.1.1
    have z : ∀ l, l < 6 ∨ (16 < l ∧ l ≠ 18) → gt F5 0 l = gt F3 0 l := fun l hl => by unfold gt; rw [e7 l (by omega), k5.2.2.2.2.2 l (by omega)]
    have hn := (simP_cnt J3).2.2
    refine ⟨N2, P2, D2, F5, u2, hz2, n2', k2', k1, by rw [p1, k2, e1], mem N2 P2 D2 F2 J1 k5 k6 k7, J8.1, ?_, e2, by rw [z 0 (by omega)]; exact p00, by rw [z 4 (by omega)]; exact p04, e3, e4, simP_row J3 (fun l _ => by rw [gt_row (e6 1 (by omega) (by omega) (by omega))]), fun s hs => ?_, by rw [e6 3 (by omega) (by omega) (by omega), k5.2.2.2.2.1 3 (by omega), po 3 (by omega) (by omega) (by omega)]⟩
    · rw [J8.2.1]
      unfold gt; rw [e7 12 (by omega)]
      exact J8.2.2.symm
    · obtain ⟨q, l, q1, q2, q3, q4⟩ := J4 s hs
      exact ⟨q, l, q1, q2, q3, by rw [e5 s (by omega)]; exact q4⟩
end
section
variable {M M' N : vMe} {x y r a d u hz n k : Nat} {G F C D : Nat → Nat → Value} {P : Nat → Value} {T : Nat → Nat} {len : Nat} {Gs : Nat → Nat}
theorem nm_wS {q : Nat} {l : List Nat} (h : nmAt M x r G q l) (e : ∀ q, ¬ own x r G q → q < M.2.1 → M'.1 q = M.1 q) : wS M' r q l := by
  obtain ⟨p, p1, p2, p3, p4, p5⟩ := h
  exact ⟨p, p1.same (e q p2 p4) (e p p3 p5), fun g => p2 (.inr (.inl (ow g))), fun g => p3 (.inr (.inl (ow g)))⟩
/-- the class's parse up to the end of its reading -/
theorem c_parse {v : Nat} {N0 N2 : vMe} {P2 : Nat → Value} {D2 : Nat → Nat → Value} {b : Int32} (h : simD M x r G F a d C u hz n k) (g2 : gt G 1 1 = Int32.ofNat len) (hv : v ≤ len) (hl : len ≤ 600)
    (s1 : nwO M 6 0 9 (vp_V [.null, .int 0, .null, .null, .int 0, .int 0, .int 0, .int 0, .int 0]) M.2.1 M.2.2.1 26 269 = some (nw M 6 0 9 (vp_V [.null, .int 0, .null, .null, .int 0, .int 0, .int 0, .int 0, .int 0])))
    (s2 : tX3_init Gs M.2.1 (x + 1) (Int32.ofNat v) d (nw M 6 0 9 (vp_V [.null, .int 0, .null, .null, .int 0, .int 0, .int 0, .int 0, .int 0])) = some ((), N0)) (s3 : N0.2 = (M.2.1 + 1, M.2.2.1 + 9, M.2.2.2)) (t0 : (N0.1 M.2.1).1 = 6) (k1 : tX3_readText Gs M.2.1 N0 = some (b, N2)) (m : pM x d M N2 G P2 D2) :
    tX9_parse Gs x (Int32.ofNat v) M = if b = 0 then some (.inl (vI (P2 7)), gv N2 x (pu (pu G 1 1 (.int 0)) 0 5 (.int (vI (P2 8))))) else (tX9_beginWithDraft x (gv N2 x (pu (pu G 1 1 (.int 0)) 0 5 (.int (vI (P2 8)))))).bind fun z16 => tX9_parse_J71 M.2.1 M.2.2.1 M.2.1 z16.2 := by
  obtain ⟨⟨a1, a2, a3, a4, a5, a6⟩, ⟨b1, b2, b3, b4⟩, -⟩ := id h
  obtain ⟨m1, m2, m3, m4, m5, m6, m7, m8, m9⟩ := m
  obtain ⟨V, hV⟩ : ∃ V, V = vp_V [.null, .int 0, .null, .null, .int 0, .int 0, .int 0, .int 0, .int 0] := ⟨_, rfl⟩
  rw [← hV] at s1 s2
  have q0 : gA M x 11 0 = some (x + 1) := A_in h
  have q1 : gI M (x + 1) 4 1 = some (Int32.ofNat len) := by rw [← a1.eq, g_t1, g2]
  have hW : hG (nw M 6 0 9 V) x G := fun i hi => by
    have := a1 i hi
    show (if x + i = M.2.1 then _ else _) = _
    rw [if_neg (by omega)]; exact this
  have q2 : gA (nw M 6 0 9 V) x 11 0 = some (x + 1) := by rw [← hW.eq]; exact g_gA (i := 0) (by omega) rfl a2.2.1
  have q3 : gA (nw M 6 0 9 V) x 11 4 = some d := by rw [← hW.eq]; exact g_gA (i := 0) (by omega) rfl b2
  have gO : gOk N2 x G := ⟨by rw [m6]; exact a2.1, a2.2⟩
  have gO1 : gOk N2 x (pu G 1 1 (.int 0)) := ⟨gO.1, by rw [pu_ne (by omega)]; exact gO.2.1, by rw [pu_ne (by omega)]; exact gO.2.2.1, by rw [pu_ne (by omega)]; exact gO.2.2.2.1, by rw [pu_ne (by omega)]; exact gO.2.2.2.2.1, by rw [pu_ne (by omega)]; exact gO.2.2.2.2.2.1, by rw [pu_ne (by omega)]; exact gO.2.2.2.2.2.2.1, by rw [pu_ne (by omega)]; exact gO.2.2.2.2.2.2.2⟩
  have q4 : gA N2 x 11 0 = some (x + 1) := by rw [← m1.eq]; exact g_x0 gO
  have q5 : sV N2 (x + 1) 4 1 (.int 0) = some (gv N2 x (pu G 1 1 (.int 0))) := by
    have := g_ts (M := N2) (x := x) (G := G) (v := .int 0) gO
    rw [m1.eq] at this; exact this
  have yo : ∀ G', (gv N2 x G').1 M.2.1 = (6, 0, P2) := fun G' => by rw [gv_out (by omega)]; exact m2
  have q6 : gI (gv N2 x (pu G 1 1 (.int 0))) M.2.1 6 8 = some (vI (P2 8)) := by simp [gI, yo]
  have q7 : sV (gv N2 x (pu G 1 1 (.int 0))) x 11 5 (.int (vI (P2 8))) = some (gv N2 x (pu (pu G 1 1 (.int 0)) 0 5 (.int (vI (P2 8))))) := g_sV (i := 0) gO1.1 (by omega) rfl
  obtain ⟨G3, hG3⟩ : ∃ G3, G3 = pu (pu G 1 1 (.int 0)) 0 5 (.int (vI (P2 8))) := ⟨_, rfl⟩
  rw [← hG3] at q7 ⊢
  have n1 : N0.2.1 = M.2.1 + 1 := by rw [s3]
  have n2 : N0.2.2.1 = M.2.2.1 + 9 := by rw [s3]
  have J : tX9_parse_J71 M.2.1 M.2.2.1 M.2.1 (gv N2 x G3) = some (.inl (vI (P2 7)), gv N2 x G3) := by
    have q8 : gI (gv N2 x G3) M.2.1 6 7 = some (vI (P2 7)) := by simp [gI, yo]
    rw [tX9_parse_J71, q8, Option.bind_some, if_pos (show (gv N2 x G3).2.1 ≤ M.2.1 + 26 ∧ (gv N2 x G3).2.2.1 ≤ M.2.2.1 + 269 from ⟨m8, m9⟩)]
  have tg : ((gv N2 x G3).1 x).1 = 11 := by rw [gv_at0]
  rw [tX9_parse, if_neg (n_neg (by omega)), q0, Option.bind_some, q1, Option.bind_some, if_pos ((n_le (by omega) (by omega)).mpr hv), ← hV, s1, Option.bind_some, q2, Option.bind_some, q3, Option.bind_some, if_pos (show (nw M 6 0 9 V).2.1 + 0 ≤ M.2.1 + 26 ∧ (nw M 6 0 9 V).2.2.1 + 0 ≤ M.2.2.1 + 269 from ⟨by show M.2.1 + 1 + 0 ≤ _; omega, by show M.2.2.1 + 9 + 0 ≤ _; omega⟩), s2, Option.bind_some, if_pos (show N0.2.1 + 25 ≤ M.2.1 + 26 ∧ N0.2.2.1 + 260 ≤ M.2.2.1 + 269 from ⟨by omega, by omega⟩), if_pos t0, k1, Option.bind_some, q4, Option.bind_some, q5, Option.bind_some, q6, Option.bind_some, q7, Option.bind_some]
  by_cases e : b = 0
  · rw [if_pos e, if_pos e, J]
  · rw [if_neg e, if_neg e, if_pos (show (gv N2 x G3).2.1 + 0 ≤ M.2.1 + 26 ∧ (gv N2 x G3).2.2.1 + 0 ≤ M.2.2.1 + 269 from ⟨m8, m9⟩), if_pos tg]
end
