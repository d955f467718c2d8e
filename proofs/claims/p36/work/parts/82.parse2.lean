section
variable {M M' N : vMe} {x y r a d u hz n k : Nat} {G F C D : Nat → Nat → Value} {P : Nat → Value} {T : Nat → Nat} {len : Nat} {Gs : Nat → Nat}
/-- what a parse leaves of the memory -/
def pM (x d : Nat) (M N2 : vMe) (G : Nat → Nat → Value) (P2 : Nat → Value) (D2 : Nat → Nat → Value) : Prop :=
  hG N2 x G ∧ hY N2 M.2.1 P2 ∧ hB N2 d D2 ∧ cOk N2 d D2 ∧ (∀ q, q < M.2.1 → ¬ (d ≤ q ∧ q < d + 50) → N2.1 q = M.1 q) ∧ N2.2.2.2 = M.2.2.2 ∧ M.2.1 < N2.2.1 ∧ N2.2.1 ≤ M.2.1 + 26 ∧ N2.2.2.1 ≤ M.2.2.1 + 669
end
section
variable {M M' N : vMe} {x y r a d u hz n k : Nat} {G F C D : Nat → Nat → Value} {P : Nat → Value} {T : Nat → Nat} {len : Nat} {Gs : Nat → Nat}
theorem nm_wS {q : Nat} {l : List Nat} (h : nmAt M x r G q l) (e : ∀ q, ¬ own x r G q → q < M.2.1 → M'.1 q = M.1 q) : wS M' r q l := by
  obtain ⟨p, p1, p2, p3, p4, p5⟩ := h
  exact ⟨p, p1.same (e q p2 p4) (e p p3 p5), fun g => p2 (.inr (.inl (ow g))), fun g => p3 (.inr (.inl (ow g)))⟩
/-- the class's parse up to the end of its reading -/
theorem c_parse {v : Nat} {N0 N2 : vMe} {P2 : Nat → Value} {D2 : Nat → Nat → Value} {b : Int32} (h : simD M x r G F a d C u hz n k) (g2 : gt G 1 1 = Int32.ofNat len) (hv : v ≤ len) (hl : len ≤ 600)
    (s1 : nwO M 6 0 9 (vp_V [.null, .int 0, .null, .null, .int 0, .int 0, .int 0, .int 0, .int 0]) M.2.1 M.2.2.1 26 669 = some (nw M 6 0 9 (vp_V [.null, .int 0, .null, .null, .int 0, .int 0, .int 0, .int 0, .int 0])))
    (s2 : tX3_init Gs M.2.1 (x + 1) (Int32.ofNat v) d (nw M 6 0 9 (vp_V [.null, .int 0, .null, .null, .int 0, .int 0, .int 0, .int 0, .int 0])) = some ((), N0)) (s3 : N0.2 = (M.2.1 + 1, M.2.2.1 + 9, M.2.2.2)) (t0 : (N0.1 M.2.1).1 = 6) (k1 : tX3_readText Gs M.2.1 N0 = some (b, N2)) (m : pM x d M N2 G P2 D2) :
    tX9_parse Gs x (Int32.ofNat v) M = if b = 0 then some (.inl (vI (P2 7)), gv N2 x (pu (pu G 1 1 (.int 0)) 0 5 (.int (vI (P2 8))))) else (tX9_beginWithDraft x (gv N2 x (pu (pu G 1 1 (.int 0)) 0 5 (.int (vI (P2 8)))))).bind fun z16 => tX9_parse_J71 M.2.1 M.2.2.1 M.2.1 z16.2 := by
  obtain ⟨⟨a1, a2, a3, a4, a5, a6⟩, ⟨b1, b2, b3, b4⟩, -⟩ := id h
  obtain ⟨m1, m2, m3, m4, m5, m6, m7, m8, m9⟩ := m
  obtain ⟨V, hV⟩ : ∃ V, V = vp_V [.null, .int 0, .null, .null, .int 0, .int 0, .int 0, .int 0, .int 0] := ⟨_, rfl⟩
  rw [← hV] at s1 s2
  have q0 : gA M x 11 0 = some (x + 1) := A_in h
  have q1 : gI M (x + 1) 4 1 = some (Int32.ofNat len) := by rw [← a1.eq, g_t1, g2]
  have hW : hG (nw M 6 0 9 V) x G := fun i hi => by
    have := a1 i hi
    show (if x + i = M.2.1 then _ else _) = _
    rw [if_neg (by omega)]; exact this
  have q2 : gA (nw M 6 0 9 V) x 11 0 = some (x + 1) := by rw [← hW.eq]; exact g_gA (i := 0) (by omega) rfl a2.2.1
  have q3 : gA (nw M 6 0 9 V) x 11 4 = some d := by rw [← hW.eq]; exact g_gA (i := 0) (by omega) rfl b2
  have gO : gOk N2 x G := ⟨by rw [m6]; exact a2.1, a2.2⟩
  have gO1 : gOk N2 x (pu G 1 1 (.int 0)) := ⟨gO.1, by rw [pu_ne (by omega)]; exact gO.2.1, by rw [pu_ne (by omega)]; exact gO.2.2.1, by rw [pu_ne (by omega)]; exact gO.2.2.2.1, by rw [pu_ne (by omega)]; exact gO.2.2.2.2.1, by rw [pu_ne (by omega)]; exact gO.2.2.2.2.2.1, by rw [pu_ne (by omega)]; exact gO.2.2.2.2.2.2.1, by rw [pu_ne (by omega)]; exact gO.2.2.2.2.2.2.2⟩
  have q4 : gA N2 x 11 0 = some (x + 1) := by rw [← m1.eq]; exact g_x0 gO
  have q5 : sV N2 (x + 1) 4 1 (.int 0) = some (gv N2 x (pu G 1 1 (.int 0))) := by
    have := g_ts (M := N2) (x := x) (G := G) (v := .int 0) gO
    rw [m1.eq] at this; exact this
  have yo : ∀ G', (gv N2 x G').1 M.2.1 = (6, 0, P2) := fun G' => by rw [gv_out (by omega)]; exact m2
  have q6 : gI (gv N2 x (pu G 1 1 (.int 0))) M.2.1 6 8 = some (vI (P2 8)) := by simp [gI, yo]
  have q7 : sV (gv N2 x (pu G 1 1 (.int 0))) x 11 5 (.int (vI (P2 8))) = some (gv N2 x (pu (pu G 1 1 (.int 0)) 0 5 (.int (vI (P2 8))))) := g_sV (i := 0) gO1.1 (by omega) rfl
  obtain ⟨G3, hG3⟩ : ∃ G3, G3 = pu (pu G 1 1 (.int 0)) 0 5 (.int (vI (P2 8))) := ⟨_, rfl⟩
  rw [← hG3] at q7 ⊢
  have n1 : N0.2.1 = M.2.1 + 1 := by rw [s3]
  have n2 : N0.2.2.1 = M.2.2.1 + 9 := by rw [s3]
  have J : tX9_parse_J71 M.2.1 M.2.2.1 M.2.1 (gv N2 x G3) = some (.inl (vI (P2 7)), gv N2 x G3) := by
    have q8 : gI (gv N2 x G3) M.2.1 6 7 = some (vI (P2 7)) := by simp [gI, yo]
    rw [tX9_parse_J71, q8, Option.bind_some, if_pos (show (gv N2 x G3).2.1 ≤ M.2.1 + 26 ∧ (gv N2 x G3).2.2.1 ≤ M.2.2.1 + 669 from ⟨m8, m9⟩)]
  have tg : ((gv N2 x G3).1 x).1 = 11 := by rw [gv_at0]
  rw [tX9_parse, if_neg (n_neg (by omega)), q0, Option.bind_some, q1, Option.bind_some, if_pos ((n_le (by omega) (by omega)).mpr hv), ← hV, s1, Option.bind_some, q2, Option.bind_some, q3, Option.bind_some, if_pos (show (nw M 6 0 9 V).2.1 + 0 ≤ M.2.1 + 26 ∧ (nw M 6 0 9 V).2.2.1 + 0 ≤ M.2.2.1 + 669 from ⟨by show M.2.1 + 1 + 0 ≤ _; omega, by show M.2.2.1 + 9 + 0 ≤ _; omega⟩), s2, Option.bind_some, if_pos (show N0.2.1 + 25 ≤ M.2.1 + 26 ∧ N0.2.2.1 + 660 ≤ M.2.2.1 + 669 from ⟨by omega, by omega⟩), if_pos t0, k1, Option.bind_some, q4, Option.bind_some, q5, Option.bind_some, q6, Option.bind_some, q7, Option.bind_some]
  by_cases e : b = 0
  · rw [if_pos e, if_pos e, J]
  · rw [if_neg e, if_neg e, if_pos (show (gv N2 x G3).2.1 + 0 ≤ M.2.1 + 26 ∧ (gv N2 x G3).2.2.1 + 0 ≤ M.2.2.1 + 669 from ⟨m8, m9⟩), if_pos tg]
end
