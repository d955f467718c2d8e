section
variable {M M' N : vMe} {x y r a d u hz n k : Nat} {G F C D : Nat → Nat → Value} {P : Nat → Value} {T : Nat → Nat} {len : Nat} {Gs : Nat → Nat}
/-- the parser is made -/
theorem start_N (h : simD M x r G F a d C u hz n k) (hT : gX G T) (hl : len ≤ 600) : ∃ N0 P0 E, nwO M 6 0 9 (vp_V [.null, .int 0, .null, .null, .int 0, .int 0, .int 0, .int 0, .int 0]) M.2.1 M.2.2.1 26 669 = some (nw M 6 0 9 (vp_V [.null, .int 0, .null, .null, .int 0, .int 0, .int 0, .int 0, .int 0])) ∧
    tX3_init Gs M.2.1 (x + 1) (Int32.ofNat len) d (nw M 6 0 9 (vp_V [.null, .int 0, .null, .null, .int 0, .int 0, .int 0, .int 0, .int 0])) = some ((), N0) ∧ N0.2 = (M.2.1 + 1, M.2.2.1 + 9, M.2.2.2) ∧ (∀ q, q < M.2.1 → N0.1 q = M.1 q) ∧ vI (P0 5) = Int32.ofNat 0 ∧ vI (P0 7) = 0 ∧ vI (P0 8) = -1 ∧ hB M d E ∧ PI x M.2.1 d len T G N0 P0 E := by
  obtain ⟨⟨a1, a2, a3, a4, a5, a6⟩, ⟨b1, b2, b3, b4⟩, c1, d1, -, -, gby, -, -, -⟩ := id h
  obtain ⟨⟨q1, q2, q3⟩, E, q4, q5⟩ := c1 1 d (by omega) (bk1 b2)
  obtain ⟨V, hV⟩ : ∃ V, V = vp_V [.null, .int 0, .null, .null, .int 0, .int 0, .int 0, .int 0, .int 0] := ⟨_, rfl⟩
  obtain ⟨W, hW⟩ : ∃ W : vMe, W = (M.1, M.2.1 + 1, M.2.2.1 + 9, M.2.2.2) := ⟨_, rfl⟩
  have eW : nw M 6 0 9 V = pv W M.2.1 V := by rw [hW]; rfl
  have hb : W.2.2.2 ≤ M.2.1 := by rw [hW]; have := a2.1; show M.2.2.2 ≤ _; omega
  obtain ⟨P0, hP0⟩ : ∃ P0, P0 = updV (updV (updV (updV (updV V 0 (.ref (x + 1))) 1 (.int (Int32.ofNat len))) 2 (.ref d)) 3 (.ref (Gs 104))) 8 (.int (-1)) := ⟨_, rfl⟩
  have eq : ∀ q, q < M.2.1 → (pv W M.2.1 P0).1 q = M.1 q := fun q hq => by rw [pv_out (by omega), hW]
  rw [← hV]
  refine ⟨pv W M.2.1 P0, P0, E, ?_, ?_, by rw [hW]; rfl, eq, ?_, ?_, ?_, q4, ⟨⟨fun i hi => by rw [eq _ (by omega)]; exact a1 i hi, ⟨by rw [show (pv W M.2.1 P0).2.2.2 = M.2.2.2 from by rw [hW]; rfl]; exact a2.1, a2.2⟩, hT, hl⟩, ⟨hY_pv, ⟨?_, ?_⟩, ?_, hb⟩, ⟨fun i hi => by rw [eq _ (by omega)]; exact q4 i hi, ⟨by rw [show (pv W M.2.1 P0).2.2.2 = M.2.2.2 from by rw [hW]; rfl]; exact q5.1, q5.2⟩⟩, q1, q2, by rw [hW]; show M.2.1 < M.2.1 + 1; omega⟩⟩
  · unfold nwO; rw [if_pos ⟨by omega, by omega, by omega⟩]
  · rw [eW, tX3_init, p_S hb, Option.bind_some, p_S hb, Option.bind_some, p_S hb, Option.bind_some, p_S hb, Option.bind_some, p_S hb, Option.bind_some, ← hP0]
  · rw [hP0, u_ne (by omega), u_ne (by omega), u_ne (by omega), u_ne (by omega), u_ne (by omega), hV]; rfl
  · rw [hP0, u_ne (by omega), u_ne (by omega), u_ne (by omega), u_ne (by omega), u_ne (by omega), hV]; rfl
  · rw [hP0, u_eq]; rfl
  · rw [hP0, u_ne (by omega), u_ne (by omega), u_ne (by omega), u_ne (by omega), u_eq]
  · rw [hP0, u_ne (by omega), u_ne (by omega), u_ne (by omega), u_eq]; rfl
  · rw [hP0, u_ne (by omega), u_ne (by omega), u_eq]
end
