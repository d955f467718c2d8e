section
variable {M M' N : vMe} {x y r a d u hz n k : Nat} {G F C D : Nat → Nat → Value} {Gs : Nat → Nat}
theorem gOk_0 {k : Nat} {v : Value} (h : gOk M x G) (hk : 3 ≤ k) : gOk M x (pu G 0 k v) := ⟨h.1, by rw [pu_ne (by omega)]; exact h.2.1, by rw [pu_ne (by omega)]; exact h.2.2.1, by rw [pu_ne (by omega)]; exact h.2.2.2.1, by rw [pu_ne (by omega)]; exact h.2.2.2.2.1, by rw [pu_ne (by omega)]; exact h.2.2.2.2.2.1, by rw [pu_ne (by omega)]; exact h.2.2.2.2.2.2.1, by rw [pu_ne (by omega)]; exact h.2.2.2.2.2.2.2⟩
theorem gOk_3 {k : Nat} {v : Value} (h : gOk M x G) (hk : 1 ≤ k) : gOk M x (pu G 3 k v) := ⟨h.1, by rw [pu_ne (by omega)]; exact h.2.1, by rw [pu_ne (by omega)]; exact h.2.2.1, by rw [pu_ne (by omega)]; exact h.2.2.2.1, by rw [pu_ne (by omega)]; exact h.2.2.2.2.1, by rw [pu_ne (by omega)]; exact h.2.2.2.2.2.1, by rw [pu_ne (by omega)]; exact h.2.2.2.2.2.2.1, by rw [pu_ne (by omega)]; exact h.2.2.2.2.2.2.2⟩
/-- the draft becomes the present state, on the class's side -/
theorem c_swap (gO : gOk M x G) (h3 : G 0 3 = .ref a) (h4 : G 0 4 = .ref d) : ∃ G2, tX9_beginWithDraft x (gv M x G) = some ((), gv M x G2) ∧ G2 4 = G 4 ∧ G2 5 = G 5 ∧ G2 6 = G 6 ∧ G2 1 = G 1 ∧ G2 2 = G 2 ∧ (∀ l, l ≠ 3 → l ≠ 4 → G2 0 l = G 0 l) ∧ G2 0 3 = .ref d ∧ G2 0 4 = .ref a ∧ G2 3 0 = G 3 0 ∧ gt G2 3 1 = gt G 3 1 ∧ gt G2 3 2 = 0 ∧ ∀ j, j < 2 → gt G2 7 j = 0 := by
  obtain ⟨A, hA⟩ : ∃ A, A = pu (pu G 0 3 (.ref d)) 0 4 (.ref a) := ⟨_, rfl⟩
  have o1 : gOk M x (pu G 0 3 (.ref d)) := gOk_0 gO (by omega)
  have o2 : gOk M x A := hA ▸ gOk_0 o1 (by omega)
  have o3 : gOk M x (pu A 3 2 (.int 0)) := gOk_3 o2 (by omega)
  have e1 : gA (gv M x G) x 11 3 = some a := g_gA (i := 0) (by omega) rfl h3
  have e2 : gA (gv M x G) x 11 4 = some d := g_gA (i := 0) (by omega) rfl h4
  have s1 : sV (gv M x G) x 11 3 (.ref d) = some (gv M x (pu G 0 3 (.ref d))) := g_sV (i := 0) gO.1 (by omega) rfl
  have s2 : sV (gv M x (pu G 0 3 (.ref d))) x 11 4 (.ref a) = some (gv M x A) := by rw [hA]; exact g_sV (i := 0) gO.1 (by omega) rfl
  have e3 : gA (gv M x A) x 11 1 = some (x + 3) := g_gA (i := 0) (by omega) rfl o2.2.2.1
  have s3 : sV (gv M x A) (x + 3) 10 2 (.int 0) = some (gv M x (pu A 3 2 (.int 0))) := g_sV (i := 3) gO.1 (by omega) rfl
  have e4 : gA (gv M x (pu A 3 2 (.int 0))) x 11 2 = some (x + 5) := g_gA (i := 0) (by omega) rfl o3.2.2.2.1
  have t3 : ((gv M x A).1 (x + 3)).1 = 10 := by rw [gv_at 3 (by omega)]; rfl
  have t5 : ((gv M x (pu A 3 2 (.int 0))).1 (x + 5)).1 = 7 := by rw [gv_at 5 (by omega)]; rfl
  refine ⟨pu (pu (pu A 3 2 (.int 0)) 7 0 (.int 0)) 7 1 (.int 0), ?_, ?_, ?_, ?_, ?_, ?_, fun l l3 l4 => ?_, ?_, ?_, ?_, ?_, ?_, fun j hj => ?_⟩
  · rw [tX9_beginWithDraft, e1, Option.bind_some, e2, Option.bind_some, s1, Option.bind_some, s2, Option.bind_some, e3, Option.bind_some, if_pos t3, tX8_forgetAll, s3, Option.bind_some, Option.bind_some, e4, Option.bind_some, if_pos t5, c_emptyAll o3, Option.bind_some]
  · rw [pu_o (by omega), pu_o (by omega), pu_o (by omega), hA, pu_o (by omega), pu_o (by omega)]
  · rw [pu_o (by omega), pu_o (by omega), pu_o (by omega), hA, pu_o (by omega), pu_o (by omega)]
  · rw [pu_o (by omega), pu_o (by omega), pu_o (by omega), hA, pu_o (by omega), pu_o (by omega)]
  · rw [pu_o (by omega), pu_o (by omega), pu_o (by omega), hA, pu_o (by omega), pu_o (by omega)]
  · rw [pu_o (by omega), pu_o (by omega), pu_o (by omega), hA, pu_o (by omega), pu_o (by omega)]
  · rw [pu_ne (by omega), pu_ne (by omega), pu_ne (by omega), hA, pu_ne (by omega), pu_ne (by omega)]
  · rw [pu_ne (by omega), pu_ne (by omega), pu_ne (by omega), hA, pu_ne (by omega), pu_eq]
  · rw [pu_ne (by omega), pu_ne (by omega), pu_ne (by omega), hA, pu_eq]
  · rw [pu_ne (by omega), pu_ne (by omega), pu_ne (by omega), hA, pu_ne (by omega), pu_ne (by omega)]
  · rw [gt_ne (by omega), gt_ne (by omega), gt_ne (by omega), hA, gt_ne (by omega), gt_ne (by omega)]
  · rw [gt_ne (by omega), gt_ne (by omega), gt_eq]
  · by_cases e : j = 1
    · rw [e, gt_eq]
    · rw [gt_ne (by omega), show j = 0 by omega, gt_eq]
end
