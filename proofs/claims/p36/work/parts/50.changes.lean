section
variable {M : vMe} {x r a d : Nat} {G F C : Nat → Nat → Value} {u hz n k : Nat}
/-- truth values are truth values -/
def wf (M : vMe) : Prop := ∀ q, (M.1 q).1 = 3 → ∀ k, k < 3 → fits .boolean ((M.1 q).2.2 k) = true
theorem wf_bz (w : wf M) (h : hB M a C) : bz C := fun c hc k hk => by
  have e : M.1 (a + (44 + c)) = (3, 0, C (44 + c)) := by rw [h _ (by omega), cT_c hc]
  have g := w (a + (44 + c)) (by rw [e]) k hk
  rw [e] at g
  have g2 := vI_of g (.inr (.inl rfl))
  unfold gt
  rw [← g2]; exact g
theorem rv_cv_rv {F1 F2 C2 : Nat → Nat → Value} : rv (cv (rv M r F1) a C2) r F2 = rv (cv M a C2) r F2 := by
  refine Prod.ext (funext fun q => ?_) rfl
  by_cases g : r ≤ q ∧ q < r + 0
  · simp [rv, g]
  · rw [rv_out g, rv_out g]
    by_cases g2 : a ≤ q ∧ q < a + 50
    · simp [cv, g2]
    · rw [cv_out g2, cv_out g2, rv_out g]
theorem X_no (hg : hG M x G) (e : G 0 3 = .ref a) : gA M x 11 3 = some a := by rw [← hg.eq]; exact g_gA (i := 0) (by omega) rfl e
theorem kpF_of {F1 : Nat → Nat → Value} {cnt c1 sh : Nat} (hc : (cnt < 10 ∧ c1 = cnt ∧ sh = 0) ∨ (cnt = 10 ∧ c1 = 9 ∧ sh = 1)) (h1 : gt F1 0 18 = Int32.ofNat (c1 + 1)) (h2 : ∀ l, l < 1952 → gt F1 7 (1952 * c1 + l) = gt (Fth F 0) 1 l) (h3 : ∀ j l, j < c1 → l < 1952 → gt F1 7 (1952 * j + l) = gt (Fth F 0) 7 (1952 * (j + sh) + l))
    (h4 : ∀ i', i' ≠ 7 → i' ≠ 0 → F1 i' = (Fth F 0) i') (h5 : ∀ l, l ≠ 18 → F1 0 l = (Fth F 0) 0 l) : kpF F F1 cnt c1 sh :=
  ⟨hc, h1, fun l hl => by rw [h2 l hl, Fth_gt (.inl (by omega))], fun j l hj hl => by rw [h3 j l hj hl, Fth_gt (.inl (by omega))], fun i h6 h7 => by rw [h4 i h6 h7, Fth_r h7], fun l h6 h7 => by rw [h5 l h6]; unfold Fth; rw [pu_ne (by omega)]⟩
theorem ok3 (M : vMe) : M.2.1 + 1 ≤ M.2.1 + 50 ∧ M.2.2.1 + 6 ≤ M.2.2.1 + 2001 := ⟨Nat.add_le_add_left (by decide) _, Nat.add_le_add_left (by decide) _⟩
theorem ok4 (M : vMe) : M.2.1 + 50 ≤ M.2.1 + 50 ∧ M.2.2.1 + 2001 ≤ M.2.2.1 + 2001 := ⟨Nat.le_refl _, Nat.le_refl _⟩
theorem ok5 (M : vMe) : M.2.1 + 0 ≤ M.2.1 + 50 ∧ M.2.2.1 + 0 ≤ M.2.2.1 + 2001 := ⟨Nat.le_add_right _ _, Nat.le_add_right _ _⟩
end
