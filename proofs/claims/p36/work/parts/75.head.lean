section
variable {M M' N : vMe} {x y r a d u hz n k : Nat} {G F C D : Nat → Nat → Value} {P : Nat → Value} {T : Nat → Nat} {len : Nat} {Gs : Nat → Nat}
/-- the cursors of a state that begins -/
theorem c_beginD_L : ∀ (q f c : Nat) (C : Nat → Nat → Value), cOk M a C → c + q = 6 → q < f → ∃ C2, tX5_begin_L32 a f (Int32.ofNat c) (cv M a C) = some ((), cv M a C2) ∧ cOk M a C2 ∧ (∀ j, c ≤ j → j < 6 → gt C2 (44 + j) 0 = 0 ∧ gt C2 (44 + j) 1 = 0) ∧ (∀ j l, (j < 44 ∨ j < 44 + c) → C2 j l = C j l) ∧ ∀ j l, 2 ≤ l → C2 j l = C j l := by
  intro q
  induction q with
  | zero =>
    intro f c C hC hc hf
    obtain ⟨f, rfl⟩ : ∃ g, f = g + 1 := ⟨f - 1, by omega⟩
    refine ⟨C, ?_, hC, fun j h1 h2 => by omega, fun _ _ _ => rfl, fun _ _ _ => rfl⟩
    rw [tX5_begin_L32, if_ge (v := 6) (b := 6) rfl (by omega) (by omega), if_pos (by omega)]
  | succ q ih =>
    intro f c C hC hc hf
    obtain ⟨f, rfl⟩ : ∃ g, f = g + 1 := ⟨f - 1, by omega⟩
    have o1 : cOk M a (pu C (44 + c) 0 (.int 0)) := cOk_u hC (by omega)
    have o2 : cOk M a (pu (pu C (44 + c) 0 (.int 0)) (44 + c) 1 (.int 0)) := cOk_u o1 (by omega)
    obtain ⟨C2, q1, q2, q3, q4, q5⟩ := ih f (c + 1) _ o2 (by omega) (by omega)
    refine ⟨C2, ?_, q2, fun j h1 h2 => ?_, fun j l h => by rw [q4 j l (by omega), pu_ne (by omega), pu_ne (by omega)], fun j l h => by rw [q5 j l h, pu_ne (by omega), pu_ne (by omega)]⟩
    · rw [tX5_begin_L32, if_ge (v := 6) (b := 6) rfl (by omega) (by omega), if_neg (by omega), cA1 hC, Option.bind_some, cU hC (by omega), Option.bind_some, uV hC (by omega), Option.bind_some, cA1 o1, Option.bind_some, cU o1 (by omega), Option.bind_some, uV o1 (by omega), Option.bind_some, n_succ]
      exact q1
    · by_cases e : j = c
      · subst e
        unfold gt
        rw [q4 _ _ (by omega), q4 _ _ (by omega)]
        exact ⟨by rw [pu_ne (by omega), pu_eq]; rfl, by rw [pu_eq]; rfl⟩
      · exact q3 j (by omega) h2
theorem c_beginD (h : cOk M a C) (u hz : Nat) : ∃ C2, tX5_begin a (Int32.ofNat u) (Int32.ofNat hz) (cv M a C) = some ((), cv M a C2) ∧ cOk M a C2 ∧ gt C2 0 3 = Int32.ofNat u ∧ gt C2 0 4 = Int32.ofNat hz ∧ gt C2 0 5 = 0 ∧ gt C2 0 6 = 0 ∧ gt C2 0 7 = 0 ∧ gt C2 0 8 = 0 ∧ (∀ j, j < 6 → gt C2 (44 + j) 0 = 0 ∧ gt C2 (44 + j) 1 = 0) ∧ ∀ j l, j ≠ 0 → 2 ≤ l → C2 j l = C j l := by
  have o1 : cOk M a (pu C 0 3 (.int (Int32.ofNat u))) := cOk_0 h (by omega)
  have o2 : cOk M a (pu (pu C 0 3 (.int (Int32.ofNat u))) 0 4 (.int (Int32.ofNat hz))) := cOk_0 o1 (by omega)
  have o3 := cOk_0 (k := 5) (v := .int 0) o2 (by omega)
  have o4 := cOk_0 (k := 6) (v := .int 0) o3 (by omega)
  have o5 := cOk_0 (k := 7) (v := .int 0) o4 (by omega)
  have o6 := cOk_0 (k := 8) (v := .int 0) o5 (by omega)
  obtain ⟨C2, q1, q2, q3, q4, q5⟩ := c_beginD_L 6 vF 0 _ o6 (by omega) (by unfold vF; omega)
  have g : ∀ l, gt C2 0 l = gt (pu (pu (pu (pu (pu (pu C 0 3 (.int (Int32.ofNat u))) 0 4 (.int (Int32.ofNat hz))) 0 5 (.int 0)) 0 6 (.int 0)) 0 7 (.int 0)) 0 8 (.int 0)) 0 l := fun l => by unfold gt; rw [q4 0 l (by omega)]
  refine ⟨C2, ?_, q2, ?_, ?_, ?_, ?_, ?_, ?_, fun j hj => q3 j (Nat.zero_le _) hj, fun j l hj hl => by rw [q5 j l hl, pu_ne (by omega), pu_ne (by omega), pu_ne (by omega), pu_ne (by omega), pu_ne (by omega), pu_ne (by omega)]⟩
  · rw [tX5_begin, c_sV0 h, Option.bind_some, c_sV0 o1, Option.bind_some, c_sV0 o2, Option.bind_some, c_sV0 o3, Option.bind_some, c_sV0 o4, Option.bind_some, c_sV0 o5, Option.bind_some, show tX5_begin_L32 a vF 0 _ = _ from q1, Option.bind_some]
  · rw [g, gt_ne (by omega), gt_ne (by omega), gt_ne (by omega), gt_ne (by omega), gt_ne (by omega), gt_eq]
  · rw [g, gt_ne (by omega), gt_ne (by omega), gt_ne (by omega), gt_ne (by omega), gt_eq]
  · rw [g, gt_ne (by omega), gt_ne (by omega), gt_ne (by omega), gt_eq]
  · rw [g, gt_ne (by omega), gt_ne (by omega), gt_eq]
  · rw [g, gt_ne (by omega), gt_eq]
  · rw [g, gt_eq]
/-- the two states of a text that begins -/
theorem simP_new (hu : 1 ≤ u ∧ u ≤ 64) (hh : 1 ≤ hz ∧ hz ≤ 60) (h3 : gt C 0 3 = Int32.ofNat u) (h4 : gt C 0 4 = Int32.ofNat hz) (h5 : gt C 0 5 = 0) (h6 : gt C 0 6 = 0) (h7 : gt C 0 7 = 0) (h8 : gt C 0 8 = 0) (hc : ∀ j, j < 6 → gt C (44 + j) 0 = 0 ∧ gt C (44 + j) 1 = 0)
    (f1 : gt F 1 1 = Int32.ofNat u) (f2 : gt F 1 2 = Int32.ofNat hz) (f0 : ∀ l, l < 1952 → l ≠ 1 → l ≠ 2 → gt F 1 l = 0) : simP C F u hz 0 0 ∧ zr F 0 := by
  have z : (0 : Int32) = Int32.ofNat 0 := rfl
  refine ⟨⟨⟨⟨f1, hu⟩, ⟨f2, hh⟩, ⟨by rw [f0 0 (by omega) (by omega) (by omega), z], by omega⟩, by rw [f0 4 (by omega) (by omega) (by omega), z], by omega⟩, ⟨by rw [h3, f1], by rw [h4, f2], by rw [h5, f0 0 (by omega) (by omega) (by omega)], by rw [h6, f0 4 (by omega) (by omega) (by omega)], by rw [h7, f0 3 (by omega) (by omega) (by omega)], by rw [h8, f0 5 (by omega) (by omega) (by omega)]⟩, fun i hi => by omega, fun c hc' => .inl ⟨?_, (hc c hc').1, (hc c hc').2⟩, fun c s p m _ hs => by omega, fun s hs => by omega⟩, fun s _ h5 w hw => ?_⟩
  · show gt F 1 (aC c 0) = 0
    exact f0 _ (by unfold aC; omega) (by unfold aC; omega) (by unfold aC; omega)
  · show gt F 1 (aS s w) = 0
    exact f0 _ (by unfold aS; omega) (by unfold aS; omega) (by unfold aS; omega)
end
