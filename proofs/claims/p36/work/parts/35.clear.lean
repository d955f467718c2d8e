section
variable {M : vMe} {a r : Nat} {C F : Nat → Nat → Value}
theorem c_empty_L {s : Nat} : ∀ (j f k : Nat) (C : Nat → Nat → Value), cOk M a C → k + j = 6 → j < f →
    ∃ C1, tX5_emptySet_L68 a (Int32.ofNat s) f (Int32.ofNat k) (cv M a C) = some ((), cv M a C1) ∧ cOk M a C1 ∧
      (∀ c, c < 6 → gt C1 (44 + c) 1 = if k ≤ c ∧ onC C c s then 0 else gt C (44 + c) 1) ∧ ∀ j l, (j < 44 ∨ l ≠ 1) → C1 j l = C j l := by
  intro j
  induction j with
  | zero =>
    intro f k C h hk hf
    obtain ⟨f, rfl⟩ : ∃ g, f = g + 1 := ⟨f - 1, by omega⟩
    refine ⟨C, ?_, h, fun c hc => ?_, fun _ _ _ => rfl⟩
    · rw [tX5_emptySet_L68, if_pos (by rw [l6]; exact (n_le (by omega) (by omega)).mpr (by omega))]
    · rw [if_neg (by omega)]
  | succ j ih =>
    intro f k C h hk hf
    obtain ⟨f, rfl⟩ : ∃ g, f = g + 1 := ⟨f - 1, by omega⟩
    have hk6 : k < 6 := by omega
    have st : tX5_emptySet_L68 a (Int32.ofNat s) (f + 1) (Int32.ofNat k) (cv M a C) = tX5_emptySet_L68 a (Int32.ofNat s) f (Int32.ofNat (k + 1)) (cv M a (if onC C k s then pu C (44 + k) 1 (.int 0) else C)) := by
      rw [tX5_emptySet_L68, if_neg (by rw [l6]; exact fun g => by have := (n_le (by omega) (by omega)).mp g; omega)]
      rw [cA1 h, Option.bind_some, cU h hk6, Option.bind_some, if_pos (uT hk6), c_isOpenOn hk6, Option.bind_some]
      by_cases c1 : onC C k s
      · rw [if_pos c1, if_pos c1, if_neg (by decide), Option.bind_some, cU h hk6, Option.bind_some, uV h hk6, Option.bind_some, tX5_emptySet_J97_68, n_succ]
      · rw [if_neg c1, if_neg c1, if_pos rfl, tX5_emptySet_J97_68, n_succ]
    rw [st]
    by_cases c : onC C k s
    · rw [if_pos c]
      obtain ⟨C1, e1, e2, e3, e4⟩ := ih f (k + 1) (pu C (44 + k) 1 (.int 0)) (cOk_u h hk6) (by omega) (by omega)
      refine ⟨C1, e1, e2, fun d hd => ?_, fun j l hj => by rw [e4 j l hj, pu_ne (by omega)]⟩
      rw [e3 d hd]
      by_cases e : d = k
      · subst e
        rw [if_neg (by omega), gt_eq, if_pos ⟨by omega, c⟩]
      · have eo : onC (pu C (44 + k) 1 (.int 0)) d s ↔ onC C d s := by unfold onC; rw [gt_ne (by omega), gt_ne (by omega)]
        by_cases g : k + 1 ≤ d ∧ onC C d s
        · rw [if_pos ⟨g.1, eo.mpr g.2⟩, if_pos ⟨by omega, g.2⟩]
        · rw [if_neg (fun q => g ⟨q.1, eo.mp q.2⟩), if_neg (fun q => g ⟨by omega, q.2⟩), gt_ne (by omega)]
    · rw [if_neg c]
      obtain ⟨C1, e1, e2, e3, e4⟩ := ih f (k + 1) C h (by omega) (by omega)
      refine ⟨C1, e1, e2, fun d hd => ?_, e4⟩
      rw [e3 d hd]
      by_cases e : d = k
      · subst e
        rw [if_neg (by omega), if_neg (fun q => c q.2)]
      · by_cases g : k + 1 ≤ d ∧ onC C d s
        · rw [if_pos g, if_pos ⟨by omega, g.2⟩]
        · rw [if_neg g, if_neg (fun q => g ⟨by omega, q.2⟩)]
end
