section
variable {M : vMe} {a : Nat} {C : Nat → Nat → Value}
theorem b_logInit {s sl : Nat} (hb : M.2.2.2 ≤ M.2.1) (hs : s < 5) :
    ∃ C1, tX2_init (M.2.1 + (4 + 8 * s + 4)) (bv M (4 + 8 * s + 5) sl C) = some ((), bv M (4 + 8 * s + 8) (sl + 180) C1) ∧ (∀ k, k < 3 → C1 (4 + 8 * s + 4) k = .ref (M.2.1 + (4 + 8 * s + (5 + k)))) ∧ ∀ j, j < 4 + 8 * s + 4 → C1 j = C j := by
  refine ⟨pu (puA (pu (puA (pu (puA C (4 + 8 * s + 5) (fun _ => .int 0)) (4 + 8 * s + 4) 0 (.ref (M.2.1 + (4 + 8 * s + 5)))) (4 + 8 * s + 6) (fun _ => .int 0)) (4 + 8 * s + 4) 1 (.ref (M.2.1 + (4 + 8 * s + 6)))) (4 + 8 * s + 7) (fun _ => .int 0)) (4 + 8 * s + 4) 2 (.ref (M.2.1 + (4 + 8 * s + 7))), ?_, fun k hk => ?_, fun j hj => ?_⟩
  · have t : (cT (4 + 8 * s + 4)).1 = 5 := by rw [cT_l hs]
    rw [tX2_init, bv_2, bv_22, nwO_bv (cT_e hs (k := 5) (by omega) (by omega)) (by omega) (by omega) (by omega), Option.bind_some, bv_sV hb (by omega) t, Option.bind_some, bv_2, nwO_bv (cT_e hs (k := 6) (by omega) (by omega)) (by omega) (by omega) (by omega), Option.bind_some,
      bv_sV hb (by omega) t, Option.bind_some, bv_2, nwO_bv (cT_e hs (k := 7) (by omega) (by omega)) (by omega) (by omega) (by omega), Option.bind_some, bv_sV hb (by omega) t, Option.bind_some, bv_2, bv_22, if_pos ⟨by omega, by omega⟩]
  · rcases (show k = 0 ∨ k = 1 ∨ k = 2 by omega) with rfl | rfl | rfl
    · rw [pu_ne (by omega), puA_o (by omega), pu_ne (by omega), puA_o (by omega), pu_eq]
    · rw [pu_ne (by omega), puA_o (by omega), pu_eq]
    · rw [pu_eq]
  · exact funext fun l => by rw [pu_ne (by omega), puA_o (by omega), pu_ne (by omega), puA_o (by omega), pu_ne (by omega), puA_o (by omega)]
theorem b_rowsInit {G : Nat → Nat} {s sl : Nat} (hb : M.2.2.2 ≤ M.2.1) (hs : s < 5) :
    ∃ C1, tX7_init G (M.2.1 + (4 + 8 * s)) (bv M (4 + 8 * s + 1) sl C) = some ((), bv M (4 + 8 * s + 8) (sl + 378) C1) ∧ (∀ k, k < 4 → C1 (4 + 8 * s) k = .ref (M.2.1 + (4 + 8 * s + (k + 1)))) ∧ (∀ k, k < 3 → C1 (4 + 8 * s + 4) k = .ref (M.2.1 + (4 + 8 * s + (5 + k)))) ∧ ∀ j, j < 4 + 8 * s → C1 j = C j := by
  have t : (cT (4 + 8 * s)).1 = 9 := by rw [cT_r hs]
  obtain ⟨D0, hD0⟩ : ∃ D0, D0 = puA (pu (puA (pu (puA (pu (puA C (4 + 8 * s + 1) (fun _ => .int 0)) (4 + 8 * s) 0 (.ref (M.2.1 + (4 + 8 * s + 1)))) (4 + 8 * s + 2) (fun _ => .int 0)) (4 + 8 * s) 1 (.ref (M.2.1 + (4 + 8 * s + 2)))) (4 + 8 * s + 3) (fun _ => .int 0)) (4 + 8 * s) 2 (.ref (M.2.1 + (4 + 8 * s + 3)))) (4 + 8 * s + 4) (vp_V [.null, .null, .null, .int 0, .int 0, .long 0]) := ⟨_, rfl⟩
  obtain ⟨D1, e1, e2, e3⟩ := b_logInit (M := M) (C := D0) (s := s) (sl := sl + 64 + 64 + 64 + 6) hb hs
  refine ⟨pu (pu D1 (4 + 8 * s) 3 (.ref (M.2.1 + (4 + 8 * s + 4)))) (4 + 8 * s) 4 (.ref (G 19)), ?_, fun k hk => ?_, fun k hk => ?_, fun j hj => ?_⟩
  · rw [tX7_init, bv_2, bv_22, nwO_bv (cT_m hs (k := 1) (by omega) (by omega)) (by omega) (by omega) (by omega), Option.bind_some, bv_sV hb (by omega) t, Option.bind_some, bv_2, nwO_bv (cT_m hs (k := 2) (by omega) (by omega)) (by omega) (by omega) (by omega), Option.bind_some, bv_sV hb (by omega) t, Option.bind_some, bv_2,
      nwO_bv (cT_m hs (k := 3) (by omega) (by omega)) (by omega) (by omega) (by omega), Option.bind_some, bv_sV hb (by omega) t, Option.bind_some, bv_2, nwO_bv (cT_l hs) (by omega) (by omega) (by omega), Option.bind_some, bv_2, bv_22, if_pos ⟨by omega, by omega⟩, ← hD0, e1, Option.bind_some]
    show ((sV (bv M (4 + 8 * s + 8) (sl + 64 + 64 + 64 + 6 + 180) D1) (M.2.1 + (4 + 8 * s)) 9 3 (.ref (M.2.1 + (4 + 8 * s + 4)))).bind _) = _
    rw [bv_sV hb (by omega) t, Option.bind_some, bv_sV hb (by omega) t, Option.bind_some, bv_2, bv_22, if_pos ⟨by omega, by omega⟩]
  · rcases (show k = 0 ∨ k = 1 ∨ k = 2 ∨ k = 3 by omega) with rfl | rfl | rfl | rfl
    · rw [pu_ne (by omega), pu_ne (by omega), e3 _ (by omega), hD0, puA_o (by omega), pu_ne (by omega), puA_o (by omega), pu_ne (by omega), puA_o (by omega), pu_eq]
    · rw [pu_ne (by omega), pu_ne (by omega), e3 _ (by omega), hD0, puA_o (by omega), pu_ne (by omega), puA_o (by omega), pu_eq]
    · rw [pu_ne (by omega), pu_ne (by omega), e3 _ (by omega), hD0, puA_o (by omega), pu_eq]
    · rw [pu_ne (by omega), pu_eq]
  · rw [pu_ne (by omega), pu_ne (by omega)]; exact e2 k hk
  · exact funext fun l => by rw [pu_ne (by omega), pu_ne (by omega), e3 _ (by omega), hD0, puA_o (by omega), pu_ne (by omega), puA_o (by omega), pu_ne (by omega), puA_o (by omega), pu_ne (by omega), puA_o (by omega)]
theorem b_init_L31 {G : Nat → Nat} {n0 s0 : Nat} (hb : M.2.2.2 ≤ M.2.1) (hn0 : M.2.1 + 1 = n0) (hs0 : M.2.2.1 + 9 = s0) : ∀ (j f k : Nat) (C : Nat → Nat → Value), k + j = 5 → j < f → C 0 0 = .ref (M.2.1 + 1) →
    (∀ i, i < k → C 1 i = .ref (M.2.1 + (4 + 8 * i)) ∧ (∀ l, l < 4 → C (4 + 8 * i) l = .ref (M.2.1 + (4 + 8 * i + (l + 1)))) ∧ ∀ l, l < 3 → C (4 + 8 * i + 4) l = .ref (M.2.1 + (4 + 8 * i + (5 + l)))) →
    ∃ C1, tX5_init_L31 G n0 s0 M.2.1 f (Int32.ofNat k) (bv M (4 + 8 * k) (28 + 385 * k) C) = some ((), bv M 44 (28 + 385 * 5) C1) ∧
      (∀ i, i < 5 → C1 1 i = .ref (M.2.1 + (4 + 8 * i)) ∧ (∀ l, l < 4 → C1 (4 + 8 * i) l = .ref (M.2.1 + (4 + 8 * i + (l + 1)))) ∧ ∀ l, l < 3 → C1 (4 + 8 * i + 4) l = .ref (M.2.1 + (4 + 8 * i + (5 + l)))) ∧ C1 0 = C 0 ∧ C1 2 = C 2 := by
  intro j
  induction j with
  | zero =>
    intro f k C hk hf h0 hi
    obtain ⟨f, rfl⟩ : ∃ g, f = g + 1 := ⟨f - 1, by omega⟩
    obtain rfl : k = 5 := by omega
    refine ⟨C, ?_, hi, rfl, rfl⟩
    rw [tX5_init_L31, if_pos (by decide)]
  | succ j ih =>
    intro f k C hk hf h0 hi
    obtain ⟨f, rfl⟩ : ∃ g, f = g + 1 := ⟨f - 1, by omega⟩
    have hk5 : k < 5 := by omega
    obtain ⟨D, e1, e2, e3, e4⟩ := b_rowsInit (M := M) (G := G) (s := k) (sl := 28 + 385 * k + 7) (C := puA C (4 + 8 * k) (vp_V [.null, .null, .null, .null, .null, .int 0, .int 0])) hb hk5
    have g0 : ∀ j l, j ≠ 1 → pu D 1 k (.ref (M.2.1 + (4 + 8 * k))) j l = D j l := fun j l h => pu_ne (.inl h)
    have gD : ∀ j, j < 4 + 8 * k → D j = C j := fun j hj => by rw [e4 j hj, puA_o (by omega)]
    obtain ⟨C1, q1, q2, q3, q4⟩ := ih f (k + 1) (pu D 1 k (.ref (M.2.1 + (4 + 8 * k)))) (by omega) (by omega) (by rw [pu_ne (by omega), gD 0 (by omega)]; exact h0) (fun i hik => by
      by_cases e : i = k
      · subst e
        exact ⟨pu_eq _ _ _, fun l hl => by rw [pu_ne (by omega)]; exact e2 l hl, fun l hl => by rw [pu_ne (by omega)]; exact e3 l hl⟩
      · obtain ⟨p1, p2, p3⟩ := hi i (by omega)
        exact ⟨by rw [pu_ne (by omega), gD 1 (by omega)]; exact p1, fun l hl => by rw [pu_ne (by omega), gD _ (by omega)]; exact p2 l hl, fun l hl => by rw [pu_ne (by omega), gD _ (by omega)]; exact p3 l hl⟩)
    refine ⟨C1, ?_, q2, q3.trans ?_, q4.trans ?_⟩
    · have hA : gA (bv M (4 + 8 * k) (28 + 385 * k) C) M.2.1 8 0 = some (M.2.1 + 1) := bv_gA (i := 0) (by omega) rfl h0
      have hQ := bv_sQ (M := M) (C := D) (n := 4 + 8 * k + 8) (sl := 28 + 385 * k + 7 + 378) (i := 1) (j := k) (len := 5) (tg := 107) (et := 9) (v := 4 + 8 * k) hb (by omega) rfl hk5 (by omega) (by omega) (by rw [cT_r hk5])
      rw [tX5_init_L31, if_neg (by rw [l5]; exact fun g => by have := (n_le (by omega) (by omega)).mp g; omega), hA, Option.bind_some, nwO_bv (cT_r hk5) (by omega) (by omega) (by omega), Option.bind_some, bv_2, bv_22, bv_2, if_pos ⟨by omega, by omega⟩, e1, Option.bind_some]
      show ((sQ (bv M (4 + 8 * k + 8) (28 + 385 * k + 7 + 378) D) (M.2.1 + 1) 107 (Int32.ofNat k) (M.2.1 + (4 + 8 * k)) 9).bind _) = _
      rw [hQ, Option.bind_some, n_succ, show 28 + 385 * k + 7 + 378 = 28 + 385 * (k + 1) by omega, show 4 + 8 * k + 8 = 4 + 8 * (k + 1) by omega]
      exact q1
    · exact funext fun l => by rw [pu_ne (by omega), gD 0 (by omega)]
    · exact funext fun l => by rw [pu_ne (by omega), gD 2 (by omega)]
theorem b_init_L57 {n0 s0 : Nat} (hb : M.2.2.2 ≤ M.2.1) (hn0 : M.2.1 + 1 = n0) (hs0 : M.2.2.1 + 9 = s0) : ∀ (j f k : Nat) (C : Nat → Nat → Value), k + j = 6 → j < f → C 0 1 = .ref (M.2.1 + 2) → (∀ i, i < k → C 2 i = .ref (M.2.1 + (44 + i))) →
    ∃ C1, tX5_init_L57 n0 s0 M.2.1 f (Int32.ofNat k) (bv M (44 + k) (28 + 385 * 5 + 8 * k) C) = some ((), bv M 50 2001 C1) ∧ (∀ i, i < 6 → C1 2 i = .ref (M.2.1 + (44 + i))) ∧ ∀ j, j ≠ 2 → j < 44 → C1 j = C j := by
  intro j
  induction j with
  | zero =>
    intro f k C hk hf h0 hi
    obtain ⟨f, rfl⟩ : ∃ g, f = g + 1 := ⟨f - 1, by omega⟩
    obtain rfl : k = 6 := by omega
    refine ⟨C, ?_, hi, fun _ _ _ => rfl⟩
    rw [tX5_init_L57, if_pos (by decide)]
  | succ j ih =>
    intro f k C hk hf h0 hi
    obtain ⟨f, rfl⟩ : ∃ g, f = g + 1 := ⟨f - 1, by omega⟩
    have hk6 : k < 6 := by omega
    obtain ⟨D, hD⟩ : ∃ D, D = puA C (44 + k) (vp_V [.int 0, .int 0, .int 0, .int 0, .int 0, .int 0, .int 0, .int 0]) := ⟨_, rfl⟩
    have gD : ∀ j, j < 44 → D j = C j := fun j hj => by rw [hD, puA_o (by omega)]
    obtain ⟨C1, q1, q2, q3⟩ := ih f (k + 1) (pu D 2 k (.ref (M.2.1 + (44 + k)))) (by omega) (by omega) (by rw [pu_ne (by omega), gD 0 (by omega)]; exact h0) (fun i hik => by
      by_cases e : i = k
      · subst e; exact pu_eq _ _ _
      · rw [pu_ne (by omega), gD 2 (by omega)]; exact hi i (by omega))
    refine ⟨C1, ?_, q2, fun i h1 h2 => (q3 i h1 h2).trans (funext fun l => by rw [pu_ne (by omega), gD i h2])⟩
    have hA : gA (bv M (44 + k) (28 + 385 * 5 + 8 * k) C) M.2.1 8 1 = some (M.2.1 + 2) := bv_gA (i := 0) (by omega) rfl h0
    have hQ := bv_sQ (M := M) (C := D) (n := 44 + k + 1) (sl := 28 + 385 * 5 + 8 * k + 8) (i := 2) (j := k) (len := 6) (tg := 108) (et := 3) (v := 44 + k) hb (by omega) rfl hk6 (by omega) (by omega) (by rw [cT_c hk6])
    rw [tX5_init_L57, if_neg (by rw [l6]; exact fun g => by have := (n_le (by omega) (by omega)).mp g; omega), hA, Option.bind_some, nwO_bv (cT_c hk6) (by omega) (by omega) (by omega), Option.bind_some, bv_2, bv_22, bv_2, if_pos ⟨by omega, by omega⟩, tX0_init, Option.bind_some, ← hD]
    show ((sQ (bv M (44 + k + 1) (28 + 385 * 5 + 8 * k + 8) D) (M.2.1 + 2) 108 (Int32.ofNat k) (M.2.1 + (44 + k)) 3).bind _) = _
    rw [hQ, Option.bind_some, n_succ, show 28 + 385 * 5 + 8 * k + 8 = 28 + 385 * 5 + 8 * (k + 1) by omega, show 44 + k + 1 = 44 + (k + 1) by omega]
    exact q1
/-- the memory with fifty more cells -/
def mem50 (M : vMe) : vMe := (M.1, M.2.1 + 50, M.2.2.1 + 2001, M.2.2.2)
theorem bv_50 : bv M 50 2001 C = cv (mem50 M) M.2.1 C := rfl
/-- new State() -/
theorem c_newState {G : Nat → Nat} (hb : M.2.2.2 ≤ M.2.1) : ∃ C, tX5_init G M.2.1 (nw M 8 0 9 (vp_V [.null, .null, .null, .int 0, .int 0, .int 0, .int 0, .int 0, .int 0])) = some ((), cv (mem50 M) M.2.1 C) ∧ cOk (mem50 M) M.2.1 C := by
  obtain ⟨C0, hC0⟩ : ∃ C0 : Nat → Nat → Value, C0 = puA (fun _ _ => .null) 0 (vp_V [.null, .null, .null, .int 0, .int 0, .int 0, .int 0, .int 0, .int 0]) := ⟨_, rfl⟩
  have h0 : nw M 8 0 9 (vp_V [.null, .null, .null, .int 0, .int 0, .int 0, .int 0, .int 0, .int 0]) = bv M 1 9 C0 := by
    have e : M = bv M 0 0 (fun _ _ => .null) := by
      unfold bv
      refine Prod.ext (funext fun q => ?_) rfl
      dsimp only; rw [if_neg (by omega)]
    have := bv_nw (M := M) (C := fun _ _ => .null) (n := 0) (sl := 0) (s1 := 9) (f := vp_V [.null, .null, .null, .int 0, .int 0, .int 0, .int 0, .int 0, .int 0]) (tg := 8) (len := 0) rfl
    rw [← e] at this
    rw [this, hC0]
  have t : (cT 0).1 = 8 := rfl
  obtain ⟨D, hD⟩ : ∃ D, D = pu (puA (pu (puA (pu (puA C0 1 (fun _ => .null)) 0 0 (.ref (M.2.1 + 1))) 2 (fun _ => .null)) 0 1 (.ref (M.2.1 + 2))) 3 (fun _ => .int 0)) 0 2 (.ref (M.2.1 + 3)) := ⟨_, rfl⟩
  have d0 : D 0 0 = .ref (M.2.1 + 1) := by rw [hD, pu_ne (by omega), puA_o (by omega), pu_ne (by omega), puA_o (by omega), pu_eq]
  have d1 : D 0 1 = .ref (M.2.1 + 2) := by rw [hD, pu_ne (by omega), puA_o (by omega), pu_eq]
  have d2 : D 0 2 = .ref (M.2.1 + 3) := by rw [hD, pu_eq]
  obtain ⟨D1, e1, e2, e3, e4⟩ := b_init_L31 (M := M) (G := G) (n0 := M.2.1 + 1) (s0 := M.2.2.1 + 9) hb rfl rfl 5 vF 0 D (by omega) (by unfold vF; omega) d0 (fun i hi => by omega)
  obtain ⟨D2, f1, f2, f3⟩ := b_init_L57 (M := M) (n0 := M.2.1 + 1) (s0 := M.2.2.1 + 9) hb rfl rfl 6 vF 0 D1 (by omega) (by unfold vF; omega) (by rw [e3]; exact d1) (fun i hi => by omega)
  have r0 : D2 0 = D 0 := (f3 0 (by omega) (by omega)).trans e3
  refine ⟨D2, ?_, ?_⟩
  · have v0 : ∀ (C : Nat → Nat → Value) n sl k v, 0 < n → sV (bv M n sl C) M.2.1 8 k v = some (bv M n sl (pu C 0 k v)) := fun C n sl k v h => bv_sV (i := 0) hb h t
    rw [h0, tX5_init, bv_2, bv_22, nwO_bv (n := 1) (tg := 107) (len := 5) rfl (by omega) (by omega) (by omega), Option.bind_some, v0 _ _ _ _ _ (by omega), Option.bind_some, bv_2, nwO_bv (n := 2) (tg := 108) (len := 6) rfl (by omega) (by omega) (by omega), Option.bind_some, v0 _ _ _ _ _ (by omega), Option.bind_some, bv_2, nwO_bv (n := 3) (tg := 101) (len := 8) rfl (by omega) (by omega) (by omega), Option.bind_some, v0 _ _ _ _ _ (by omega), Option.bind_some, ← hD]
    rw [show tX5_init_L31 G (M.2.1 + 1) (M.2.2.1 + 9) M.2.1 vF 0 (bv M (3 + 1) (9 + 5 + 6 + 8) D) = some ((), bv M 44 (28 + 385 * 5) D1) from e1, Option.bind_some]
    show ((tX5_init_L57 (M.2.1 + 1) (M.2.2.1 + 9) M.2.1 vF 0 (bv M 44 (28 + 385 * 5) D1)).bind _) = _
    rw [show tX5_init_L57 (M.2.1 + 1) (M.2.2.1 + 9) M.2.1 vF 0 (bv M 44 (28 + 385 * 5) D1) = some ((), bv M 50 2001 D2) from f1, Option.bind_some, bv_2, bv_22, if_pos ⟨by omega, by omega⟩, bv_50]
  · refine ⟨hb, fun k hk => ?_, fun i hi => ?_, f2, fun i k hi hk => ?_, fun i k hi hk => ?_⟩
    · rcases (show k = 0 ∨ k = 1 ∨ k = 2 by omega) with rfl | rfl | rfl
      · rw [r0]; exact d0
      · rw [r0]; exact d1
      · rw [r0]; exact d2
    · rw [f3 1 (by omega) (by omega)]; exact (e2 i hi).1
    · rw [f3 _ (by omega) (by omega)]; exact (e2 i hi).2.1 k hk
    · rw [f3 _ (by omega) (by omega)]; exact (e2 i hi).2.2 k hk
end
