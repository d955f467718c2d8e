section
variable {M : vMe} {T : Nat → Nat × Nat} {C : Nat → Nat → Value}
/-! cells made one behind the other -/
def ov (T : Nat → Nat × Nat) (M : vMe) (n sl : Nat) (C : Nat → Nat → Value) : vMe := (fun q => if M.2.1 ≤ q ∧ q < M.2.1 + n then ((T (q - M.2.1)).1, (T (q - M.2.1)).2, C (q - M.2.1)) else M.1 q, M.2.1 + n, M.2.2.1 + sl, M.2.2.2)
theorem ov_at {n sl i : Nat} (hi : i < n) : (ov T M n sl C).1 (M.2.1 + i) = ((T i).1, (T i).2, C i) := by simp [ov, hi]
theorem ov_out {n sl q : Nat} (h : q < M.2.1) : (ov T M n sl C).1 q = M.1 q := by
  show (if M.2.1 ≤ q ∧ q < M.2.1 + n then _ else M.1 q) = _
  rw [if_neg (by omega)]
theorem ov_2 (n sl : Nat) : (ov T M n sl C).2.1 = M.2.1 + n := rfl
theorem ov_22 (n sl : Nat) : (ov T M n sl C).2.2.1 = M.2.2.1 + sl := rfl
theorem ov_0 : ov T M 0 0 C = M := by
  unfold ov
  refine Prod.ext (funext fun q => ?_) rfl
  dsimp only; rw [if_neg (by omega)]
theorem ov_nw {n sl tg len s1 : Nat} {f : Nat → Value} (h : T n = (tg, len)) : nw (ov T M n sl C) tg len s1 f = ov T M (n + 1) (sl + s1) (puA C n f) := by
  unfold nw ov
  refine Prod.ext (funext fun q => ?_) (by dsimp only; rw [Nat.add_assoc, Nat.add_assoc])
  dsimp only
  by_cases e : q = M.2.1 + n
  · subst e
    rw [if_pos rfl, if_pos (by omega), show M.2.1 + n - M.2.1 = n by omega, h]
    simp [puA]
  · rw [if_neg e]
    by_cases g : M.2.1 ≤ q ∧ q < M.2.1 + n
    · rw [if_pos g, if_pos (by omega), puA_o (by omega)]
    · rw [if_neg g, if_neg (by omega)]
theorem ov_wr {n sl i k : Nat} {v : Value} (hi : i < n) : wr (ov T M n sl C) (M.2.1 + i) k v = ov T M n sl (pu C i k v) := by
  unfold wr pt
  rw [ov_at hi]
  refine Prod.ext (funext fun q => ?_) rfl
  dsimp only
  by_cases hq : q = M.2.1 + i
  · subst hq
    simp [ov, pu, hi]
  · rw [if_neg hq]
    by_cases hb : M.2.1 ≤ q ∧ q < M.2.1 + n
    · have : ¬ q - M.2.1 = i := by omega
      simp [ov, hb, pu, this]
    · simp [ov, hb]
theorem ov_sV {n sl i k t : Nat} {v : Value} (hb : M.2.2.2 ≤ M.2.1) (hi : i < n) (ht : (T i).1 = t) : sV (ov T M n sl C) (M.2.1 + i) t k v = some (ov T M n sl (pu C i k v)) := by
  have : (ov T M n sl C).2.2.2 ≤ M.2.1 + i := by show M.2.2.2 ≤ _; omega
  simp only [sV, ov_at hi, ht, this, ov_wr hi]
  simp
theorem ov_sV0 {n sl k t : Nat} {v : Value} (hb : M.2.2.2 ≤ M.2.1) (hi : 0 < n) (ht : (T 0).1 = t) : sV (ov T M n sl C) M.2.1 t k v = some (ov T M n sl (pu C 0 k v)) := ov_sV (i := 0) hb hi ht
theorem ov_sA {n sl i j len tg : Nat} {v : Value} (hb : M.2.2.2 ≤ M.2.1) (hi : i < n) (ht : T i = (tg, len)) (hj : j < len) (hl : len < 2147483648) : sA (ov T M n sl C) (M.2.1 + i) tg (Int32.ofNat j) v = some (ov T M n sl (pu C i j v)) := by
  have : (ov T M n sl C).2.2.2 ≤ M.2.1 + i := by show M.2.2.2 ≤ _; omega
  simp only [sA, ov_at hi, ht, n_clamp (show j < 2147483648 by omega), n_neg (show j < 2147483648 by omega), this, ov_wr hi]
  simp [hj]
theorem ov_gA0 {n sl k t v : Nat} (hi : 0 < n) (ht : (T 0).1 = t) (hv : C 0 k = .ref v) : gA (ov T M n sl C) M.2.1 t k = some v := by
  have e : (ov T M n sl C).1 M.2.1 = ((T 0).1, (T 0).2, C 0) := ov_at (i := 0) hi
  simp only [gA, e, ht, hv, vR, if_true]
theorem nwO_ov {n sl tg len s1 n0 s0 mc ms : Nat} {f : Nat → Value} (h : T n = (tg, len)) (h1 : M.2.1 + n + 1 ≤ n0 + mc) (h2 : M.2.2.1 + sl + s1 ≤ s0 + ms) (h3 : s1 ≤ ms) : nwO (ov T M n sl C) tg len s1 f n0 s0 mc ms = some (ov T M (n + 1) (sl + s1) (puA C n f)) := by
  unfold nwO
  rw [if_pos ⟨h1, h2, h3⟩, ov_nw h]
theorem nwO_v {n n' sl sl' tg len s1 n0 s0 mc ms : Nat} {f : Nat → Value} (h : T n = (tg, len)) (hn : n + 1 = n') (hs : sl + s1 = sl') (h1 : M.2.1 + n + 1 ≤ n0 + mc) (h2 : M.2.2.1 + sl + s1 ≤ s0 + ms) (h3 : s1 ≤ ms) : nwO (ov T M n sl C) tg len s1 f n0 s0 mc ms = some (ov T M n' sl' (puA C n f)) := by
  subst hn; subst hs
  exact nwO_ov h h1 h2 h3
abbrev vO : Nat → Value := fun _ => .int 0
abbrev vN : Nat → Value := fun _ => .null
abbrev vLg : Nat → Value := fun _ => .long 0
/-! the parts of a new TwinSets -/
theorem i_input (hb : M.2.2.2 ≤ M.2.1) : tX1_init (M.2.1 + 1) (ov gT M 2 8 C) = some ((), ov gT M 3 608 (pu (puA C 2 vO) 1 0 (.ref (M.2.1 + 2)))) := by
  rw [tX1_init, ov_2, ov_22, nwO_v (n := 2) (n' := 3) (sl' := 608) (tg := 102) (len := 600) rfl rfl rfl (by omega) (by omega) (by omega), Option.bind_some, ov_sV (T := gT) (i := 1) (t := 4) hb (by omega) rfl, Option.bind_some, if_pos ⟨by show M.2.1 + 3 ≤ _; omega, by show M.2.2.1 + 608 ≤ _; omega⟩]
theorem i_hist (hb : M.2.2.2 ≤ M.2.1) : tX8_init (M.2.1 + 3) (ov gT M 4 611 C) = some ((), ov gT M 5 621 (pu (puA C 4 vN) 3 0 (.ref (M.2.1 + 4)))) := by
  rw [tX8_init, ov_2, ov_22, nwO_v (n := 4) (n' := 5) (sl' := 621) (tg := 106) (len := 10) rfl rfl rfl (by omega) (by omega) (by omega), Option.bind_some, ov_sV (T := gT) (i := 3) (t := 10) hb (by omega) rfl, Option.bind_some, if_pos ⟨by show M.2.1 + 5 ≤ _; omega, by show M.2.2.1 + 621 ≤ _; omega⟩]
theorem i_slots (hb : M.2.2.2 ≤ M.2.1) : tX4_init (M.2.1 + 5) (ov gT M 6 623 C) = some ((), ov gT M 8 627 (pu (puA (pu (puA C 6 vN) 5 0 (.ref (M.2.1 + 6))) 7 vO) 5 1 (.ref (M.2.1 + 7)))) := by
  rw [tX4_init, ov_2, ov_22, nwO_v (n := 6) (n' := 7) (sl' := 625) (tg := 106) (len := 2) rfl rfl rfl (by omega) (by omega) (by omega), Option.bind_some, ov_sV (T := gT) (i := 5) (t := 7) hb (by omega) rfl, Option.bind_some, nwO_v (n := 7) (n' := 8) (sl' := 627) (tg := 103) (len := 2) rfl rfl rfl (by omega) (by omega) (by omega), Option.bind_some, ov_2, ov_sV (T := gT) (i := 5) (t := 7) hb (by omega) rfl, Option.bind_some, if_pos ⟨by show M.2.1 + 8 ≤ _; omega, by show M.2.2.1 + 627 ≤ _; omega⟩]
/-- the eight cells of a new TwinSets, ahead of its states -/
theorem i_group {V : Nat → Value} (hb : M.2.2.2 ≤ M.2.1) : ∃ G, gOk (ov gT M 8 627 G) M.2.1 G ∧ (∀ i, G 4 i = .null) ∧ (∀ i, G 6 i = .null) ∧ gt G 1 1 = 0 ∧ (∀ i, gt G 2 i = 0) ∧ gt G 3 1 = 0 ∧ gt G 3 2 = 0 ∧ (∀ i, gt G 7 i = 0) ∧
    ∀ Gs : Nat → Nat, tX9_init Gs M.2.1 (nw M 11 0 6 V) = (nwO (ov gT M 8 627 G) 8 0 9 (vp_V [.null, .null, .null, .int 0, .int 0, .int 0, .int 0, .int 0, .int 0]) (M.2.1 + 1) (M.2.2.1 + 6) 120 5000).bind fun M10 =>
  if M10.2.1 + 49 ≤ (M.2.1 + 1) + 120 ∧ M10.2.2.1 + 1992 ≤ (M.2.2.1 + 6) + 5000 then
  ((tX5_init Gs (M.2.1 + 8) M10).bind fun z11 =>
  (sV z11.2 M.2.1 11 3 (.ref (M.2.1 + 8))).bind fun M12 =>
  (nwO M12 8 0 9 (vp_V [.null, .null, .null, .int 0, .int 0, .int 0, .int 0, .int 0, .int 0]) (M.2.1 + 1) (M.2.2.1 + 6) 120 5000).bind fun M13 =>
  if M13.2.1 + 49 ≤ (M.2.1 + 1) + 120 ∧ M13.2.2.1 + 1992 ≤ (M.2.2.1 + 6) + 5000 then
  ((tX5_init Gs M12.2.1 M13).bind fun z14 =>
  (sV z14.2 M.2.1 11 4 (.ref M12.2.1)).bind fun M15 =>
  (sV M15 M.2.1 11 5 (.int ((-1)))).bind fun M16 =>
  (gA M16 M.2.1 11 3).bind fun a17 =>
  if M16.2.1 + 0 ≤ (M.2.1 + 1) + 120 ∧ M16.2.2.1 + 0 ≤ (M.2.2.1 + 6) + 5000 then
  (if (M16.1 a17).1 = 8 then
  ((tX5_begin a17 1 1 M16).bind fun z18 =>
  if z18.2.2.1 ≤ (M.2.1 + 1) + 120 ∧ z18.2.2.2.1 ≤ (M.2.2.1 + 6) + 5000 then some ((), z18.2) else none)
else none)
else none)
else none)
else none := by
  have h0 : nw M 11 0 6 V = ov gT M 1 6 (puA (fun _ _ => .null) 0 V) := by
    have := ov_nw (T := gT) (M := M) (C := fun _ _ => .null) (n := 0) (sl := 0) (s1 := 6) (f := V) (tg := 11) (len := 0) rfl
    rw [ov_0] at this; exact this
  refine ⟨(pu (pu (puA (pu (puA (puA (pu (pu (puA (puA (pu (pu (puA (puA (puA (fun _ _ => .null) 0 V) 1 (vp_V [.null, .int 0])) 2 vO) 1 0 (.ref (M.2.1 + 2))) 0 0 (.ref (M.2.1 + 1))) 3 (vp_V [.null, .int 0, .int 0])) 4 vN) 3 0 (.ref (M.2.1 + 4))) 0 1 (.ref (M.2.1 + 3))) 5 (vp_V [.null, .null])) 6 vN) 5 0 (.ref (M.2.1 + 6))) 7 vO) 5 1 (.ref (M.2.1 + 7))) 0 2 (.ref (M.2.1 + 5))), ⟨hb, ?_, ?_, ?_, ?_, ?_, ?_, ?_⟩, fun i => ?_, fun i => ?_, ?_, fun i => ?_, ?_, ?_, fun i => ?_, fun Gs => ?_⟩
  · rw [pu_ne (by omega), pu_ne (by omega), puA_o (by omega), pu_ne (by omega), puA_o (by omega), puA_o (by omega), pu_ne (by omega), pu_ne (by omega), puA_o (by omega), puA_o (by omega), pu_eq]
  · rw [pu_ne (by omega), pu_ne (by omega), puA_o (by omega), pu_ne (by omega), puA_o (by omega), puA_o (by omega), pu_eq]
  · rw [pu_eq]
  · rw [pu_ne (by omega), pu_ne (by omega), puA_o (by omega), pu_ne (by omega), puA_o (by omega), puA_o (by omega), pu_ne (by omega), pu_ne (by omega), puA_o (by omega), puA_o (by omega), pu_ne (by omega), pu_eq]
  · rw [pu_ne (by omega), pu_ne (by omega), puA_o (by omega), pu_ne (by omega), puA_o (by omega), puA_o (by omega), pu_ne (by omega), pu_eq]
  · rw [pu_ne (by omega), pu_ne (by omega), puA_o (by omega), pu_eq]
  · rw [pu_ne (by omega), pu_eq]
  · rw [pu_ne (by omega), pu_ne (by omega), puA_o (by omega), pu_ne (by omega), puA_o (by omega), puA_o (by omega), pu_ne (by omega), pu_ne (by omega)]; simp [puA]
  · rw [pu_ne (by omega), pu_ne (by omega), puA_o (by omega), pu_ne (by omega)]; simp [puA]
  · unfold gt; rw [pu_ne (by omega), pu_ne (by omega), puA_o (by omega), pu_ne (by omega), puA_o (by omega), puA_o (by omega), pu_ne (by omega), pu_ne (by omega), puA_o (by omega), puA_o (by omega), pu_ne (by omega), pu_ne (by omega), puA_o (by omega)]; simp [puA, vp_V, vI]
  · unfold gt; rw [pu_ne (by omega), pu_ne (by omega), puA_o (by omega), pu_ne (by omega), puA_o (by omega), puA_o (by omega), pu_ne (by omega), pu_ne (by omega), puA_o (by omega), puA_o (by omega), pu_ne (by omega), pu_ne (by omega)]; simp [puA, vI]
  · unfold gt; rw [pu_ne (by omega), pu_ne (by omega), puA_o (by omega), pu_ne (by omega), puA_o (by omega), puA_o (by omega), pu_ne (by omega), pu_ne (by omega), puA_o (by omega)]; simp [puA, vp_V, vI]
  · unfold gt; rw [pu_ne (by omega), pu_ne (by omega), puA_o (by omega), pu_ne (by omega), puA_o (by omega), puA_o (by omega), pu_ne (by omega), pu_ne (by omega), puA_o (by omega)]; simp [puA, vp_V, vI]
  · unfold gt; rw [pu_ne (by omega), pu_ne (by omega)]; simp [puA, vI]
  · rw [h0, tX9_init, ov_2, ov_22, nwO_v (n := 1) (n' := 2) (sl' := 8) (tg := 4) (len := 0) rfl rfl rfl (by omega) (by omega) (by omega), Option.bind_some, if_pos ⟨by show M.2.1 + 2 + 1 ≤ _; omega, by show M.2.2.1 + 8 + 600 ≤ _; omega⟩, i_input hb, Option.bind_some, ov_sV0 (T := gT) (t := 11) hb (by omega) rfl, Option.bind_some, ov_2, nwO_v (n := 3) (n' := 4) (sl' := 611) (tg := 10) (len := 0) rfl rfl rfl (by omega) (by omega) (by omega), Option.bind_some, if_pos ⟨by show M.2.1 + 4 + 1 ≤ _; omega, by show M.2.2.1 + 611 + 10 ≤ _; omega⟩, i_hist hb, Option.bind_some, ov_sV0 (T := gT) (t := 11) hb (by omega) rfl, Option.bind_some, ov_2, nwO_v (n := 5) (n' := 6) (sl' := 623) (tg := 7) (len := 0) rfl rfl rfl (by omega) (by omega) (by omega), Option.bind_some, if_pos ⟨by show M.2.1 + 6 + 2 ≤ _; omega, by show M.2.2.1 + 623 + 4 ≤ _; omega⟩, i_slots hb, Option.bind_some, ov_sV0 (T := gT) (t := 11) hb (by omega) rfl, Option.bind_some, ov_2]
end
section
variable {M : vMe}
/-- a new TwinSets -/
theorem c_new {Gs : Nat → Nat} {V : Nat → Value} (hb : M.2.2.2 ≤ M.2.1) : ∃ G C D M1, tX9_init Gs M.2.1 (nw M 11 0 6 V) = some ((), M1) ∧ M1.2 = (M.2.1 + 108, M.2.2.1 + 4629, M.2.2.2) ∧ (∀ q, q < M.2.1 → M1.1 q = M.1 q) ∧ hG M1 M.2.1 G ∧ gOk M1 M.2.1 G ∧ hB M1 (M.2.1 + 8) C ∧ cOk M1 (M.2.1 + 8) C ∧ hB M1 (M.2.1 + 58) D ∧ cOk M1 (M.2.1 + 58) D ∧
    G 0 3 = .ref (M.2.1 + 8) ∧ G 0 4 = .ref (M.2.1 + 58) ∧ (∀ i, G 4 i = .null) ∧ (∀ i, G 6 i = .null) ∧ gt G 1 1 = 0 ∧ (∀ i, gt G 2 i = 0) ∧ gt G 0 5 = -1 ∧ gt G 3 1 = 0 ∧ gt G 3 2 = 0 ∧ (∀ i, gt G 7 i = 0) ∧
    gt C 0 3 = Int32.ofNat 1 ∧ gt C 0 4 = Int32.ofNat 1 ∧ gt C 0 5 = 0 ∧ gt C 0 6 = 0 ∧ gt C 0 7 = 0 ∧ gt C 0 8 = 0 ∧ ∀ j, j < 6 → gt C (44 + j) 0 = 0 ∧ gt C (44 + j) 1 = 0 := by
  obtain ⟨G, gO, k4, k6, k11, k2, k31, k32, k7, run⟩ := i_group (M := M) (V := V) hb
  obtain ⟨x, hx⟩ : ∃ x, x = M.2.1 := ⟨_, rfl⟩
  obtain ⟨N8, hN8⟩ : ∃ N, N = ov gT M 8 627 G := ⟨_, rfl⟩
  have g8 : hG N8 x G := fun i hi => by rw [hN8, hx, ov_at hi]
  have o8 : ∀ q, q < x → N8.1 q = M.1 q := fun q hq => by rw [hN8, ov_out (by omega)]
  have a1 : N8.2.1 = x + 8 := by rw [hN8, hx]; rfl
  have a2 : N8.2.2.1 = M.2.2.1 + 627 := by rw [hN8]; rfl
  have a3 : N8.2.2.2 = M.2.2.2 := by rw [hN8]; rfl
  rw [← hN8, ← hx] at gO
  have R := run Gs
  rw [← hN8, ← hx] at R
  rw [← hx] at hb ⊢
  -- the present state
  have w1 : nwO N8 8 0 9 (vp_V [.null, .null, .null, .int 0, .int 0, .int 0, .int 0, .int 0, .int 0]) (x + 1) (M.2.2.1 + 6) 120 5000 = some (nw N8 8 0 9 (vp_V [.null, .null, .null, .int 0, .int 0, .int 0, .int 0, .int 0, .int 0])) := by
    unfold nwO; rw [if_pos ⟨by omega, by omega, by omega⟩]
  obtain ⟨C0, c1, c2⟩ := c_newState (M := N8) (G := Gs) (by omega)
  obtain ⟨N9, hN9⟩ : ∃ N, N = cv (mem50 N8) N8.2.1 C0 := ⟨_, rfl⟩
  rw [← hN9] at c1
  have b1 : N9.2.1 = x + 58 := by rw [hN9]; show N8.2.1 + 50 = _; omega
  have b2 : N9.2.2.1 = M.2.2.1 + 2628 := by rw [hN9]; show N8.2.2.1 + 2001 = _; omega
  have b3 : N9.2.2.2 = M.2.2.2 := by rw [hN9]; exact a3
  have h9 : hB N9 (x + 8) C0 := by rw [hN9, a1]; exact hB_cv
  have cc9 : cOk N9 (x + 8) C0 := by rw [← a1]; exact ⟨by rw [b3, ← a3]; exact c2.1, c2.2⟩
  have g9 : hG N9 x G := fun i hi => by rw [hN9, cv_out (by omega)]; exact g8 i hi
  have o9 : ∀ q, q < x → N9.1 q = M.1 q := fun q hq => by rw [hN9, cv_out (by omega)]; exact o8 q hq
  have gO9 : gOk N9 x G := ⟨by rw [b3, ← a3]; exact gO.1, gO.2⟩
  have s9 : sV N9 x 11 3 (.ref (x + 8)) = some (gv N9 x (pu G 0 3 (.ref (x + 8)))) := by
    have := g_sV (M := N9) (G := G) (i := 0) (k := 3) (t := 11) (v := .ref (x + 8)) gO9.1 (by omega) rfl
    rw [g9.eq] at this; exact this
  obtain ⟨N10, hN10⟩ : ∃ N, N = gv N9 x (pu G 0 3 (.ref (x + 8))) := ⟨_, rfl⟩
  rw [← hN10] at s9
  have d1 : N10.2.1 = x + 58 := by rw [hN10]; exact b1
  have d2 : N10.2.2.1 = M.2.2.1 + 2628 := by rw [hN10]; exact b2
  have d3 : N10.2.2.2 = M.2.2.2 := by rw [hN10]; exact b3
  have w2 : nwO N10 8 0 9 (vp_V [.null, .null, .null, .int 0, .int 0, .int 0, .int 0, .int 0, .int 0]) (x + 1) (M.2.2.1 + 6) 120 5000 = some (nw N10 8 0 9 (vp_V [.null, .null, .null, .int 0, .int 0, .int 0, .int 0, .int 0, .int 0])) := by
    unfold nwO; rw [if_pos ⟨by omega, by omega, by omega⟩]
  obtain ⟨D0, e1, e2⟩ := c_newState (M := N10) (G := Gs) (by omega)
  obtain ⟨N11, hN11⟩ : ∃ N, N = cv (mem50 N10) N10.2.1 D0 := ⟨_, rfl⟩
  rw [← hN11] at e1
  have f1 : N11.2.1 = x + 108 := by rw [hN11]; show N10.2.1 + 50 = _; omega
  have f2 : N11.2.2.1 = M.2.2.1 + 4629 := by rw [hN11]; show N10.2.2.1 + 2001 = _; omega
  have f3 : N11.2.2.2 = M.2.2.2 := by rw [hN11]; exact d3
  have hD11 : hB N11 (x + 58) D0 := by rw [hN11, d1]; exact hB_cv
  have cD11 : cOk N11 (x + 58) D0 := by rw [← d1]; exact ⟨by rw [f3, ← d3]; exact e2.1, e2.2⟩
  have g11 : hG N11 x (pu G 0 3 (.ref (x + 8))) := fun i hi => by rw [hN11, cv_out (by omega)]; show N10.1 _ = _; rw [hN10]; exact gv_at i hi
  have h11 : hB N11 (x + 8) C0 := fun i hi => by rw [hN11, cv_out (by omega)]; show N10.1 _ = _; rw [hN10, gv_out (by omega)]; exact h9 i hi
  have o11 : ∀ q, q < x → N11.1 q = M.1 q := fun q hq => by rw [hN11, cv_out (by omega)]; show N10.1 _ = _; rw [hN10, gv_out (by omega)]; exact o9 q hq
  have s11 : sV N11 x 11 4 (.ref (x + 58)) = some (gv N11 x (pu (pu G 0 3 (.ref (x + 8))) 0 4 (.ref (x + 58)))) := by
    have := g_sV (M := N11) (G := pu G 0 3 (.ref (x + 8))) (i := 0) (k := 4) (t := 11) (v := .ref (x + 58)) (by rw [f3, ← a3]; exact gO.1) (by omega) rfl
    rw [g11.eq] at this; exact this
  have s12 : sV (gv N11 x (pu (pu G 0 3 (.ref (x + 8))) 0 4 (.ref (x + 58)))) x 11 5 (.int (-1)) = some (gv N11 x (pu (pu (pu G 0 3 (.ref (x + 8))) 0 4 (.ref (x + 58))) 0 5 (.int (-1)))) :=
    g_sV (i := 0) (by rw [f3, ← a3]; exact gO.1) (by omega) rfl
  obtain ⟨G3, hG3⟩ : ∃ G3, G3 = pu (pu (pu G 0 3 (.ref (x + 8))) 0 4 (.ref (x + 58))) 0 5 (.int (-1)) := ⟨_, rfl⟩
  rw [← hG3] at s12
  have r3 : G3 0 3 = .ref (x + 8) := by rw [hG3, pu_ne (by omega), pu_ne (by omega), pu_eq]
  have r4 : G3 0 4 = .ref (x + 58) := by rw [hG3, pu_ne (by omega), pu_eq]
  have ro : ∀ i, i ≠ 0 → G3 i = G i := fun i hi => by rw [hG3, pu_o hi, pu_o hi, pu_o hi]
  have rl : ∀ l, l < 3 → G3 0 l = G 0 l := fun l hl => by rw [hG3, pu_ne (by omega), pu_ne (by omega), pu_ne (by omega)]
  obtain ⟨N13, hN13⟩ : ∃ N, N = gv N11 x G3 := ⟨_, rfl⟩
  rw [← hN13] at s12
  have t1 : N13.2 = N11.2 := by rw [hN13]; rfl
  have g13 : hG N13 x G3 := by rw [hN13]; exact hG_gv
  have h13 : hB N13 (x + 8) C0 := by rw [hN13]; exact h11.gv (.inl (by omega))
  have hD13 : hB N13 (x + 58) D0 := by rw [hN13]; exact hD11.gv (.inl (by omega))
  have t3 : N13.2.2.2 = M.2.2.2 := by rw [t1]; exact f3
  have cc13 : cOk N13 (x + 8) C0 := ⟨by rw [t3, ← b3]; exact cc9.1, cc9.2⟩
  have cD13 : cOk N13 (x + 58) D0 := ⟨by rw [t3, ← f3]; exact cD11.1, cD11.2⟩
  have q3 : gA N13 x 11 3 = some (x + 8) := by rw [hN13]; exact g_gA (i := 0) (by omega) rfl r3
  obtain ⟨C2, z1, z2, z3, z4, z5, z6, z7, z8, z9, -⟩ := c_beginD (M := N13) (a := x + 8) cc13 1 1
  rw [h13.eq] at z1
  have t21 : N13.2.1 = x + 108 := by rw [t1]; exact f1
  have t22 : N13.2.2.1 = M.2.2.1 + 4629 := by rw [t1]; exact f2
  refine ⟨G3, C2, D0, cv N13 (x + 8) C2, ?_, ?_, fun q hq => ?_, g13.cv (.inl (by omega)), ⟨by show N13.2.2.2 ≤ x; rw [t3, ← a3]; exact gO.1, by rw [rl _ (by omega)]; exact gO.2.1, by rw [rl _ (by omega)]; exact gO.2.2.1, by rw [rl _ (by omega)]; exact gO.2.2.2.1, by rw [ro _ (by omega)]; exact gO.2.2.2.2.1, by rw [ro _ (by omega)]; exact gO.2.2.2.2.2.1, by rw [ro _ (by omega)]; exact gO.2.2.2.2.2.2.1, by rw [ro _ (by omega)]; exact gO.2.2.2.2.2.2.2⟩, hB_cv, z2, hD13.cv (by unfold apart; omega), cD13, r3, r4, fun i => by rw [ro 4 (by omega)]; exact k4 i, fun i => by rw [ro 6 (by omega)]; exact k6 i, by rw [gt_row (ro 1 (by omega))]; exact k11, fun i => by rw [gt_row (ro 2 (by omega))]; exact k2 i, by rw [hG3, gt_eq], by rw [gt_row (ro 3 (by omega))]; exact k31, by rw [gt_row (ro 3 (by omega))]; exact k32, fun i => by rw [gt_row (ro 7 (by omega))]; exact k7 i, z3, z4, z5, z6, z7, z8, z9⟩
  · rw [R, w1, Option.bind_some, if_pos ⟨by show N8.2.1 + 1 + 49 ≤ _; omega, by show N8.2.2.1 + 9 + 1992 ≤ _; omega⟩]
    rw [a1] at c1
    rw [c1, Option.bind_some, s9, Option.bind_some, w2, Option.bind_some, if_pos ⟨by show N10.2.1 + 1 + 49 ≤ _; omega, by show N10.2.2.1 + 9 + 1992 ≤ _; omega⟩, e1, Option.bind_some]
    rw [d1, s11, Option.bind_some, s12, Option.bind_some, q3, Option.bind_some, if_pos ⟨by omega, by omega⟩, if_pos (T_b h13), show tX5_begin (x + 8) 1 1 N13 = some ((), cv N13 (x + 8) C2) from z1, Option.bind_some, if_pos ⟨by show N13.2.1 ≤ _; omega, by show N13.2.2.1 ≤ _; omega⟩]
  · show N13.2 = _
    exact Prod.ext t21 (Prod.ext t22 t3)
  · rw [cv_out (by omega), hN13, gv_out (by omega)]; exact o11 q hq
end
section
variable {KK : Nat → vOb} {M M1 : vMe} {x r y a d u hz n k b clk : Nat} {C E : Nat → Nat → Value}
/-- between two plays -/
def OW (KK : Nat → vOb) (M : vMe) (x r : Nat) : Prop := ∃ G F a d C u hz n k, simD M x r G F a d C u hz n k ∧ gt G 1 1 = 0 ∧ (∀ q, q < x → M.1 q = KK q) ∧ M.2.2.2 = x
def f0N (r : Nat) : Nat → Nat → Value := fun i => if i = 0 then (fun k => if k = 1 then .ref (r + 1) else if k = 2 then .ref (r + 2) else if k = 3 then .ref (r + 3) else if k = 14 then .ref (r + 4) else if k = 15 then .ref (r + 5) else if k = 17 then .ref (r + 6) else if k = 19 then .ref (r + 7) else if k = 20 then .ref (r + 8) else if k = 21 then .ref (r + 9) else if k = 12 then .int (-1) else .int 0) else if i = 1 then (fun l => if l = 1 then .int 1 else if l = 2 then .int 1 else .int 0) else fun _ => .int 0
theorem f0N_ok (h : M.2.2.2 ≤ r) : rOk M r (f0N r) := ⟨h, fun i h1 h2 => by
  rcases (show i = 1 ∨ i = 2 ∨ i = 3 ∨ i = 4 ∨ i = 5 ∨ i = 6 ∨ i = 7 ∨ i = 8 ∨ i = 9 by omega) with rfl | rfl | rfl | rfl | rfl | rfl | rfl | rfl | rfl <;> rfl⟩
/-- the law's start: the object -/
theorem o_init {Gs : Nat → Nat} {V : Nat → Value} (hb : M.2.2.2 = M.2.1) : ∃ M1, tX9_init Gs M.2.1 (nw M 11 0 6 V) = some ((), M1) ∧ OW M.1 M1 M.2.1 (M.2.1 + 8) := by
  obtain ⟨G, C, D, M1, a1, a2, a3, a4, a5, a6, a7, a8, a9, g3, g4, k4, k6, k11, k2, k05, k31, k32, k7, c3, c4, c5, c6, c7, c8, cc⟩ := c_new (Gs := Gs) (V := V) (Nat.le_of_eq hb)
  have n1 : M1.2.1 = M.2.1 + 108 := by rw [a2]
  have n3 : M1.2.2.2 = M.2.1 := by rw [a2]; exact hb
  obtain ⟨x, hx⟩ : ∃ x, x = M.2.1 := ⟨_, rfl⟩
  rw [← hx] at n1 n3 a1 a3 a4 a5 a6 a7 a8 a9 g3 g4 ⊢
  refine ⟨M1, a1, ?_⟩
  have hP := (simP_new (C := C) (F := f0N (x + 8)) (u := 1) (hz := 1) ⟨by omega, by omega⟩ ⟨by omega, by omega⟩ c3 c4 c5 c6 c7 c8 cc rfl rfl (fun l _ q1 q2 => by
    show vI (if l = 1 then .int 1 else if l = 2 then .int 1 else .int 0) = 0
    rw [if_neg q1, if_neg q2]; rfl)).1
  have bk : ∀ i b, i < 14 → bkG G i = some b → (i = 0 ∧ b = x + 8) ∨ (i = 1 ∧ b = x + 58) := fun i b hi hbk => by
    unfold bkG at hbk
    by_cases i0 : i = 0
    · rw [if_pos i0, g3] at hbk; cases hbk; exact .inl ⟨i0, rfl⟩
    · rw [if_neg i0] at hbk
      by_cases i1 : i = 1
      · rw [if_pos i1, g4] at hbk; cases hbk; exact .inr ⟨i1, rfl⟩
      · rw [if_neg i1] at hbk
        by_cases i2 : i < 12
        · rw [if_pos i2, k4] at hbk; cases hbk
        · rw [if_neg i2, k6] at hbk; cases hbk
  refine ⟨G, f0N (x + 8), x + 8, x + 58, C, 1, 1, 0, 0, ⟨⟨a4, a5, trivial, f0N_ok (by omega), by omega, by omega⟩, ⟨g3, g4, fun i _ => .inl (k4 i), fun i _ => .inl (k6 i)⟩, fun i b hi hbk => ?_, fun i j b c hi hj hij h1 h2 => ?_, ⟨a6, a7, hP, fun s hs => absurd hs (Nat.not_lt_zero _)⟩, ⟨0, by omega, k11, rfl⟩, fun i _ => by rw [k2 i]; rfl, by rw [k05]; rfl, ⟨0, 0, by omega, by omega, k31, k32, rfl, fun i hi => absurd hi (Nat.not_lt_zero _)⟩, fun j _ => .inl ⟨k7 j, rfl⟩⟩, k11, a3, n3⟩
  · rcases bk i b hi hbk with ⟨-, e⟩ | ⟨-, e⟩
    · subst e; exact ⟨⟨by omega, by omega, by omega⟩, C, a6, a7⟩
    · subst e; exact ⟨⟨by omega, by omega, by omega⟩, D, a8, a9⟩
  · rcases bk i b hi h1 with ⟨p1, p2⟩ | ⟨p1, p2⟩ <;> rcases bk j c hj h2 with ⟨q1, q2⟩ | ⟨q1, q2⟩ <;> first | (exfalso; omega) | (unfold apart; omega)
theorem bz_wf (h : hB M a C) (w : wf M) : bz C := fun c hc j hj => by
  have e := h (44 + c) (by omega)
  have g := w (a + (44 + c)) (by
    rw [e]
    show (cT (44 + c)).1 = 3
    rcases (show c = 0 ∨ c = 1 ∨ c = 2 ∨ c = 3 ∨ c = 4 ∨ c = 5 by omega) with rfl | rfl | rfl | rfl | rfl | rfl <;> rfl) j hj
  rw [e] at g
  have g2 : C (44 + c) j = .int (vI (C (44 + c) j)) := vI_of g (.inr (.inl rfl))
  unfold gt
  rw [← g2]; exact g
/-- the draws of a play are made -/
theorem PW_of {v : Int32} (o : OW KK M x r) : ∃ M2, sA (nw M 101 1 1 (fun _ => .int 0)) M.2.1 101 0 (.int v) = some M2 ∧ M2.2 = (M.2.1 + 1, M.2.2.1 + 1, M.2.2.2) ∧ (wf M2 → PW KK M2 x r M.2.1) := by
  obtain ⟨G, F, a, d, C, u, hz, n, k, w1, w2, w3, w4⟩ := o
  have hx : x + 8 ≤ r ∧ r + 0 ≤ M.2.1 := w1.1.2.2.2.2
  obtain ⟨B, hB⟩ : ∃ B : Nat → Value, B = updV (fun _ => .int 0) 0 (.int v) := ⟨_, rfl⟩
  have e0 : (nw M 101 1 1 (fun _ => .int 0)).1 M.2.1 = (101, 1, fun _ => .int 0) := by simp [nw]
  refine ⟨pt (nw M 101 1 1 (fun _ => .int 0)) M.2.1 (101, 1, B), ?_, rfl, fun hw => ?_⟩
  · have := sAg (i := 0) (v := .int v) e0 (by show M.2.2.2 ≤ M.2.1; omega) (by omega) (by omega)
    rw [hB]; exact this
  · have lt : ∀ q, q < M.2.1 → (pt (nw M 101 1 1 (fun _ => .int 0)) M.2.1 (101, 1, B)).1 q = M.1 q := fun q hq => by
      rw [pg_ne (by omega), ng_ne (by omega)]
    have s2 : simD (pt (nw M 101 1 1 (fun _ => .int 0)) M.2.1 (101, 1, B)) x r G F a d C u hz n k := simD_law w1 (fun q hq _ => lt q hq) (by show M.2.1 ≤ M.2.1 + 1; omega) rfl
    refine ⟨G, F, a, d, C, u, hz, n, k, s2, bz_wf (D_b s2) hw, w2, ⟨by rw [pg_at], by rw [pg_at]; exact Nat.one_pos, by show M.2.2.2 ≤ M.2.1; omega, by show M.2.1 < M.2.1 + 1; omega, fun g => by have := own_lt w1 g; omega, by omega⟩, fun q hq => (lt q (by omega)).trans (w3 q hq), by show M.2.2.2 ≤ M.2.1 + 1; omega⟩
theorem OW_of (w : WW KK M x r b y u hz n clk E) (h : M.2.2.2 = x) : OW KK M x r := by
  obtain ⟨G, F, a, d, C, k, w1, -, -, -, -, ⟨-, -, -, -, -, -, -, s8, -, -, s11⟩, -, -⟩ := w
  exact ⟨G, F, a, d, C, _, _, _, k, w1, s8, fun q hq => (s11 q hq).2.2, h⟩
end
