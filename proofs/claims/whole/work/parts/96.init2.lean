section
variable {M : vMe} {C : Nat → Nat → Value}
abbrev rT (i : Nat) : Nat × Nat := (rTag i, rLen i)
theorem ov_sAv {T : Nat → Nat × Nat} {n sl i j len tg : Nat} {v : Value} {y : Int32} (hy : Int32.ofNat j = y) (hb : M.2.2.2 ≤ M.2.1) (hi : i < n) (ht : T i = (tg, len)) (hj : j < len) (hl : len < 2147483648) : sA (ov T M n sl C) (M.2.1 + i) tg y v = some (ov T M n sl (pu C i j v)) := by
  subst hy; exact ov_sA hb hi ht hj hl
/-- a new TwinSetsModel -/
theorem r_new {V : Nat → Value} (hb : M.2.2.2 ≤ M.2.1) (h4 : vI (V 4) = 0) (h18 : vI (V 18) = 0) : ∃ F M1, tX10_init M.2.1 (nw M 12 0 22 V) = some ((), M1) ∧ M1.2 = (M.2.1 + 10, M.2.2.1 + 27968, M.2.2.2) ∧ (∀ q, q < M.2.1 → M1.1 q = M.1 q) ∧ hR M1 M.2.1 F ∧ rOk M1 M.2.1 F ∧ gt F 0 4 = 0 ∧ gt F 0 12 = -1 ∧ gt F 0 18 = 0 ∧ gt F 1 1 = Int32.ofNat 1 ∧ gt F 1 2 = Int32.ofNat 1 ∧ (∀ l, l ≠ 1 → l ≠ 2 → gt F 1 l = 0) ∧ (∀ i, gt F 3 i = 0) ∧ ∀ i, gt F 9 i = 0 := by
  have h0 : nw M 12 0 22 V = ov rT M 1 22 (puA (fun _ _ => .null) 0 V) := by
    have := ov_nw (T := rT) (M := M) (C := fun _ _ => .null) (n := 0) (sl := 0) (s1 := 22) (f := V) (tg := 12) (len := 0) rfl
    rw [ov_0] at this; exact this
  refine ⟨(pu (pu (pu (puA (pu (puA (pu (puA (pu (puA (pu (puA (pu (puA (pu (pu (puA (pu (puA (pu (puA (puA (fun _ _ => .null) 0 V) 1 vO) 0 1 (.ref (M.2.1 + 1))) 2 vLg) 0 2 (.ref (M.2.1 + 2))) 3 vO) 0 3 (.ref (M.2.1 + 3))) 0 12 (.int (-1))) 4 vO) 0 14 (.ref (M.2.1 + 4))) 5 vLg) 0 15 (.ref (M.2.1 + 5))) 6 vO) 0 17 (.ref (M.2.1 + 6))) 7 vO) 0 19 (.ref (M.2.1 + 7))) 8 vO) 0 20 (.ref (M.2.1 + 8))) 9 vO) 0 21 (.ref (M.2.1 + 9))) 1 1 (.int 1)) 1 2 (.int 1)), ov rT M 10 27968 (pu (pu (pu (puA (pu (puA (pu (puA (pu (puA (pu (puA (pu (puA (pu (pu (puA (pu (puA (pu (puA (puA (fun _ _ => .null) 0 V) 1 vO) 0 1 (.ref (M.2.1 + 1))) 2 vLg) 0 2 (.ref (M.2.1 + 2))) 3 vO) 0 3 (.ref (M.2.1 + 3))) 0 12 (.int (-1))) 4 vO) 0 14 (.ref (M.2.1 + 4))) 5 vLg) 0 15 (.ref (M.2.1 + 5))) 6 vO) 0 17 (.ref (M.2.1 + 6))) 7 vO) 0 19 (.ref (M.2.1 + 7))) 8 vO) 0 20 (.ref (M.2.1 + 8))) 9 vO) 0 21 (.ref (M.2.1 + 9))) 1 1 (.int 1)) 1 2 (.int 1)), ?_, rfl, fun q hq => ov_out hq, fun i hi => ov_at hi, ⟨hb, fun i h1 h2 => ?_⟩, ?_, ?_, ?_, ?_, ?_, fun l l1 l2 => ?_, fun i => ?_, fun i => ?_⟩
  · rw [h0, tX10_init, ov_2, ov_22, nwO_v (T := rT) (n := 1) (n' := 2) (sl' := 1974) (tg := 101) (len := 1952) rfl rfl rfl (by omega) (by omega) (by omega), Option.bind_some, ov_sV0 (T := rT) (t := 12) hb (by omega) rfl, Option.bind_some, nwO_v (T := rT) (n := 2) (n' := 3) (sl' := 1979) (tg := 104) (len := 5) rfl rfl rfl (by omega) (by omega) (by omega), Option.bind_some, ov_2, ov_sV0 (T := rT) (t := 12) hb (by omega) rfl, Option.bind_some, nwO_v (T := rT) (n := 3) (n' := 4) (sl' := 2579) (tg := 102) (len := 600) rfl rfl rfl (by omega) (by omega) (by omega), Option.bind_some, ov_2, ov_sV0 (T := rT) (t := 12) hb (by omega) rfl, Option.bind_some, ov_sV0 (T := rT) (t := 12) hb (by omega) rfl, Option.bind_some, nwO_v (T := rT) (n := 4) (n' := 5) (sl' := 4531) (tg := 101) (len := 1952) rfl rfl rfl (by omega) (by omega) (by omega), Option.bind_some, ov_2, ov_sV0 (T := rT) (t := 12) hb (by omega) rfl, Option.bind_some, nwO_v (T := rT) (n := 5) (n' := 6) (sl' := 4536) (tg := 104) (len := 5) rfl rfl rfl (by omega) (by omega) (by omega), Option.bind_some, ov_2, ov_sV0 (T := rT) (t := 12) hb (by omega) rfl, Option.bind_some, nwO_v (T := rT) (n := 6) (n' := 7) (sl' := 4542) (tg := 101) (len := 6) rfl rfl rfl (by omega) (by omega) (by omega), Option.bind_some, ov_2, ov_sV0 (T := rT) (t := 12) hb (by omega) rfl, Option.bind_some, nwO_v (T := rT) (n := 7) (n' := 8) (sl' := 24062) (tg := 101) (len := 19520) rfl rfl rfl (by omega) (by omega) (by omega), Option.bind_some, ov_2, ov_sV0 (T := rT) (t := 12) hb (by omega) rfl, Option.bind_some, nwO_v (T := rT) (n := 8) (n' := 9) (sl' := 27966) (tg := 101) (len := 3904) rfl rfl rfl (by omega) (by omega) (by omega), Option.bind_some, ov_2, ov_sV0 (T := rT) (t := 12) hb (by omega) rfl, Option.bind_some, nwO_v (T := rT) (n := 9) (n' := 10) (sl' := 27968) (tg := 103) (len := 2) rfl rfl rfl (by omega) (by omega) (by omega), Option.bind_some, ov_2, ov_sV0 (T := rT) (t := 12) hb (by omega) rfl, Option.bind_some, ov_gA0 (T := rT) (t := 12) (by omega) rfl (by rw [pu_ne (by omega), puA_o (by omega), pu_ne (by omega), puA_o (by omega), pu_ne (by omega), puA_o (by omega), pu_ne (by omega), puA_o (by omega), pu_ne (by omega), puA_o (by omega), pu_ne (by omega), puA_o (by omega), pu_ne (by omega), pu_ne (by omega), puA_o (by omega), pu_ne (by omega), puA_o (by omega), pu_eq]), Option.bind_some, ov_sAv (T := rT) (tg := 101) (y := 1) (i := 1) (j := 1) (len := 1952) rfl hb (by omega) rfl (by omega) (by omega), Option.bind_some, ov_gA0 (T := rT) (t := 12) (by omega) rfl (by rw [pu_ne (by omega), pu_ne (by omega), puA_o (by omega), pu_ne (by omega), puA_o (by omega), pu_ne (by omega), puA_o (by omega), pu_ne (by omega), puA_o (by omega), pu_ne (by omega), puA_o (by omega), pu_ne (by omega), puA_o (by omega), pu_ne (by omega), pu_ne (by omega), puA_o (by omega), pu_ne (by omega), puA_o (by omega), pu_eq]), Option.bind_some, ov_sAv (T := rT) (tg := 101) (y := 2) (i := 1) (j := 2) (len := 1952) rfl hb (by omega) rfl (by omega) (by omega), Option.bind_some, if_pos ⟨by show M.2.1 + 10 ≤ _; omega, by show M.2.2.1 + 27968 ≤ _; omega⟩]
  · rcases (show i = 1 ∨ i = 2 ∨ i = 3 ∨ i = 4 ∨ i = 5 ∨ i = 6 ∨ i = 7 ∨ i = 8 ∨ i = 9 by omega) with rfl | rfl | rfl | rfl | rfl | rfl | rfl | rfl | rfl
    · show (pu (pu (pu (puA (pu (puA (pu (puA (pu (puA (pu (puA (pu (puA (pu (pu (puA (pu (puA (pu (puA (puA (fun _ _ => .null) 0 V) 1 vO) 0 1 (.ref (M.2.1 + 1))) 2 vLg) 0 2 (.ref (M.2.1 + 2))) 3 vO) 0 3 (.ref (M.2.1 + 3))) 0 12 (.int (-1))) 4 vO) 0 14 (.ref (M.2.1 + 4))) 5 vLg) 0 15 (.ref (M.2.1 + 5))) 6 vO) 0 17 (.ref (M.2.1 + 6))) 7 vO) 0 19 (.ref (M.2.1 + 7))) 8 vO) 0 20 (.ref (M.2.1 + 8))) 9 vO) 0 21 (.ref (M.2.1 + 9))) 1 1 (.int 1)) 1 2 (.int 1)) 0 1 = _
      rw [pu_ne (by omega), pu_ne (by omega), pu_ne (by omega), puA_o (by omega), pu_ne (by omega), puA_o (by omega), pu_ne (by omega), puA_o (by omega), pu_ne (by omega), puA_o (by omega), pu_ne (by omega), puA_o (by omega), pu_ne (by omega), puA_o (by omega), pu_ne (by omega), pu_ne (by omega), puA_o (by omega), pu_ne (by omega), puA_o (by omega), pu_eq]
    · show (pu (pu (pu (puA (pu (puA (pu (puA (pu (puA (pu (puA (pu (puA (pu (pu (puA (pu (puA (pu (puA (puA (fun _ _ => .null) 0 V) 1 vO) 0 1 (.ref (M.2.1 + 1))) 2 vLg) 0 2 (.ref (M.2.1 + 2))) 3 vO) 0 3 (.ref (M.2.1 + 3))) 0 12 (.int (-1))) 4 vO) 0 14 (.ref (M.2.1 + 4))) 5 vLg) 0 15 (.ref (M.2.1 + 5))) 6 vO) 0 17 (.ref (M.2.1 + 6))) 7 vO) 0 19 (.ref (M.2.1 + 7))) 8 vO) 0 20 (.ref (M.2.1 + 8))) 9 vO) 0 21 (.ref (M.2.1 + 9))) 1 1 (.int 1)) 1 2 (.int 1)) 0 2 = _
      rw [pu_ne (by omega), pu_ne (by omega), pu_ne (by omega), puA_o (by omega), pu_ne (by omega), puA_o (by omega), pu_ne (by omega), puA_o (by omega), pu_ne (by omega), puA_o (by omega), pu_ne (by omega), puA_o (by omega), pu_ne (by omega), puA_o (by omega), pu_ne (by omega), pu_ne (by omega), puA_o (by omega), pu_eq]
    · show (pu (pu (pu (puA (pu (puA (pu (puA (pu (puA (pu (puA (pu (puA (pu (pu (puA (pu (puA (pu (puA (puA (fun _ _ => .null) 0 V) 1 vO) 0 1 (.ref (M.2.1 + 1))) 2 vLg) 0 2 (.ref (M.2.1 + 2))) 3 vO) 0 3 (.ref (M.2.1 + 3))) 0 12 (.int (-1))) 4 vO) 0 14 (.ref (M.2.1 + 4))) 5 vLg) 0 15 (.ref (M.2.1 + 5))) 6 vO) 0 17 (.ref (M.2.1 + 6))) 7 vO) 0 19 (.ref (M.2.1 + 7))) 8 vO) 0 20 (.ref (M.2.1 + 8))) 9 vO) 0 21 (.ref (M.2.1 + 9))) 1 1 (.int 1)) 1 2 (.int 1)) 0 3 = _
      rw [pu_ne (by omega), pu_ne (by omega), pu_ne (by omega), puA_o (by omega), pu_ne (by omega), puA_o (by omega), pu_ne (by omega), puA_o (by omega), pu_ne (by omega), puA_o (by omega), pu_ne (by omega), puA_o (by omega), pu_ne (by omega), puA_o (by omega), pu_ne (by omega), pu_eq]
    · show (pu (pu (pu (puA (pu (puA (pu (puA (pu (puA (pu (puA (pu (puA (pu (pu (puA (pu (puA (pu (puA (puA (fun _ _ => .null) 0 V) 1 vO) 0 1 (.ref (M.2.1 + 1))) 2 vLg) 0 2 (.ref (M.2.1 + 2))) 3 vO) 0 3 (.ref (M.2.1 + 3))) 0 12 (.int (-1))) 4 vO) 0 14 (.ref (M.2.1 + 4))) 5 vLg) 0 15 (.ref (M.2.1 + 5))) 6 vO) 0 17 (.ref (M.2.1 + 6))) 7 vO) 0 19 (.ref (M.2.1 + 7))) 8 vO) 0 20 (.ref (M.2.1 + 8))) 9 vO) 0 21 (.ref (M.2.1 + 9))) 1 1 (.int 1)) 1 2 (.int 1)) 0 14 = _
      rw [pu_ne (by omega), pu_ne (by omega), pu_ne (by omega), puA_o (by omega), pu_ne (by omega), puA_o (by omega), pu_ne (by omega), puA_o (by omega), pu_ne (by omega), puA_o (by omega), pu_ne (by omega), puA_o (by omega), pu_eq]
    · show (pu (pu (pu (puA (pu (puA (pu (puA (pu (puA (pu (puA (pu (puA (pu (pu (puA (pu (puA (pu (puA (puA (fun _ _ => .null) 0 V) 1 vO) 0 1 (.ref (M.2.1 + 1))) 2 vLg) 0 2 (.ref (M.2.1 + 2))) 3 vO) 0 3 (.ref (M.2.1 + 3))) 0 12 (.int (-1))) 4 vO) 0 14 (.ref (M.2.1 + 4))) 5 vLg) 0 15 (.ref (M.2.1 + 5))) 6 vO) 0 17 (.ref (M.2.1 + 6))) 7 vO) 0 19 (.ref (M.2.1 + 7))) 8 vO) 0 20 (.ref (M.2.1 + 8))) 9 vO) 0 21 (.ref (M.2.1 + 9))) 1 1 (.int 1)) 1 2 (.int 1)) 0 15 = _
      rw [pu_ne (by omega), pu_ne (by omega), pu_ne (by omega), puA_o (by omega), pu_ne (by omega), puA_o (by omega), pu_ne (by omega), puA_o (by omega), pu_ne (by omega), puA_o (by omega), pu_eq]
    · show (pu (pu (pu (puA (pu (puA (pu (puA (pu (puA (pu (puA (pu (puA (pu (pu (puA (pu (puA (pu (puA (puA (fun _ _ => .null) 0 V) 1 vO) 0 1 (.ref (M.2.1 + 1))) 2 vLg) 0 2 (.ref (M.2.1 + 2))) 3 vO) 0 3 (.ref (M.2.1 + 3))) 0 12 (.int (-1))) 4 vO) 0 14 (.ref (M.2.1 + 4))) 5 vLg) 0 15 (.ref (M.2.1 + 5))) 6 vO) 0 17 (.ref (M.2.1 + 6))) 7 vO) 0 19 (.ref (M.2.1 + 7))) 8 vO) 0 20 (.ref (M.2.1 + 8))) 9 vO) 0 21 (.ref (M.2.1 + 9))) 1 1 (.int 1)) 1 2 (.int 1)) 0 17 = _
      rw [pu_ne (by omega), pu_ne (by omega), pu_ne (by omega), puA_o (by omega), pu_ne (by omega), puA_o (by omega), pu_ne (by omega), puA_o (by omega), pu_eq]
    · show (pu (pu (pu (puA (pu (puA (pu (puA (pu (puA (pu (puA (pu (puA (pu (pu (puA (pu (puA (pu (puA (puA (fun _ _ => .null) 0 V) 1 vO) 0 1 (.ref (M.2.1 + 1))) 2 vLg) 0 2 (.ref (M.2.1 + 2))) 3 vO) 0 3 (.ref (M.2.1 + 3))) 0 12 (.int (-1))) 4 vO) 0 14 (.ref (M.2.1 + 4))) 5 vLg) 0 15 (.ref (M.2.1 + 5))) 6 vO) 0 17 (.ref (M.2.1 + 6))) 7 vO) 0 19 (.ref (M.2.1 + 7))) 8 vO) 0 20 (.ref (M.2.1 + 8))) 9 vO) 0 21 (.ref (M.2.1 + 9))) 1 1 (.int 1)) 1 2 (.int 1)) 0 19 = _
      rw [pu_ne (by omega), pu_ne (by omega), pu_ne (by omega), puA_o (by omega), pu_ne (by omega), puA_o (by omega), pu_eq]
    · show (pu (pu (pu (puA (pu (puA (pu (puA (pu (puA (pu (puA (pu (puA (pu (pu (puA (pu (puA (pu (puA (puA (fun _ _ => .null) 0 V) 1 vO) 0 1 (.ref (M.2.1 + 1))) 2 vLg) 0 2 (.ref (M.2.1 + 2))) 3 vO) 0 3 (.ref (M.2.1 + 3))) 0 12 (.int (-1))) 4 vO) 0 14 (.ref (M.2.1 + 4))) 5 vLg) 0 15 (.ref (M.2.1 + 5))) 6 vO) 0 17 (.ref (M.2.1 + 6))) 7 vO) 0 19 (.ref (M.2.1 + 7))) 8 vO) 0 20 (.ref (M.2.1 + 8))) 9 vO) 0 21 (.ref (M.2.1 + 9))) 1 1 (.int 1)) 1 2 (.int 1)) 0 20 = _
      rw [pu_ne (by omega), pu_ne (by omega), pu_ne (by omega), puA_o (by omega), pu_eq]
    · show (pu (pu (pu (puA (pu (puA (pu (puA (pu (puA (pu (puA (pu (puA (pu (pu (puA (pu (puA (pu (puA (puA (fun _ _ => .null) 0 V) 1 vO) 0 1 (.ref (M.2.1 + 1))) 2 vLg) 0 2 (.ref (M.2.1 + 2))) 3 vO) 0 3 (.ref (M.2.1 + 3))) 0 12 (.int (-1))) 4 vO) 0 14 (.ref (M.2.1 + 4))) 5 vLg) 0 15 (.ref (M.2.1 + 5))) 6 vO) 0 17 (.ref (M.2.1 + 6))) 7 vO) 0 19 (.ref (M.2.1 + 7))) 8 vO) 0 20 (.ref (M.2.1 + 8))) 9 vO) 0 21 (.ref (M.2.1 + 9))) 1 1 (.int 1)) 1 2 (.int 1)) 0 21 = _
      rw [pu_ne (by omega), pu_ne (by omega), pu_eq]
  · unfold gt; rw [pu_ne (by omega), pu_ne (by omega), pu_ne (by omega), puA_o (by omega), pu_ne (by omega), puA_o (by omega), pu_ne (by omega), puA_o (by omega), pu_ne (by omega), puA_o (by omega), pu_ne (by omega), puA_o (by omega), pu_ne (by omega), puA_o (by omega), pu_ne (by omega), pu_ne (by omega), puA_o (by omega), pu_ne (by omega), puA_o (by omega), pu_ne (by omega), puA_o (by omega)]; simp [puA, h4]
  · unfold gt; rw [pu_ne (by omega), pu_ne (by omega), pu_ne (by omega), puA_o (by omega), pu_ne (by omega), puA_o (by omega), pu_ne (by omega), puA_o (by omega), pu_ne (by omega), puA_o (by omega), pu_ne (by omega), puA_o (by omega), pu_ne (by omega), puA_o (by omega), pu_eq]; rfl
  · unfold gt; rw [pu_ne (by omega), pu_ne (by omega), pu_ne (by omega), puA_o (by omega), pu_ne (by omega), puA_o (by omega), pu_ne (by omega), puA_o (by omega), pu_ne (by omega), puA_o (by omega), pu_ne (by omega), puA_o (by omega), pu_ne (by omega), puA_o (by omega), pu_ne (by omega), pu_ne (by omega), puA_o (by omega), pu_ne (by omega), puA_o (by omega), pu_ne (by omega), puA_o (by omega)]; simp [puA, h18]
  · unfold gt; rw [pu_ne (by omega), pu_eq]; rfl
  · unfold gt; rw [pu_eq]; rfl
  · unfold gt; rw [pu_ne (by omega), pu_ne (by omega), pu_ne (by omega), puA_o (by omega), pu_ne (by omega), puA_o (by omega), pu_ne (by omega), puA_o (by omega), pu_ne (by omega), puA_o (by omega), pu_ne (by omega), puA_o (by omega), pu_ne (by omega), puA_o (by omega), pu_ne (by omega), pu_ne (by omega), puA_o (by omega), pu_ne (by omega), puA_o (by omega), pu_ne (by omega)]; simp [puA, vI]
  · unfold gt; rw [pu_ne (by omega), pu_ne (by omega), pu_ne (by omega), puA_o (by omega), pu_ne (by omega), puA_o (by omega), pu_ne (by omega), puA_o (by omega), pu_ne (by omega), puA_o (by omega), pu_ne (by omega), puA_o (by omega), pu_ne (by omega), puA_o (by omega), pu_ne (by omega), pu_ne (by omega)]; simp [puA, vI]
  · unfold gt; rw [pu_ne (by omega), pu_ne (by omega), pu_ne (by omega)]; simp [puA, vI]
end
section
variable {M : vMe}
/-- the law's start: both objects and the two rows for answers -/
theorem l_init {Gs : Nat → Nat} {V W f g : Nat → Value} (hb : M.2.2.2 = M.2.1) (h4 : vI (W 4) = 0) (h18 : vI (W 18) = 0) : ∃ M1 M2, tX9_init Gs M.2.1 (nw M 11 0 6 V) = some ((), M1) ∧ M1.2.1 = M.2.1 + 108 ∧ tX10_init (M.2.1 + 108) (nw M1 12 0 22 W) = some ((), M2) ∧ M2.2.1 = M.2.1 + 118 ∧ lI M.2.1 (M.2.1 + 108) M.1 (nw (nw M2 104 1 1 f) 105 1 1 g) := by
  obtain ⟨G, C, D, M1, a1, a2, a3, a4, a5, a6, a7, a8, a9, g3, g4, k4, k6, k11, k2, k05, k31, k32, k7, c3, c4, c5, c6, c7, c8, cc⟩ := c_new (Gs := Gs) (V := V) (Nat.le_of_eq hb)
  have n1 : M1.2.1 = M.2.1 + 108 := by rw [a2]
  have n3 : M1.2.2.2 = M.2.1 := by rw [a2]; exact hb
  obtain ⟨F, M2, b1, b2, b3, b4, b5, f4, f12, f18, f11, f2, f0, f3, f9⟩ := r_new (M := M1) (V := W) (by omega) h4 h18
  rw [n1] at b1 b3 b4 b5
  have m1 : M2.2.1 = M.2.1 + 118 := by rw [b2, n1]
  have m3 : M2.2.2.2 = M.2.1 := by rw [b2]; exact n3
  obtain ⟨x, hx⟩ : ∃ x, x = M.2.1 := ⟨_, rfl⟩
  rw [← hx] at n1 n3 m1 m3
  refine ⟨M1, M2, a1, by rw [n1, hx], b1, by rw [m1, hx], ?_⟩
  rw [← hx] at a3 a4 a5 a6 a7 a8 a9 g3 g4 b3 b4 b5 ⊢
  obtain ⟨N, hN⟩ : ∃ N, N = nw (nw M2 104 1 1 f) 105 1 1 g := ⟨_, rfl⟩
  rw [← hN]
  have e1 : N.2.1 = x + 120 := by rw [hN]; show M2.2.1 + 1 + 1 = _; omega
  have e3 : N.2.2.2 = x := by rw [hN]; exact m3
  have lo : ∀ q, q < x + 118 → N.1 q = M2.1 q := fun q hq => by
    rw [hN]
    show (if q = M2.2.1 + 1 then _ else if q = M2.2.1 then _ else M2.1 q) = _
    rw [if_neg (by omega), if_neg (by omega)]
  have o10 : N.1 (x + 118) = (104, 1, f) := by
    rw [hN]
    show (if x + 118 = M2.2.1 + 1 then _ else if x + 118 = M2.2.1 then (104, 1, f) else M2.1 (x + 118)) = _
    rw [if_neg (by omega), if_pos (by omega)]
  have o11 : N.1 (x + 119) = (105, 1, g) := by
    rw [hN]
    show (if x + 119 = M2.2.1 + 1 then (105, 1, g) else _) = _
    rw [if_pos (by omega)]
  have l1 : ∀ q, q < x + 108 → N.1 q = M1.1 q := fun q hq => by rw [lo q (by omega)]; exact b3 q hq
  have hP := (simP_new (C := C) (F := F) (u := 1) (hz := 1) ⟨by omega, by omega⟩ ⟨by omega, by omega⟩ c3 c4 c5 c6 c7 c8 cc f11 f2 (fun l _ q1 q2 => f0 l q1 q2)).1
  have hBa : hB N (x + 8) C := fun i hi => by rw [l1 _ (by omega)]; exact a6 i hi
  have hBd : hB N (x + 58) D := fun i hi => by rw [l1 _ (by omega)]; exact a8 i hi
  have ca : cOk N (x + 8) C := ⟨by rw [e3]; omega, a7.2⟩
  have cd' : cOk N (x + 58) D := ⟨by rw [e3]; omega, a9.2⟩
  have bk : ∀ i b, i < 14 → bkG G i = some b → (i = 0 ∧ b = x + 8) ∨ (i = 1 ∧ b = x + 58) := fun i b hi hbk => by
    unfold bkG at hbk
    by_cases i0 : i = 0
    · rw [if_pos i0, g3] at hbk; cases hbk; exact .inl ⟨i0, rfl⟩
    · rw [if_neg i0] at hbk
      by_cases i1 : i = 1
      · rw [if_pos i1, g4] at hbk; cases hbk; exact .inr ⟨i1, rfl⟩
      · rw [if_neg i1] at hbk
        by_cases i2 : i < 12
        · rw [if_pos i2, k4] at hbk; cases hbk
        · rw [if_neg i2, k6] at hbk; cases hbk
  refine ⟨⟨G, F, x + 8, x + 58, C, 1, 1, 0, 0, ⟨fun i hi => by rw [l1 _ (by omega)]; exact a4 i hi, ⟨by rw [e3]; exact Nat.le_refl _, a5.2⟩, fun i hi => by rw [lo _ (by omega)]; exact b4 i hi, ⟨by rw [e3]; omega, b5.2⟩, by omega, by omega⟩, ⟨g3, g4, fun i _ => .inl (k4 i), fun i _ => .inl (k6 i)⟩, fun i b hi hbk => ?_, fun i j b c hi hj hij h1 h2 => ?_, ⟨hBa, ca, hP, fun s hs => absurd hs (Nat.not_lt_zero _)⟩, ⟨0, by omega, k11, f4⟩, fun i _ => by rw [k2 i, f3 i], by rw [k05, f12], ⟨0, 0, by omega, by omega, k31, k32, f18, fun i hi => absurd hi (Nat.not_lt_zero _)⟩, fun j _ => .inl ⟨k7 j, f9 j⟩⟩, e3, ⟨f, o10⟩, ⟨g, o11⟩, fun q hq => by rw [l1 q (by omega)]; exact a3 q hq⟩
  · rcases bk i b hi hbk with ⟨-, e⟩ | ⟨-, e⟩
    · subst e; exact ⟨⟨by omega, by omega, by omega⟩, C, hBa, ca⟩
    · subst e; exact ⟨⟨by omega, by omega, by omega⟩, D, hBd, cd'⟩
  · rcases bk i b hi h1 with ⟨p1, p2⟩ | ⟨p1, p2⟩ <;> rcases bk j c hj h2 with ⟨q1, q2⟩ | ⟨q1, q2⟩ <;> first | (exfalso; omega) | (unfold apart; omega)
end
