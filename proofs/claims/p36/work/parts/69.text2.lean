section
variable {M M' N W : vMe} {x y r a d u hz n k : Nat} {G F C D : Nat → Nat → Value} {P : Nat → Value} {T : Nat → Nat} {len : Nat} {Gs : Nat → Nat}
theorem nw_at {tg l s : Nat} {f : Nat → Value} {q : Nat} (h : q = W.2.1) : (nw W tg l s f).1 q = (tg, l, f) := by subst h; simp [nw]
theorem nw_ne {tg l s : Nat} {f : Nat → Value} {q : Nat} (h : q ≠ W.2.1) : (nw W tg l s f).1 q = W.1 q := by simp [nw, h]
theorem n_s0 (m : Nat) : Int32.ofNat m - 0 = Int32.ofNat m := n_sub (a := m) (b := 0) (Nat.zero_le _)
theorem t_str {S B : Nat → Value} {m : Nat} (hb : N.2.2.2 ≤ N.2.1) (h : tw N W S B m) (hm : m ≤ 8) (hm1 : 1 ≤ m) {l : List Nat} (hl : l.length = m) (hB : ∀ i, i < m → vI (B i) = Int32.ofNat (l.getD i 0) ∧ l.getD i 0 < 128) :
    ∃ Z, tJ4_toString_0e30d N.2.1 W = some (N.2.1 + 2, Z) ∧ tAt Z (N.2.1 + 2) (N.2.1 + 3) l ∧ (∀ q, q < N.2.1 → Z.1 q = N.1 q) ∧ Z.2 = (N.2.1 + 4, N.2.2.1 + 24 + m, N.2.2.2) := by
  obtain ⟨h1, h2, h3, h4, h5, h6, h7⟩ := h
  have w1 : W.2.1 = N.2.1 + 2 := by rw [h4]
  have w2 : W.2.2.1 = N.2.2.1 + 20 := by rw [h4]
  have w3 : W.2.2.2 = N.2.2.2 := by rw [h4]
  obtain ⟨V, hV⟩ : ∃ V : Nat → Value, V = vp_V [.null, .int 0, .int 0, .int 0] := ⟨_, rfl⟩
  obtain ⟨W1, hW1⟩ : ∃ W1, W1 = nw W 1 0 4 V := ⟨_, rfl⟩
  have a1 : W1.2.1 = N.2.1 + 3 := by rw [hW1]; show W.2.1 + 1 = _; omega
  have a2 : W1.2.2.1 = N.2.2.1 + 24 := by rw [hW1]; show W.2.2.1 + 4 = _; omega
  have a3 : W1.2.2.2 = N.2.2.2 := by rw [hW1]; exact w3
  have a4 : W1.1 N.2.1 = (2, 0, S) := by rw [hW1, nw_ne (by omega)]; exact h1
  have a5 : W1.1 (N.2.1 + 1) = (102, 16, B) := by rw [hW1, nw_ne (by omega)]; exact h2
  have a6 : W1.1 (N.2.1 + 2) = (1, 0, V) := by rw [hW1, nw_at (by omega)]
  have a7 : ∀ q, q < N.2.1 → W1.1 q = N.1 q := fun q hq => by rw [hW1, nw_ne (by omega)]; exact h3 q hq
  obtain ⟨W2, hW2⟩ : ∃ W2, W2 = pt W1 (N.2.1 + 2) (1, 0, updV V 1 (.int 0)) := ⟨_, rfl⟩
  have s1 : sV W1 (N.2.1 + 2) 1 1 (.int 0) = some W2 := by rw [hW2]; exact sV_g a6 (by omega)
  have b1 : W2.2.1 = N.2.1 + 3 := by rw [hW2]; exact a1
  have b2 : W2.2.2.1 = N.2.2.1 + 24 := by rw [hW2]; exact a2
  have b3 : W2.2.2.2 = N.2.2.2 := by rw [hW2]; exact a3
  have b5 : W2.1 (N.2.1 + 1) = (102, 16, B) := by rw [hW2, pt_ne (by omega)]; exact a5
  have b6 : W2.1 (N.2.1 + 2) = (1, 0, updV V 1 (.int 0)) := by rw [hW2, pt_at]
  have b7 : ∀ q, q < N.2.1 → W2.1 q = N.1 q := fun q hq => by rw [hW2, pt_ne (by omega)]; exact a7 q hq
  obtain ⟨W3, hW3⟩ : ∃ W3, W3 = nw W2 102 m m (fun _ => .int 0) := ⟨_, rfl⟩
  have c1 : W3.2.1 = N.2.1 + 4 := by rw [hW3]; show W2.2.1 + 1 = _; omega
  have c2 : W3.2.2.1 = N.2.2.1 + 24 + m := by rw [hW3]; show W2.2.2.1 + m = _; omega
  have c3 : W3.2.2.2 = N.2.2.2 := by rw [hW3]; exact b3
  have c5 : W3.1 (N.2.1 + 1) = (102, 16, B) := by rw [hW3, nw_ne (by omega)]; exact b5
  have c6 : W3.1 (N.2.1 + 2) = (1, 0, updV V 1 (.int 0)) := by rw [hW3, nw_ne (by omega)]; exact b6
  have c8 : W3.1 (N.2.1 + 3) = (102, m, fun _ => .int 0) := by rw [hW3, nw_at (by omega)]
  have c7 : ∀ q, q < N.2.1 → W3.1 q = N.1 q := fun q hq => by rw [hW3, nw_ne (by omega)]; exact b7 q hq
  obtain ⟨W4, hW4⟩ : ∃ W4, W4 = pt W3 (N.2.1 + 3) (102, m, va_cpy B (fun _ => .int 0) 0 0 m) := ⟨_, rfl⟩
  have cp : cpA W3 (N.2.1 + 1) (N.2.1 + 3) 102 0 0 (Int32.ofNat m) = some W4 := by
    have z0 : (0 : Int32).toNatClampNeg = 0 := by decide
    rw [hW4]
    unfold cpA
    simp only [c5, c8, z0, n_clamp (show m < 2147483648 by omega), n_neg (show m < 2147483648 by omega)]
    rw [if_pos ⟨trivial, trivial, by decide, by decide, not_false, by omega, by omega, by omega⟩]
  have d6 : W4.1 (N.2.1 + 2) = (1, 0, updV V 1 (.int 0)) := by rw [hW4, pt_ne (by omega)]; exact c6
  obtain ⟨Z, hZ⟩ : ∃ Z, Z = pt W4 (N.2.1 + 2) (1, 0, updV (updV V 1 (.int 0)) 0 (.ref (N.2.1 + 3))) := ⟨_, rfl⟩
  have s2 : sV W4 (N.2.1 + 2) 1 0 (.ref (N.2.1 + 3)) = some Z := by rw [hZ]; exact sV_g d6 (by rw [hW4]; show W3.2.2.2 ≤ _; omega)
  have z1 : Z.2.1 = N.2.1 + 4 := by rw [hZ, hW4]; exact c1
  have z2 : Z.2.2.1 = N.2.2.1 + 24 + m := by rw [hZ, hW4]; exact c2
  have z3 : Z.2.2.2 = N.2.2.2 := by rw [hZ, hW4]; exact c3
  have d1 : W4.2.1 = N.2.1 + 4 := by rw [hW4]; exact c1
  have d2 : W4.2.2.1 = N.2.2.1 + 24 + m := by rw [hW4]; exact c2
  have ecr : tJ7_copyOfRange_39247 (N.2.1 + 1) 0 (Int32.ofNat m) W2 = some (N.2.1 + 3, W4) := by
    have eb : tJ7_copyOfRangeByte_39247 (N.2.1 + 1) 0 (Int32.ofNat m) W2 = some (N.2.1 + 3, W4) := by
      have le0 : (0 : Int32) ≤ Int32.ofNat m := (n_le (a := 0) (by omega) (by omega)).mpr (by omega)
      have ck : tJ7_checkLength_df160 0 (Int32.ofNat m) W2 = some ((), W2) := by rw [tJ7_checkLength_df160, if_pos le0]
      have lt : (Int32.ofNat m - 0) < (Int32.ofNat 16 - 0) := by rw [n_s0, n_s0]; exact (n_lt (by omega) (by omega)).mpr (by omega)
      have nn : nwO W2 102 m m (fun _ => .int 0) W2.2.1 W2.2.2.1 1 250 = some W3 := by
        unfold nwO; rw [if_pos ⟨Nat.le_refl _, by omega, by omega⟩, hW3]
      rw [tJ7_copyOfRangeByte_39247, if_pos ⟨by omega, by omega⟩, ck, Option.bind_some]
      rw [if_pos ⟨by rw [n_s0]; exact n_neg (by omega), by rw [n_s0, n_clamp (by omega)]; omega⟩, n_s0, n_clamp (by omega)]
      show ((nwO W2 102 m m (fun _ => .int 0) W2.2.1 W2.2.2.1 1 250).bind _) = _
      rw [nn, Option.bind_some, aN_g c5, Option.bind_some, if_pos ⟨by omega, by omega⟩]
      rw [n_s0] at lt
      rw [if_pos lt]
      show ((cpA W3 (N.2.1 + 1) W2.2.1 102 0 0 (Int32.ofNat m)).bind _) = _
      rw [b1, cp, Option.bind_some, if_pos ⟨by omega, by omega⟩]
    rw [tJ7_copyOfRange_39247, if_pos rfl, aN_g b5, Option.bind_some, if_neg (fun g => by have := (n_eq (by omega) (by omega)).mp g; omega), tJ7_copyOfRange_39247_J10, if_pos ⟨by omega, by omega⟩, eb, Option.bind_some, if_pos ⟨by show W4.2.1 ≤ _; omega, by show W4.2.2.1 ≤ _; omega⟩]
  have tg : (W1.1 N.2.1).1 = 2 := by rw [a4]
  have edb : tJ0_init_db425 (N.2.1 + 2) N.2.1 W1 = some ((), Z) := by
    rw [tJ0_init_db425, if_pos ⟨by omega, by omega⟩, if_pos tg, tJ5_getValue_6d5f1, gA_g a4 h5, Option.bind_some, Option.bind_some, if_pos ⟨by omega, by omega⟩, if_pos tg, tJ4_length_8abf5, if_pos tg, tJ5_length_8abf5, gI_g a4, Option.bind_some, Option.bind_some, Option.bind_some, if_pos ⟨by omega, by omega⟩, if_pos tg, tJ5_isLatin1_aae02, if_neg n10, gI_g a4, Option.bind_some, if_pos h6, Option.bind_some, if_neg n10, s1, Option.bind_some, if_pos ⟨by omega, by omega⟩, h7, ecr, Option.bind_some, s2, Option.bind_some, if_pos ⟨by omega, by omega⟩]
  refine ⟨Z, ?_, ⟨updV (updV V 1 (.int 0)) 0 (.ref (N.2.1 + 3)), va_cpy B (fun _ => .int 0) 0 0 m, by rw [hZ, pt_at], u_eq, by rw [u_ne (by omega), u_eq]; rfl, by rw [hZ, pt_ne (by omega), hW4, pt_at, hl], by omega, fun i hi => ?_⟩, fun q hq => ?_, ?_⟩
  · have e8 : tJ0_init_81219 (N.2.1 + 2) N.2.1 W1 = some ((), Z) := by
      rw [tJ0_init_81219, if_pos ⟨Nat.le_refl _, Nat.le_refl _⟩, edb, Option.bind_some, if_pos ⟨by show Z.2.1 ≤ _; omega, by show Z.2.2.1 ≤ _; omega⟩]
    have nn : nwO W 1 0 4 V W.2.1 W.2.2.1 2 254 = some W1 := by
      unfold nwO; rw [if_pos ⟨by omega, by omega, by omega⟩, hW1]
    rw [tJ4_toString_0e30d, ← hV, nn, Option.bind_some, if_pos ⟨by omega, by omega⟩, w1, e8, Option.bind_some, if_pos ⟨by show Z.2.1 ≤ _; omega, by show Z.2.2.1 ≤ _; omega⟩]
  · unfold va_cpy
    rw [if_pos ⟨Nat.zero_le _, by omega⟩, Nat.sub_zero, Nat.zero_add]
    exact hB i (by omega)
  · rw [hZ, pt_ne (by omega), hW4, pt_ne (by omega)]; exact c7 q hq
  · exact Prod.ext z1 (Prod.ext z2 z3)
end
