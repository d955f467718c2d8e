section
variable {M : vMe} {A p lo cap : Nat} {l : List Nat} {Gs : Nat → Nat}
/-- a text begins -/
theorem sb_new (hA : M.1 A = (2, 0, vp_V [.null, .int 0, .int 0, .int 0])) (hlo : lo ≤ A) (hAM : A < M.2.1) (hb : M.2.2.2 ≤ lo) : ∃ M2, tJ4_init_da8c8 A M = some ((), M2) ∧ sbC M2 A M.2.1 lo 16 [] ∧ (∀ z, z < M.2.1 → z ≠ A → M2.1 z = M.1 z) ∧ M2.2 = (M.2.1 + 1, M.2.2.1 + 16, M.2.2.2) := by
  obtain ⟨V, hV⟩ : ∃ V : Nat → Value, V = vp_V [.null, .int 0, .int 0, .int 0] := ⟨_, rfl⟩
  rw [← hV] at hA
  obtain ⟨W1, hW1⟩ : ∃ W1, W1 = nw M 102 16 16 (fun _ => .int 0) := ⟨_, rfl⟩
  have a3 : W1.2 = (M.2.1 + 1, M.2.2.1 + 16, M.2.2.2) := by rw [hW1]; rfl
  have a1 : W1.1 A = (2, 0, V) := by rw [hW1, ng_ne (by omega)]; exact hA
  have a2 : W1.1 M.2.1 = (102, 16, fun _ => .int 0) := by rw [hW1, ng_at rfl]
  obtain ⟨W2, hW2⟩ : ∃ W2, W2 = pt W1 A (2, 0, updV V 0 (.ref M.2.1)) := ⟨_, rfl⟩
  obtain ⟨W3, hW3⟩ : ∃ W3, W3 = pt W2 A (2, 0, updV (updV V 0 (.ref M.2.1)) 1 (.int 0)) := ⟨_, rfl⟩
  have b1 : W2.1 A = (2, 0, updV V 0 (.ref M.2.1)) := by rw [hW2, pg_at]
  have b3 : W2.2 = (M.2.1 + 1, M.2.2.1 + 16, M.2.2.2) := by rw [hW2]; exact a3
  have c3 : W3.2 = (M.2.1 + 1, M.2.2.1 + 16, M.2.2.2) := by rw [hW3]; exact b3
  have cl : (16 : Int32).toNatClampNeg = 16 := by decide
  have nn : nwO M 102 16 16 (fun _ => .int 0) M.2.1 M.2.2.1 1 16 = some W1 := by rw [hW1]; exact if_pos ⟨Nat.le_refl _, Nat.le_refl _, Nat.le_refl _⟩
  have k : M.2.1 + 1 ≤ M.2.1 + 1 ∧ M.2.2.1 + 16 ≤ M.2.2.1 + 16 := ⟨Nat.le_refl _, Nat.le_refl _⟩
  have e : tJ5_init_d00df A 16 M = some ((), W3) := by
    rw [tJ5_init_d00df, if_neg n10, if_pos ⟨by decide, by decide⟩, cl, nn, Option.bind_some, sVg a1 (by rw [a3]; show M.2.2.2 ≤ A; omega), Option.bind_some, ← hW2, sVg b1 (by rw [b3]; show M.2.2.2 ≤ A; omega), Option.bind_some, ← hW3, c3, if_pos k]
  refine ⟨W3, ?_, ⟨_, fun _ => .int 0, by rw [hW3, pg_at], by rw [up_ne (by omega), up_eq], by rw [up_eq]; rfl, by rw [up_ne (by omega), up_ne (by omega), hV]; rfl, by rw [hW3, pg_ne (by omega), hW2, pg_ne (by omega)]; exact a2, ⟨Nat.zero_le _, by omega⟩, ⟨hlo, by omega, by omega, by rw [c3]; show A < M.2.1 + 1; omega, by rw [c3]; show M.2.1 < M.2.1 + 1; omega, by rw [c3]; exact hb⟩, fun i hi => absurd hi (Nat.not_lt_zero _)⟩, fun z z1 z2 => by rw [hW3, pg_ne z2, hW2, pg_ne z2, hW1, ng_ne (by omega)], c3⟩
  rw [tJ4_init_da8c8, if_pos ⟨Nat.le_refl _, Nat.le_refl _⟩, e, Option.bind_some]
  dsimp only
  rw [c3, if_pos k]
/-- a text becomes a String -/
theorem sb_toS (h : sbC M A p lo cap l) (h1 : 1 ≤ l.length) : ∃ Z, tJ4_toString_0e30d A M = some (M.2.1, Z) ∧ tAt Z M.2.1 (M.2.1 + 1) l ∧ (∀ z, z < M.2.1 → Z.1 z = M.1 z) ∧ Z.2 = (M.2.1 + 2, M.2.2.1 + 4 + l.length, M.2.2.2) := by
  obtain ⟨S, B, i1, i2, i3, i4, i5, ⟨i6, i7⟩, ⟨i8, i9, i10, i11, i12, i13⟩, i14⟩ := h
  obtain ⟨m, hm⟩ : ∃ m, m = l.length := ⟨_, rfl⟩
  rw [← hm] at i4 i6 h1 i14 ⊢
  obtain ⟨V, hV⟩ : ∃ V : Nat → Value, V = vp_V [.null, .int 0, .int 0, .int 0] := ⟨_, rfl⟩
  obtain ⟨W1, hW1⟩ : ∃ W1, W1 = nw M 1 0 4 V := ⟨_, rfl⟩
  have a3 : W1.2 = (M.2.1 + 1, M.2.2.1 + 4, M.2.2.2) := by rw [hW1]; rfl
  have a4 : W1.1 A = (2, 0, S) := by rw [hW1, ng_ne (by omega)]; exact i1
  have a6 : W1.1 M.2.1 = (1, 0, V) := by rw [hW1, ng_at rfl]
  obtain ⟨W2, hW2⟩ : ∃ W2, W2 = pt W1 M.2.1 (1, 0, updV V 1 (.int 0)) := ⟨_, rfl⟩
  have b3 : W2.2 = (M.2.1 + 1, M.2.2.1 + 4, M.2.2.2) := by rw [hW2]; exact a3
  have b5 : W2.1 p = (102, cap, B) := by rw [hW2, pg_ne (by omega), hW1, ng_ne (by omega)]; exact i5
  have b6 : W2.1 M.2.1 = (1, 0, updV V 1 (.int 0)) := by rw [hW2, pg_at]
  have b7 : ∀ q, q < M.2.1 → W2.1 q = M.1 q := fun q hq => by rw [hW2, pg_ne (by omega), hW1, ng_ne (by omega)]
  have w1 : W2.2.1 = M.2.1 + 1 := by rw [b3]
  have w2 : W2.2.2.1 = M.2.2.1 + 4 := by rw [b3]
  have w3 : W2.2.2.2 = M.2.2.2 := by rw [b3]
  have cp : ∃ W4 B4, tJ7_copyOfRange_39247 p 0 (Int32.ofNat m) W2 = some (M.2.1 + 1, W4) ∧ W4.1 (M.2.1 + 1) = (102, m, B4) ∧ (∀ i, i < m → B4 i = B i) ∧ (∀ z, z ≠ M.2.1 + 1 → W4.1 z = W2.1 z) ∧ W4.2 = (M.2.1 + 2, M.2.2.1 + 4 + m, M.2.2.2) := by
    by_cases q : m = cap
    · obtain ⟨W3, hW3⟩ : ∃ W3, W3 = nw W2 102 cap cap B := ⟨_, rfl⟩
      have c3 : W3.2 = (M.2.1 + 2, M.2.2.1 + 4 + m, M.2.2.2) := by rw [hW3]; show (W2.2.1 + 1, W2.2.2.1 + cap, W2.2.2.2) = _; rw [w1, w2, w3, q]
      have hc : clA W2 p W2.2.1 W2.2.2.1 1 250 = some W3 := by
        unfold clA
        rw [b5, hW3]
        exact if_pos ⟨rfl, Nat.le_refl _, by show W2.2.2.1 + cap ≤ _; omega, i7⟩
      refine ⟨W3, B, ?_, by rw [hW3, ng_at w1.symm, q], fun _ _ => rfl, fun z hz => by rw [hW3, ng_ne (by omega)], c3⟩
      rw [tJ7_copyOfRange_39247, if_pos rfl, aNg b5, Option.bind_some, if_pos (by rw [q]), hc, Option.bind_some, c3, if_pos ⟨by show M.2.1 + 2 ≤ _; omega, by show M.2.2.1 + 4 + m ≤ _; omega⟩, w1]
    · obtain ⟨W3, hW3⟩ : ∃ W3, W3 = nw W2 102 m m (fun _ => .int 0) := ⟨_, rfl⟩
      have c3 : W3.2 = (M.2.1 + 2, M.2.2.1 + 4 + m, M.2.2.2) := by rw [hW3]; show (W2.2.1 + 1, W2.2.2.1 + m, W2.2.2.2) = _; rw [w1, w2, w3]
      have c5 : W3.1 p = (102, cap, B) := by rw [hW3, ng_ne (by omega)]; exact b5
      have c8 : W3.1 (M.2.1 + 1) = (102, m, fun _ => .int 0) := by rw [hW3, ng_at w1.symm]
      obtain ⟨W4, hW4⟩ : ∃ W4, W4 = pt W3 (M.2.1 + 1) (102, m, va_cpy B (fun _ => .int 0) 0 0 m) := ⟨_, rfl⟩
      have d3 : W4.2 = (M.2.1 + 2, M.2.2.1 + 4 + m, M.2.2.2) := by rw [hW4]; exact c3
      have hcp : cpA W3 p (M.2.1 + 1) 102 0 0 (Int32.ofNat m) = some W4 := by
        have z0 : (0 : Int32).toNatClampNeg = 0 := by decide
        have z9 : W3.2.2.2 ≤ M.2.1 + 1 := by rw [c3]; show M.2.2.2 ≤ _; omega
        rw [hW4]
        unfold cpA
        simp only [c5, c8, z0, n_clamp (show m < 2147483648 by omega), n_neg (show m < 2147483648 by omega)]
        rw [if_pos ⟨trivial, trivial, by decide, by decide, not_false, by omega, by omega, z9⟩]
      have s0 : Int32.ofNat m - 0 = Int32.ofNat m := n_sub (a := m) (b := 0) (Nat.zero_le _)
      have s1 : Int32.ofNat cap - 0 = Int32.ofNat cap := n_sub (a := cap) (b := 0) (Nat.zero_le _)
      have eb : tJ7_copyOfRangeByte_39247 p 0 (Int32.ofNat m) W2 = some (M.2.1 + 1, W4) := by
        have le0 : (0 : Int32) ≤ Int32.ofNat m := (n_le (a := 0) (by omega) (by omega)).mpr (by omega)
        have ck : tJ7_checkLength_df160 0 (Int32.ofNat m) W2 = some ((), W2) := by rw [tJ7_checkLength_df160, if_pos le0]
        have lt : Int32.ofNat m < Int32.ofNat cap := (n_lt (by omega) (by omega)).mpr (by omega)
        have nn : nwO W2 102 m m (fun _ => .int 0) W2.2.1 W2.2.2.1 1 250 = some W3 := by
          unfold nwO; rw [if_pos ⟨Nat.le_refl _, by omega, by omega⟩, hW3]
        rw [tJ7_copyOfRangeByte_39247, if_pos ⟨by omega, by omega⟩, ck, Option.bind_some, s0, if_pos ⟨n_neg (by omega), by rw [n_clamp (by omega)]; omega⟩, n_clamp (by omega)]
        show ((nwO W2 102 m m (fun _ => .int 0) W2.2.1 W2.2.2.1 1 250).bind _) = _
        rw [nn, Option.bind_some, aNg c5, Option.bind_some, s1, if_pos lt, c3, if_pos ⟨by show M.2.1 + 2 ≤ _; omega, by show M.2.2.1 + 4 + m ≤ _; omega⟩]
        show ((cpA W3 p W2.2.1 102 0 0 (Int32.ofNat m)).bind _) = _
        rw [w1, hcp, Option.bind_some, d3, if_pos ⟨by show M.2.1 + 2 ≤ _; omega, by show M.2.2.1 + 4 + m ≤ _; omega⟩]
      refine ⟨W4, va_cpy B (fun _ => .int 0) 0 0 m, ?_, by rw [hW4, pg_at], fun i hi => ?_, fun z hz => by rw [hW4, pg_ne hz, hW3, ng_ne (by omega)], d3⟩
      · rw [tJ7_copyOfRange_39247, if_pos rfl, aNg b5, Option.bind_some, if_neg (fun g => q ((n_eq (by omega) (by omega)).mp g)), tJ7_copyOfRange_39247_J10, if_pos ⟨by omega, by omega⟩, eb, Option.bind_some]
        dsimp only
        rw [d3, if_pos ⟨by show M.2.1 + 2 ≤ _; omega, by show M.2.2.1 + 4 + m ≤ _; omega⟩]
      · unfold va_cpy
        rw [if_pos ⟨Nat.zero_le _, by omega⟩, Nat.sub_zero, Nat.zero_add]
  obtain ⟨W4, B4, e1, e2, e3, e4, e5⟩ := cp
  have d6 : W4.1 M.2.1 = (1, 0, updV V 1 (.int 0)) := by rw [e4 _ (by omega)]; exact b6
  obtain ⟨Z, hZ⟩ : ∃ Z, Z = pt W4 M.2.1 (1, 0, updV (updV V 1 (.int 0)) 0 (.ref (M.2.1 + 1))) := ⟨_, rfl⟩
  have z3 : Z.2 = (M.2.1 + 2, M.2.2.1 + 4 + m, M.2.2.2) := by rw [hZ]; exact e5
  have tg : (W1.1 A).1 = 2 := by rw [a4]
  have v1 : W1.2.1 = M.2.1 + 1 := by rw [a3]
  have v2 : W1.2.2.1 = M.2.2.1 + 4 := by rw [a3]
  have v3 : W1.2.2.2 = M.2.2.2 := by rw [a3]
  have edb : tJ0_init_db425 M.2.1 A W1 = some ((), Z) := by
    rw [tJ0_init_db425, if_pos ⟨by omega, by omega⟩, if_pos tg, tJ5_getValue_6d5f1, gAg a4 i2, Option.bind_some, Option.bind_some, if_pos ⟨by omega, by omega⟩, if_pos tg, tJ4_length_8abf5, if_pos tg, tJ5_length_8abf5, gIg a4, Option.bind_some, Option.bind_some, Option.bind_some, if_pos ⟨by omega, by omega⟩, if_pos tg, tJ5_isLatin1_aae02, if_neg n10, gIg a4, Option.bind_some, if_pos i3, Option.bind_some, if_neg n10, sVg a6 (by omega), Option.bind_some, ← hW2, if_pos ⟨by omega, by omega⟩, i4, e1, Option.bind_some]
    dsimp only
    rw [sVg d6 (by rw [e5]; show M.2.2.2 ≤ _; omega), Option.bind_some, ← hZ, z3, if_pos ⟨by show M.2.1 + 2 ≤ _; omega, by show M.2.2.1 + 4 + m ≤ _; omega⟩]
  refine ⟨Z, ?_, ⟨updV (updV V 1 (.int 0)) 0 (.ref (M.2.1 + 1)), B4, by rw [hZ, pg_at], up_eq, by rw [up_ne (by omega), up_eq]; rfl, by rw [hZ, pg_ne (by omega), e2, hm], by omega, fun i hi => ?_⟩, fun z hz => by rw [hZ, pg_ne (by omega), e4 z (by omega), b7 z hz], z3⟩
  · have e8 : tJ0_init_81219 M.2.1 A W1 = some ((), Z) := by
      rw [tJ0_init_81219, if_pos ⟨Nat.le_refl _, Nat.le_refl _⟩, edb, Option.bind_some]
      dsimp only
      rw [z3, if_pos ⟨by show M.2.1 + 2 ≤ _; omega, by show M.2.2.1 + 4 + m ≤ _; omega⟩]
    have nn : nwO M 1 0 4 V M.2.1 M.2.2.1 2 254 = some W1 := by
      unfold nwO; rw [if_pos ⟨by omega, by omega, by omega⟩, hW1]
    rw [tJ4_toString_0e30d, ← hV, nn, Option.bind_some, if_pos ⟨by omega, by omega⟩, e8, Option.bind_some]
    dsimp only
    rw [z3, if_pos ⟨by show M.2.1 + 2 ≤ _; omega, by show M.2.2.1 + 4 + m ≤ _; omega⟩]
  · rw [e3 i (by omega)]; exact i14 i (by omega)
/-- a text begins with a String -/
theorem sb_init {w o : Nat} {k : List Nat} (hA : M.1 A = (2, 0, vp_V [.null, .int 0, .int 0, .int 0])) (hlo : lo ≤ A) (hAM : A < M.2.1) (hb : M.2.2.2 ≤ lo) (t : tAt M w o k) (hw : (w < M.2.1 ∧ o < M.2.1) ∧ w ≠ A ∧ o ≠ A) (hk : k.length ≤ 20) : ∃ M2 p2, tJ4_init_a7421 A w M = some ((), M2) ∧ sbC M2 A p2 lo (k.length + 16) k ∧ M.2.1 ≤ p2 ∧ (∀ z, z < M.2.1 → z ≠ A → M2.1 z = M.1 z) ∧ M.2.1 ≤ M2.2.1 ∧ M2.2.1 ≤ M.2.1 + 2 ∧ M2.2.2.1 ≤ M.2.2.1 + 300 ∧ M2.2.2.2 = M.2.2.2 := by
  obtain ⟨V, hV⟩ : ∃ V : Nat → Value, V = vp_V [.null, .int 0, .int 0, .int 0] := ⟨_, rfl⟩
  rw [← hV] at hA
  obtain ⟨l1, l2, l3, l4, l5⟩ := t_len t (by omega)
  obtain ⟨W1, hW1⟩ : ∃ W1, W1 = pt M A (2, 0, updV V 1 (.int 0)) := ⟨_, rfl⟩
  have b1 : W1.2 = M.2 := by rw [hW1]; rfl
  obtain ⟨W2, hW2⟩ : ∃ W2, W2 = nw W1 102 (k.length + 16) (k.length + 16) (fun _ => .int 0) := ⟨_, rfl⟩
  have c3 : W2.2 = (M.2.1 + 1, M.2.2.1 + (k.length + 16), M.2.2.2) := by rw [hW2]; show (W1.2.1 + 1, W1.2.2.1 + (k.length + 16), W1.2.2.2) = _; rw [b1]
  have c1 : W2.1 A = (2, 0, updV V 1 (.int 0)) := by rw [hW2, ng_ne (by rw [b1]; omega), hW1, pg_at]
  have c2 : W2.1 M.2.1 = (102, k.length + 16, fun _ => .int 0) := by rw [hW2, ng_at (by rw [b1])]
  obtain ⟨W3, hW3⟩ : ∃ W3, W3 = pt W2 A (2, 0, updV (updV V 1 (.int 0)) 0 (.ref M.2.1)) := ⟨_, rfl⟩
  have d3 : W3.2 = (M.2.1 + 1, M.2.2.1 + (k.length + 16), M.2.2.2) := by rw [hW3]; exact c3
  have fr : ∀ z, z < M.2.1 → z ≠ A → W3.1 z = M.1 z := fun z z1 z2 => by rw [hW3, pg_ne z2, hW2, ng_ne (by rw [b1]; omega), hW1, pg_ne z2]
  have sb0 : sbC W3 A M.2.1 lo (k.length + 16) [] := ⟨updV (updV V 1 (.int 0)) 0 (.ref M.2.1), fun _ => .int 0, by rw [hW3, pg_at], up_eq, by rw [up_ne (by omega), up_eq]; rfl, by rw [up_ne (by omega), up_ne (by omega), hV]; rfl, by rw [hW3, pg_ne (by omega)]; exact c2, ⟨Nat.zero_le _, by omega⟩, ⟨hlo, by omega, by omega, by rw [d3]; show A < M.2.1 + 1; omega, by rw [d3]; show M.2.1 < M.2.1 + 1; omega, by rw [d3]; exact hb⟩, fun i hi => absurd hi (Nat.not_lt_zero _)⟩
  have t3 : tAt W3 w o k := t.same (fr w hw.1.1 hw.2.1) (fr o hw.1.2 hw.2.2)
  have d1 : W3.2.1 = M.2.1 + 1 := by rw [d3]
  have d2 : W3.2.2.1 = M.2.2.1 + (k.length + 16) := by rw [d3]
  have d4 : W3.2.2.2 = M.2.2.2 := by rw [d3]
  obtain ⟨M2, p2, cap2, e1, e2, e3, e4, e5⟩ := sb_str sb0 t3 ⟨⟨by omega, by omega⟩, ⟨hw.2.1, by omega⟩, hw.2.2, by omega⟩ (.inl (by show 0 + k.length ≤ _; omega)) (by show 0 + k.length ≤ _; omega)
  have ec : cap2 = k.length + 16 := by
    rcases e3 with ⟨-, e⟩ | ⟨e, -⟩
    · exact e
    · have e' : k.length + 16 < 0 + k.length := e
      omega
  rw [ec, List.nil_append] at e2
  obtain ⟨g1, g2, g3, g4, g5⟩ := e4
  have tg3 : (W3.1 A).1 = 2 := by rw [hW3, pg_at]
  have ecf : tJ4_append_cf1ce A w W3 = some (A, M2) := by
    rw [tJ4_append_cf1ce, if_pos ⟨Nat.le_refl _, Nat.le_refl _⟩, if_pos tg3, e1, Option.bind_some]
    dsimp only
    rw [if_pos ⟨g3, g4⟩]
  have J53 : tJ5_init_a7421_J53 M.2.1 M.2.2.1 A w A M.2.1 W2 = some ((), M2) := by
    rw [tJ5_init_a7421_J53, sVg c1 (by rw [c3]; show M.2.2.2 ≤ A; omega), Option.bind_some, ← hW3, d1, d2, if_pos ⟨by omega, by omega⟩, if_pos tg3, ecf, Option.bind_some]
    dsimp only
    rw [if_pos ⟨by omega, by omega⟩]
  have J24 : tJ5_init_a7421_J24 M.2.1 M.2.2.1 A w (Int32.ofNat (k.length + 16)) M = some ((), M2) := by
    have nn : nwO W1 102 (k.length + 16) (k.length + 16) (fun _ => .int 0) M.2.1 M.2.2.1 2 300 = some W2 := by
      rw [hW2]; exact if_pos ⟨by rw [b1]; omega, by rw [b1]; omega, by omega⟩
    rw [tJ5_init_a7421_J24, if_pos ⟨by omega, by omega⟩, if_pos l5, l2, Option.bind_some, if_pos (by decide), sVg hA (by omega), Option.bind_some, ← hW1, if_pos rfl, if_pos ⟨n_neg (by omega), by rw [n_clamp (by omega)]; omega⟩, n_clamp (by omega), nn, Option.bind_some, b1]
    exact J53
  refine ⟨M2, p2, ?_, e2, ?_, fun z z1 z2 => (g1 z (by omega) z2 (by omega)).trans (fr z z1 z2), by omega, by omega, by omega, by omega⟩
  · have e : tJ5_init_a7421 A w M = some ((), M2) := by
      rw [tJ5_init_a7421, if_pos ⟨by omega, by omega⟩, if_pos l5, l1, Option.bind_some, if_neg (show ¬ (2147483631 : Int32) ≤ Int32.ofNat k.length from fun g => by have := (n_le (a := 2147483631) (by omega) (by omega)).mp g; omega), show Int32.ofNat k.length + 16 = Int32.ofNat (k.length + 16) from n_add k.length 16]
      exact J24
    rw [tJ4_init_a7421, if_pos ⟨Nat.le_refl _, Nat.le_refl _⟩, e, Option.bind_some]
    dsimp only
    rw [if_pos ⟨by omega, by omega⟩]
  · rcases e5 with e | e
    · rw [e]; exact Nat.le_refl _
    · omega
end
