section
variable {M : vMe} {A p lo cap : Nat} {l : List Nat} {Gs : Nat → Nat}
theorem appL {l k : List Nat} {i : Nat} : (l ++ k).getD i 0 = if i < l.length then l.getD i 0 else k.getD (i - l.length) 0 := by
  rw [List.getD_eq_getElem?_getD, List.getD_eq_getElem?_getD, List.getD_eq_getElem?_getD]
  by_cases e : i < l.length
  · rw [if_pos e, List.getElem?_append_left e]
  · rw [if_neg e, List.getElem?_append_right (by omega)]
theorem t_len {w o : Nat} {k : List Nat} (t : tAt M w o k) (hk : k.length < 1000) : tJ0_length_8abf5 w M = some (Int32.ofNat k.length) ∧ tJ0_coder_7d493 w M = some 0 ∧ gA M w 1 0 = some o ∧ aN M o 102 = some (Int32.ofNat k.length) ∧ (M.1 w).1 = 1 := by
  obtain ⟨S, B, h1, h2, h3, h4, h5, h6⟩ := t
  have tg : (M.1 w).1 = 1 := by rw [h1]
  have c : tJ0_coder_7d493 w M = some 0 := by rw [tJ0_coder_7d493, if_neg n10, gIg h1, Option.bind_some, h3, if_pos (by decide)]
  refine ⟨?_, c, gAg h1 h2, aNg h4, tg⟩
  rw [tJ0_length_8abf5, gAg h1 h2, Option.bind_some, aNg h4, Option.bind_some, if_pos tg, c, Option.bind_some, shr0 _ hk]
/-- a text comes -/
theorem sb_str {w o : Nat} {k : List Nat} (h : sbC M A p lo cap l) (t : tAt M w o k) (hw : (w < M.2.1 ∧ o < M.2.1) ∧ (w ≠ A ∧ w ≠ p) ∧ o ≠ A ∧ o ≠ p) (hm : l.length + k.length ≤ cap ∨ (cap ≤ 124 ∧ l.length + k.length ≤ 2 * cap + 2)) (hl : l.length + k.length ≤ 250) : ∃ M2 p2 cap2, tJ4_append_15ec4 A w M = some (A, M2) ∧ sbC M2 A p2 lo cap2 (l ++ k) ∧ ((l.length + k.length ≤ cap ∧ cap2 = cap) ∨ (cap < l.length + k.length ∧ cap2 = 2 * cap + 2)) ∧ fx M M2 A p ∧ (p2 = p ∨ M.2.1 ≤ p2) := by
  have hh := h
  obtain ⟨S0, B0, i1, i2, i3, i4, i5, ⟨i6, i7⟩, ⟨i8, i9, i10, i11, i12, i13⟩, i14⟩ := hh
  obtain ⟨M1, p2, cap2, e1, e2, e3, e4, e5, e6, e7⟩ := ens_P (m := l.length + k.length) h hm hl
  obtain ⟨S, B, h1, h2, h3, h4, h5, ⟨h6, h7⟩, ⟨h8, h9, h10, h11, h12, h13⟩, h14⟩ := e2
  obtain ⟨g1, g2, g3, g4, g5⟩ := e5
  have t1 : tAt M1 w o k := t.same (g1 w (by omega) (by omega) (by omega)) (g1 o (by omega) (by omega) (by omega))
  obtain ⟨l1, l2, l3, l4, l5⟩ := t_len t (by omega)
  obtain ⟨m1, m2, m3, m4, m5⟩ := t_len t1 (by omega)
  obtain ⟨S9, B9, q1, q2, q3, q4, q5, q6⟩ := t1
  have tg0 : (M.1 A).1 = 2 := by rw [i1]
  have tg1 : (M1.1 A).1 = 2 := by rw [h1]
  obtain ⟨W1, hW1⟩ : ∃ W1, W1 = pt M1 p2 (102, cap2, va_cpy B9 B 0 l.length k.length) := ⟨_, rfl⟩
  obtain ⟨W2, hW2⟩ : ∃ W2, W2 = pt W1 A (2, 0, updV S 3 (.int (Int32.ofNat (l.length + k.length)))) := ⟨_, rfl⟩
  have b2 : W2.2 = M1.2 := by rw [hW2, hW1]; rfl
  have b1 : W1.2 = M1.2 := by rw [hW1]; rfl
  have a1 : W1.1 A = (2, 0, S) := by rw [hW1, pg_ne h10]; exact h1
  have cp : cpA M1 o p2 102 0 (Int32.ofNat l.length) (Int32.ofNat k.length) = some W1 := by
    have z0 : (0 : Int32).toNatClampNeg = 0 := by decide
    rw [hW1]
    unfold cpA
    simp only [q4, h5, z0, n_clamp (show l.length < 2147483648 by omega), n_neg (show l.length < 2147483648 by omega), n_clamp (show k.length < 2147483648 by omega), n_neg (show k.length < 2147483648 by omega)]
    rw [if_pos ⟨trivial, trivial, by decide, not_false, not_false, by omega, by omega, by omega⟩]
  have pu1 : tJ5_putStringAt_47b60 A (Int32.ofNat l.length) w M1 = some ((), W1) := by
    have inf : tJ5_inflateIfNeededFor_a7421 A w M1 = some ((), M1) := by
      rw [tJ5_inflateIfNeededFor_a7421, if_neg n10, gIg h1, Option.bind_some, if_pos m5, m2, Option.bind_some, if_pos h3]
    have gb : tJ0_getBytes_840e7 w p2 (Int32.ofNat l.length) 0 M1 = some ((), W1) := by
      rw [tJ0_getBytes_840e7, if_pos m5, m2, Option.bind_some, if_pos rfl, m3, Option.bind_some, Option.bind_some, m4, Option.bind_some, shl0 _ (by omega), cp, Option.bind_some]
    rw [tJ5_putStringAt_47b60, if_pos tg1, inf, Option.bind_some]
    dsimp only
    rw [gAg h1 h2, Option.bind_some, gIg h1, Option.bind_some, if_pos m5, h3, gb, Option.bind_some]
  refine ⟨W2, p2, cap2, ?_, ⟨updV S 3 (.int (Int32.ofNat (l.length + k.length))), va_cpy B9 B 0 l.length k.length, by rw [hW2, pg_at], by rw [up_ne (by omega)]; exact h2, by rw [up_ne (by omega)]; exact h3, by rw [up_eq, List.length_append]; rfl, by rw [hW2, pg_ne (Ne.symm h10), hW1, pg_at], ⟨by rw [List.length_append]; exact e3, h7⟩, ⟨h8, h9, h10, by rw [b2]; exact h11, by rw [b2]; exact h12, by rw [b2]; exact h13⟩, fun i hi => ?_⟩, e4, ⟨fun z z1 z2 z3 => ?_, by rw [b2]; exact g2, by rw [b2]; exact g3, by rw [b2]; exact g4, by rw [b2]; exact g5⟩, e6⟩
  · have e : tJ5_append_cf1ce A w M = some (A, W2) := by
      rw [tJ5_append_cf1ce, if_pos ⟨by omega, by omega⟩, if_pos l5, l1, Option.bind_some, gIg i1, Option.bind_some, i4, n_add, if_pos ⟨by omega, by omega⟩, if_pos tg0, e1, Option.bind_some]
      dsimp only
      rw [gIg h1, Option.bind_some, h4, if_pos ⟨by omega, by omega⟩, if_pos tg1, pu1, Option.bind_some]
      dsimp only
      rw [gIg a1, Option.bind_some, h4, n_add, sVg a1 (by rw [b1]; omega), Option.bind_some, ← hW2, b2, if_pos ⟨by omega, by omega⟩]
    rw [tJ4_append_15ec4, if_pos ⟨Nat.le_refl _, Nat.le_refl _⟩, if_pos tg0, e, Option.bind_some]
    dsimp only
    rw [b2, if_pos ⟨by omega, by omega⟩]
  · rw [List.length_append] at hi
    rw [appL]
    unfold va_cpy
    by_cases e : i < l.length
    · rw [if_pos e, if_neg (by omega)]; exact h14 i e
    · rw [if_neg e, if_pos ⟨by omega, by omega⟩, Nat.zero_add]
      exact q6 (i - l.length) (by omega)
  · have z4 : z ≠ p2 := by
      rcases e6 with e | e
      · rw [e]; exact z3
      · omega
    rw [hW2, pg_ne z2, hW1, pg_ne z4]; exact g1 z z1 z2 z3
/-! numbers -/
def dec (v : Nat) : List Nat := if v < 10 then [48 + v] else [48 + v / 10, 48 + v % 10]
theorem dec_1 {v : Nat} (h : v < 10) : dec v = [48 + v] := if_pos h
theorem dec_2 {v : Nat} (h : ¬ v < 10) : dec v = [48 + v / 10, 48 + v % 10] := if_neg h
theorem dec_len (v : Nat) : (dec v).length = if v < 10 then 1 else 2 := by
  unfold dec; split <;> rfl
/-- the rows of digits -/
def dgs (M : vMe) (Gs : Nat → Nat) (lo : Nat) : Prop := (Gs 201 < lo ∧ Gs 202 < lo) ∧ ∃ D1 D2, M.1 (Gs 201) = (102, 100, D1) ∧ M.1 (Gs 202) = (102, 100, D2) ∧ ∀ i, i < 100 → vI (D1 i) = Int32.ofNat (48 + i % 10) ∧ vI (D2 i) = Int32.ofNat (48 + i / 10)
theorem size_P {v : Nat} (hv : v ≤ 64) : tJ6_stringSize_0f7a4 (Int32.ofNat v) M = some (Int32.ofNat (dec v).length) := by
  have t1 : ∀ v, v < 65 → ((-(Int32.ofNat v)) ≤ (-10 : Int32) ↔ 10 ≤ v) ∧ ¬ (-(Int32.ofNat v)) ≤ 10 * (-10 : Int32) := by decide +kernel
  obtain ⟨a1, a2⟩ := t1 v (by omega)
  rw [tJ6_stringSize_0f7a4, if_neg (n_neg (by omega)), tJ6_stringSize_0f7a4_J11, show vF = 99998 + 1 + 1 from rfl, tJ6_stringSize_0f7a4_L16, if_neg (by decide), dec_len]
  by_cases q : v < 10
  · rw [if_neg (fun g => by have := a1.mp g; omega), if_pos q]; rfl
  · rw [if_pos (a1.mpr (by omega)), if_neg q, tJ6_stringSize_0f7a4_L16, if_neg (by decide), if_neg a2]; rfl
theorem gc_P {v k cap2 : Nat} {B : Nat → Value} (hb : M.1 p = (102, cap2, B)) (hp : lo ≤ p) (hb0 : M.2.2.2 ≤ p) (dg : dgs M Gs lo) (hv : v ≤ 64) (hk : k + (dec v).length ≤ cap2) (hc : cap2 < 1000) : ∃ M2 B2, tJ6_getChars_ba4f3 Gs (Int32.ofNat v) (Int32.ofNat (k + (dec v).length)) p M = some (Int32.ofNat k, M2) ∧ M2.1 p = (102, cap2, B2) ∧ M2.2 = M.2 ∧ (∀ z, z ≠ p → M2.1 z = M.1 z) ∧ (∀ i, i < k → B2 i = B i) ∧ ∀ i, i < (dec v).length → vI (B2 (k + i)) = Int32.ofNat ((dec v).getD i 0) := by
  obtain ⟨⟨p1, p2⟩, D1, D2, d1, d2, d3⟩ := dg
  have t1 : ∀ v, v < 65 → ((-9 : Int32) ≤ -(Int32.ofNat v) ↔ v < 10) ∧ (-100 : Int32) < -(Int32.ofNat v) ∧ -(-(Int32.ofNat v)) = Int32.ofNat v := by decide +kernel
  have t2 : ∀ c, c < 100 → (Int32.ofNat c).toInt8.toInt32 = Int32.ofNat c := by decide +kernel
  obtain ⟨a1, a2, a3⟩ := t1 v (by omega)
  obtain ⟨e1, e2⟩ := d3 v (by omega)
  have md : ∀ q, 1 ≤ q → Int32.ofNat q + (-1) = Int32.ofNat (q - 1) := fun q hq => by rw [← n_pred hq, Int32.sub_eq_add_neg]
  have r1 : aI M (Gs 201) 102 (Int32.ofNat v) = some (Int32.ofNat (48 + v % 10)) := by rw [aIg d1 (by omega) (by omega), e1]
  have le0 : (0 : Int32) ≤ Int32.ofNat v := (n_le (a := 0) (by omega) (by omega)).mpr (by omega)
  have hL : tJ6_getChars_ba4f3_L22 Gs p 0 vF (-(Int32.ofNat v)) (Int32.ofNat (k + (dec v).length)) M = some ((-(Int32.ofNat v), Int32.ofNat (k + (dec v).length)), M) := by
    rw [show vF = 99999 + 1 from rfl, tJ6_getChars_ba4f3_L22, if_pos a2]
  by_cases q : v < 10
  · have dl : (dec v).length = 1 := by rw [dec_1 q]; rfl
    rw [dl] at hL hk ⊢
    obtain ⟨W, hW⟩ : ∃ W, W = pt M p (102, cap2, updV B k (.int (Int32.ofNat (48 + v % 10)))) := ⟨_, rfl⟩
    have s1 : sA M p 102 (Int32.ofNat k) (.int (Int32.ofNat (48 + v % 10))) = some W := by rw [hW]; exact sAg hb hb0 (by omega) (by omega)
    refine ⟨W, updV B k (.int (Int32.ofNat (48 + v % 10))), ?_, by rw [hW, pg_at], by rw [hW]; rfl, fun z hz => by rw [hW, pg_ne hz], fun i hi => up_ne (by omega), fun i hi => ?_⟩
    · rw [tJ6_getChars_ba4f3, if_pos le0, tJ6_getChars_ba4f3_J12, if_pos rfl, hL, Option.bind_some]
      dsimp only
      rw [a3, r1, Option.bind_some, md _ (by omega), Nat.add_sub_cancel, t2 _ (by omega), s1, Option.bind_some, if_pos (a1.mpr q), tJ6_getChars_ba4f3_J104, if_pos rfl]
    · have : i = 0 := by omega
      subst this
      rw [Nat.add_zero, up_eq, dec_1 q]
      show Int32.ofNat (48 + v % 10) = Int32.ofNat (48 + v)
      rw [Nat.mod_eq_of_lt q]
  · have dl : (dec v).length = 2 := by rw [dec_2 q]; rfl
    rw [dl] at hL hk ⊢
    obtain ⟨W, hW⟩ : ∃ W, W = pt M p (102, cap2, updV B (k + 1) (.int (Int32.ofNat (48 + v % 10)))) := ⟨_, rfl⟩
    have s1 : sA M p 102 (Int32.ofNat (k + 1)) (.int (Int32.ofNat (48 + v % 10))) = some W := by rw [hW]; exact sAg hb hb0 (by omega) (by omega)
    have w1 : W.1 p = (102, cap2, updV B (k + 1) (.int (Int32.ofNat (48 + v % 10)))) := by rw [hW, pg_at]
    have r2 : aI W (Gs 202) 102 (Int32.ofNat v) = some (Int32.ofNat (48 + v / 10)) := by rw [aIg (by rw [hW, pg_ne (by omega)]; exact d2) (by omega) (by omega), e2]
    obtain ⟨W2, hW2⟩ : ∃ W2, W2 = pt W p (102, cap2, updV (updV B (k + 1) (.int (Int32.ofNat (48 + v % 10)))) k (.int (Int32.ofNat (48 + v / 10)))) := ⟨_, rfl⟩
    have s2 : sA W p 102 (Int32.ofNat k) (.int (Int32.ofNat (48 + v / 10))) = some W2 := by rw [hW2]; exact sAg w1 (by rw [hW]; exact hb0) (by omega) (by omega)
    refine ⟨W2, updV (updV B (k + 1) (.int (Int32.ofNat (48 + v % 10)))) k (.int (Int32.ofNat (48 + v / 10))), ?_, by rw [hW2, pg_at], by rw [hW2, hW]; rfl, fun z hz => by rw [hW2, pg_ne hz, hW, pg_ne hz], fun i hi => by rw [up_ne (by omega), up_ne (by omega)], fun i hi => ?_⟩
    · rw [tJ6_getChars_ba4f3, if_pos le0, tJ6_getChars_ba4f3_J12, if_pos rfl, hL, Option.bind_some]
      dsimp only
      rw [a3, r1, Option.bind_some, md _ (by omega), show k + 2 - 1 = k + 1 from rfl, t2 _ (by omega), s1, Option.bind_some, if_neg (fun g => q (a1.mp g)), r2, Option.bind_some, md _ (by omega), show k + 1 - 1 = k from rfl, t2 _ (by omega), s2, Option.bind_some, tJ6_getChars_ba4f3_J104, if_pos rfl]
    · rcases (show i = 0 ∨ i = 1 by omega) with rfl | rfl
      · show vI (updV (updV B (k + 1) (.int (Int32.ofNat (48 + v % 10)))) k (.int (Int32.ofNat (48 + v / 10))) k) = _
        rw [up_eq, dec_2 q]; rfl
      · rw [up_ne (by omega), up_eq, dec_2 q]; rfl
/-- a number comes -/
theorem sb_int {v : Nat} (h : sbC M A p lo cap l) (dg : dgs M Gs lo) (hv : v ≤ 64) (hm : l.length + (dec v).length ≤ cap ∨ (cap ≤ 124 ∧ 16 ≤ cap)) (hl : l.length + (dec v).length ≤ 250) : ∃ M2 p2 cap2, tJ4_append_bf812 Gs A (Int32.ofNat v) M = some (A, M2) ∧ sbC M2 A p2 lo cap2 (l ++ dec v) ∧ ((l.length + (dec v).length ≤ cap ∧ cap2 = cap) ∨ (cap < l.length + (dec v).length ∧ cap2 = 2 * cap + 2)) ∧ fx M M2 A p ∧ (p2 = p ∨ M.2.1 ≤ p2) := by
  have hh := h
  obtain ⟨S0, B0, i1, i2, i3, i4, i5, ⟨i6, i7⟩, ⟨i8, i9, i10, i11, i12, i13⟩, i14⟩ := hh
  have dl : (dec v).length ≤ 2 ∧ 1 ≤ (dec v).length := by rw [dec_len]; split <;> omega
  obtain ⟨M1, p2, cap2, e1, e2, e3, e4, e5, e6, e7⟩ := ens_P (m := l.length + (dec v).length) h (by omega) hl
  obtain ⟨S, B, h1, h2, h3, h4, h5, ⟨h6, h7⟩, ⟨h8, h9, h10, h11, h12, h13⟩, h14⟩ := e2
  obtain ⟨g1, g2, g3, g4, g5⟩ := e5
  have dg1 : dgs M1 Gs lo := by
    obtain ⟨⟨q1, q2⟩, D1, D2, d1, d2, d3⟩ := dg
    exact ⟨⟨q1, q2⟩, D1, D2, by rw [g1 _ (by omega) (by omega) (by omega)]; exact d1, by rw [g1 _ (by omega) (by omega) (by omega)]; exact d2, d3⟩
  obtain ⟨W1, B2, c1, c2, c3, c4, c5, c6⟩ := gc_P (k := l.length) h5 h9 (by omega) dg1 hv e3 (by omega)
  have tg0 : (M.1 A).1 = 2 := by rw [i1]
  have tg1 : (M1.1 A).1 = 2 := by rw [h1]
  have a1 : W1.1 A = (2, 0, S) := by rw [c4 A h10]; exact h1
  obtain ⟨W2, hW2⟩ : ∃ W2, W2 = pt W1 A (2, 0, updV S 3 (.int (Int32.ofNat (l.length + (dec v).length)))) := ⟨_, rfl⟩
  have b2 : W2.2 = M1.2 := by rw [hW2]; exact c3
  have is1 : tJ5_isLatin1_aae02 A M1 = some 1 := by rw [tJ5_isLatin1_aae02, if_neg n10, gIg h1, Option.bind_some, if_pos h3]
  refine ⟨W2, p2, cap2, ?_, ⟨updV S 3 (.int (Int32.ofNat (l.length + (dec v).length))), B2, by rw [hW2, pg_at], by rw [up_ne (by omega)]; exact h2, by rw [up_ne (by omega)]; exact h3, by rw [up_eq, List.length_append]; rfl, by rw [hW2, pg_ne (Ne.symm h10)]; exact c2, ⟨by rw [List.length_append]; exact e3, h7⟩, ⟨h8, h9, h10, by rw [b2]; exact h11, by rw [b2]; exact h12, by rw [b2]; exact h13⟩, fun i hi => ?_⟩, e4, ⟨fun z z1 z2 z3 => ?_, by rw [b2]; exact g2, by rw [b2]; exact g3, by rw [b2]; exact g4, by rw [b2]; exact g5⟩, e6⟩
  · have e : tJ5_append_c97b9 Gs A (Int32.ofNat v) M = some (A, W2) := by
      rw [tJ5_append_c97b9, gIg i1, Option.bind_some, if_pos ⟨by omega, by omega⟩, size_P hv, Option.bind_some, if_pos ⟨by omega, by omega⟩, if_pos tg0, i4, n_add, e1, Option.bind_some]
      dsimp only
      rw [if_pos ⟨by omega, by omega⟩, if_pos tg1, is1, Option.bind_some, if_neg n10, gAg h1 h2, Option.bind_some, if_pos ⟨by omega, by omega⟩, c1, Option.bind_some]
      dsimp only
      rw [tJ5_append_c97b9_J48, sVg a1 (by rw [c3]; omega), Option.bind_some, ← hW2, b2, if_pos ⟨by omega, by omega⟩]
    rw [tJ4_append_bf812, if_pos ⟨Nat.le_refl _, Nat.le_refl _⟩, if_pos tg0, e, Option.bind_some]
    dsimp only
    rw [b2, if_pos ⟨by omega, by omega⟩]
  · rw [List.length_append] at hi
    rw [appL]
    by_cases e : i < l.length
    · rw [if_pos e, c5 i e]; exact h14 i e
    · rw [if_neg e]
      have := c6 (i - l.length) (by omega)
      rw [show l.length + (i - l.length) = i by omega] at this
      refine ⟨this, ?_⟩
      by_cases q : v < 10
      · rw [dec_1 q] at hi ⊢
        have : i - l.length = 0 := by simp at hi; omega
        rw [this]; show 48 + v < 128; omega
      · rw [dec_2 q] at hi ⊢
        have hx : i - l.length = 0 ∨ i - l.length = 1 := by simp at hi; omega
        rcases hx with e2 | e2
        · rw [e2]; show 48 + v / 10 < 128; omega
        · rw [e2]; show 48 + v % 10 < 128; omega
  · have z4 : z ≠ p2 := by
      rcases e6 with e | e
      · rw [e]; exact z3
      · omega
    rw [hW2, pg_ne z2, c4 z z4]; exact g1 z z1 z2 z3
end
