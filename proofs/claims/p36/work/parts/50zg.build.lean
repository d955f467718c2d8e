section
variable {M : vMe} {A p lo cap : Nat} {l : List Nat} {Gs : Nat → Nat}
/-! texts that grow -/
def sbC (M : vMe) (A p lo cap : Nat) (l : List Nat) : Prop := ∃ S B, M.1 A = (2, 0, S) ∧ S 0 = .ref p ∧ vI (S 1) = 0 ∧ vI (S 3) = Int32.ofNat l.length ∧ M.1 p = (102, cap, B) ∧ (l.length ≤ cap ∧ cap ≤ 250) ∧ (lo ≤ A ∧ lo ≤ p ∧ A ≠ p ∧ A < M.2.1 ∧ p < M.2.1 ∧ M.2.2.2 ≤ lo) ∧ ∀ i, i < l.length → vI (B i) = Int32.ofNat (l.getD i 0) ∧ l.getD i 0 < 128
/-- what a growing text leaves alone -/
def fx (M M2 : vMe) (A p : Nat) : Prop := (∀ z, z < M.2.1 → z ≠ A → z ≠ p → M2.1 z = M.1 z) ∧ M.2.1 ≤ M2.2.1 ∧ M2.2.1 ≤ M.2.1 + 1 ∧ M2.2.2.1 ≤ M.2.2.1 + 250 ∧ M2.2.2.2 = M.2.2.2
theorem pg_at {W : vMe} {a : Nat} {o : vOb} : (pt W a o).1 a = o := by simp [pt]
theorem pg_ne {W : vMe} {a q : Nat} {o : vOb} (h : q ≠ a) : (pt W a o).1 q = W.1 q := by simp [pt, h]
theorem ng_at {W : vMe} {tg l s : Nat} {f : Nat → Value} {q : Nat} (h : q = W.2.1) : (nw W tg l s f).1 q = (tg, l, f) := by subst h; simp [nw]
theorem ng_ne {W : vMe} {tg l s : Nat} {f : Nat → Value} {q : Nat} (h : q ≠ W.2.1) : (nw W tg l s f).1 q = W.1 q := by simp [nw, h]
theorem sVg {W : vMe} {a tg l k : Nat} {S : Nat → Value} {v : Value} (h : W.1 a = (tg, l, S)) (hb : W.2.2.2 ≤ a) : sV W a tg k v = some (pt W a (tg, l, updV S k v)) := by simp [sV, wr, h, hb]
theorem gIg {W : vMe} {a tg l k : Nat} {S : Nat → Value} (h : W.1 a = (tg, l, S)) : gI W a tg k = some (vI (S k)) := by simp [gI, h]
theorem gAg {W : vMe} {a tg l k v : Nat} {S : Nat → Value} (h : W.1 a = (tg, l, S)) (hv : S k = .ref v) : gA W a tg k = some v := by simp [gA, h, hv, vR]
theorem aNg {W : vMe} {a tg l : Nat} {S : Nat → Value} (h : W.1 a = (tg, l, S)) : aN W a tg = some (Int32.ofNat l) := by simp [aN, h]
theorem sAg {W : vMe} {a tg l i : Nat} {S : Nat → Value} {v : Value} (h : W.1 a = (tg, l, S)) (hb : W.2.2.2 ≤ a) (hi : i < l) (hl : l < 2147483648) : sA W a tg (Int32.ofNat i) v = some (pt W a (tg, l, updV S i v)) := by
  simp only [sA, wr, h, n_clamp (show i < 2147483648 by omega), n_neg (show i < 2147483648 by omega)]
  simp [hb, hi]
theorem aIg {W : vMe} {a tg l i : Nat} {S : Nat → Value} (h : W.1 a = (tg, l, S)) (hi : i < l) (hl : l < 2147483648) : aI W a tg (Int32.ofNat i) = some (vI (S i)) := by
  simp only [aI, h, n_clamp (show i < 2147483648 by omega), n_neg (show i < 2147483648 by omega)]
  simp [hi]
theorem up_eq {S : Nat → Value} {k : Nat} {v : Value} : updV S k v k = v := by simp [updV]
theorem up_ne {S : Nat → Value} {k j : Nat} {v : Value} (h : j ≠ k) : updV S k v j = S j := by simp [updV, h]
theorem shl0 : ∀ m, m < 1000 → Int32.ofNat m <<< ((0 : Int32) &&& 31) = Int32.ofNat m := by decide +kernel
theorem shr0 : ∀ m, m < 1000 → Int32.ofNat m >>> ((0 : Int32) &&& 31) = Int32.ofNat m := by decide +kernel
theorem n_le0 {m c : Nat} (hm : m < 1000) (hc : c < 1000) : (Int32.ofNat m - Int32.ofNat c ≤ 0) ↔ m ≤ c := by
  rw [Int32.le_iff_toInt_le, Int32.toInt_sub, n_toInt (by omega), n_toInt (by omega), show (0 : Int32).toInt = 0 from rfl]
  rw [Int.bmod_eq_of_le (by omega) (by omega)]
  omega
theorem newLen {m c : Nat} (hc : c ≤ 124) (h1 : c < m) (h2 : m ≤ 2 * c + 2) : tJ8_newLength_cabcc (Int32.ofNat c) (Int32.ofNat m - Int32.ofNat c) (Int32.ofNat c + 2) M = some (Int32.ofNat (2 * c + 2)) := by
  have e1 : Int32.ofNat m - Int32.ofNat c = Int32.ofNat (m - c) := n_sub (by omega)
  have e2 : Int32.ofNat c + 2 = Int32.ofNat (c + 2) := n_add c 2
  have e3 : (if Int32.ofNat (m - c) < Int32.ofNat (c + 2) then Int32.ofNat (c + 2) else Int32.ofNat (m - c)) = Int32.ofNat (c + 2) := by
    by_cases q : m - c < c + 2
    · rw [if_pos ((n_lt (by omega) (by omega)).mpr q)]
    · rw [if_neg (fun g => q ((n_lt (by omega) (by omega)).mp g)), show m - c = c + 2 by omega]
  rw [tJ8_newLength_cabcc, e1, e2, e3, n_add, if_neg (show ¬ Int32.ofNat (c + (c + 2)) ≤ 0 from fun g => by have := (n_le (b := 0) (by omega) (by omega)).mp g; omega), if_neg (show ¬ (2147483639 : Int32) < Int32.ofNat (c + (c + 2)) from fun g => by have := (n_lt (a := 2147483639) (by omega) (by omega)).mp g; omega), show c + (c + 2) = 2 * c + 2 by omega]
/-- room is made -/
theorem ens_P {m : Nat} (h : sbC M A p lo cap l) (hm : m ≤ cap ∨ (cap ≤ 124 ∧ m ≤ 2 * cap + 2)) (hm2 : m ≤ 250) : ∃ M2 p2 cap2, tJ5_ensureCapacityInternal_d00df A (Int32.ofNat m) M = some ((), M2) ∧ sbC M2 A p2 lo cap2 l ∧ m ≤ cap2 ∧ ((m ≤ cap ∧ cap2 = cap) ∨ (cap < m ∧ cap2 = 2 * cap + 2)) ∧ fx M M2 A p ∧ (p2 = p ∨ M.2.1 ≤ p2) ∧ l.length ≤ cap := by
  have h0 := h
  obtain ⟨S, B, h1, h2, h3, h4, h5, ⟨h6, h7⟩, ⟨h8, h9, h10, h11, h12, h13⟩, h14⟩ := h
  by_cases q : m ≤ cap
  · refine ⟨M, p, cap, ?_, h0, q, .inl ⟨q, rfl⟩, ⟨fun _ _ _ _ => rfl, Nat.le_refl _, by omega, by omega, rfl⟩, .inl rfl, h6⟩
    rw [tJ5_ensureCapacityInternal_d00df, gAg h1 h2, Option.bind_some, aNg h5, Option.bind_some, gIg h1, Option.bind_some, h3, shr0 cap (by omega), if_pos ((n_le0 (by omega) (by omega)).mpr q), if_pos ⟨by omega, by omega⟩]
  · obtain ⟨k1, k2⟩ := hm.resolve_left q
    obtain ⟨c2, hc2⟩ : ∃ c2, c2 = 2 * cap + 2 := ⟨_, rfl⟩
    obtain ⟨W1, hW1⟩ : ∃ W1, W1 = nw M 102 c2 c2 (fun _ => .int 0) := ⟨_, rfl⟩
    have a1 : W1.1 p = (102, cap, B) := by rw [hW1, ng_ne (by omega)]; exact h5
    have a2 : W1.1 M.2.1 = (102, c2, fun _ => .int 0) := by rw [hW1, ng_at rfl]
    have a3 : W1.2 = (M.2.1 + 1, M.2.2.1 + c2, M.2.2.2) := by rw [hW1]; rfl
    obtain ⟨W2, hW2⟩ : ∃ W2, W2 = pt W1 M.2.1 (102, c2, va_cpy B (fun _ => .int 0) 0 0 cap) := ⟨_, rfl⟩
    have b3 : W2.2 = (M.2.1 + 1, M.2.2.1 + c2, M.2.2.2) := by rw [hW2]; exact a3
    have b1 : W2.1 A = (2, 0, S) := by rw [hW2, pg_ne (by omega), hW1, ng_ne (by omega)]; exact h1
    obtain ⟨W3, hW3⟩ : ∃ W3, W3 = pt W2 A (2, 0, updV S 0 (.ref M.2.1)) := ⟨_, rfl⟩
    have c3 : W3.2 = (M.2.1 + 1, M.2.2.1 + c2, M.2.2.2) := by rw [hW3]; exact b3
    have cp : cpA W1 p M.2.1 102 0 0 (Int32.ofNat cap) = some W2 := by
      have z0 : (0 : Int32).toNatClampNeg = 0 := by decide
      have a4 : W1.2.2.2 ≤ M.2.1 := by rw [a3]; show M.2.2.2 ≤ _; omega
      rw [hW2]
      unfold cpA
      simp only [a1, a2, z0, n_clamp (show cap < 2147483648 by omega), n_neg (show cap < 2147483648 by omega)]
      rw [if_pos ⟨trivial, trivial, by decide, by decide, not_false, by omega, by omega, a4⟩]
    have ecp : tJ7_copyOf_9075b p (Int32.ofNat c2) M = some (M.2.1, W2) := by
      have nn : nwO M 102 c2 c2 (fun _ => .int 0) M.2.1 M.2.2.1 1 250 = some W1 := by rw [hW1]; exact if_pos ⟨Nat.le_refl _, by omega, by omega⟩
      rw [tJ7_copyOf_9075b, aNg h5, Option.bind_some, if_neg (fun g => by have := (n_eq (by omega) (by omega)).mp g; omega), if_pos ⟨n_neg (by omega), by rw [n_clamp (by omega)]; omega⟩, n_clamp (by omega), nn, Option.bind_some, aNg a1, Option.bind_some, if_pos (by rw [a3]; exact ⟨by show M.2.1 + 1 ≤ _; omega, by show M.2.2.1 + c2 ≤ _; omega⟩), if_neg (fun g => by have := (n_lt (by omega) (by omega)).mp g; omega), cp, Option.bind_some, if_pos (by rw [b3]; exact ⟨by show M.2.1 + 1 ≤ _; omega, by show M.2.2.1 + c2 ≤ _; omega⟩)]
    have enc : tJ5_newCapacity_0f7a4 A (Int32.ofNat m) M = some (Int32.ofNat c2, M) := by
      rw [tJ5_newCapacity_0f7a4, gAg h1 h2, Option.bind_some, aNg h5, Option.bind_some, gIg h1, Option.bind_some, Option.bind_some, h3, shl0 m (by omega), show (2 : Int32) <<< ((0 : Int32) &&& 31) = 2 from by decide, newLen k1 (by omega) k2, Option.bind_some, if_neg (show ¬ Int32.ofNat (2 * cap + 2) = 2147483647 from fun g => by have := (n_eq (b := 2147483647) (by omega) (by omega)).mp g; omega), Option.bind_some, shr0 _ (by omega), hc2]
    refine ⟨W3, M.2.1, c2, ?_, ⟨updV S 0 (.ref M.2.1), va_cpy B (fun _ => .int 0) 0 0 cap, by rw [hW3, pg_at], up_eq, by rw [up_ne (by omega)]; exact h3, by rw [up_ne (by omega)]; exact h4, by rw [hW3, pg_ne (by omega), hW2, pg_at], ⟨by omega, by omega⟩, ⟨h8, by omega, by omega, by rw [c3]; show A < M.2.1 + 1; omega, by rw [c3]; show M.2.1 < M.2.1 + 1; omega, by rw [c3]; exact h13⟩, fun i hi => ?_⟩, by omega, .inr ⟨by omega, hc2⟩, ⟨fun z z1 z2 z3 => by rw [hW3, pg_ne z2, hW2, pg_ne (by omega), hW1, ng_ne (by omega)], by rw [c3]; show M.2.1 ≤ M.2.1 + 1; omega, by rw [c3]; exact Nat.le_refl _, by rw [c3]; show M.2.2.1 + c2 ≤ _; omega, by rw [c3]⟩, .inr (Nat.le_refl _), h6⟩
    · have tg : (M.1 A).1 = 2 := by rw [h1]
      rw [tJ5_ensureCapacityInternal_d00df, gAg h1 h2, Option.bind_some, aNg h5, Option.bind_some, gIg h1, Option.bind_some, h3, shr0 cap (by omega), if_neg (fun g => q ((n_le0 (by omega) (by omega)).mp g)), Option.bind_some, if_pos ⟨by omega, by omega⟩, if_pos tg, enc, Option.bind_some]
      show ((gI M A 2 1).bind _) = _
      rw [gIg h1, Option.bind_some, h3, shl0 c2 (by omega), if_pos ⟨by show M.2.1 + 1 ≤ _; omega, by show M.2.2.1 + 250 ≤ _; omega⟩, ecp, Option.bind_some]
      show ((sV W2 A 2 0 (.ref M.2.1)).bind _) = _
      rw [sVg b1 (by rw [b3]; show M.2.2.2 ≤ A; omega), Option.bind_some, ← hW3, if_pos (by rw [c3]; exact ⟨by show M.2.1 + 1 ≤ _; omega, by show M.2.2.1 + c2 ≤ _; omega⟩)]
    · unfold va_cpy
      rw [if_pos ⟨Nat.zero_le _, by omega⟩, Nat.sub_zero, Nat.zero_add]
      exact h14 i hi
theorem app1 {c i : Nat} {l : List Nat} (h : i < l.length + 1) : (l ++ [c]).getD i 0 = if i = l.length then c else l.getD i 0 := by
  rw [List.getD_eq_getElem?_getD, List.getD_eq_getElem?_getD]
  by_cases e : i = l.length
  · rw [if_pos e, e, List.getElem?_append_right (Nat.le_refl _), Nat.sub_self]; rfl
  · rw [if_neg e, List.getElem?_append_left (by omega)]
/-- a letter comes -/
theorem sb_chr {c : Nat} (h : sbC M A p lo cap l) (hm : l.length + 1 ≤ cap ∨ (cap ≤ 124 ∧ 16 ≤ cap)) (hl : l.length + 1 ≤ 250) (hc : c < 128) : ∃ M2 p2 cap2, tJ4_append_cf468 A (Int32.ofNat c) M = some (A, M2) ∧ sbC M2 A p2 lo cap2 (l ++ [c]) ∧ ((l.length + 1 ≤ cap ∧ cap2 = cap) ∨ (cap < l.length + 1 ∧ cap2 = 2 * cap + 2)) ∧ fx M M2 A p ∧ (p2 = p ∨ M.2.1 ≤ p2) := by
  have hh := h
  obtain ⟨S0, B0, i1, i2, i3, i4, i5, ⟨i6, i7⟩, ⟨i8, i9, i10, i11, i12, i13⟩, i14⟩ := hh
  obtain ⟨M1, p2, cap2, e1, e2, e3, e4, e5, e6, e7⟩ := ens_P (m := l.length + 1) h (by omega) hl
  obtain ⟨S, B, h1, h2, h3, h4, h5, ⟨h6, h7⟩, ⟨h8, h9, h10, h11, h12, h13⟩, h14⟩ := e2
  obtain ⟨g1, g2, g3, g4, g5⟩ := e5
  have ck : ∀ c, c < 128 → ¬ (255 : Int32) < Int32.ofNat c ∧ (Int32.ofNat c).toInt8.toInt32.toInt8.toInt32 = Int32.ofNat c := by decide +kernel
  obtain ⟨k2, k3⟩ := ck c hc
  obtain ⟨W1, hW1⟩ : ∃ W1, W1 = pt M1 A (2, 0, updV S 3 (.int (Int32.ofNat (l.length + 1)))) := ⟨_, rfl⟩
  obtain ⟨W2, hW2⟩ : ∃ W2, W2 = pt W1 p2 (102, cap2, updV B l.length (.int (Int32.ofNat c))) := ⟨_, rfl⟩
  have b2 : W2.2 = M1.2 := by rw [hW2, hW1]; rfl
  have a1 : W1.1 p2 = (102, cap2, B) := by rw [hW1, pg_ne (Ne.symm h10)]; exact h5
  have tg0 : (M.1 A).1 = 2 := by rw [i1]
  have tg1 : (M1.1 A).1 = 2 := by rw [h1]
  have is1 : tJ5_isLatin1_aae02 A M1 = some 1 := by rw [tJ5_isLatin1_aae02, if_neg n10, gIg h1, Option.bind_some, if_pos h3]
  have cn : tJ1_canEncode_fc78d (Int32.ofNat c) M1 = some 1 := by rw [tJ1_canEncode_fc78d, if_neg k2]
  refine ⟨W2, p2, cap2, ?_, ⟨updV S 3 (.int (Int32.ofNat (l.length + 1))), updV B l.length (.int (Int32.ofNat c)), by rw [hW2, pg_ne h10, hW1, pg_at], by rw [up_ne (by omega)]; exact h2, by rw [up_ne (by omega)]; exact h3, by rw [up_eq, List.length_append]; rfl, by rw [hW2, pg_at], ⟨by rw [List.length_append]; exact e3, h7⟩, ⟨h8, h9, h10, by rw [b2]; exact h11, by rw [b2]; exact h12, by rw [b2]; exact h13⟩, fun i hi => ?_⟩, e4, ⟨fun z z1 z2 z3 => ?_, by rw [b2]; exact g2, by rw [b2]; exact g3, by rw [b2]; exact g4, by rw [b2]; exact g5⟩, e6⟩
  · have e : tJ5_append_3fe6f A (Int32.ofNat c) M = some (A, W2) := by
      rw [tJ5_append_3fe6f, gIg i1, Option.bind_some, if_pos ⟨Nat.le_refl _, Nat.le_refl _⟩, if_pos tg0, i4, n_succ, e1, Option.bind_some]
      dsimp only
      rw [if_pos ⟨by omega, by omega⟩, if_pos tg1, is1, Option.bind_some, if_neg n10, if_pos ⟨by omega, by omega⟩, cn, Option.bind_some, if_neg n10, gAg h1 h2, Option.bind_some, gIg h1, Option.bind_some, h4, n_succ, sVg h1 (by omega), Option.bind_some, ← hW1, k3, sAg a1 (by rw [hW1]; show M1.2.2.2 ≤ p2; omega) (by omega) (by omega), Option.bind_some, ← hW2, b2, if_pos ⟨by omega, by omega⟩]
    rw [tJ4_append_cf468, if_pos ⟨Nat.le_refl _, Nat.le_refl _⟩, if_pos tg0, e, Option.bind_some]
    dsimp only
    rw [b2, if_pos ⟨by omega, by omega⟩]
  · rw [List.length_append] at hi
    have hi' : i < l.length + 1 := hi
    rw [app1 hi']
    by_cases e : i = l.length
    · rw [if_pos e, e, up_eq]; exact ⟨rfl, hc⟩
    · rw [if_neg e, up_ne e]; exact h14 i (by omega)
  · have z4 : z ≠ p2 := by
      rcases e6 with e | e
      · rw [e]; exact z3
      · omega
    rw [hW2, pg_ne z4, hW1, pg_ne z2]; exact g1 z z1 z2 z3
end
