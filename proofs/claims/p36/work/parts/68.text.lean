section
variable {M M' N W : vMe} {x y r a d u hz n k : Nat} {G F C D : Nat → Nat → Value} {P : Nat → Value} {T : Nat → Nat} {len : Nat} {Gs : Nat → Nat}
theorem pt_at {o : vOb} : (pt W a o).1 a = o := by simp [pt]
theorem pt_ne {o : vOb} {q : Nat} (h : q ≠ a) : (pt W a o).1 q = W.1 q := by simp [pt, h]
theorem sV_g {tg l k : Nat} {S : Nat → Value} {v : Value} (h : W.1 a = (tg, l, S)) (hb : W.2.2.2 ≤ a) : sV W a tg k v = some (pt W a (tg, l, updV S k v)) := by simp [sV, wr, h, hb]
theorem gI_g {tg l k : Nat} {S : Nat → Value} (h : W.1 a = (tg, l, S)) : gI W a tg k = some (vI (S k)) := by simp [gI, h]
theorem gA_g {tg l k v : Nat} {S : Nat → Value} (h : W.1 a = (tg, l, S)) (hv : S k = .ref v) : gA W a tg k = some v := by simp [gA, h, hv, vR]
theorem aN_g {tg l : Nat} {S : Nat → Value} (h : W.1 a = (tg, l, S)) : aN W a tg = some (Int32.ofNat l) := by simp [aN, h]
theorem sA_g {tg l i : Nat} {S : Nat → Value} {v : Value} (h : W.1 a = (tg, l, S)) (hb : W.2.2.2 ≤ a) (hi : i < l) (hl : l < 2147483648) : sA W a tg (Int32.ofNat i) v = some (pt W a (tg, l, updV S i v)) := by
  simp only [sA, wr, h, n_clamp (show i < 2147483648 by omega), n_neg (show i < 2147483648 by omega)]
  simp [hb, hi]
/-- a builder and its array on top of N -/
def tw (N W : vMe) (S B : Nat → Value) (j : Nat) : Prop := W.1 N.2.1 = (2, 0, S) ∧ W.1 (N.2.1 + 1) = (102, 16, B) ∧ (∀ q, q < N.2.1 → W.1 q = N.1 q) ∧ W.2 = (N.2.1 + 2, N.2.2.1 + 20, N.2.2.2) ∧ S 0 = .ref (N.2.1 + 1) ∧ vI (S 1) = 0 ∧ vI (S 3) = Int32.ofNat j
theorem cap8 : ∀ j, j < 8 → (Int32.ofNat (j + 1) - (Int32.ofNat 16 >>> ((0 : Int32) &&& 31))) ≤ 0 := by decide +kernel
theorem chr_b : ∀ c, c < 128 → ((Int32.ofNat c).toUInt32 % 65536).toInt32 = Int32.ofNat c ∧ ¬ (255 : Int32) < Int32.ofNat c ∧ (Int32.ofNat c).toInt8.toInt32.toInt8.toInt32 = Int32.ofNat c := by decide +kernel
theorem t_append {S B : Nat → Value} {j c : Nat} (hb : N.2.2.2 ≤ N.2.1) (h : tw N W S B j) (hj : j < 8) (hc : c < 128) : ∃ W2, tJ4_append_cf468 N.2.1 (Int32.ofNat c) W = some (N.2.1, W2) ∧ tw N W2 (updV S 3 (.int (Int32.ofNat (j + 1)))) (updV B j (.int (Int32.ofNat c))) (j + 1) := by
  obtain ⟨h1, h2, h3, h4, h5, h6, h7⟩ := h
  have w1 : W.2.1 = N.2.1 + 2 := by rw [h4]
  have w2 : W.2.2.1 = N.2.2.1 + 20 := by rw [h4]
  have w3 : W.2.2.2 = N.2.2.2 := by rw [h4]
  obtain ⟨-, k2, k3⟩ := chr_b c hc
  have g1 : (pt W N.2.1 (2, 0, updV S 3 (.int (Int32.ofNat (j + 1))))).1 (N.2.1 + 1) = (102, 16, B) := by rw [pt_ne (by omega)]; exact h2
  have en : tJ5_ensureCapacityInternal_d00df N.2.1 (Int32.ofNat (j + 1)) W = some ((), W) := by
    rw [tJ5_ensureCapacityInternal_d00df, gA_g h1 h5, Option.bind_some, aN_g h2, Option.bind_some, gI_g h1, Option.bind_some, h6, if_pos (cap8 j hj), if_pos ⟨by omega, by omega⟩]
  have is1 : tJ5_isLatin1_aae02 N.2.1 W = some 1 := by rw [tJ5_isLatin1_aae02, if_neg n10, gI_g h1, Option.bind_some, if_pos h6]
  have cn : tJ1_canEncode_fc78d (Int32.ofNat c) W = some 1 := by rw [tJ1_canEncode_fc78d, if_neg k2]
  have tg : (W.1 N.2.1).1 = 2 := by rw [h1]
  refine ⟨pt (pt W N.2.1 (2, 0, updV S 3 (.int (Int32.ofNat (j + 1))))) (N.2.1 + 1) (102, 16, updV B j (.int (Int32.ofNat c))), ?_, ?_, pt_at, fun q hq => ?_, h4, by rw [u_ne (by omega)]; exact h5, by rw [u_ne (by omega)]; exact h6, by rw [u_eq]; rfl⟩
  · have e : tJ5_append_3fe6f N.2.1 (Int32.ofNat c) W = some (N.2.1, pt (pt W N.2.1 (2, 0, updV S 3 (.int (Int32.ofNat (j + 1))))) (N.2.1 + 1) (102, 16, updV B j (.int (Int32.ofNat c)))) := by
      rw [tJ5_append_3fe6f, gI_g h1, Option.bind_some, if_pos ⟨Nat.le_refl _, Nat.le_refl _⟩, if_pos tg, h7, n_succ, en, Option.bind_some, if_pos ⟨by show W.2.1 + 0 ≤ W.2.1 + 1; omega, by show W.2.2.1 + 0 ≤ W.2.2.1 + 250; omega⟩, if_pos tg, is1, Option.bind_some, if_neg n10, if_pos ⟨by show W.2.1 + 0 ≤ W.2.1 + 1; omega, by show W.2.2.1 + 0 ≤ W.2.2.1 + 250; omega⟩, cn, Option.bind_some, if_neg n10, gA_g h1 h5, Option.bind_some, gI_g h1, Option.bind_some, h7, n_succ, sV_g h1 (by omega), Option.bind_some, k3, sA_g g1 (by show W.2.2.2 ≤ _; omega) (by omega) (by omega), Option.bind_some, if_pos ⟨by show W.2.1 ≤ _; omega, by show W.2.2.1 ≤ _; omega⟩]
    rw [tJ4_append_cf468, if_pos ⟨Nat.le_refl _, Nat.le_refl _⟩, if_pos tg, e, Option.bind_some, if_pos ⟨by show W.2.1 ≤ _; omega, by show W.2.2.1 ≤ _; omega⟩]
  · rw [pt_ne (by omega), pt_at]
  · rw [pt_ne (by omega), pt_ne (by omega)]; exact h3 q hq
theorem t_begin (hb : N.2.2.2 ≤ N.2.1) : ∃ W S B, tJ4_init_da8c8 N.2.1 (nw N 2 0 4 (vp_V [.null, .int 0, .int 0, .int 0])) = some ((), W) ∧ tw N W S B 0 := by
  obtain ⟨N1, hN1⟩ : ∃ N1, N1 = nw N 2 0 4 (vp_V [.null, .int 0, .int 0, .int 0]) := ⟨_, rfl⟩
  have a1 : N1.2 = (N.2.1 + 1, N.2.2.1 + 4, N.2.2.2) := by rw [hN1]; rfl
  have a2 : N1.1 N.2.1 = (2, 0, vp_V [.null, .int 0, .int 0, .int 0]) := by rw [hN1]; simp [nw]
  have a3 : ∀ q, q < N.2.1 → N1.1 q = N.1 q := fun q hq => by rw [hN1]; simp [nw, show q ≠ N.2.1 by omega]
  have b1 : N1.2.1 = N.2.1 + 1 := by rw [a1]
  have b2 : N1.2.2.1 = N.2.2.1 + 4 := by rw [a1]
  have b3 : N1.2.2.2 = N.2.2.2 := by rw [a1]
  obtain ⟨N2, hN2⟩ : ∃ N2, N2 = nw N1 102 16 16 (fun _ => .int 0) := ⟨_, rfl⟩
  have c1 : N2.2 = (N.2.1 + 2, N.2.2.1 + 20, N.2.2.2) := by rw [hN2]; show (N1.2.1 + 1, N1.2.2.1 + 16, N1.2.2.2) = _; rw [b1, b2, b3]
  have c2 : N2.1 (N.2.1 + 1) = (102, 16, fun _ => .int 0) := by rw [hN2, ← b1]; simp [nw]
  have c3 : N2.1 N.2.1 = (2, 0, vp_V [.null, .int 0, .int 0, .int 0]) := by rw [hN2]; simp [nw, b1, a2]
  have c4 : ∀ q, q < N.2.1 → N2.1 q = N.1 q := fun q hq => by rw [hN2]; simp [nw, b1, show q ≠ N.2.1 + 1 by omega, a3 q hq]
  have d1 : N2.2.1 = N.2.1 + 2 := by rw [c1]
  have d2 : N2.2.2.1 = N.2.2.1 + 20 := by rw [c1]
  have d3 : N2.2.2.2 = N.2.2.2 := by rw [c1]
  have s1 : sV N2 N.2.1 2 0 (.ref (N.2.1 + 1)) = _ := sV_g c3 (by omega)
  have s2 : sV (pt N2 N.2.1 (2, 0, updV (vp_V [.null, .int 0, .int 0, .int 0]) 0 (.ref (N.2.1 + 1)))) N.2.1 2 1 (.int 0) = _ := sV_g pt_at (by show N2.2.2.2 ≤ _; omega)
  rw [← hN1]
  refine ⟨pt (pt N2 N.2.1 (2, 0, updV (vp_V [.null, .int 0, .int 0, .int 0]) 0 (.ref (N.2.1 + 1)))) N.2.1 (2, 0, updV (updV (vp_V [.null, .int 0, .int 0, .int 0]) 0 (.ref (N.2.1 + 1))) 1 (.int 0)), _, fun _ => .int 0, ?_, pt_at, ?_, fun q hq => ?_, c1, by rw [u_ne (by omega), u_eq], by rw [u_eq]; rfl, by rw [u_ne (by omega), u_ne (by omega)]; rfl⟩
  · have cl : (16 : Int32).toNatClampNeg = 16 := by decide
    have e : tJ5_init_d00df N.2.1 16 N1 = some ((), pt (pt N2 N.2.1 (2, 0, updV (vp_V [.null, .int 0, .int 0, .int 0]) 0 (.ref (N.2.1 + 1)))) N.2.1 (2, 0, updV (updV (vp_V [.null, .int 0, .int 0, .int 0]) 0 (.ref (N.2.1 + 1))) 1 (.int 0))) := by
      rw [tJ5_init_d00df, if_neg n10, if_pos ⟨by decide, by decide⟩, cl]
      unfold nwO
      rw [if_pos ⟨by omega, by omega, by omega⟩, Option.bind_some, ← hN2, b1, s1, Option.bind_some, s2, Option.bind_some, if_pos ⟨by show N2.2.1 ≤ _; omega, by show N2.2.2.1 ≤ _; omega⟩]
    rw [tJ4_init_da8c8, if_pos ⟨Nat.le_refl _, Nat.le_refl _⟩, e, Option.bind_some, if_pos ⟨by show N2.2.1 ≤ _; omega, by show N2.2.2.1 ≤ _; omega⟩]
  · rw [pt_ne (by omega), pt_ne (by omega)]; exact c2
  · rw [pt_ne (by omega), pt_ne (by omega)]; exact c4 q hq
end
