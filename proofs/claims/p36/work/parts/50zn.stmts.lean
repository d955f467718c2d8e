section
variable {KK : Nat → vOb} {M N : vMe} {x r b y u hz n k clk lo s v A p cap n0 s0 : Nat} {E : Nat → Nat → Value} {Gs : Nat → Nat} {l : List Nat}
def wordT (add : Bool) : List Nat := if add = true then [97, 100, 100, 32] else [114, 101, 109, 111, 118, 101, 32]
def markT (mk : Bool) : List Nat := if mk = true then [109, 97, 114, 107, 59] else []
def stmT (add : Bool) (s : Nat) (nums : List Nat) (mk : Bool) : List Nat := wordT add ++ [97 + s] ++ numsT nums ++ [59] ++ markT mk
def stmR (b : Nat) (add : Bool) (s : Nat) (nums : List Nat) (mk : Bool) (E E2 : Nat → Nat → Value) (k k2 : Nat) : Prop := ∃ E1, numsR b s add nums E E1 ∧ E1 42 = E 42 ∧ ((mk = true ∧ E2 = mkE E1 k ∧ k2 = k + 1) ∨ (mk = false ∧ E2 = E1 ∧ k2 = k))
set_option maxRecDepth 20000 in
/-- one statement -/
theorem stm_P {x4 : Int32} {add : Bool} (hs : s < n) (hn5 : n ≤ 5) (w : CW KK (cut N lo) x r b y E) (hl : lo ≤ N.2.1) (g : GH b u hz n k clk E) (hclk : clk + 6 < 2000) (hk : k < 8) (sb : sbC N A p lo cap l) (hcap : capI cap) (hlen : l.length + 32 ≤ 200) (dg : dgs N Gs lo) (hd : (Gs 201 ≠ y ∧ ¬ eA b E (Gs 201)) ∧ Gs 202 ≠ y ∧ ¬ eA b E (Gs 202))
    (so : sOk N b lo y E (if add = true then Gs 22 else Gs 23) (wordT add)) (so4 : sOk N b lo y E (Gs 24) [109, 97, 114, 107, 59]) (h1 : N.2.1 + 22 ≤ n0 + 4000) (h2 : N.2.2.1 + 4036 ≤ s0 + 200000) :
    ∃ N2 p2 cap2 E2 clk2 k2 nums mk, (∀ rec, tL_plays_J211_168 Gs rec n0 s0 x y b A x4 (Int32.ofNat s) (if add = true then 1 else 0) A (if add = true then Gs 22 else Gs 23) N = rec (x4 + (-1)) N2) ∧ (1 ≤ nums.length ∧ nums.length ≤ 6 ∧ ∀ v, v ∈ nums → v < u) ∧ sbC N2 A p2 lo cap2 (l ++ stmT add s nums mk) ∧ capI cap2 ∧ CW KK (cut N2 lo) x r b y E2 ∧ GH b u hz n k2 clk2 E2 ∧ clk2 ≤ clk + 6 ∧ stmR b add s nums mk E E2 k k2 ∧ k2 ≤ k + 1 ∧ E2 42 = E 42 ∧ kp N N2 b lo y E ∧ lo ≤ N2.2.1 ∧ N2.2.1 ≤ N.2.1 + 22 ∧ N2.2.2.1 ≤ N.2.2.1 + 4036 ∧ N2.2.2.2 = N.2.2.2 ∧ (stmT add s nums mk).length ≤ 32 := by
  have tgN : ∀ {W : vMe} {p' cap' : Nat} {l' : List Nat}, sbC W A p' lo cap' l' → (W.1 A).1 = 2 := fun h => by obtain ⟨S, B, i1, -⟩ := h; rw [i1]
  have sbF : ∀ {W : vMe} {p' cap' : Nat} {l' : List Nat}, sbC W A p' lo cap' l' → lo ≤ A ∧ lo ≤ p' ∧ A < W.2.1 ∧ p' < W.2.1 ∧ l'.length ≤ cap' := fun h => by
    obtain ⟨S, B, i1, i2, i3, i4, i5, i6, ⟨i8, i9, i10, i11, i12, i13⟩, i14⟩ := h
    exact ⟨i8, i9, i11, i12, i6.1⟩
  obtain ⟨he, ho, hA, hy, hb, hny⟩ := CW_h w
  have nA : ∀ z, lo ≤ z → ¬ eA b E z := fun z hz q => by have := hA z q; omega
  obtain ⟨v1, v2, v3, v4, v5⟩ := sbF sb
  have wl : (wordT add).length ≤ 7 := by unfold wordT; split <;> simp
  -- the word
  have so0 := so
  obtain ⟨o, t1, ⟨t2, t3, t4⟩, t5, t6, t7⟩ := so0
  obtain ⟨N1, p1, cap1, a1, a2, a3, ⟨a41, a42, a43, a44, a45⟩, a5⟩ := sb_str sb t1 ⟨⟨by omega, by omega⟩, ⟨by omega, by omega⟩, by omega, by omega⟩ (capI_2 hcap (show l.length + (wordT add).length ≤ 200 by omega) v5 (by omega)) (by omega)
  have hcap1 := capI_up hcap (by omega) a3
  have l1 : (l ++ wordT add).length = l.length + (wordT add).length := List.length_append
  obtain ⟨f1, f2, f3, f4, f5⟩ := sbF a2
  -- the set
  obtain ⟨N2, p2, cap2, c1, c2, c3, ⟨c41, c42, c43, c44, c45⟩, c5⟩ := sb_chr (c := 97 + s) a2 (capI_1 hcap1 (by omega)) (by omega) (by omega)
  have hcap2 := capI_up hcap1 (by omega) c3
  have l2 : (l ++ wordT add ++ [97 + s]).length = l.length + (wordT add).length + 1 := by rw [List.length_append, l1]; rfl
  have fr2 : ∀ z, z < lo → N2.1 z = N.1 z := fun z hz => by rw [c41 z (by omega) (by omega) (by omega), a41 z (by omega) (by omega) (by omega)]
  have w2 : CW KK (cut N2 lo) x r b y E := CW_cut w fr2 (by omega)
  obtain ⟨j, N3, hj, d1, d2, d3, w3⟩ := draw_C w2 (show 1 ≤ 6 by omega) (by omega)
  obtain ⟨g1, g2, g3, g4, g5⟩ := sbF c2
  have sb3 : sbC N3 A p2 lo cap2 (l ++ wordT add ++ [97 + s]) := sbC_mv c2 (d3 A (by omega)) (d3 p2 (by omega)) (by rw [d2]; exact Nat.le_refl _) (by rw [d2])
  have k3 : kp N N3 b lo y E := fun z z1 z2 z3 => (d3 z z2).trans (fr2 z z1)
  have e3 : N3.2.1 = N2.2.1 := by rw [d2]
  have e3' : N3.2.2.1 = N2.2.2.1 := by rw [d2]
  have e3'' : N3.2.2.2 = N2.2.2.2 := by rw [d2]
  -- the numbers
  obtain ⟨N4, p4, cap4, E4, clk4, nums, m1, m2, m3, m4, m5, m6, m7, m8, m9, m10, m11, m12, m13, m14, m15, m16⟩ := nums_L (x0 := x) (x4 := x4) (add := add) (n0 := n0) (s0 := s0) hs hn5 (1 + j) vF N3 (l ++ wordT add ++ [97 + s]) p2 cap2 E clk (by unfold vF; omega) w3 (by omega) g (by omega) sb3 hcap2 (by omega) (dgs_mv dg hd k3) hd (by omega) (by omega)
  have k4 : kp N N4 b lo y E := fun z z1 z2 z3 => (m11 z z1 z2 z3).trans (k3 z z1 z2 z3)
  have l4 : (l ++ wordT add ++ [97 + s] ++ numsT nums).length ≤ l.length + (wordT add).length + 1 + 18 := by rw [List.length_append, l2]; omega
  -- the end
  obtain ⟨N5, p5, cap5, q1, q2, q3, ⟨q41, q42, q43, q44, q45⟩, q5⟩ := sb_chr (c := 59) m4 (capI_1 m5 (by omega)) (by omega) (by omega)
  have hcap5 := capI_up m5 (by omega) q3
  have l5 : (l ++ wordT add ++ [97 + s] ++ numsT nums ++ [59]).length = (l ++ wordT add ++ [97 + s] ++ numsT nums).length + 1 := by rw [List.length_append]; rfl
  obtain ⟨h41, h42, h43, h44, h45⟩ := sbF m4
  have w5 : CW KK (cut N5 lo) x r b y E4 := CW_cut m6 (fun z hz => q41 z (by omega) (by omega) (by omega)) (by omega)
  have k5 : kp N N5 b lo y E := fun z z1 z2 z3 => (q41 z (by omega) (by omega) (by omega)).trans (k4 z z1 z2 z3)
  obtain ⟨jm, N6, hjm, r1, r2, r3, w6⟩ := draw_C w5 (show 1 ≤ 3 by omega) (by omega)
  obtain ⟨i51, i52, i53, i54, i55⟩ := sbF q2
  have sb6 : sbC N6 A p5 lo cap5 (l ++ wordT add ++ [97 + s] ++ numsT nums ++ [59]) := sbC_mv q2 (r3 A (by omega)) (r3 p5 (by omega)) (by rw [r2]; exact Nat.le_refl _) (by rw [r2])
  have k6 : kp N N6 b lo y E := fun z z1 z2 z3 => (r3 z z2).trans (k5 z z1 z2 z3)
  have e6 : N6.2.1 = N5.2.1 := by rw [r2]
  have e6' : N6.2.2.1 = N5.2.2.1 := by rw [r2]
  have e6'' : N6.2.2.2 = N5.2.2.2 := by rw [r2]
  have eA4 : ∀ z, eA b E4 z ↔ eA b E z := eA_eq m10
  have nl : nums.length = 1 + j := m2
  have J : ∀ rec, tL_plays_J211_168 Gs rec n0 s0 x y b A x4 (Int32.ofNat s) (if add = true then 1 else 0) A (if add = true then Gs 22 else Gs 23) N = if Int32.ofNat jm ≤ 0 then ((gA N6 b 14 8).bind fun a57 => (gI N6 b 14 5).bind fun v58 => (sV N6 b 14 5 (.int (v58 + 1))).bind fun M59 => (gI M59 b 14 3).bind fun v60 => (sA M59 a57 101 v58 (.int v60)).bind fun M61 => if M61.2.1 + 1 ≤ n0 + 4000 ∧ M61.2.2.1 + 250 ≤ s0 + 200000 then (if (M61.1 A).1 = 2 then ((tJ4_append_15ec4 A (Gs 24) M61).bind fun z62 => tL_plays_J347_168 rec n0 s0 x y b A x4 z62.2) else none) else none) else tL_plays_J347_168 rec n0 s0 x y b A x4 N6 := fun rec => by
    rw [tL_plays_J211_168, if_pos ⟨by omega, by omega⟩, if_pos (tgN sb), a1, Option.bind_some]
    dsimp only
    rw [if_pos ⟨by omega, by omega⟩, if_pos (tgN a2), chr97 s (by omega), c1, Option.bind_some]
    dsimp only
    rw [if_pos ⟨by omega, by omega⟩, show tL_draw y 6 N2 = tL_draw y (Int32.ofNat 6) N2 from rfl, d1, Option.bind_some]
    dsimp only
    rw [show (1 : Int32) + Int32.ofNat j = Int32.ofNat (1 + j) from n_add 1 j, m1, Option.bind_some]
    dsimp only
    rw [if_pos ⟨by omega, by omega⟩, if_pos (tgN m4), show tJ4_append_cf468 A 59 N4 = some (A, N5) from q1, Option.bind_some]
    dsimp only
    rw [if_pos ⟨by omega, by omega⟩, show tL_draw y 3 N5 = tL_draw y (Int32.ofNat 3) N5 from rfl, r1, Option.bind_some]
  by_cases qm : Int32.ofNat jm ≤ 0
  · -- with a mark
    obtain ⟨M71, N7, u1, u2, u3, u4, u5, u6, u7, u8, u9, u10⟩ := tp_mark w6 (by omega) m7 hk
    have e7 : N7.2.1 = N6.2.1 := by rw [u6]
    have e7' : N7.2.2.1 = N6.2.2.1 := by rw [u6]
    have e7'' : N7.2.2.2 = N6.2.2.2 := by rw [u6]
    have n4 : ∀ z, lo ≤ z → ¬ eA b E4 z := fun z hz q => nA z hz ((eA4 z).mp q)
    have sb7 : sbC N7 A p5 lo cap5 (l ++ wordT add ++ [97 + s] ++ numsT nums ++ [59]) := sbC_mv sb6 (u7 A (n4 A i51)) (u7 p5 (n4 p5 i52)) (by rw [u6]; exact Nat.le_refl _) (by rw [u6])
    have k7 : kp N N7 b lo y E := fun z z1 z2 z3 => (u7 z (fun q => z3 ((eA4 z).mp q))).trans (k6 z z1 z2 z3)
    have so7 := so4.mv (E2 := E) k7 rfl
    obtain ⟨o4, s1, ⟨s2, s3, s4⟩, s5, s6, s7⟩ := so7
    have h5' : ([109, 97, 114, 107, 59] : List Nat).length = 5 := rfl
    obtain ⟨N8, p8, cap8, x1, x2, x3, ⟨x41, x42, x43, x44, x45⟩, x5⟩ := sb_str sb7 s1 ⟨⟨by omega, by omega⟩, ⟨by omega, by omega⟩, by omega, by omega⟩ (capI_2 hcap5 (show (l ++ wordT add ++ [97 + s] ++ numsT nums ++ [59]).length + 5 ≤ 200 by omega) i55 (by omega)) (show (l ++ wordT add ++ [97 + s] ++ numsT nums ++ [59]).length + 5 ≤ 250 by omega)
    have hcap8 := capI_up hcap5 (show (l ++ wordT add ++ [97 + s] ++ numsT nums ++ [59]).length + 5 ≤ 200 by omega) x3
    have w8 : CW KK (cut N8 lo) x r b y (mkE E4 k) := CW_cut u8 (fun z hz => x41 z (by omega) (by omega) (by omega)) (by omega)
    refine ⟨N8, p8, cap8, mkE E4 k, clk4, k + 1, nums, true, fun rec => ?_, ⟨by omega, by omega, m3⟩, ?_, hcap8, w8, u9, by omega, ⟨E4, m9, m10, .inl ⟨rfl, rfl, rfl⟩⟩, by omega, u10.trans m10, fun z z1 z2 z3 => (x41 z (by omega) (by omega) (by omega)).trans (k7 z z1 z2 z3), by omega, by omega, by omega, by omega, ?_⟩
    · rw [J, if_pos qm, u1, Option.bind_some, u2, Option.bind_some, u3, Option.bind_some, u4, Option.bind_some, u5, Option.bind_some, if_pos ⟨by omega, by omega⟩, if_pos (tgN sb7), x1, Option.bind_some]
      rfl
    · rw [stmT, markT, if_pos rfl]
      simpa using x2
    · rw [stmT, markT, if_pos rfl, List.length_append, List.length_append, List.length_append, List.length_append]
      show (wordT add).length + 1 + (numsT nums).length + 1 + 5 ≤ 32
      omega
  · refine ⟨N6, p5, cap5, E4, clk4, k, nums, false, fun rec => ?_, ⟨by omega, by omega, m3⟩, ?_, hcap5, w6, m7, by omega, ⟨E4, m9, m10, .inr ⟨rfl, rfl, rfl⟩⟩, by omega, m10, k6, by omega, by omega, by omega, by omega, ?_⟩
    · rw [J, if_neg qm]
      rfl
    · rw [stmT, markT, if_neg (by decide), List.append_nil]
      simpa using sb6
    · rw [stmT, markT, if_neg (by decide), List.append_nil, List.length_append, List.length_append, List.length_append]
      show (wordT add).length + 1 + (numsT nums).length + 1 ≤ 32
      omega
end
