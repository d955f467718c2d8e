section
variable {KK : Nat → vOb} {M N : vMe} {x r b y u hz n k clk lo s v A p cap n0 s0 : Nat} {E : Nat → Nat → Value} {Gs : Nat → Nat} {l : List Nat}
theorem GH_h (g : GH b u hz n k clk E) : gt E 0 0 = Int32.ofNat n ∧ gt E 0 1 = Int32.ofNat u ∧ 1 ≤ u ∧ u ≤ 64 ∧ n ≤ 5 ∧ gt E 0 5 = Int32.ofNat k ∧ k ≤ 8 := by
  obtain ⟨Cg, Fg, Mg, ag, g1, g2, g3, g4⟩ := g
  obtain ⟨R0, R1, R2, R3, R4, R5⟩ := R_h g3
  exact ⟨R0.symm.trans g2.1.2.2.1.1, R1.symm.trans g2.1.1.1, g2.1.1.2.1, g2.1.1.2.2, g2.1.2.2.1.2, R4.symm.trans g2.1.2.2.2.1, g2.1.2.2.2.2⟩
theorem sbC_mv (h : sbC M A p lo cap l) (e1 : N.1 A = M.1 A) (e2 : N.1 p = M.1 p) (hm : M.2.1 ≤ N.2.1) (hb : N.2.2.2 = M.2.2.2) : sbC N A p lo cap l := by
  obtain ⟨S, B, i1, i2, i3, i4, i5, i6, ⟨i8, i9, i10, i11, i12, i13⟩, i14⟩ := h
  exact ⟨S, B, e1.trans i1, i2, i3, i4, e2.trans i5, i6, ⟨i8, i9, i10, by omega, by omega, by omega⟩, i14⟩
/-- the capacities that there are -/
def capI (c : Nat) : Prop := (25 ≤ c ∧ c ≤ 27) ∨ (52 ≤ c ∧ c ≤ 56) ∨ (106 ≤ c ∧ c ≤ 114) ∨ (214 ≤ c ∧ c ≤ 230)
theorem capI_up {c c2 q : Nat} (h : capI c) (hq : q ≤ 200) (e : (q ≤ c ∧ c2 = c) ∨ (c < q ∧ c2 = 2 * c + 2)) : capI c2 := by
  unfold capI at *; omega
theorem capI_1 {c q : Nat} (h : capI c) (hq : q ≤ 200) : q ≤ c ∨ (c ≤ 124 ∧ 16 ≤ c) := by
  unfold capI at h; omega
theorem capI_2 {c q q0 : Nat} (h : capI c) (hq : q ≤ 200) (h0 : q0 ≤ c) (h8 : q ≤ q0 + 8) : q ≤ c ∨ (c ≤ 124 ∧ q ≤ 2 * c + 2) := by
  unfold capI at h; omega
/-- what is kept apart of the text, the draws and the law's sets -/
def kp (N N2 : vMe) (b lo y : Nat) (E : Nat → Nat → Value) : Prop := ∀ z, z < lo → z ≠ y → ¬ eA b E z → N2.1 z = N.1 z
theorem dgs_mv (h : dgs N Gs lo) (hd : (Gs 201 ≠ y ∧ ¬ eA b E (Gs 201)) ∧ Gs 202 ≠ y ∧ ¬ eA b E (Gs 202)) (e : kp N M b lo y E) : dgs M Gs lo := by
  obtain ⟨⟨q1, q2⟩, D1, D2, d1, d2, d3⟩ := h
  exact ⟨⟨q1, q2⟩, D1, D2, by rw [e _ q1 hd.1.1 hd.1.2]; exact d1, by rw [e _ q2 hd.2.1 hd.2.2]; exact d2, d3⟩
def numsT : List Nat → List Nat
  | [] => []
  | v :: vs => (32 :: dec v) ++ numsT vs
def numsR (b s : Nat) (add : Bool) : List Nat → (Nat → Nat → Value) → (Nat → Nat → Value) → Prop
  | [], E, E2 => E2 = E
  | v :: vs, E, E2 => ∃ E1, (if add = true then TrA b s v E E1 else TrR b s v E E1) ∧ E1 42 = E 42 ∧ numsR b s add vs E1 E2
set_option maxRecDepth 20000 in
theorem nums_L {x0 : Nat} {x4 : Int32} {add : Bool} (hs : s < n) (hn0 : n ≤ 5) : ∀ (c f : Nat) (N : vMe) (l : List Nat) (p cap : Nat) (E : Nat → Nat → Value) (clk : Nat), c < f → CW KK (cut N lo) x r b y E → lo ≤ N.2.1 → GH b u hz n k clk E → clk + c < 2000 → sbC N A p lo cap l → capI cap → l.length + 3 * c ≤ 200 → dgs N Gs lo → ((Gs 201 ≠ y ∧ ¬ eA b E (Gs 201)) ∧ Gs 202 ≠ y ∧ ¬ eA b E (Gs 202)) → N.2.1 + 3 * c ≤ n0 + 4000 → N.2.2.1 + 506 * c ≤ s0 + 200000 →
    ∃ N2 p2 cap2 E2 clk2 nums, tL_plays_L234 Gs n0 s0 x0 y b A x4 (Int32.ofNat s) (if add = true then 1 else 0) f (Int32.ofNat c) N = some ((), N2) ∧ nums.length = c ∧ (∀ v, v ∈ nums → v < u) ∧ sbC N2 A p2 lo cap2 (l ++ numsT nums) ∧ capI cap2 ∧ CW KK (cut N2 lo) x r b y E2 ∧ GH b u hz n k clk2 E2 ∧ clk2 ≤ clk + c ∧ numsR b s add nums E E2 ∧ E2 42 = E 42 ∧ kp N N2 b lo y E ∧ lo ≤ N2.2.1 ∧ N2.2.1 ≤ N.2.1 + 3 * c ∧ N2.2.2.1 ≤ N.2.2.1 + 506 * c ∧ (numsT nums).length ≤ 3 * c ∧ N2.2.2.2 = N.2.2.2 := by
  intro c
  induction c with
  | zero =>
    intro f N l p cap E clk hf w hl g hc sb hcap hlen dg hd h1 h2
    obtain ⟨f, rfl⟩ : ∃ g, f = g + 1 := ⟨f - 1, by omega⟩
    refine ⟨N, p, cap, E, clk, [], by rw [tL_plays_L234, if_pos (by decide)], rfl, (fun v hv => by cases hv), by rw [numsT, List.append_nil]; exact sb, hcap, w, g, by omega, rfl, rfl, fun _ _ _ _ => rfl, hl, by omega, by omega, Nat.zero_le _, rfl⟩
  | succ c ih =>
    intro f N l p cap E clk hf w hl g hc sb hcap hlen dg hd h1 h2
    obtain ⟨f, rfl⟩ : ∃ g, f = g + 1 := ⟨f - 1, by omega⟩
    obtain ⟨he, ho, hA, hy, hb, hny⟩ := CW_h w
    obtain ⟨e0, e1, hu1, hu64, -, -, -⟩ := GH_h g
    obtain ⟨v, N1, hv, d1, d2, d3, w1⟩ := draw_C w hu1 (by omega)
    obtain ⟨he1, ho1, -⟩ := CW_h w1
    have hs5 : s < 5 := by omega
    have sbA : lo ≤ A ∧ lo ≤ p := by
      obtain ⟨S, B, i1, i2, i3, i4, i5, i6, ⟨i8, i9, i10, i11, i12, i13⟩, i14⟩ := sb
      exact ⟨i8, i9⟩
    have sb1 : sbC N1 A p lo cap l := sbC_mv sb (d3 A (by omega)) (d3 p (by omega)) (by rw [d2]; exact Nat.le_refl _) (by rw [d2])
    have hl1 : lo ≤ N1.2.1 := by rw [d2]; exact hl
    -- the law's own change
    have op : ∃ N2 E2 clk2, (∀ K : vMe → Option (Unit × vMe), (if (if add = true then (1 : Int32) else 0) = 0 then ((gA N1 b 14 6).bind fun a45 => (aA N1 a45 109 (Int32.ofNat s)).bind fun a46 => if N1.2.1 + 1 ≤ n0 + 4000 ∧ N1.2.2.1 + 6 ≤ s0 + 200000 then (if (N1.1 b).1 = 14 then ((tX12_remove b a46 (Int32.ofNat v) N1).bind fun z47 => K z47.2) else none) else none) else ((gA N1 b 14 6).bind fun a50 => (aA N1 a50 109 (Int32.ofNat s)).bind fun a51 => if N1.2.1 + 0 ≤ n0 + 4000 ∧ N1.2.2.1 + 0 ≤ s0 + 200000 then (if (N1.1 b).1 = 14 then ((tX12_add b a51 (Int32.ofNat v) N1).bind fun z52 => K z52.2) else none) else none)) = K N2) ∧ (N2.2.2.2 = N1.2.2.2 ∧ N1.2.1 ≤ N2.2.1 ∧ N2.2.1 ≤ N1.2.1 + 1 ∧ N2.2.2.1 ≤ N1.2.2.1 + 6) ∧ (∀ z, z < N1.2.1 → ¬ eA b E z → N2.1 z = N1.1 z) ∧ CW KK (cut N2 lo) x r b y E2 ∧ GH b u hz n k clk2 E2 ∧ clk ≤ clk2 ∧ clk2 ≤ clk + 1 ∧ E2 42 = E 42 ∧ (if add = true then TrA b s v E E2 else TrR b s v E E2) := by
      have q1 : N1.2.1 + 1 ≤ n0 + 4000 := by rw [d2]; omega
      have q2 : N1.2.2.1 + 6 ≤ s0 + 200000 := by rw [d2]; omega
      cases add with
      | true =>
        obtain ⟨N2, E2, clk2, o1, o2, o3, o4, o5, o6, o7, o8, o9⟩ := tp_add w1 hl1 g (by omega) hs hv
        refine ⟨N2, E2, clk2, fun K => ?_, ⟨by rw [o2], by rw [o2]; exact Nat.le_refl _, by rw [o2]; omega, by rw [o2]; omega⟩, fun z _ hz => o3 z hz, o4, o5, o6, o7, o8, o9⟩
        rw [if_pos rfl, if_neg n10, he1.A6 ho1, Option.bind_some, he1.box ho1 hs5, Option.bind_some, if_pos ⟨by omega, by omega⟩, if_pos he1.t, o1, Option.bind_some]
      | false =>
        obtain ⟨N2, E2, clk2, z0, o1, o2, o3, o4, o5, o6, o7, o8, o9⟩ := tp_rem w1 hl1 g (by omega) hs hv
        refine ⟨N2, E2, clk2, fun K => ?_, o2, o3, o4, o5, o6, o7, o8, o9⟩
        rw [if_neg (show ¬ false = true by decide), if_pos rfl, he1.A6 ho1, Option.bind_some, he1.box ho1 hs5, Option.bind_some, if_pos ⟨q1, q2⟩, if_pos he1.t, o1, Option.bind_some]
    obtain ⟨N2, E2, clk2, o1, ⟨o21, o22, o23, o24⟩, o3, o4, o5, o6, o7, o8, o9⟩ := op
    have r2 : N1.2.1 = N.2.1 := by rw [d2]
    have r3 : N1.2.2.1 = N.2.2.1 := by rw [d2]
    have r4 : N1.2.2.2 = N.2.2.2 := by rw [d2]
    have nA : ∀ z, lo ≤ z → ¬ eA b E z := fun z hz q => by have := hA z q; omega
    have sbL : A < N.2.1 ∧ p < N.2.1 := by
      obtain ⟨S, B, i1, i2, i3, i4, i5, i6, ⟨i8, i9, i10, i11, i12, i13⟩, i14⟩ := sb
      exact ⟨i11, i12⟩
    have sb2 : sbC N2 A p lo cap l := sbC_mv sb1 (o3 A (by omega) (nA A sbA.1)) (o3 p (by omega) (nA p sbA.2)) o22 o21
    have k2 : kp N N2 b lo y E := fun z z1 z2 z3 => (o3 z (by omega) z3).trans (d3 z z2)
    have dl : (dec v).length ≤ 2 ∧ 1 ≤ (dec v).length := by rw [dec_len]; split <;> omega
    obtain ⟨N3, p3, cap3, c1, c2, c3, ⟨c41, c42, c43, c44, c45⟩, c5⟩ := sb_chr (c := 32) sb2 (capI_1 hcap (by omega)) (by omega) (by omega)
    have hcap3 := capI_up hcap (by omega) c3
    have k3 : kp N N3 b lo y E := fun z z1 z2 z3 => (c41 z (by omega) (by omega) (by omega)).trans (k2 z z1 z2 z3)
    have ll : (l ++ [32]).length = l.length + 1 := by rw [List.length_append]; rfl
    obtain ⟨N4, p4, cap4, f1, f2, f3, ⟨f41, f42, f43, f44, f45⟩, f5⟩ := sb_int (v := v) c2 (dgs_mv dg hd k3) (by omega) (capI_1 hcap3 (by omega)) (by omega)
    have hcap4 := capI_up hcap3 (by omega) f3
    have sbA3 : lo ≤ p3 := by
      obtain ⟨S, B, i1, i2, i3, i4, i5, i6, ⟨i8, i9, i10, i11, i12, i13⟩, i14⟩ := c2
      exact i9
    have k4 : kp N N4 b lo y E := fun z z1 z2 z3 => (f41 z (by omega) (by omega) (by omega)).trans (k3 z z1 z2 z3)
    have w4 : CW KK (cut N4 lo) x r b y E2 := CW_cut o4 (fun z hz => (f41 z (by omega) (by omega) (by omega)).trans (c41 z (by omega) (by omega) (by omega))) (f45.trans c45)
    have eA2 : ∀ z, eA b E2 z ↔ eA b E z := eA_eq o8
    have lT : (l ++ [32] ++ dec v).length ≤ l.length + 3 := by rw [List.length_append, ll]; omega
    obtain ⟨N5, p5, cap5, E5, clk5, nums, t1, t2, t3, t4, t5, t6, t7, t8, t9, t10, t11, t12, t13, t14, t15, t16⟩ := ih f N4 (l ++ [32] ++ dec v) p4 cap4 E2 clk2 (by omega) w4 (by omega) o5 (by omega) f2 hcap4 (by omega) (dgs_mv dg hd k4) (by simp only [eA2]; exact hd) (by omega) (by omega)
    have tgN : ∀ {W : vMe} {p' cap' : Nat} {l' : List Nat}, sbC W A p' lo cap' l' → (W.1 A).1 = 2 := fun h => by obtain ⟨S, B, i1, -⟩ := h; rw [i1]
    refine ⟨N5, p5, cap5, E5, clk5, v :: nums, ?_, by rw [List.length_cons, t2], fun q hq => ?_, ?_, t5, t6, t7, by omega, ⟨E2, o9, o8, t9⟩, t10.trans o8, fun z z1 z2 z3 => (t11 z z1 z2 (fun q => z3 ((eA2 z).mp q))).trans (k4 z z1 z2 z3), t12, by omega, by omega, ?_, by omega⟩
    · have md : Int32.ofNat (c + 1) + (-1) = Int32.ofNat c := by rw [← Int32.sub_eq_add_neg, n_pred (by omega), Nat.add_sub_cancel]
      have J : tL_plays_J284_234 Gs (tL_plays_L234 Gs n0 s0 x0 y b A x4 (Int32.ofNat s) (if add = true then 1 else 0) f) n0 s0 x0 y b A x4 (Int32.ofNat s) (if add = true then 1 else 0) (Int32.ofNat (c + 1)) (Int32.ofNat v) N2 = some ((), N5) := by
        rw [tL_plays_J284_234, if_pos ⟨by omega, by omega⟩, if_pos (tgN sb2), show tJ4_append_cf468 A 32 N2 = some (A, N3) from c1, Option.bind_some]
        dsimp only
        rw [if_pos ⟨by omega, by omega⟩, if_pos (tgN c2), f1, Option.bind_some, md]
        exact t1
      rw [tL_plays_L234, if_neg (show ¬ Int32.ofNat (c + 1) ≤ 0 from fun g => by have := (n_le (b := 0) (by omega) (by omega)).mp g; omega), he.I0 ho, Option.bind_some, e1, if_pos ⟨by omega, by omega⟩, d1, Option.bind_some]
      dsimp only
      exact (o1 (fun N2 => tL_plays_J284_234 Gs (tL_plays_L234 Gs n0 s0 x0 y b A x4 (Int32.ofNat s) (if add = true then 1 else 0) f) n0 s0 x0 y b A x4 (Int32.ofNat s) (if add = true then 1 else 0) (Int32.ofNat (c + 1)) (Int32.ofNat v) N2)).trans J
    · rcases List.mem_cons.mp hq with e | e
      · rw [e]; exact hv
      · exact t3 q e
    · rw [numsT, show l ++ (32 :: dec v ++ numsT nums) = l ++ [32] ++ dec v ++ numsT nums from by simp]
      exact t4
    · rw [numsT, List.length_append, List.length_cons]; omega
end
