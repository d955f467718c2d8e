section
variable {KK : Nat → vOb} {M N : vMe} {x r b y u hz n k clk lo s v A p cap n0 s0 : Nat} {E : Nat → Nat → Value} {Gs : Nat → Nat} {l : List Nat}
/-- a mark, on the law's side -/
theorem tp_mark (w : CW KK (cut N lo) x r b y E) (hl : lo ≤ N.2.1) (g : GH b u hz n k clk E) (hk : k < 8) : ∃ M71 N2, gA N b 14 8 = some (b + 43) ∧ gI N b 14 5 = some (Int32.ofNat k) ∧ sV N b 14 5 (.int (Int32.ofNat k + 1)) = some M71 ∧ gI M71 b 14 3 = some (gt E 0 3) ∧ sA M71 (b + 43) 101 (Int32.ofNat k) (.int (gt E 0 3)) = some N2 ∧ N2.2 = N.2 ∧ (∀ z, ¬ eA b E z → N2.1 z = N.1 z) ∧ CW KK (cut N2 lo) x r b y (mkE E k) ∧ GH b u hz n (k + 1) clk (mkE E k) ∧ mkE E k 42 = E 42 := by
  have gh := GH_h g
  obtain ⟨Cg, Fg, Mg, ag, g1, g2, g3, g4⟩ := g
  obtain ⟨G, F, a, d, C, u0, hz0, n0, k0, w1, w4, w5, w6, w7, w8⟩ := w
  have he : hE N b E := w4
  have ho : eOk N b E := w5
  obtain ⟨E1, hE1⟩ : ∃ E1, E1 = pu E 0 5 (.int (Int32.ofNat k + 1)) := ⟨_, rfl⟩
  have o1 : eOk N b E1 := hE1 ▸ eOk_pu ho (eFr0 (by omega))
  have e2 : mkE E k = pu E1 43 k (.int (gt E 0 3)) := by
    rw [hE1]
    unfold mkE
    rw [n_succ]
    funext i j
    unfold pu
    by_cases h0 : i = 0
    · subst h0
      rw [if_pos rfl, if_neg (by omega), if_neg (by omega), if_pos rfl]
    · rw [if_neg h0]
      by_cases h1 : i = 43
      · subst h1
        rw [if_pos rfl, if_pos rfl, if_neg (by omega)]
      · rw [if_neg h1, if_neg h1, if_neg h0]
  have o2 : eOk N b (mkE E k) := by rw [e2]; exact eOk_pu o1 eFrK
  have c42 : mkE E k 42 = E 42 := by
    unfold mkE
    rw [pu_o (by omega), pu_o (by omega)]
  obtain ⟨C2, c1, c2, c3, c4, c5, c6, c7⟩ := mark_E (M := Mg) (a := ag) (b := b) g2 g3 g4 hk g1
  have o2c : eOk (cut N lo) b (mkE E k) := o2
  have sp := sep_law w6 (gro.rf (q := 0)) c42 o2c
  have s2 := simD_ew w1 w4 w6 (gro.rf (q := 0)) c42 o2c
  have q1 : sV N b 14 5 (.int (Int32.ofNat k + 1)) = some (ew N b E1) := by
    have := e_S0 (k := 5) (v := .int (Int32.ofNat k + 1)) ho
    rw [he.eq ho] at this; rw [this, hE1]
  refine ⟨ew N b E1, ew N b (mkE E k), he.A8 ho, by rw [he.I0 ho, gh.2.2.2.2.2.1], q1, ?_, ?_, rfl, fun z hz => ew_out o2 (fun q => hz ((eA_eq c42 z).mp q)), ⟨G, F, a, d, C, u0, hz0, n0, k0, s2, hE_ew o2c, eOk_ew o2c, sp, w7, w8⟩, ⟨C2, _, Mg, ag, c2, c6, gRow_1, c7⟩, c42⟩
  · rw [e_I0, hE1, gt_ne (by omega)]
  · have := e_kS (M := N) (b := b) (v := .int (gt E 0 3)) o1 (show k < 8 by omega)
    rw [this, e2]
/-- a String that lies apart -/
def sOk (N : vMe) (b lo y : Nat) (E : Nat → Nat → Value) (w : Nat) (k : List Nat) : Prop := ∃ o, tAt N w o k ∧ (w < lo ∧ w ≠ y ∧ ¬ eA b E w) ∧ o < lo ∧ o ≠ y ∧ ¬ eA b E o
theorem sOk.mv {w : Nat} {q : List Nat} {E2 : Nat → Nat → Value} (h : sOk N b lo y E w q) (e : kp N M b lo y E) (e42 : E2 42 = E 42) : sOk M b lo y E2 w q := by
  obtain ⟨o, h1, ⟨h2, h3, h4⟩, h5, h6, h7⟩ := h
  exact ⟨o, h1.same (e w h2 h3 h4) (e o h5 h6 h7), ⟨h2, h3, fun g => h4 ((eA_eq e42 w).mp g)⟩, h5, h6, fun g => h7 ((eA_eq e42 o).mp g)⟩
theorem chr97 : ∀ j, j < 30 → (((97 + Int32.ofNat j).toUInt32 % 65536).toInt32) = Int32.ofNat (97 + j) := by decide +kernel
def setT (j : Nat) : List Nat := [115, 101, 116, 32, 97 + j, 59]
def setsT : Nat → Nat → List Nat
  | 0, _ => []
  | i + 1, p => setT p ++ setsT i (p + 1)
set_option maxRecDepth 20000 in
theorem sets_L (g : GH b u hz n k clk E) : ∀ (i f j : Nat) (N : vMe) (l : List Nat) (p cap : Nat), j + i = n → i < f → CW KK (cut N lo) x r b y E → lo ≤ N.2.1 → sbC N A p lo cap l → capI cap → l.length + 6 * i ≤ 200 → sOk N b lo y E (Gs 21) [115, 101, 116, 32] → N.2.1 + 3 * i ≤ n0 + 4000 → N.2.2.1 + 750 * i ≤ s0 + 200000 →
    ∃ N2 p2 cap2, tL_plays_L125 Gs n0 s0 x y b A f (Int32.ofNat j) N = some ((), N2) ∧ sbC N2 A p2 lo cap2 (l ++ setsT i j) ∧ capI cap2 ∧ CW KK (cut N2 lo) x r b y E ∧ kp N N2 b lo y E ∧ lo ≤ N2.2.1 ∧ N2.2.1 ≤ N.2.1 + 3 * i ∧ N2.2.2.1 ≤ N.2.2.1 + 750 * i ∧ N2.2.2.2 = N.2.2.2 := by
  obtain ⟨e0, e1, hu1, hu64, hn5, -, -⟩ := GH_h g
  intro i
  induction i with
  | zero =>
    intro f j N l p cap hj hf w hl sb hcap hlen so h1 h2
    obtain ⟨f, rfl⟩ : ∃ g, f = g + 1 := ⟨f - 1, by omega⟩
    obtain ⟨he, ho, -⟩ := CW_h w
    exact ⟨N, p, cap, by rw [tL_plays_L125, he.I0 ho, Option.bind_some, e0, if_pos ((n_le (by omega) (by omega)).mpr (by omega))], by rw [setsT, List.append_nil]; exact sb, hcap, w, fun _ _ _ _ => rfl, hl, by omega, by omega, rfl⟩
  | succ i ih =>
    intro f j N l p cap hj hf w hl sb hcap hlen so h1 h2
    obtain ⟨f, rfl⟩ : ∃ g, f = g + 1 := ⟨f - 1, by omega⟩
    obtain ⟨he, ho, hA, hy, hb, hny⟩ := CW_h w
    have so0 := so
    obtain ⟨o, t1, ⟨t2, t3, t4⟩, t5, t6, t7⟩ := so0
    have sbA : (lo ≤ A ∧ lo ≤ p) ∧ A < N.2.1 ∧ p < N.2.1 := by
      obtain ⟨S, B, i1, i2, i3, i4, i5, i6, ⟨i8, i9, i10, i11, i12, i13⟩, i14⟩ := sb
      exact ⟨⟨i8, i9⟩, i11, i12⟩
    have sbl : l.length ≤ cap := by
      obtain ⟨S, B, i1, i2, i3, i4, i5, i6, -⟩ := sb
      exact i6.1
    have h4 : ([115, 101, 116, 32] : List Nat).length = 4 := rfl
    obtain ⟨N1, p1, cap1, a1, a2, a3, ⟨a41, a42, a43, a44, a45⟩, a5⟩ := sb_str sb t1 ⟨⟨by omega, by omega⟩, ⟨by omega, by omega⟩, by omega, by omega⟩ (capI_2 hcap (show l.length + 4 ≤ 200 by omega) sbl (by omega)) (show l.length + 4 ≤ 250 by omega)
    have hcap1 := capI_up hcap (show l.length + 4 ≤ 200 by omega) a3
    have l1 : (l ++ [115, 101, 116, 32]).length = l.length + 4 := by rw [List.length_append]; rfl
    have sbA1 : lo ≤ p1 := by
      obtain ⟨S, B, i1, i2, i3, i4, i5, i6, ⟨i8, i9, -⟩, -⟩ := a2
      exact i9
    obtain ⟨N2, p2, cap2, c1, c2, c3, ⟨c41, c42, c43, c44, c45⟩, c5⟩ := sb_chr (c := 97 + j) a2 (capI_1 hcap1 (by omega)) (by omega) (by omega)
    have hcap2 := capI_up hcap1 (by omega) c3
    have l2 : (l ++ [115, 101, 116, 32] ++ [97 + j]).length = l.length + 5 := by rw [List.length_append, l1]; rfl
    have sbA2 : lo ≤ p2 := by
      obtain ⟨S, B, i1, i2, i3, i4, i5, i6, ⟨i8, i9, -⟩, -⟩ := c2
      exact i9
    obtain ⟨N3, p3, cap3, d1, d2, d3, ⟨d41, d42, d43, d44, d45⟩, d5⟩ := sb_chr (c := 59) c2 (capI_1 hcap2 (by omega)) (by omega) (by omega)
    have hcap3 := capI_up hcap2 (by omega) d3
    have fr : ∀ z, z < lo → N3.1 z = N.1 z := fun z hz => by rw [d41 z (by omega) (by omega) (by omega), c41 z (by omega) (by omega) (by omega), a41 z (by omega) (by omega) (by omega)]
    have w3 : CW KK (cut N3 lo) x r b y E := CW_cut w fr (by omega)
    have k3 : kp N N3 b lo y E := fun z hz _ _ => fr z hz
    have tgN : ∀ {W : vMe} {p' cap' : Nat} {l' : List Nat}, sbC W A p' lo cap' l' → (W.1 A).1 = 2 := fun h => by obtain ⟨S, B, i1, -⟩ := h; rw [i1]
    have l3 : (l ++ [115, 101, 116, 32] ++ [97 + j] ++ [59]).length = l.length + 6 := by rw [List.length_append, l2]; rfl
    obtain ⟨N4, p4, cap4, f1, f2, f3, f4, f5, f6, f7, f8, f9⟩ := ih f (j + 1) N3 (l ++ [115, 101, 116, 32] ++ [97 + j] ++ [59]) p3 cap3 (by omega) (by omega) w3 (by omega) d2 hcap3 (by omega) (so.mv k3 rfl) (by omega) (by omega)
    refine ⟨N4, p4, cap4, ?_, ?_, f3, f4, fun z z1 z2 z3 => (f5 z z1 z2 z3).trans (k3 z z1 z2 z3), f6, by omega, by omega, by omega⟩
    · rw [tL_plays_L125, he.I0 ho, Option.bind_some, e0, if_neg (fun g => by have := (n_le (by omega) (by omega)).mp g; omega), if_pos ⟨by omega, by omega⟩, if_pos (tgN sb), a1, Option.bind_some]
      dsimp only
      rw [if_pos ⟨by omega, by omega⟩, if_pos (tgN a2), chr97 j (by omega), c1, Option.bind_some]
      dsimp only
      rw [if_pos ⟨by omega, by omega⟩, if_pos (tgN c2), show tJ4_append_cf468 A 59 N2 = some (A, N3) from d1, Option.bind_some]
      dsimp only
      rw [n_succ]
      exact f1
    · rw [setsT, show l ++ (setT j ++ setsT i (j + 1)) = l ++ [115, 101, 116, 32] ++ [97 + j] ++ [59] ++ setsT i (j + 1) from by simp [setT]]
      exact f2
end
