section
variable {KK : Nat → vOb} {M N : vMe} {x r b y u hz n k lo lw A p n0 s0 : Nat} {G F C E E2 : Nat → Nat → Value} {Gs : Nat → Nat} {l : List Nat}
theorem fB_all : ∀ c, c < 128 → fits .byte (.int (Int32.ofNat c)) = true ∧ cd (Int32.ofNat c) = c := by decide +kernel
set_option maxRecDepth 20000 in
/-- the text is fed, parsed, and the rounds go well -/
theorem plD_P {k2 cap : Nat} {scr : List (Bool × Nat × List Nat × Bool)} (w : CW KK (cut N lo) x r b y E2) (st : stK KK x Gs) (hz0 : zE u hz n E) (hu : 1 ≤ u ∧ u ≤ 64) (hh : 1 ≤ hz ∧ hz ≤ 60) (hn : 1 ≤ n ∧ n ≤ 4) (sb : sbC N lo p lo cap (txT u hz n scr)) (hlen : 9 ≤ (txT u hz n scr).length ∧ (txT u hz n scr).length ≤ 170) (ho : ∀ q, q ∈ scr → scrO u n q) (hsl : scr.length ≤ 4) (hR : scrR b scr E E2 0 k2) (e42 : E2 42 = E 42)
    (hF : ∀ i, i < 600 → fits .byte ((N.1 (x + 2)).2.2 i) = true) (hD : ∀ d : Nat, (N.1 x).2.2 4 = .ref d → ∀ c, c < 6 → ∀ j, j < 3 → fits .boolean ((N.1 (d + (44 + c))).2.2 j) = true) (hl : lo ≤ N.2.1) (h1 : N.2.1 ≤ n0 + 180) (h2 : N.2.2.1 ≤ s0 + 90000) :
    ∃ N9 E9 clk9, plD Gs n0 s0 x y b lo N = some (1, N9) ∧ WW KK N9 x r b y u hz n clk9 E9 ∧ N9.2.1 ≤ n0 + 4000 ∧ N9.2.2.1 ≤ s0 + 200000 := by
  obtain ⟨f1, f2, f3, f4', f5, f6⟩ := sbF sb
  obtain ⟨l, hl0⟩ : ∃ l, l = txT u hz n scr := ⟨_, rfl⟩
  rw [← hl0] at sb hlen f5
  obtain ⟨Z, v1, v2, v3, v4⟩ := sb_toS sb (by omega)
  have z1 : Z.2.1 = N.2.1 + 2 := by rw [v4]
  have z2 : Z.2.2.1 = N.2.2.1 + 4 + l.length := by rw [v4]
  have z3 : Z.2.2.2 = N.2.2.2 := by rw [v4]
  have wZ : CW KK (cut Z lo) x r b y E2 := CW_cut w (fun z hz => v3 z (by omega)) z3
  have kz : ∀ q, q < x → Z.1 q = KK q := fun q hq => (K_out wZ hq).1
  obtain ⟨G, F, a, d, C, u0, hz0', n1, k0, w1, w4, w5, ⟨s1, s2, s3, s4, s5, s6, s7, s8, s9, s10, s11⟩, w7, w8⟩ := wZ
  obtain ⟨⟨a1, a2, a3, a4, a5, a6⟩, ⟨b1, b2, b3, b4⟩, bc, bd, -, -, -, bE, -, -⟩ := id w1
  have a6' : r + 0 ≤ lo := a6
  have s5' : y < lo := s5
  have hb0 : N.2.2.2 ≤ lo := by have : Z.2.2.2 ≤ lo := w8
                                omega
  have hGZ : hG Z x G := a1
  have gOZ : gOk Z x G := a2
  -- the feeding
  obtain ⟨N2, G2, p1, p2, p3, p4, p5, p6, p7, p8⟩ := feeds_P (Gs := Gs) (show l.length ≤ 180 by omega) ⟨.inr (show x + 8 ≤ N.2.1 by omega), .inr (show x + 8 ≤ N.2.1 + 1 by omega)⟩ hGZ gOZ v2 (by omega) (by omega) (by omega) (by omega) s8
  obtain ⟨⟨q1, q2⟩, q3, q4, q5⟩ := p3
  have nx : ∀ q, ¬ own x r G q → ¬ (x ≤ q ∧ q < x + 8) := fun q h g => h (.inl g)
  have oN : ∀ q, q < lo → ¬ (x ≤ q ∧ q < x + 8) → N2.1 q = Z.1 q := fun q h1 h2 => p4 q (by omega) h2
  have G0 : G2 0 = G 0 := q1 0 (by omega) (by omega)
  have fG2 : ∀ i, i < 600 → fits .byte (.int (gt G2 2 i)) = true := fun i hi => by
    by_cases c : i < 20 * ((l.length + 19) / 20)
    · rw [q4 i c]
      exact (fB_all _ (chT_lt v2 i)).1
    · rw [q5 i (by omega)]
      have e := a1 2 (by omega)
      have g := hF i hi
      rw [← v3 (x + 2) (by omega)] at g
      have e' : Z.1 (x + 2) = ((gT 2).1, (gT 2).2, G 2) := e
      rw [e'] at g
      have g2 : G 2 i = .int (vI (G 2 i)) := vI_of g (.inr (.inr rfl))
      unfold gt
      rw [← g2]; exact g
  obtain ⟨T, hT⟩ : ∃ T : Nat → Nat, T = fun i => cd (gt G2 2 i) := ⟨_, rfl⟩
  have gX2 : gX G2 T := fun i hi => ⟨fG2 i hi, by rw [hT]⟩
  have RT : Rt T l.length 0 l := ⟨by omega, fun j hj => by
    rw [hT]
    show cd (gt G2 2 (0 + j)) = _
    rw [Nat.zero_add, q4 j (by omega), (fB_all _ (chT_lt v2 j)).2]
    unfold chT; rw [if_pos hj]⟩
  obtain ⟨F2, hF2⟩ : ∃ F2 : Nat → Nat → Value, F2 = fun i => if i = 3 then G2 2 else if i = 0 then updV (F 0) 4 (.int (Int32.ofNat (20 * ((l.length + 19) / 20)))) else F i := ⟨_, rfl⟩
  have F2o : ∀ i, i ≠ 3 → i ≠ 0 → F2 i = F i := fun i h3 h0 => by rw [hF2]; dsimp only; rw [if_neg h3, if_neg h0]
  have F20 : F2 0 = updV (F 0) 4 (.int (Int32.ofNat (20 * ((l.length + 19) / 20)))) := by rw [hF2]; rfl
  have F23 : F2 3 = G2 2 := by rw [hF2]; rfl
  have bM : N2.2.2.2 = N.2.2.2 := p5.trans z3
  have S2 : simD N2 x r G2 F2 a d C u0 hz0' n1 k0 := by
    refine simD_txt w1 (fun i i0 i1 i2 => q1 i i1 i2) (fun l _ => by rw [G0]) q2 p2 trivial ⟨by rw [bM, ← z3]; exact a4.1, fun i i1 i2 => by rw [F20, u_ne (f4 i)]; exact a4.2 i i1 i2⟩ p5 (by show lo ≤ N2.2.1; omega) (fun i b E hi hne hbk b0 bm br hE j hj => ?_) ?_ (fun q hq hl => oN q hl (nx q hq)) ⟨_, by omega, q3, by unfold gt; rw [F20, u_eq]; rfl⟩ (fun i hi => by unfold gt; rw [F23]) (by unfold gt; rw [G0, F20, u_ne (by omega)]; exact bE) (by unfold gt; rw [F20, u_ne (by omega)]) (fun i hi => F2o i (by omega) (by omega))
    · have bm' : b + 50 ≤ lo := bm
      rw [oN _ (by omega) (by omega)]; exact hE j hj
    · obtain ⟨⟨d1, d2, d3⟩, E, d4, d5⟩ := bc 1 d (by omega) (bk1 b2)
      have d2' : d + 50 ≤ lo := d2
      exact ⟨E, fun j hj => by rw [oN _ (by omega) (by omega)]; exact d4 j hj, d5⟩
  obtain ⟨⟨d1, d2, d3⟩, -⟩ := bc 1 d (by omega) (bk1 b2)
  have d2' : d + 50 ≤ lo := d2
  have kN2 : ∀ q, q < x → N2.1 q = KK q := fun q hq => (oN q (by omega) (by omega)).trans (kz q hq)
  have wd : ∀ q l, sK KK x q l → wq N2.2.1 d N2 q l := fun q l h => by
    obtain ⟨o, h1, h2, h3⟩ := h
    exact ⟨o, h1.same (kN2 q h2) (kN2 o h3), ⟨by omega, by omega⟩, by omega, by omega⟩
  obtain ⟨t1, -, -, t13, t14, t15, t16, t17, t18⟩ := st
  have hbz : ∀ E, hB N2 d E → bz E := fun E hE c hc j hj => by
    have x0 : (N.1 x).2.2 4 = .ref d := by
      rw [← v3 x (by omega)]
      have e := hGZ 0 (by omega)
      rw [Nat.add_zero] at e
      rw [e]; exact b2
    have g := hD d x0 c hc j hj
    have e := hE (44 + c) (by omega)
    rw [oN _ (by omega) (by omega), v3 _ (by omega)] at e
    rw [e] at g
    have g2 : E (44 + c) j = .int (vI (E (44 + c) j)) := vI_of g (.inr (.inl rfl))
    unfold gt
    rw [← g2]; exact g
  -- the parse
  obtain ⟨M2, G3, D2, E', F3, clk2, m1, m2, m3, m4, m5, m6, m7, m8, m9, m10, m11, m12, m13, m14⟩ := parse_P (Gs := Gs) (b := b) (len := l.length) S2 gX2 q3 ⟨by omega, by omega⟩ (by rw [hl0] at RT ⊢; exact RT) t1 ⟨wd _ _ t14, wd _ _ t15, wd _ _ t16, wd _ _ t17, wd _ _ t18⟩ (wd _ _ t13) hbz hu hh hn.2 hz0 ho hsl hR
  have own2 : ∀ q, own x r G2 q ↔ own x r G q := own_txt (fun i i0 i1 i2 => q1 i i1 i2) (fun l _ => by rw [G0])
  have oM : ∀ q, q < lo → ¬ own x r G q → M2.1 q = Z.1 q := fun q h1 h2 => (m9 q (by omega) (fun g => h2 ((own2 q).mp g))).trans (oN q h1 (nx q h2))
  have hA : ∀ q, eA b E2 q → q < lo ∧ ¬ own x r G q := s1
  have he : hE Z b E2 := w4
  have heo : eOk Z b E2 := w5
  have n2 : nul E2 := fun c hc => by rw [e42]; exact hz0.2.1 c
  have he2 : hE M2 b E' := ⟨fun i hi => by
    rw [m4 i hi, oM _ (hA _ (.inl ⟨by omega, by omega⟩)).1 (hA _ (.inl ⟨by omega, by omega⟩)).2]; exact he.1 i hi, fun c q hc hq => by rw [nul_sm m4 n2 c hc] at hq; cases hq⟩
  have eA2 : ∀ q, eA b E' q ↔ eA b E2 q := eA_eq (m4 42 (by omega))
  have WW2 : WW KK M2 x r b y u hz n clk2 E' := by
    refine ⟨G3, F3, d, a, D2, k2, m2, m3, m5, he2, eOk_sm m4 ⟨by rw [m11, p5]; exact heo.1, heo.2⟩, ⟨fun q hq => ?_, ?_, ?_, ?_, ?_, ?_, ?_, m8, s9, s10, fun q hq => ?_⟩, m7, by omega⟩
    · obtain ⟨c1, c2⟩ := hA q ((eA2 q).mp hq)
      exact ⟨by omega, fun g => c2 ((own2 q).mp ((m10 q).mp g))⟩
    · rw [oM y s5' s6]; exact s2
    · rw [oM y s5' s6]; exact s3
    · rw [m11, p5]; exact s4
    · omega
    · exact fun g => s6 ((own2 y).mp ((m10 y).mp g))
    · exact fun g => s7 ((eA2 y).mp g)
    · obtain ⟨c1, c2, c3⟩ := s11 q hq
      have c1' : q < lo := c1
      exact ⟨by omega, fun g => c2 ((own2 q).mp ((m10 q).mp g)), (oM q c1' c2).trans c3⟩
  -- the rounds
  obtain ⟨N9, r1, r2, r3, E9, clk9, r4⟩ := rounds_L (Gs := Gs) (n0 := n0) (s0 := s0) hn.1 26 vF 0 M2 E' clk2 rfl (by unfold vF; omega) WW2 (by omega) (by omega) (by omega)
  refine ⟨N9, E9, clk9, ?_, r4, r2, r3⟩
  have tA : N2.1 lo = N.1 lo := (p4 lo (by omega) (by omega)).trans (v3 lo (by omega))
  have tx : (N2.1 x).1 = 11 := by
    have e := p2 0 (by omega)
    rw [Nat.add_zero] at e
    rw [e]; rfl
  have ln : tJ4_length_8abf5 lo N2 = some (Int32.ofNat l.length) := by
    obtain ⟨S, B, i1, i2, i3, i4, -⟩ := sb
    rw [tJ4_length_8abf5, if_pos (by rw [tA]; exact f6), tJ5_length_8abf5, gIg (tg := 2) (l := 0) (S := S) (by rw [tA]; exact i1), i4]
    rfl
  rw [plD, if_pos ⟨by omega, by omega⟩, if_pos f6, v1, Option.bind_some]
  dsimp only
  rw [if_pos ⟨by omega, by omega⟩, p1, Option.bind_some]
  dsimp only
  rw [if_neg n10, if_pos ⟨by omega, by omega⟩, if_pos (by rw [tA]; exact f6), ln, Option.bind_some, if_pos ⟨by omega, by omega⟩, if_pos tx, m1, Option.bind_some]
  simp only [Sum.elim_inl]
  rw [if_pos trivial, show tL_plays_L380 Gs n0 s0 x y b vF 0 M2 = _ from r1, Option.bind_some]
  simp only [Sum.elim_inr]
  rw [if_pos ⟨r2, r3⟩]
end
