section
variable {M M' N : vMe} {x y r a d u hz n k : Nat} {G F C D : Nat → Nat → Value} {P : Nat → Value} {T : Nat → Nat} {len : Nat} {Gs : Nat → Nat}
theorem nmAt_fr {N2 : vMe} {P2 : Nat → Value} {F2 : Nat → Nat → Value} {w : Nat} {l : List Nat} (h : nmAt N x r G w l) (hy : (N.1 y).1 = 6) (hG4 : G 0 4 = .ref d) (f : fr y d N N2 P P2 F F2) : nmAt N2 x r G w l := by
  obtain ⟨p, p1, p2, p3, p4, p5⟩ := h
  have e1 : w ≠ y := fun e => by
    obtain ⟨S, B, g1, -⟩ := p1
    rw [e] at g1; rw [g1] at hy; exact absurd (show (1 : Nat) = 6 from hy) (by decide)
  have e2 : p ≠ y := fun e => by
    obtain ⟨S, B, -, -, -, g1, -⟩ := p1
    rw [e] at g1; rw [g1] at hy; exact absurd (show (102 : Nat) = 6 from hy) (by decide)
  have e3 : ¬ (d ≤ w ∧ w < d + 50) := fun g => p2 (own_bk (i := 1) (by omega) (bk1 hG4) g.1 g.2)
  have e4 : ¬ (d ≤ p ∧ p < d + 50) := fun g => p3 (own_bk (i := 1) (by omega) (bk1 hG4) g.1 g.2)
  exact ⟨p, p1.same (f.1 w e1 e3 p4) (f.1 p e2 e4 p5), p2, p3, by have := f.2.2.1; omega, by have := f.2.2.1; omega⟩
/-- the statements of a text -/
theorem text_L {wl : Nat → List Nat} {n0 s0 : Nat} (hd : tkD Gs) (hwr : ∀ i, i < 5 → wS M' r (Gs (20 + i)) (wl i)) (hy0 : y < n0) (hx0 : x + 8 ≤ n0) (hd0 : d + 50 ≤ n0) (ho : ∀ q, own x r G q → q < n0) : ∀ (q f f' i : Nat) (N : vMe) (P : Nat → Value) (D F : Nat → Nat → Value) (n k c p e : Nat), pJ x y d r len u hz n k T Gs G N M' P D F c p e → (∀ i, i < 5 → nmAt N x r G (Gs (14 + i)) (wl i)) → N.2.2.2 ≤ N.2.1 → N.2.1 = n0 + 4 * n → N.2.2.1 ≤ s0 + 32 * n → len - p ≤ q → q < f → q < f' → i ≤ p →
    (∃ N2 P2 D2 F2, tX3_readText_L69 Gs n0 s0 y f 1 (Int32.ofNat i) N = some (0, N2) ∧ tX10_parse_L145 Gs r f' 1 (rv M' r F) = some (0, rv M' r F2) ∧ pS x y d r len T G N2 M' P2 D2 F2 ∧ er P2 F2 ∧ fr y d N N2 P P2 F F2 ∧ N2.2.1 ≤ n0 + 25 ∧ N2.2.2.1 ≤ s0 + 260) ∨
    (∃ N2 P2 D2 F2 n2 k2 c2 p2 e2, tX3_readText_L69 Gs n0 s0 y f 1 (Int32.ofNat i) N = some (1, N2) ∧ tX10_parse_L145 Gs r f' 1 (rv M' r F) = some (1, rv M' r F2) ∧ pJ x y d r len u hz n2 k2 T Gs G N2 M' P2 D2 F2 c2 p2 e2 ∧ fr y d N N2 P P2 F F2 ∧ N2.2.1 ≤ n0 + 25 ∧ N2.2.2.1 ≤ s0 + 260) := by
  -- the text ends here
  have stop : ∀ (f f' i : Nat) (N : vMe) (P : Nat → Value) (D F : Nat → Nat → Value) (n k p e : Nat), pJ x y d r len u hz n k T Gs G N M' P D F 0 p e → 0 < f → 0 < f' → tX3_readText_L69 Gs n0 s0 y f 1 (Int32.ofNat i) N = some (1, N) ∧ tX10_parse_L145 Gs r f' 1 (rv M' r F) = some (1, rv M' r F) := fun f f' i N P D F n k p e J hf hf' => by
    obtain ⟨f, rfl⟩ : ∃ g, f = g + 1 := ⟨f - 1, by omega⟩
    obtain ⟨f', rfl⟩ : ∃ g, f' = g + 1 := ⟨f' - 1, by omega⟩
    obtain ⟨S, t, -⟩ := J
    have b1 := S.2.1.1
    have g1 : gI N y 6 1 = some (Int32.ofNat len) := by rw [← b1.eq, p_I, S.2.1.2.1.2]
    have g3 : gA N y 6 3 = some (Gs 104) := by rw [← b1.eq]; exact p_A t.1
    constructor
    · rw [tX3_readText_L69, g1, Option.bind_some]
      by_cases g : Int32.ofNat len ≤ Int32.ofNat i
      · rw [if_pos g]
      · rw [if_neg g, if_neg n10, g3, Option.bind_some, if_pos rfl]
    · have z : Int32.ofNat 0 = 0 := rfl
      rw [tX10_parse_L145, if_neg n10, r_gI, Option.bind_some, t.2.1, if_pos z]
  -- a failure ends it
  have fin : ∀ (f f' : Nat) (v : Int32) (N : vMe) (P : Nat → Value) (D F : Nat → Nat → Value), pS x y d r len T G N M' P D F → 0 < f → 0 < f' → tX3_readText_L69 Gs n0 s0 y f 0 v N = some (0, N) ∧ tX10_parse_L145 Gs r f' 0 (rv M' r F) = some (0, rv M' r F) := fun f f' v N P D F S hf hf' => by
    obtain ⟨f, rfl⟩ : ∃ g, f = g + 1 := ⟨f - 1, by omega⟩
    obtain ⟨f', rfl⟩ : ∃ g, f' = g + 1 := ⟨f' - 1, by omega⟩
    have b1 := S.2.1.1
    have g1 : gI N y 6 1 = some (Int32.ofNat len) := by rw [← b1.eq, p_I, S.2.1.2.1.2]
    constructor
    · rw [tX3_readText_L69, g1, Option.bind_some]
      by_cases g : Int32.ofNat len ≤ v
      · rw [if_pos g]
      · rw [if_neg g, if_pos rfl]
    · rw [tX10_parse_L145, if_pos rfl]
  intro q
  induction q with
  | zero =>
    intro f f' i N P D F n k c p e J hwc hb hm hs hq hf hf' hip
    have n5 := J.2.2.1.1.2.2.1.2
    have tc := J.2.1.2.2.2.2.2.2.2.1
    have pl := J.2.1.2.2.2.2.2.2.1
    have c0 : c = 0 := by unfold tokC at tc; omega
    subst c0
    obtain ⟨h1, h2⟩ := stop f f' i N P D F n k p e J (by omega) (by omega)
    exact .inr ⟨N, P, D, F, n, k, 0, p, e, h1, h2, J, fr.rf, by omega, by omega⟩
  | succ q ih =>
    intro f f' i N P D F n k c p e J hwc hb hm hs hq hf hf' hip
    have n5 := J.2.2.1.1.2.2.1.2
    have tc := J.2.1.2.2.2.2.2.2.2.1
    have pl := J.2.1.2.2.2.2.2.2.1
    by_cases c0 : c = 0
    · subst c0
      obtain ⟨h1, h2⟩ := stop f f' i N P D F n k p e J (by omega) (by omega)
      exact .inr ⟨N, P, D, F, n, k, 0, p, e, h1, h2, J, fr.rf, by omega, by omega⟩
    · obtain ⟨f, rfl⟩ : ∃ g, f = g + 1 := ⟨f - 1, by omega⟩
      obtain ⟨f', rfl⟩ : ∃ g, f' = g + 1 := ⟨f' - 1, by omega⟩
      have S := J.1
      have t := J.2.1
      have b1 := S.2.1.1
      have hl := S.1.2.2.2
      have pl2 : p < len := by
        by_cases g : p < len
        · exact g
        · unfold tokC at tc; omega
      have g1 : gI N y 6 1 = some (Int32.ofNat len) := by rw [← b1.eq, p_I, S.2.1.2.1.2]
      have g3 : gA N y 6 3 = some (Gs (tIx c)) := by rw [← b1.eq]; exact p_A t.1
      have cc : Gs (tIx c) = Gs 104 ↔ c = 0 := tIx_eq hd (j := 0) (tokC_5 tc) (by omega)
      have sc : tX3_readText_L69 Gs n0 s0 y (f + 1) 1 (Int32.ofNat i) N = ((tX3_readStatement Gs y N).bind fun z20 => if z20.1 = 0 then (tX3_readText_J109_69 (tX3_readText_L69 Gs n0 s0 y f) n0 s0 y (Int32.ofNat i) z20.2) else (if z20.2.2.1 + 0 ≤ n0 + 25 ∧ z20.2.2.2.1 + 0 ≤ s0 + 260 then (if (z20.2.1 y).1 = 6 then ((tX3_passSemicolon Gs y z20.2).bind fun z22 => if z22.1 = 0 then (tX3_readText_J109_69 (tX3_readText_L69 Gs n0 s0 y f) n0 s0 y (Int32.ofNat i) z22.2) else (tX3_readText_J110_69 (tX3_readText_L69 Gs n0 s0 y f) n0 s0 y (Int32.ofNat i) 1 z22.2)) else none) else none)) := by
        rw [tX3_readText_L69, g1, Option.bind_some, if_neg (fun g => by have := (n_le (by omega) (by omega)).mp g; omega), if_neg n10, g3, Option.bind_some, if_neg (fun g => c0 (cc.mp g)), if_pos ⟨by omega, by omega⟩, if_pos (p_tg S)]
      have sr : tX10_parse_L145 Gs r (f' + 1) 1 (rv M' r F) = ((tX10_statement Gs r (rv M' r F)).bind fun z29 => if z29.1 = 0 then (tX10_parse_J174_145 (tX10_parse_L145 Gs r f') r z29.2) else (if (z29.2.1 r).1 = 12 then ((tX10_closes r z29.2).bind fun z31 => if z31.1 = 0 then (tX10_parse_J174_145 (tX10_parse_L145 Gs r f') r z31.2) else (tX10_parse_J175_145 (tX10_parse_L145 Gs r f') r 1 z31.2)) else none)) := by
        have nz : ¬ Int32.ofNat c = 0 := n_z (by have := tokC_5 tc; omega) c0
        rw [tX10_parse_L145, if_neg n10, r_gI, Option.bind_some, t.2.1, if_neg nz, if_pos r_tag]
      rcases stmt_P J hd (by omega) (by omega) (by omega) hb (fun q hq => by have := ho q hq; omega) (fun i hi => by obtain ⟨o, o1, -⟩ := hwc i hi; exact ⟨o, o1⟩) hwr with ⟨N2, P2, D2, F2, w1, w2, w3, w4, w5, w6⟩ | ⟨N2, P2, D2, F2, n2, k2, c2, p2, e2, w1, w2, w3, w4, w5, w6⟩
      · left
        obtain ⟨v1, v2⟩ := fin f f' (Int32.ofNat i + 1) N2 P2 D2 F2 w3 (by omega) (by omega)
        refine ⟨N2, P2, D2, F2, ?_, ?_, w3, w4, w5, by rw [w6]; omega, by rw [w6]; omega⟩
        · rw [sc, w1, Option.bind_some, if_pos rfl, tX3_readText_J109_69, tX3_readText_J110_69]; exact v1
        · rw [sr, w2, Option.bind_some, if_pos rfl, tX10_parse_J174_145, tX10_parse_J175_145]; exact v2
      · have n25 := w3.2.2.1.1.2.2.1.2
        have hm2 : N2.2.1 = n0 + 4 * n2 ∧ N2.2.2.1 ≤ s0 + 32 * n2 := by
          rcases w6 with ⟨q1, q2⟩ | ⟨q1, q2, q3⟩
          · rw [q1, q2]; exact ⟨hm, hs⟩
          · omega
        have hb2 : N2.2.2.2 ≤ N2.2.1 := by have a1 := w4.2.1; have a2 := w4.2.2.1; omega
        rcases semi_P (Gs := Gs) w3.1 w3.2.1 hd w3.2.2.2.2.1 with ⟨P3, F3, v1, v2, v3⟩ | ⟨P3, F3, vc, v1, v2, v3⟩
        · left
          obtain ⟨u1, u2⟩ := fin f f' (Int32.ofNat i + 1) (pv N2 y P3) P3 D2 F3 v3.1 (by omega) (by omega)
          have hP3 : ∀ k, k < 3 → P3 k = P2 k := fun k hk => by
            have b2 := w3.1.2.1.1
            have g4 : gA N2 y 6 3 = some (Gs (tIx c2)) := by rw [← b2.eq]; exact p_A w3.2.1.1
            obtain ⟨P4, F4, x1, x2, x3, x4, x5, x6, x7, x8, x9⟩ := fail_P (j := 1) w3.1 w3.2.1 w3.2.2.2.2.1
            have key : tX3_passSemicolon Gs y N2 = some (0, pv N2 y P4) ∨ ∃ Z, tX3_passSemicolon Gs y N2 = some (1, Z) := by
              rw [tX3_passSemicolon, g4, Option.bind_some]
              by_cases h3 : Gs (tIx c2) = Gs 102
              · obtain ⟨P5, F5, y1, y2, y3⟩ := next_G w3.1 w3.2.1
                rw [if_pos h3, if_pos (p_tg w3.1), y1, Option.bind_some]; exact .inr ⟨_, rfl⟩
              · rw [if_neg h3, if_pos (p_tg w3.1), x1, Option.bind_some, if_pos fz0]; exact .inl rfl
            rw [v1] at key
            rcases key with key | ⟨Z, key⟩
            · have e1 : (pv N2 y P3).1 y = (pv N2 y P4).1 y := by
                have := congrArg Prod.snd (Option.some.inj key)
                have h : pv N2 y P3 = pv N2 y P4 := this
                rw [h]
              rw [pv_at, pv_at] at e1
              have e2 : P3 = P4 := congrArg (fun o : vOb => o.2.2) e1
              rw [e2]; exact x7 k (by omega)
            · exact absurd (show (0 : Int32) = 1 from congrArg Prod.fst (Option.some.inj key)) (by decide)
          refine ⟨pv N2 y P3, P3, D2, F3, ?_, ?_, v3.1, v3.2.1, w4.tr (fr_pv hP3 v3.2.2.1 v3.2.2.2), by show N2.2.1 ≤ _; omega, by show N2.2.2.1 ≤ _; omega⟩
          · rw [sc, w1, Option.bind_some, if_neg n10, if_pos ⟨by show N2.2.1 + 0 ≤ _; omega, by show N2.2.2.1 + 0 ≤ _; omega⟩, if_pos (p_tg w3.1), v1, Option.bind_some, if_pos rfl, tX3_readText_J109_69, tX3_readText_J110_69]; exact u1
          · rw [sr, w2, Option.bind_some, if_neg n10, if_pos r_tag, v2, Option.bind_some, if_pos rfl, tX10_parse_J174_145, tX10_parse_J175_145]; exact u2
        · obtain ⟨y1, ⟨c3, p3, e3, y2, y3⟩, y4, y5, y6⟩ := v3
          have lt2 := (tokC_e w3.2.1.2.2.2.2.2.2.2.1 w3.2.1.2.2.2.2.2.2.1).2.2.1 vc
          have f2 : fr y d N2 (pv N2 y P3) P2 P3 F2 F3 := fr_pv (fun k hk => y4 k (by omega)) y5 (fun l hl => y6 l (by omega))
          have J3 : pJ x y d r len u hz n2 k2 T Gs G (pv N2 y P3) M' P3 D2 F3 c3 p3 e3 := ⟨y1, y2, simP_row w3.2.2.1 (fun l _ => by rw [gt_row (y5 1 (by omega))]), simNm_row (simNm_pv w3.2.2.2.1 (pSy w3.1)) (y5 5 (by omega)), by unfold gt; rw [y6 11 (by omega)]; exact w3.2.2.2.2.1, w3.2.2.2.2.2.1, w3.2.2.2.2.2.2.1.row (y5 1 (by omega)), w3.2.2.2.2.2.2.2.mv y4 (y6 12 (by omega))⟩
          have hsc : tX3_readText_L69 Gs n0 s0 y (f + 1) 1 (Int32.ofNat i) N = tX3_readText_L69 Gs n0 s0 y f 1 (Int32.ofNat (i + 1)) (pv N2 y P3) := by
            rw [sc, w1, Option.bind_some, if_neg n10, if_pos ⟨by show N2.2.1 + 0 ≤ _; omega, by show N2.2.2.1 + 0 ≤ _; omega⟩, if_pos (p_tg w3.1), v1, Option.bind_some, if_neg n10, tX3_readText_J110_69, n_succ]
          have hsr : tX10_parse_L145 Gs r (f' + 1) 1 (rv M' r F) = tX10_parse_L145 Gs r f' 1 (rv M' r F3) := by
            rw [sr, w2, Option.bind_some, if_neg n10, if_pos r_tag, v2, Option.bind_some, if_neg n10, tX10_parse_J175_145]
          rw [hsc, hsr]
          rcases ih f f' (i + 1) (pv N2 y P3) P3 D2 F3 n2 k2 c3 p3 e3 J3 (fun i hi => nmAt_fr (nmAt_fr (hwc i hi) (pSy S) J.2.2.2.2.2.1 w4) (pSy w3.1) J.2.2.2.2.2.1 f2) hb2 hm2.1 hm2.2 (by omega) (by omega) (by omega) (by omega) with ⟨N4, P4, D4, F4, z1, z2, z3, z4, z5, z6, z7⟩ | ⟨N4, P4, D4, F4, n4, k4, c4, p4, e4, z1, z2, z3, z4, z5, z6⟩
          · exact .inl ⟨N4, P4, D4, F4, z1, z2, z3, z4, w4.tr (f2.tr z5), z6, z7⟩
          · exact .inr ⟨N4, P4, D4, F4, n4, k4, c4, p4, e4, z1, z2, z3, w4.tr (f2.tr z4), z5, z6⟩
end
