section
variable {M M' N : vMe} {x y r a d u hz n k : Nat} {G F C D : Nat → Nat → Value} {P : Nat → Value} {T : Nat → Nat} {len : Nat} {Gs : Nat → Nat}
theorem bind_if {α β γ : Type} {A : Option α} {c : α → Prop} [∀ z, Decidable (c z)] {B : α → Option β} {w : β} (K : β → Option γ) (h : (A.bind fun z => if c z then B z else none) = some w) : (A.bind fun z => if c z then (B z).bind K else none) = K w := by
  cases A with
  | none => exact absurd h (by simp)
  | some z =>
    rw [Option.bind_some] at h ⊢
    by_cases g : c z
    · rw [if_pos g] at h ⊢
      rw [h, Option.bind_some]
    · rw [if_neg g] at h
      exact absurd h (by simp)
/-- the reference's parse from the first token on -/
def rHd (Gs : Nat → Nat) (r : Nat) (Mj : vMe) : Option (Int32 × vMe) :=
  (tX10_advance r Mj).bind fun z22 => if (z22.2.1 r).1 = 12 then ((tX10_isWord Gs r (Gs 25) z22.2).bind fun z23 => if (z23.2.1 r).1 = 12 then ((tX10_starts r 1 z23.1 z23.2).bind fun z24 => if z24.1 = 0 then (tX10_parse_J143 Gs r z24.2) else (if (z24.2.1 r).1 = 12 then ((tX10_lays r 1 1 64 z24.2).bind fun z55 => if z55.1 = 0 then (tX10_parse_J143 Gs r z55.2) else (if (z55.2.1 r).1 = 12 then ((tX10_lays r 2 1 60 z55.2).bind fun z57 => if z57.1 = 0 then (tX10_parse_J143 Gs r z57.2) else (if (z57.2.1 r).1 = 12 then ((tX10_closes r z57.2).bind fun z59 => if z59.1 = 0 then (tX10_parse_J143 Gs r z59.2) else (tX10_parse_J144 Gs r 1 z59.2)) else none)) else none)) else none)) else none) else none
theorem k25 (A B : Nat) : A + 0 ≤ A + 25 ∧ B + 0 ≤ B + 260 := ⟨by omega, by omega⟩
theorem l25 (A B : Nat) : A ≤ A + 25 ∧ B ≤ B + 260 := ⟨by omega, by omega⟩
theorem fq {N2 : vMe} {P2 : Nat → Value} {F2 : Nat → Nat → Value} (h : fr y d N N2 P P2 F F2) (Q : Nat → Value) : fr y d N N2 Q Q F F2 := ⟨h.1, h.2.1, h.2.2.1, fun _ _ => rfl, h.2.2.2.2.1, h.2.2.2.2.2⟩
theorem fr_bad {P2 : Nat → Value} {F2 : Nat → Nat → Value} (h : bad x y d r len T G N M' D F P2 F2) : fr y d N (pv N y P2) P2 P2 F F2 := ⟨fun q q1 _ _ => pv_out q1, rfl, Nat.le_refl _, fun _ _ => rfl, fun i hi => h.2.2.1 i (by omega), h.2.2.2⟩
/-- a whole text, on both sides -/
theorem head_P {wl : Nat → List Nat} {ws : List Nat} (S : pS x y d r len T G N M' P D F) (hd : tkD Gs) (h5 : vI (P 5) = Int32.ofNat 0) (h7 : gt F 0 7 = Int32.ofNat 0) (h11 : gt F 0 11 = 0) (hG4 : G 0 4 = .ref d) (hbl : ∀ l, l < 1952 → gt F 1 l = 0) (h8 : e8 P F)
    (hwc : ∀ i, i < 5 → nmAt N x r G (Gs (14 + i)) (wl i)) (hws : nmAt N x r G (Gs 13) ws) (hwr : ∀ i, i < 5 → wS M' r (Gs (20 + i)) (wl i)) (hwr5 : wS M' r (Gs 25) ws) (hyN : y < N.2.1) (hxN : x + 8 ≤ N.2.1) (hdN : d + 50 ≤ N.2.1) (hbN : N.2.2.2 ≤ N.2.1) (ho : ∀ q, own x r G q → q < N.2.1) :
    (∃ N2 P2 D2 F2, tX3_readText Gs y N = some (0, N2) ∧ rHd Gs r (rv M' r F) = tX10_parse_J179 r 0 (rv M' r F2) ∧ pS x y d r len T G N2 M' P2 D2 F2 ∧ er P2 F2 ∧ fr y d N N2 P2 P2 F F2 ∧ N2.2.1 ≤ N.2.1 + 25 ∧ N2.2.2.1 ≤ N.2.2.1 + 260) ∨
    (∃ N2 P2 D2 F2 u hz n2 k2 c2 p2 e2, tX3_readText Gs y N = some (1, N2) ∧ rHd Gs r (rv M' r F) = tX10_parse_J179 r 1 (rv M' r F2) ∧ pJ x y d r len u hz n2 k2 T Gs G N2 M' P2 D2 F2 c2 p2 e2 ∧ fr y d N N2 P2 P2 F F2 ∧ N2.2.1 ≤ N.2.1 + 25 ∧ N2.2.2.1 ≤ N.2.2.1 + 260) := by
  obtain ⟨P1, F1, c1, p1, e1, q1, q2, S1, t1, q5, q6, q7, q8⟩ := next_P (Gs := Gs) S h5 h7 (Nat.zero_le _)
  have h11a : gt F1 0 11 = 0 := by unfold gt; rw [q8 11 (by omega)]; exact h11
  have f1 : fr y d N (pv N y P1) P1 P1 F F1 := ⟨fun q q1 _ _ => pv_out q1, rfl, Nat.le_refl _, fun _ _ => rfl, fun i hi => q7 i (by omega), fun l hl => q8 l (by omega)⟩
  obtain ⟨o, os, -⟩ := nmAt_fr hws (pSy S) hG4 f1
  have R0 : rHd Gs r (rv M' r F) = ((tX10_isWord Gs r (Gs 25) (rv M' r F1)).bind fun z23 => if (z23.2.1 r).1 = 12 then ((tX10_starts r 1 z23.1 z23.2).bind fun z24 => if z24.1 = 0 then (tX10_parse_J143 Gs r z24.2) else (if (z24.2.1 r).1 = 12 then ((tX10_lays r 1 1 64 z24.2).bind fun z55 => if z55.1 = 0 then (tX10_parse_J143 Gs r z55.2) else (if (z55.2.1 r).1 = 12 then ((tX10_lays r 2 1 60 z55.2).bind fun z57 => if z57.1 = 0 then (tX10_parse_J143 Gs r z57.2) else (if (z57.2.1 r).1 = 12 then ((tX10_closes r z57.2).bind fun z59 => if z59.1 = 0 then (tX10_parse_J143 Gs r z59.2) else (tX10_parse_J144 Gs r 1 z59.2)) else none)) else none)) else none)) else none) := by
    rw [rHd, q2, Option.bind_some, if_pos r_tag]
  rw [tX3_readText, if_pos (k25 _ _), if_pos (p_tg S), q1, Option.bind_some, if_pos (show (pv N y P1).2.1 + 0 ≤ N.2.1 + 25 ∧ (pv N y P1).2.2.1 + 0 ≤ N.2.2.1 + 260 from k25 _ _), if_pos p_tag, R0]
  rcases first_P S1 t1 hd h11a ⟨o, os⟩ hwr5 with ⟨P2, F2, w1, w2, w3⟩ | ⟨P2, F2, w1, w2, w3⟩
  · left
    refine ⟨pv (pv N y P1) y P2, P2, D, F2, ?_, ?_, w3.1, w3.2.1, ?_, Nat.le_add_right _ _, Nat.le_add_right _ _⟩
    · rw [w1, Option.bind_some, if_pos rfl, if_pos (show (pv (pv N y P1) y P2).2.1 ≤ N.2.1 + 25 ∧ (pv (pv N y P1) y P2).2.2.1 ≤ N.2.2.1 + 260 from l25 _ _)]
    · rw [bind_if _ w2, if_pos rfl, J143_e]
    · exact (fq f1 P2).tr (fr_bad w3)
  · obtain ⟨S2, ⟨c2, p2, e2, t2, le2⟩, g3, g4, g5⟩ := w3
    have f2 : fr y d (pv N y P1) (pv (pv N y P1) y P2) P2 P2 F1 F2 := ⟨fun q q1 _ _ => pv_out q1, rfl, Nat.le_refl _, fun _ _ => rfl, fun i hi => g4 i (by omega), fun l hl => g5 l (by omega)⟩
    have f02 : ∀ Q, fr y d N (pv (pv N y P1) y P2) Q Q F F2 := fun Q => (fq f1 Q).tr (fq f2 Q)
    rw [pv_pv] at S2 f02 w1
    have h11b : gt F2 0 11 = 0 := by unfold gt; rw [g5 11 (by omega)]; exact h11a
    rw [w1, Option.bind_some, if_neg n10, if_pos (show (pv N y P2).2.1 + 0 ≤ N.2.1 + 25 ∧ (pv N y P2).2.2.1 + 0 ≤ N.2.2.1 + 260 from k25 _ _), if_pos p_tag, bind_if _ w2, if_neg n10, if_pos r_tag]
    have ce2 := tokC_e t2.2.2.2.2.2.2.2.1 t2.2.2.2.2.2.2.1
    rcases num_L (lo := 1) (hi := 64) (z := 1) S2 t2 hd h11b (by omega) (by omega) (by omega) with ⟨P3, F3, v1, v2, v3⟩ | ⟨u, F3, c', p', e', u1, u2, v0, v1, v2, S3, v4, v5, v6, v7, v8⟩
    · left
      refine ⟨pv (pv N y P2) y P3, P3, D, F3, ?_, ?_, v3.1, v3.2.1, (f02 P3).tr (fr_bad v3), Nat.le_add_right _ _, Nat.le_add_right _ _⟩
      · rw [show tX3_isNumber Gs y 1 64 (pv N y P2) = _ from v1, Option.bind_some, if_pos rfl, if_pos (show (pv (pv N y P2) y P3).2.1 ≤ N.2.1 + 25 ∧ (pv (pv N y P2) y P3).2.2.1 ≤ N.2.2.1 + 260 from l25 _ _)]
      · rw [show tX10_lays r 1 1 64 (rv M' r F2) = _ from v2, Option.bind_some, if_pos rfl, J143_e]
    · obtain ⟨P4, c4, p4, e4, y1, S4, y3, y4⟩ := c_next (Gs := Gs) S3 t2.2.2.2.2.1 ce2.2.1
      obtain ⟨t4, le4⟩ := tk_join y3 v4
      rw [pv_pv] at S4 y1
      have ce4 := tokC_e t4.2.2.2.2.2.2.2.1 t4.2.2.2.2.2.2.1
      have f03 : ∀ Q, fr y d N (pv N y P4) Q Q F F3 := fun Q => ⟨fun q q1 _ _ => pv_out q1, rfl, Nat.le_refl _, fun _ _ => rfl, fun i hi => by rw [v7 i (by omega) (by omega)]; exact (f02 Q).2.2.2.2.1 i hi, fun l hl => by rw [v8 l (by omega)]; exact (f02 Q).2.2.2.2.2 l hl⟩
      rw [show tX3_isNumber Gs y 1 64 (pv N y P2) = _ from v1, Option.bind_some, if_neg n10, v0, Option.bind_some, if_pos (show (pv N y P2).2.1 + 0 ≤ N.2.1 + 25 ∧ (pv N y P2).2.2.1 + 0 ≤ N.2.2.1 + 260 from k25 _ _), if_pos p_tag, y1, Option.bind_some, if_pos (show (pv N y P4).2.1 + 0 ≤ N.2.1 + 25 ∧ (pv N y P4).2.2.1 + 0 ≤ N.2.2.1 + 260 from k25 _ _), if_pos p_tag, show tX10_lays r 1 1 64 (rv M' r F2) = _ from v2, Option.bind_some, if_neg n10, if_pos r_tag]
      rcases num_L (lo := 1) (hi := 60) (z := 2) S4 t4 hd v5 (by omega) (by omega) (by omega) with ⟨P5, F5, z1, z2, z3⟩ | ⟨hz, F5, c', p', e', b1, b2, z0, z1, z2, S5, z4, z5, z6, z7, z8⟩
      · left
        refine ⟨pv (pv N y P4) y P5, P5, D, F5, ?_, ?_, z3.1, z3.2.1, (f03 P5).tr (fr_bad z3), Nat.le_add_right _ _, Nat.le_add_right _ _⟩
        · rw [show tX3_isNumber Gs y 1 60 (pv N y P4) = _ from z1, Option.bind_some, if_pos rfl, if_pos (show (pv (pv N y P4) y P5).2.1 ≤ N.2.1 + 25 ∧ (pv (pv N y P4) y P5).2.2.1 ≤ N.2.2.1 + 260 from l25 _ _)]
        · rw [show tX10_lays r 2 1 60 (rv M' r F3) = _ from z2, Option.bind_some, if_pos rfl, J143_e]
      · obtain ⟨D2, d1, d2, d3, d4, d5, d6, d7, d8, d9⟩ := c_beginD (M := pv N y P4) (a := d) S5.2.2.1.2 u hz
        rw [S5.2.2.1.1.eq] at d1
        have S6 : pS x y d r len T G (cv (pv N y P4) d D2) M' P4 D2 F5 := pS_cv S5 d2 S5.2.2.2.1.1 kF.rf
        obtain ⟨P6, c6, p6, e6, m1, S7, m3, m4⟩ := c_next (Gs := Gs) S6 t4.2.2.2.2.1 ce4.2.1
        obtain ⟨t6, le6⟩ := tk_join m3 z4
        have ty : ((cv (pv N y P4) d D2).1 y).1 = 6 := pSy S6
        have f05 : ∀ Q, fr y d N (pv (cv (pv N y P4) d D2) y P6) Q Q F F5 := fun Q => ⟨fun q q1 q2 _ => by rw [pv_out q1, cv_out q2, pv_out q1], rfl, Nat.le_refl _, fun _ _ => rfl, fun i hi => by rw [z7 i (by omega) (by omega)]; exact (f03 Q).2.2.2.2.1 i hi, fun l hl => by rw [z8 l (by omega)]; exact (f03 Q).2.2.2.2.2 l hl⟩
        have g2 : gA (pv N y P4) y 6 2 = some d := p_A S4.2.1.2.2.1
        rw [show tX3_isNumber Gs y 1 60 (pv N y P4) = _ from z1, Option.bind_some, if_neg n10, g2, Option.bind_some, z0, Option.bind_some, if_pos (show (pv N y P4).2.1 + 0 ≤ N.2.1 + 25 ∧ (pv N y P4).2.2.1 + 0 ≤ N.2.2.1 + 260 from k25 _ _), if_pos (T_b S5.2.2.1.1), d1, Option.bind_some, if_pos (show (cv (pv N y P4) d D2).2.1 + 0 ≤ N.2.1 + 25 ∧ (cv (pv N y P4) d D2).2.2.1 + 0 ≤ N.2.2.1 + 260 from k25 _ _), if_pos ty, m1, Option.bind_some, if_pos (show (pv (cv (pv N y P4) d D2) y P6).2.1 + 0 ≤ N.2.1 + 25 ∧ (pv (cv (pv N y P4) d D2) y P6).2.2.1 + 0 ≤ N.2.2.1 + 260 from k25 _ _), if_pos p_tag, show tX10_lays r 2 1 60 (rv M' r F3) = _ from z2, Option.bind_some, if_neg n10, if_pos r_tag]
        rcases semi_P (Gs := Gs) S7 t6 hd z5 with ⟨P7, F7, n1, n2, n3⟩ | ⟨P7, F7, nc, n1, n2, n3⟩
        · left
          refine ⟨pv (pv (cv (pv N y P4) d D2) y P6) y P7, P7, D2, F7, ?_, ?_, n3.1, n3.2.1, (f05 P7).tr (fr_bad n3), Nat.le_add_right _ _, Nat.le_add_right _ _⟩
          · rw [n1, Option.bind_some, L69_0 n3.1 (by unfold vF; omega), Option.bind_some, if_pos (show (pv (pv (cv (pv N y P4) d D2) y P6) y P7).2.1 ≤ N.2.1 + 25 ∧ (pv (pv (cv (pv N y P4) d D2) y P6) y P7).2.2.1 ≤ N.2.2.1 + 260 from l25 _ _), if_pos fz0]
          · rw [n2, Option.bind_some, if_pos rfl, J143_e]
        · obtain ⟨S8, ⟨c8, p8, e8, t8, le8⟩, h3, h4, h5'⟩ := n3
          have f07 : ∀ Q, fr y d N (pv (pv (cv (pv N y P4) d D2) y P6) y P7) Q Q F F7 := fun Q => (f05 Q).tr ⟨fun q q1 _ _ => pv_out q1, rfl, Nat.le_refl _, fun _ _ => rfl, fun i hi => h4 i (by omega), fun l hl => h5' l (by omega)⟩
          have row : ∀ l, gt F7 1 l = if l = 2 then Int32.ofNat hz else if l = 1 then Int32.ofNat u else gt F 1 l := fun l => by
            rw [gt_row (h4 1 (by omega)), z6, v6, gt_row (g4 1 (by omega)), gt_row (q7 1 (by omega))]
          obtain ⟨hP, hZ⟩ := simP_new (C := D2) (F := F7) ⟨u1, u2⟩ ⟨b1, b2⟩ d3 d4 d5 d6 d7 d8 d9 (by rw [row]; rfl) (by rw [row]; rfl) (fun l h1 h2 h3 => by rw [row, if_neg h3, if_neg h2]; exact hbl l h1)
          have J : pJ x y d r len u hz 0 0 T Gs G (pv (pv (cv (pv N y P4) d D2) y P6) y P7) M' P7 D2 F7 c8 p8 e8 := ⟨S8, t8, hP, fun s hs => absurd hs (Nat.not_lt_zero _), by unfold gt; rw [h5' 11 (by omega)]; exact z5, hG4, hZ, h8.mv (fun k hk => by rw [h3 k hk, m4 k hk, y4 k hk, g3 k hk, q6 k hk]) (by rw [h5' 12 (by omega), z8 12 (by omega), v8 12 (by omega), g5 12 (by omega), q8 12 (by omega)])⟩
          rcases text_L (Gs := Gs) (n0 := N.2.1) (s0 := N.2.2.1) hd hwr hyN hxN hdN ho len vF vF 0 _ P7 D2 F7 0 0 c8 p8 e8 J (fun i hi => nmAt_fr (hwc i hi) (pSy S) hG4 (f07 P)) hbN rfl (Nat.le_refl _) (by omega) (by have := S.1.2.2.2; unfold vF; omega) (by have := S.1.2.2.2; unfold vF; omega) (Nat.zero_le _) with ⟨N9, P9, D9, F9, k1, k2, k3, k4, k5, k6, k7⟩ | ⟨N9, P9, D9, F9, n9, k9, c9, p9, e9, k1, k2, k3, k4, k5, k6⟩
          · left
            refine ⟨N9, P9, D9, F9, ?_, ?_, k3, k4, (f07 P9).tr (fq k5 P9), k6, k7⟩
            · rw [n1, Option.bind_some, show tX3_readText_L69 Gs N.2.1 N.2.2.1 y vF 1 0 _ = _ from k1, Option.bind_some, if_pos ⟨k6, k7⟩, if_pos fz0]
            · rw [n2, Option.bind_some, if_neg n10, tX10_parse_J144, k2, Option.bind_some]
          · right
            refine ⟨N9, P9, D9, F9, u, hz, n9, k9, c9, p9, e9, ?_, ?_, k3, (f07 P9).tr (fq k4 P9), k5, k6⟩
            · rw [n1, Option.bind_some, show tX3_readText_L69 Gs N.2.1 N.2.2.1 y vF 1 0 _ = _ from k1, Option.bind_some, if_pos ⟨k5, k6⟩, if_pos fz1]
            · rw [n2, Option.bind_some, if_neg n10, tX10_parse_J144, k2, Option.bind_some]
end
