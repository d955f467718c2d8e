section
variable {M M' N : vMe} {x y r a d u hz n k : Nat} {G F C D : Nat → Nat → Value} {P : Nat → Value} {T : Nat → Nat} {len : Nat} {Gs : Nat → Nat}
/-- the sets that are still to come are blank -/
def zr (F : Nat → Nat → Value) (n : Nat) : Prop := ∀ s, n ≤ s → s < 5 → ∀ w, w < 378 → oS F s w = 0
theorem zr.fr {F2 : Nat → Nat → Value} {s : Nat} (h : zr F n) (hs : s < n) (g : ∀ t, t ≠ s → t < 5 → ∀ w, w < 378 → oS F2 t w = oS F t w) : zr F2 n := fun t h1 h5 w hw => by rw [g t (by omega) h5 w hw]; exact h t h1 h5 w hw
theorem zr.row {F2 : Nat → Nat → Value} (h : zr F n) (e : F2 1 = F 1) : zr F2 n := fun t h1 h5 w hw => by
  have : oS F2 t w = oS F t w := gt_row e _
  rw [this]; exact h t h1 h5 w hw
/-- no error so far -/
def e8 (P : Nat → Value) (F : Nat → Nat → Value) : Prop := vI (P 7) = 0 ∧ vI (P 8) = -1 ∧ gt F 0 12 = -1
theorem e8.mv {P2 : Nat → Value} {F2 : Nat → Nat → Value} (h : e8 P F) (g : ∀ k, k < 3 ∨ 6 < k → P2 k = P k) (f : F2 0 12 = F 0 12) : e8 P2 F2 := ⟨by rw [g 7 (by omega)]; exact h.1, by rw [g 8 (by omega)]; exact h.2.1, by unfold gt; rw [f]; exact h.2.2⟩
/-- the parse's state at the head of a statement -/
def pJ (x y d r len u hz n k : Nat) (T Gs : Nat → Nat) (G : Nat → Nat → Value) (N M' : vMe) (P : Nat → Value) (D F : Nat → Nat → Value) (c p e : Nat) : Prop :=
  pS x y d r len T G N M' P D F ∧ tk Gs T len P F c p e ∧ simP D F u hz n k ∧ simNm N x r G D F 5 n ∧ gt F 0 11 = 0 ∧ G 0 4 = .ref d ∧ zr F n ∧ e8 P F
/-- what a step leaves alone -/
def fr (y d : Nat) (N N2 : vMe) (P P2 : Nat → Value) (F F2 : Nat → Nat → Value) : Prop :=
  (∀ q, q ≠ y → ¬ (d ≤ q ∧ q < d + 50) → q < N.2.1 → N2.1 q = N.1 q) ∧ N2.2.2.2 = N.2.2.2 ∧ N.2.1 ≤ N2.2.1 ∧ (∀ k, k < 3 → P2 k = P k) ∧ (∀ i, i = 2 ∨ i = 3 ∨ i = 4 ∨ i = 7 ∨ i = 8 ∨ i = 9 → F2 i = F i) ∧ ∀ l, l < 6 ∨ 16 < l → F2 0 l = F 0 l
theorem fr.tr {N1 N2 : vMe} {P1 P2 : Nat → Value} {F1 F2 : Nat → Nat → Value} (h : fr y d N N1 P P1 F F1) (g : fr y d N1 N2 P1 P2 F1 F2) : fr y d N N2 P P2 F F2 := by
  obtain ⟨h1, h2, h3, h4, h5, h6⟩ := h
  obtain ⟨g1, g2, g3, g4, g5, g6⟩ := g
  exact ⟨fun q q1 q2 q3 => by rw [g1 q q1 q2 (by omega), h1 q q1 q2 q3], g2.trans h2, by omega, fun k hk => by rw [g4 k hk, h4 k hk], fun i hi => by rw [g5 i hi, h5 i hi], fun l hl => by rw [g6 l hl, h6 l hl]⟩
theorem fr.rf : fr y d N N P P F F := ⟨fun _ _ _ _ => rfl, rfl, Nat.le_refl _, fun _ _ => rfl, fun _ _ => rfl, fun _ _ => rfl⟩
theorem fr_pv {P2 : Nat → Value} {F2 : Nat → Nat → Value} (h4 : ∀ k, k < 3 → P2 k = P k) (h5 : ∀ i, i ≠ 0 → F2 i = F i) (h6 : ∀ l, l < 6 ∨ 16 < l → F2 0 l = F 0 l) : fr y d N (pv N y P2) P P2 F F2 :=
  ⟨fun q q1 _ _ => pv_out q1, rfl, Nat.le_refl _, h4, fun i hi => h5 i (by omega), h6⟩
theorem pSy (S : pS x y d r len T G N M' P D F) : (N.1 y).1 = 6 := by rw [S.2.1.1]
theorem simNm_pv {i : Nat} {P2 : Nat → Value} (h : simNm N x r G D F i n) (hy : (N.1 y).1 = 6) : simNm (pv N y P2) x r G D F i n := fun s hs => by
  obtain ⟨q, l, q1, ⟨p, p1, p2, p3, p4, p5⟩, q3, q4⟩ := h s hs
  have e1 : q ≠ y := fun e => by
    obtain ⟨S, B, g1, -⟩ := p1
    rw [e] at g1; rw [g1] at hy; exact absurd (show (1 : Nat) = 6 from hy) (by decide)
  have e2 : p ≠ y := fun e => by
    obtain ⟨S, B, -, -, -, g1, -⟩ := p1
    rw [e] at g1; rw [g1] at hy; exact absurd (show (102 : Nat) = 6 from hy) (by decide)
  exact ⟨q, l, q1, ⟨p, p1.same (pv_out e1) (pv_out e2), p2, p3, p4, p5⟩, q3, q4⟩
theorem simNm_row {i : Nat} {F2 : Nat → Nat → Value} (h : simNm N x r G D F i n) (e : F2 i = F i) : simNm N x r G D F2 i n := fun s hs => by
  obtain ⟨q, l, q1, q2, q3, q4⟩ := h s hs
  exact ⟨q, l, q1, q2, q3, by rw [e]; exact q4⟩
theorem simNm_cv {i : Nat} {D2 : Nat → Nat → Value} (h : simNm N x r G D F i n) (hn : n ≤ 5) (hd : G 0 4 = .ref d) (hk : kN D D2) : simNm (cv N d D2) x r G D2 F i n := fun s hs => by
  obtain ⟨q, l, q1, ⟨p, p1, p2, p3, p4, p5⟩, q3, q4⟩ := h s hs
  have e1 : ¬ (d ≤ q ∧ q < d + 50) := fun g => p2 (own_bk (i := 1) (by omega) (bk1 hd) g.1 g.2)
  have e2 : ¬ (d ≤ p ∧ p < d + 50) := fun g => p3 (own_bk (i := 1) (by omega) (bk1 hd) g.1 g.2)
  exact ⟨q, l, by rw [hk s (by omega)]; exact q1, ⟨p, p1.same (cv_out e1) (cv_out e2), p2, p3, p4, p5⟩, q3, q4⟩
theorem f16 : ∀ j, rFld j ≠ 16 := fun j => by unfold rFld; split <;> omega
theorem ne_m1 {s : Nat} (h : s < 2147483648) : ¬ Int32.ofNat s = (-1 : Int32) := fun c => by
  have := congrArg Int32.toInt c
  rw [n_toInt h, show (-1 : Int32).toInt = -1 by decide] at this
  omega
/-- a set that was named before -/
theorem earl_P {c p e : Nat} (J : pJ x y d r len u hz n k T Gs G N M' P D F c p e) (hd : tkD Gs) :
    (∃ P1 P2 F2, tX3_toNextToken Gs y N = some ((), pv N y P1) ∧ tX3_readEarlierSet Gs y (pv N y P1) = some (-1, pv N y P2) ∧ tX10_takesSet r (rv M' r F) = some (0, rv M' r F2) ∧ bad x y d r len T G N M' D F P2 F2 ∧ ∀ k, k < 3 → P2 k = P k) ∨
    (∃ s P1 F2 e1 c2 p2 e2, s < n ∧ tX3_toNextToken Gs y N = some ((), pv N y P1) ∧ tX3_readEarlierSet Gs y (pv N y P1) = some (Int32.ofNat s, pv N y P1) ∧ tX10_takesSet r (rv M' r F) = some (1, rv M' r F2) ∧ pS x y d r len T G (pv N y P1) M' P1 D F2 ∧
      vI (P1 5) = Int32.ofNat e1 ∧ e1 ≤ len ∧ e < e1 ∧ rk T len F2 e1 c2 p2 e2 ∧ gt F2 0 16 = Int32.ofNat s ∧ (∀ k, k < 3 ∨ 6 < k → P1 k = P k) ∧ (∀ i, i ≠ 0 → F2 i = F i) ∧ ∀ l, l < 6 ∨ (10 < l ∧ l ≠ 16) → F2 0 l = F 0 l) := by
  obtain ⟨S, t, hP, hN, h11, hG4⟩ := J
  obtain ⟨P1, F1, c1, p1, e1, q1, q2, S1, t1, q5, q6, q7, q8⟩ := next_P (Gs := Gs) S t.2.2.2.2.1 t.2.2.2.2.2.1 (tokC_e t.2.2.2.2.2.2.2.1 t.2.2.2.2.2.2.1).2.1
  have c5 := tokC_5 t1.2.2.2.2.2.2.2.1
  have ce := tokC_e t1.2.2.2.2.2.2.2.1 t1.2.2.2.2.2.2.1
  have hl := S.1.2.2.2
  have cc : Gs (tIx c1) = Gs 100 ↔ c1 = 1 := tIx_eq hd (j := 1) c5 (by omega)
  have b0 := S1.2.1.2.1
  have b3 := S1.2.1.2.2.1
  have h11' : gt F1 0 11 = 0 := by unfold gt; rw [q8 11 (by omega)]; exact h11
  have dR := S1.2.2.2.1
  by_cases h1 : c1 = 1
  · subst h1
    have hn5 := hP.1.2.2.1.2
    obtain ⟨lf, hlf⟩ := nm_f (simNm_pv (P2 := P1) hN (pSy S))
    obtain ⟨z, z1, z2⟩ := c_named (Gs := Gs) (s0 := p1) (e := e1) S1.1.1 S1.1.2.1 S1.1.2.2.1 S1.2.2.1.1 S1.2.2.1.2 (simP_cnt hP).2.1 hn5 (fun s hs => (hlf s hs).1) (by omega) ce.1
    obtain ⟨zr, y1, y2⟩ := r_named (M := M') (r := r) (F := F1) (j := 5) (v := vJ (F1 0 10)) (by omega) rfl rfl hn5
    have tl := tokC_1 t1.2.2.2.2.2.2.2.1
    have ez : zr = z := fst1_u y2 z2 (fun s hs => by
      rw [q7 5 (by omega), (hlf s hs).2.2, t1.2.2.2.2.2.2.2.2.2 rfl]
      exact (nm_pk (hlf s hs).2.1 tl.2 tl.1.2.2.1).symm)
    subst ez
    have cnt0 : aI (rv M' r F1) (r + 1) 101 0 = some (Int32.ofNat n) := by
      have := r_now (M := M') (r := r) (F := F1) (n := 0) (by omega)
      rw [gt_row (q7 1 (by omega)), hP.1.2.2.1.1] at this; exact this
    have S16 : pS x y d r len T G (pv N y P1) M' P1 D (pu F1 0 16 (.int zr)) := ⟨S1.1, S1.2.1, S1.2.2.1, ⟨rOk_0 dR.1 f16, dR.2.1.row (pu_o (by omega)), by rw [gt_ne (by omega)]; exact dR.2.2⟩, S1.2.2.2.2⟩
    have rd : tX10_takesSet r (rv M' r F) = if zr = ((-1) : Int32) then tX10_takesSet_J54 r 4 0 (rv M' r (pu F1 0 16 (.int zr))) else tX10_takesSet_J54 r 4 1 (rv M' r (pu F1 0 16 (.int zr))) := by
      rw [tX10_takesSet, if_pos r_tag, q2, Option.bind_some, r_gI, Option.bind_some, t1.2.1, if_c (v := 1) (b := 1) rfl (by omega) (by omega), if_pos rfl, rA15 dR.1, Option.bind_some, rA1 dR.1, Option.bind_some, cnt0, Option.bind_some, r_gJ, Option.bind_some, y1, Option.bind_some, r_sV _ dR.1, Option.bind_some, r_gI, Option.bind_some, gt_eq]
    have cd' : tX3_readEarlierSet Gs y (pv N y P1) = if zr = ((-1) : Int32) then ((tX3_fail y 4 (pv N y P1)).bind fun z9 => some (zr, z9.2)) else some (zr, pv N y P1) := by
      rw [tX3_readEarlierSet, p_A t1.1, Option.bind_some, if_pos (cc.mpr rfl), p_A b3, Option.bind_some, p_A b0.1, Option.bind_some, p_I, Option.bind_some, p_I, Option.bind_some, t1.2.2.1, t1.2.2.2.2.1, if_pos (T_b S1.2.2.1.1), z1, Option.bind_some]
      by_cases g : zr = ((-1) : Int32)
      · rw [if_pos g, if_pos g, if_pos p_tag]
      · rw [if_neg g, if_neg g]
    have t16 : tk Gs T len P1 (pu F1 0 16 (.int zr)) 1 p1 e1 := by
      obtain ⟨k1, k2, k3, k4, k5, k6, k7, k8, k9, k10⟩ := t1
      exact ⟨k1, by rw [gt_ne (by omega)]; exact k2, k3, by rw [gt_ne (by omega)]; exact k4, k5, by rw [gt_ne (by omega)]; exact k6, k7, k8, fun c => by omega, fun c => by rw [pu_ne (by omega)]; exact k10 c⟩
    rcases z2 with ⟨s, s1, s2, -, -⟩ | ⟨s1, -⟩
    · right
      have nz : ¬ zr = (-1 : Int32) := by rw [s2]; exact ne_m1 (by omega)
      obtain ⟨F2, c2, p2, e2, w1, w2, w3, w4, w5⟩ := r_next S16 (e := e1) (by rw [gt_ne (by omega)]; exact t1.2.2.2.2.2.1) ce.2.1
      refine ⟨s, P1, F2, e1, c2, p2, e2, s1, q1, by rw [cd', if_neg nz, s2], ?_, w2, t1.2.2.2.2.1, ce.2.1, by have := ce.2.2.1 (by omega); omega, w3, by rw [show gt F2 0 16 = gt (pu F1 0 16 (.int zr)) 0 16 from by unfold gt; rw [w5 16 (by omega)], gt_eq, s2], q6, fun i hi => by rw [w4 i hi, pu_o hi, q7 i hi], fun l hl => by rw [w5 l (by omega), pu_ne (by omega), q8 l (by omega)]⟩
      rw [rd, if_neg nz, tX10_takesSet_J54, if_pos r_tag, tX10_starts, if_neg n10, if_pos r_tag, w1, Option.bind_some, Option.bind_some, if_pos fz1]
    · left
      obtain ⟨P2, F2, w1, w2, w3, w4, w5, w6, w7, w8, w9⟩ := fail_P (j := 4) S16 t16 (by rw [gt_ne (by omega)]; exact h11')
      have epv : pv (pv N y P1) y P2 = pv N y P2 := by
        refine Prod.ext (funext fun q => ?_) rfl
        by_cases g : q = y
        · rw [g, pv_at, pv_at]
        · rw [pv_out g, pv_out g, pv_out g]
      rw [epv] at w1 w3
      refine ⟨P1, P2, F2, q1, by rw [cd', if_pos s1, w1, Option.bind_some, s1], ?_, ⟨w3, ⟨w4.trans w5.symm, w6⟩, fun i hi => by rw [w8 i hi, pu_o hi, q7 i hi], fun l hl => by rw [w9 l (by omega) (by omega), pu_ne (by omega), q8 l (by omega)]⟩, fun k hk => by rw [w7 k (by omega), q6 k (by omega)]⟩
      rw [rd, if_pos s1, tX10_takesSet_J54, if_pos r_tag, tX10_starts, if_pos rfl, if_pos r_tag, w2, Option.bind_some, if_pos fz0, Option.bind_some, if_pos fz0]
  · left
    obtain ⟨P2, F2, w1, w2, w3, w4, w5, w6, w7, w8, w9⟩ := fail_P (j := 1) S1 t1 h11'
    have epv : pv (pv N y P1) y P2 = pv N y P2 := by
      refine Prod.ext (funext fun q => ?_) rfl
      by_cases g : q = y
      · rw [g, pv_at, pv_at]
      · rw [pv_out g, pv_out g, pv_out g]
    rw [epv] at w1 w3
    refine ⟨P1, P2, F2, q1, ?_, ?_, ⟨w3, ⟨w4.trans w5.symm, w6⟩, fun i hi => by rw [w8 i hi, q7 i hi], fun l hl => by rw [w9 l (by omega) (by omega), q8 l (by omega)]⟩, fun k hk => by rw [w7 k (by omega), q6 k (by omega)]⟩
    · rw [tX3_readEarlierSet, p_A t1.1, Option.bind_some, if_neg (fun w => h1 (cc.mp w)), if_pos p_tag, w1, Option.bind_some]
    · rw [tX10_takesSet, if_pos r_tag, q2, Option.bind_some, r_gI, Option.bind_some, t1.2.1, if_c (v := 1) (b := 1) rfl (by omega) (by omega), if_neg h1, if_pos r_tag, w2, Option.bind_some, if_pos fz0]
end
