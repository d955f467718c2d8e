section
variable {M : vMe} {a r : Nat} {C F : Nat → Nat → Value}
theorem on_eq {n c s : Nat} (h : simC C F n c) : onC C c s ↔ onF F c s := by
  unfold onC onF
  rcases h with ⟨h1, h2, h3⟩ | ⟨h1, h2, h3, -, h5, -, -, -, -, h10, -⟩
  · rw [h1, h3]
    exact ⟨fun g => absurd rfl g.1, fun g => absurd g.1 (by decide)⟩
  · rw [h1, h3, h5]
    rcases h10 with e | e
    · rw [e]; exact ⟨fun g => absurd rfl g.1, fun g => absurd g.2.1 (by decide)⟩
    · rw [e]; exact ⟨fun g => ⟨rfl, rfl, g.2⟩, fun g => ⟨by decide, g.2.2⟩⟩
/-- the rows of set s as numbers -/
def rowT (F : Nat → Nat → Value) (s : Nat) : w_T := (fun p => (oS F s (6 + p)).toNatClampNeg, fun y => (oS F s (70 + y)).toNatClampNeg, gt F 1 5)
theorem rowT_h {u hz s : Nat} (h : okS F u hz s) : hoF F s (rowT F s) ∧ bT (rowT F s) := by
  obtain ⟨-, hp, hx, -⟩ := h
  refine ⟨⟨fun p h => ?_, fun y h => ?_, rfl⟩, fun p h => ?_, fun y h => ?_⟩
  · obtain ⟨q, q1, q2⟩ := hx p h
    show _ = Int32.ofNat (oS F s (6 + p)).toNatClampNeg
    rw [q2, n_clamp (by omega)]
  · obtain ⟨q, q1, q2⟩ := hp y h
    show _ = Int32.ofNat (oS F s (70 + y)).toNatClampNeg
    rw [q2, n_clamp (by omega)]
  · obtain ⟨q, q1, q2⟩ := hx p h
    show (oS F s (6 + p)).toNatClampNeg < 64
    rw [q2, n_clamp (by omega)]; exact q1
  · obtain ⟨q, q1, q2⟩ := hp y h
    show (oS F s (70 + y)).toNatClampNeg < 64
    rw [q2, n_clamp (by omega)]; exact q1
theorem hoC_of {x : w_T} {s : Nat} (h : simS C F s) (hc : gt C 0 8 = gt F 1 5) (hh : hoF F s x) : hoC C s x :=
  ⟨fun p hp => (h.2.2.1 p hp).trans (hh.1 p hp), fun y hy => (h.2.2.2.1 y hy).trans (hh.2.1 y hy), hc.trans hh.2.2⟩
/-- the class finds no member: nothing is done -/
theorem c_takeOut_no {u hz s x : Nat} (hC : cOk M a C) (hs : s < 5) (hF : okS F u hz s) (hS : simS C F s) (hu : u ≤ 64) (hx : x < 64) (hn : ¬ isM F s x) : tX5_takeOut a (Int32.ofNat s) (Int32.ofNat x) (cv M a C) = some (0, cv M a C) := by
  obtain ⟨v, h1, h2⟩ := c_placeOf (x := Int32.ofNat x) hC hs hF hS hu
  have hv : v = -1 := by
    rcases h2 with ⟨h2, -⟩ | ⟨z, z1, z2, z3, z4⟩
    · exact h2
    · have : x = z := (n_eq (by omega) (by omega)).mp z2
      subst this; exact absurd z3 hn
  rw [tX5_takeOut, cA0 hC, Option.bind_some, cS hC hs, Option.bind_some, if_pos (c_tagR hs), h1, Option.bind_some, if_pos hv]
/-- a member goes, on both sides -/
theorem go_P {M' : vMe} {u hz n k s x : Nat} (hC : cOk M a C) (hR : rOk M' r F) (h : simP C F u hz n k) (hs : s < n) (hx : x < u) (hM : isM F s x) :
    ∃ C2 F2, tX5_takeOut a (Int32.ofNat s) (Int32.ofNat x) (cv M a C) = some (1, cv M a C2) ∧ tX10_goes r (Int32.ofNat s) (Int32.ofNat x) (rv M' r F) = some ((), rv M' r F2) ∧
      cOk M a C2 ∧ rOk M' r F2 ∧ kF F F2 ∧ kN C C2 ∧ simP C2 F2 u hz n k ∧ (∀ m, oS F s 0 = Int32.ofNat m → m ≤ 64 → 1 ≤ m ∧ oS F2 s 0 = Int32.ofNat (m - 1)) ∧ (∀ t, t ≠ s → t < 5 → ∀ w, w < 378 → oS F2 t w = oS F t w) := by
  have hP := h
  obtain ⟨hH, hh, hmk, hcu, hpos, hst⟩ := h
  have hs5 : s < 5 := by have := hH.2.2.1.2; omega
  obtain ⟨sS1, sO1⟩ := hst s hs
  have hu := hH.1.2.2
  have hmM := hM
  obtain ⟨p0, m, q1, q2, q3, q4, q5⟩ := hM
  obtain ⟨hx0, bx0⟩ := rowT_h sO1
  obtain ⟨x0, ex0⟩ : ∃ x0, x0 = rowT F s := ⟨_, rfl⟩
  rw [← ex0] at hx0 bx0
  have z1 : x0.2.1 x = p0 := (n_eq (by have := bx0.2 x (by omega); omega) (by omega)).mp ((hx0.2.1 x (by omega)).symm.trans q1)
  have z2 : x0.1 p0 = x := (n_eq (by have := bx0.1 p0 (by omega); omega) (by omega)).mp ((hx0.1 p0 (by omega)).symm.trans q5)
  have hxC := hoC_of sS1 hh.2.2.2.2.2 hx0
  have hmu : m ≤ u ∧ ∀ p, p < m → x0.1 p < u ∧ x0.2.1 (x0.1 p) = p := by
    obtain ⟨⟨m', e1, e2, e3⟩, -⟩ := sO1
    have q : m = m' := (n_eq (by omega) (by omega)).mp (q2.symm.trans e2)
    subst q
    refine ⟨e1, fun p hp => ?_⟩
    obtain ⟨y, y1, y2, y3⟩ := e3 p hp
    have g1 : x0.1 p = y := (n_eq (by have := bx0.1 p (by omega); omega) (by omega)).mp ((hx0.1 p (by omega)).symm.trans y2)
    have g2 : x0.2.1 y = p := (n_eq (by have := bx0.2 y (by omega); omega) (by omega)).mp ((hx0.2.1 y (by omega)).symm.trans y3)
    rw [g1]; exact ⟨y1, g2⟩
  obtain ⟨on, hon⟩ : ∃ on : Nat → Bool, on = fun c => decide (onF F c s) := ⟨_, rfl⟩
  have onF1 : ∀ c, on c = true ↔ onF F c s := fun c => by rw [hon]; exact decide_eq_true_iff
  have onC1 : ∀ c, c < 6 → (on c = true ↔ onC C c s) := fun c hc => (onF1 c).trans (on_eq (hcu c hc)).symm
  obtain ⟨ps, hps⟩ : ∃ ps : Nat → Nat, ps = fun c => (oC F c 2).toNatClampNeg := ⟨_, rfl⟩
  have psF : ∀ c, c < 6 → on c = true → oC F c 2 = Int32.ofNat (ps c) ∧ ps c ≤ m ∧ gt C (44 + c) 4 = Int32.ofNat (ps c) := fun c hc ho => by
    have g := (onF1 c).mp ho
    rcases hcu c hc with ⟨g1, -⟩ | ⟨-, -, -, -, -, g6, -, -, -, -, -, -, ⟨p, p1, p2⟩, -⟩
    · exact absurd g.1 (by rw [g1]; decide)
    · have : ps c = p := by rw [hps]; show (oC F c 2).toNatClampNeg = p; rw [p2, n_clamp (by omega)]
      rw [this]
      exact ⟨p2, hpos c s p m hc hs g p2 p1 q2 q4, by rw [g6, p2]⟩
  obtain ⟨n0, n1, n3⟩ := sO1.2.2.2
  -- the class
  obtain ⟨xE, hxE⟩ : ∃ xE, xE = wkT (atQ on ps) m (m - p0) (p0 + 1) p0 x0 := ⟨_, rfl⟩
  obtain ⟨C1, c1, c2, c3, c4, c5, c6⟩ := c_tk_L (M := M) (a := a) (h0 := p0) (num := Int32.ofNat x) (on := on) (ps := ps) hs5 q4 (m - p0) vF (p0 + 1) p0 C x0 hC hxC bx0 (sS1.1.trans q2) (by omega) onC1
    (fun c hc ho => by
      obtain ⟨g1, g2, g3⟩ := psF c hc ho
      refine ⟨by omega, ?_⟩
      unfold cur; rw [if_neg (by omega)]; exact g3) (by omega) (by omega) (by unfold vF; omega)
  rw [← hxE] at c3
  obtain ⟨C2, hC2⟩ : ∃ C2, C2 = pu (pu C1 (4 + 8 * s) 5 (.int (Int32.ofNat (m - 1)))) 0 7 (.int (gt C 0 7 + 1)) := ⟨_, rfl⟩
  have o1 : cOk M a (pu C1 (4 + 8 * s) 5 (.int (Int32.ofNat (m - 1)))) := cOk_r c2 hs5 (by omega)
  have o2 : cOk M a C2 := hC2 ▸ cOk_0 o1 (by omega)
  have f1C : ∀ j l, j ≠ 4 + 8 * s + 1 → j ≠ 4 + 8 * s + 2 → (j ≠ 0 ∨ (l ≠ 8 ∧ l ≠ 7)) → (j < 44 ∨ l ≠ 4) → (j ≠ 4 + 8 * s ∨ l ≠ 5) → C2 j l = C j l := fun j l g1 g2 g3 g4 g5 => by
    rw [hC2, pu_ne (by omega), pu_ne (by omega), c6 j l g1 g2 (by omega) g4]
  have gC : ∀ j l, j ≠ 4 + 8 * s + 1 → j ≠ 4 + 8 * s + 2 → (j ≠ 0 ∨ (l ≠ 8 ∧ l ≠ 7)) → (j < 44 ∨ l ≠ 4) → (j ≠ 4 + 8 * s ∨ l ≠ 5) → gt C2 j l = gt C j l := fun j l g1 g2 g3 g4 g5 => by
    unfold gt; rw [f1C j l g1 g2 g3 g4 g5]
  have g3 : gt C2 (4 + 8 * s + 4) 3 = Int32.ofNat n0 := by rw [gC _ _ (by omega) (by omega) (by omega) (by omega) (by omega), sS1.2.2.2.2.2.1, n3]
  obtain ⟨C4, k1, k2, k3⟩ := c_note (st := gt C 0 7 + 1) (x := Int32.ofNat x) (k := 1) o2 hs5 g3 n1 hH.2.1.2.2 hH.2.1.2.1
  have eC : tX5_takeOut a (Int32.ofNat s) (Int32.ofNat x) (cv M a C) = some (1, cv M a C4) := by
    obtain ⟨v, h1, h2⟩ := c_placeOf (x := Int32.ofNat x) hC hs5 sO1 sS1 hu
    have hv : v = Int32.ofNat p0 := by
      rcases h2 with ⟨h2, g⟩ | ⟨z, z1, z2, z3, z4⟩
      · exact absurd hmM (g x (by omega) rfl)
      · have : x = z := (n_eq (by omega) (by omega)).mp z2
        subst this; rw [z4, q1]
    have g5 : gt C1 (4 + 8 * s) 5 = Int32.ofNat m := by unfold gt; rw [c6 _ _ (by omega) (by omega) (by omega) (by omega)]; exact sS1.1.trans q2
    have g7 : gt (pu C1 (4 + 8 * s) 5 (.int (Int32.ofNat (m - 1)))) 0 7 = gt C 0 7 := by rw [gt_ne (by omega)]; unfold gt; rw [c6 _ _ (by omega) (by omega) (by omega) (by omega)]
    have g7b : gt C2 0 7 = gt C 0 7 + 1 := by rw [hC2, gt_eq]
    have g4b : gt C2 0 4 = Int32.ofNat hz := by rw [gC _ _ (by omega) (by omega) (by omega) (by omega) (by omega), hh.2.1, hH.2.1.1]
    rw [tX5_takeOut, cA0 hC, Option.bind_some, cS hC hs5, Option.bind_some, if_pos (c_tagR hs5), h1, Option.bind_some, hv, if_neg (fun g => by have := n_neg (a := p0) (by omega); rw [g] at this; exact this (by decide)), l1, n_add, c1, Option.bind_some]
    rw [c_rF hs5, Option.bind_some, g5, n_sub (by omega), c_rV c2 hs5, Option.bind_some, c_gI0, Option.bind_some, g7, ← l1, c_sV0 o1, Option.bind_some, ← hC2]
    rw [c_rA o2 hs5 (by omega), Option.bind_some, c_gI0, Option.bind_some, c_gI0, Option.bind_some, g7b, g4b, show a + (4 + 8 * s + (3 + 1)) = a + (4 + 8 * s + 4) from rfl, if_pos (c_tagL hs5), k1]
    rfl
  -- the reference
  obtain ⟨t, od, Fo, f1, f2, f3, f4, f5, f6⟩ := r_orders (M := M') (s := s) (on := on) (ps := ps) hR (fun d _ => onF1 d) (fun d hd ho => by have := psF d hd ho; exact ⟨this.1, by omega⟩)
  have F1o : Fo 1 = F 1 := f6 1 (by decide)
  have go1 : ∀ l, gt Fo 1 l = gt F 1 l := fun l => by unfold gt; rw [F1o]
  have hFo : hoF Fo s x0 := ⟨fun p hp => by rw [oS, go1]; exact hx0.1 p hp, fun y hy => by rw [oS, go1]; exact hx0.2.1 y hy, by rw [go1]; exact hx0.2.2⟩
  obtain ⟨h', G1, x', r1, r2, r3, r4, r5, r6, r7, r8, r9⟩ := r_gl0 (M := M') (r := r) (xv := Int32.ofNat x) hs5 q4 f3 f4 q3 f2 hFo bx0 f5 (fun i hi => by
    have := psF _ (f4.1 i hi).1 (f4.1 i hi).2
    exact ⟨by rw [oC, go1]; exact this.1, this.2.1⟩) t 0 vF (by omega) (by unfold vF; omega) (fun i hi => by omega)
  rw [← hxE] at r6
  obtain ⟨G2, s1, s2, s3, s4, s5⟩ := r_mv (fr := m - 1) (h := h') r2 r4 r5 hs5 (by omega) (by omega)
  rw [r6] at s3
  obtain ⟨F3, hF3⟩ : ∃ F3, F3 = sS G2 s 0 (Int32.ofNat (m - 1)) := ⟨_, rfl⟩
  have oF3 : rOk M' r F3 := hF3 ▸ sS_ok s2
  have gF3 : ∀ l, l ≠ 5 → l ≠ aS s 0 → (l < aS s 6 ∨ aS s 134 ≤ l) → (∀ c, c < 6 → on c = true → l ≠ aC c 2) → gt F3 1 l = gt F 1 l := fun l g1 g2 g3 g4 => by
    rw [hF3, gt_S, if_neg (by omega), s4 l g1 g3, r8 l g1 g3 g4, go1]
  have nC : ∀ w, w < 378 → ∀ c, c < 6 → on c = true → aS s w ≠ aC c 2 := fun w _ c hc _ => by unfold aS aC; omega
  have e3 : oS F3 s 3 = Int32.ofNat n0 := by rw [oS, gF3 _ (by unfold aS; omega) (by unfold aS; omega) (by unfold aS; omega) (nC 3 (by omega))]; exact n3
  have e2 : gt F3 1 2 = Int32.ofNat hz := by rw [gF3 _ (by omega) (by unfold aS; omega) (by unfold aS; omega) (fun c hc _ => by unfold aC; omega)]; exact hH.2.1.1
  have e1 : gt F3 1 3 = gt F 1 3 := gF3 _ (by omega) (by unfold aS; omega) (by unfold aS; omega) (fun c hc _ => by unfold aC; omega)
  obtain ⟨F4, t1, t2, tk, t3⟩ := r_happens (M := M') (x := Int32.ofNat x) (kind := 1) oF3 hs5 e3 e2 n1 hH.2.1.2.2 hH.2.1.2.1
  have eF : tX10_goes r (Int32.ofNat s) (Int32.ofNat x) (rv M' r F) = some ((), rv M' r F4) := by
    rw [tX10_goes, if_pos r_tag, l70, n_add, r_of hR hs5 (by omega), Option.bind_some, if_pos r_tag, q1, f1, Option.bind_some]
    show ((tX10_goes_L20 r (Int32.ofNat s) (Int32.ofNat x) (Int32.ofNat t) vF (Int32.ofNat p0) 0 (rv M' r Fo)).bind _) = _
    rw [l0, r1, Option.bind_some]
    show (if ((rv M' r G1).1 r).1 = 12 then _ else _) = _
    rw [if_pos r_tag, r_of r2 hs5 (by omega), Option.bind_some, if_pos r_tag]
    have em : oS G1 s 0 = Int32.ofNat m := by rw [oS, r8 _ (by unfold aS; omega) (by unfold aS; omega) (nC 0 (by omega)), go1]; exact q2
    rw [em, l1, n_sub (by omega), s1, Option.bind_some]
    show (if ((rv M' r G2).1 r).1 = 12 then _ else _) = _
    rw [if_pos r_tag, r_sets s2 hs5 (by omega), Option.bind_some, ← hF3]
    show (if ((rv M' r F3).1 r).1 = 12 then _ else _) = _
    rw [if_pos r_tag, ← l1, t1]; rfl
  -- both
  have hzz := hH.2.1.2
  have fO := hapF_out t3 hzz.2 n1 hzz.1
  have cO := hapC_out k3
  have hL2 : simL C2 F3 s := by
    have hL := simS_L sS1
    have pF : ∀ w, w < 378 → ((1 ≤ w ∧ w < 6) ∨ 134 ≤ w) → oS F3 s w = oS F s w := fun w h1 h2 => gF3 _ (by unfold aS; omega) (by unfold aS; omega) (by unfold aS; omega) (nC w h1)
    refine ⟨?_, ?_, ?_, fun k' n' g1 g2 g3 w hw => ?_⟩
    · rw [gC _ _ (by omega) (by omega) (by omega) (by omega) (by omega), pF _ (by omega) (by omega)]; exact hL.1
    · rw [gC _ _ (by omega) (by omega) (by omega) (by omega) (by omega), pF _ (by omega) (by omega)]; exact hL.2.1
    · rw [f1C _ _ (by omega) (by omega) (by omega) (by omega) (by omega), pF _ (by omega) (by omega), pF _ (by omega) (by omega)]; exact hL.2.2.1
    · rw [pF _ (by omega) (by omega)] at g1
      rw [gC _ _ (by omega) (by omega) (by omega) (by omega) (by omega), pF _ (by omega) (by omega)]; exact hL.2.2.2 k' n' g1 g2 g3 w hw
  obtain ⟨hL4, n2, hn2, hn4⟩ := sim_hap hL2 e3 (by rw [e1, hh.2.2.2.2.1]) k3 t3 hzz.2 n1 hzz.1
  have gF4 : ∀ l, l ≠ 3 → l ≠ 5 → l ≠ aS s 0 → (l < aS s 2 ∨ (aS s 134 ≤ l ∧ l < aS s 198) ∨ aS s 378 ≤ l) → (∀ c, c < 6 → on c = true → l ≠ aC c 2) → gt F4 1 l = gt F 1 l := fun l g0 g1 g2 g3 g4 => by
    rw [fO 1 l (.inr ⟨g0, by unfold aS at *; omega⟩), gF3 l g1 g2 (by unfold aS at *; omega) g4]
  have oF3s : ∀ w, w < 378 → w ≠ 0 → oS F3 s w = oS G2 s w := fun w h1 h2 => by rw [oS, hF3, gt_S, if_neg (by unfold aS; omega)]; rfl
  have hF4 : hoF F4 s xE := ⟨fun p hp => by rw [oS, fO 1 _ (.inr ⟨by unfold aS; omega, by unfold aS; omega⟩)]; exact (oF3s _ (by omega) (by omega)).trans (s3.1 p hp), fun y hy => by rw [oS, fO 1 _ (.inr ⟨by unfold aS; omega, by unfold aS; omega⟩)]; exact (oF3s _ (by omega) (by omega)).trans (s3.2.1 y hy),
    by rw [fO 1 _ (.inr ⟨by omega, by unfold aS; omega⟩), hF3, gt_S, if_neg (by unfold aS; omega)]; exact s3.2.2⟩
  have rC : ∀ j, (j < 4 + 8 * s + 4 ∨ 4 + 8 * s + 8 ≤ j) → ∀ l, gt C4 j l = gt C2 j l := fun j hj l => gt_row (cO j hj) l
  have hC4 : hoC C4 s xE := ⟨fun p hp => by rw [rC _ (by omega), hC2, gt_ne (by omega), gt_ne (by omega)]; exact c3.1 p hp, fun y hy => by rw [rC _ (by omega), hC2, gt_ne (by omega), gt_ne (by omega)]; exact c3.2.1 y hy, by rw [rC _ (by omega), hC2, gt_ne (by omega), gt_ne (by omega)]; exact c3.2.2⟩
  have i0 : iT u m p0 x x0 x0 := fun p hp hpp => ⟨(hmu.2 p hp).1, (hmu.2 p hp).2, fun e => hpp (by have := (hmu.2 p hp).2; rw [e, z1] at this; exact this.symm), p, hp, rfl⟩
  have iE : iT u m (m - 1) x x0 xE := by
    rw [hxE, show m - p0 = (m - (p0 + 1)) + 1 by omega]
    exact iT_wk _ _ _ _ i0 (by omega) (by omega)
  have bE : bT xE := by rw [hxE]; exact bT_wk q4 _ _ _ _ bx0 (by omega) (by omega) (by omega) (by omega)
  have m4 : oS F4 s 0 = Int32.ofNat (m - 1) := by
    rw [oS, fO 1 _ (.inr ⟨by unfold aS; omega, by unfold aS; omega⟩), hF3, gt_S, if_pos ⟨rfl, rfl⟩]
  have cF4 : ∀ c, c < 6 → ∀ w, w < 8 → (w ≠ 2 ∨ on c = false) → oC F4 c w = oC F c w := fun c hc w hw hq => gF4 _ (by unfold aC; omega) (by unfold aC; omega) (by unfold aC aS; omega) (by unfold aC aS; omega) (fun d hd ho e => by
    unfold aC at e
    rcases hq with hq | hq
    · omega
    · have : c = d := by omega
      subst this; rw [hq] at ho; cases ho)
  have cF4p : ∀ c, c < 6 → on c = true → oC F4 c 2 = Int32.ofNat (cur p0 (m + 1) (ps c)) := fun c hc ho => by
    rw [oC, fO 1 _ (.inr ⟨by unfold aC; omega, by unfold aC aS; omega⟩), hF3, gt_S, if_neg (by unfold aC aS; omega), s4 _ (by unfold aC; omega) (by unfold aC aS; omega)]
    exact r7 c hc ho
  have cC4 : ∀ c, c < 6 → ∀ l, (l ≠ 4 ∨ on c = false) → gt C4 (44 + c) l = gt C (44 + c) l := fun c hc l hl => by
    rw [rC _ (by omega)]
    rcases hl with hl | hl
    · exact gC _ _ (by omega) (by omega) (by omega) (by omega) (by omega)
    · by_cases e : l = 4
      · rw [hC2, gt_ne (by omega), gt_ne (by omega), e]; exact c5 c hc hl
      · exact gC _ _ (by omega) (by omega) (by omega) (by omega) (by omega)
  have cC4p : ∀ c, c < 6 → on c = true → gt C4 (44 + c) 4 = Int32.ofNat (cur p0 (m + 1) (ps c)) := fun c hc ho => by
    rw [rC _ (by omega), hC2, gt_ne (by omega), gt_ne (by omega)]; exact c4 c hc ho
  have onF4 : ∀ c d, c < 6 → (onF F4 c d ↔ onF F c d) := fun c d hc => by
    unfold onF; rw [cF4 c hc 0 (by omega) (.inl (by omega)), cF4 c hc 3 (by omega) (.inl (by omega)), cF4 c hc 1 (by omega) (.inl (by omega))]
  have gt_m : ∀ w, w < 378 → (134 ≤ w ∧ w < 198 ∨ w = 1) → oS F4 s w = oS F s w := fun w h1 h2 => gF4 _ (by unfold aS; omega) (by unfold aS; omega) (by unfold aS; omega) (by unfold aS; omega) (nC w h1)
  refine ⟨C4, F4, eC, eF, k2, t2, kF.tr (fun i h1 h2 => ?_) tk, fun t ht => ?_, simP_set hP hs (fun l h1 h2 h3 h4 => ?_) (fun j l h1 h2 => ?_) ?_ ?_ (fun c hc => ?_) ?_ ?_ ?_, fun m' h1 h2 => ?_, fun t ht h5 w hw => ?_⟩
  · rw [hF3, sS, pu_o h1, s5 i h1, r9 i h1, f6 i h2]
  · rw [cO _ (by omega), f1C _ _ (by omega) (by omega) (by omega) (by omega) (by omega)]
  · exact gF4 l h1 h2 (by unfold aS at *; omega) (by unfold aS at *; omega) (fun c hc _ => by unfold aC; omega)
  · rw [cO _ (by omega), f1C _ _ (by omega) (by omega) (by omega) (by omega) (by omega)]
  · rw [rC _ (by omega), hC2, gt_eq, hapF_clock t3, e1, hh.2.2.2.2.1]
  · exact hC4.2.2.trans hF4.2.2.symm
  · have hs1 := hcu c hc
    by_cases ho : on c = true
    · have hon2 := (onF1 c).mp ho
      rcases hs1 with ⟨g1, -⟩ | ⟨g1, g2, g3, g4, g5, g6, g7, g8, g9, g10, g11, g12, g13, g14⟩
      · exact absurd hon2.1 (by rw [g1]; decide)
      · right
        have pc := psF c hc ho
        rw [cF4 c hc 0 (by omega) (.inl (by omega)), cF4 c hc 1 (by omega) (.inl (by omega)), cF4 c hc 3 (by omega) (.inl (by omega)), cF4 c hc 4 (by omega) (.inl (by omega)), cF4 c hc 5 (by omega) (.inl (by omega)), cF4 c hc 6 (by omega) (.inl (by omega)), cF4 c hc 7 (by omega) (.inl (by omega)), cF4p c hc ho, cC4p c hc ho]
        rw [cC4 c hc 0 (.inl (by omega)), cC4 c hc 1 (.inl (by omega)), cC4 c hc 2 (.inl (by omega)), cC4 c hc 3 (.inl (by omega)), cC4 c hc 5 (.inl (by omega)), cC4 c hc 6 (.inl (by omega)), cC4 c hc 7 (.inl (by omega))]
        exact ⟨g1, g2, g3, g4, g5, rfl, g7, g8, g9, g10, g11, g12, ⟨_, by unfold cur; split <;> omega, rfl⟩, g14⟩
    · have ho' : on c = false := Bool.eq_false_iff.mpr ho
      exact simC_congr (fun w hw => cF4 c hc w hw (.inr ho')) (fun l => cC4 c hc l (.inr ho')) hs1
  · intro c t p m' hc ht hon' hp hp64 hm' hm64
    have g := (onF4 c t hc).mp hon'
    by_cases e : t = s
    · subst e
      have ho := (onF1 c).mpr g
      rw [m4] at hm'
      have e1 := (n_eq (by omega) (by omega)).mp hm'
      rw [cF4p c hc ho] at hp
      have pc := psF c hc ho
      have e2 := (n_eq (by unfold cur; split <;> omega) (by omega)).mp hp
      unfold cur at e2
      split at e2 <;> omega
    · have ho : on c = false := by
        cases e2 : on c
        · rfl
        · have := ((onF1 c).mp e2).2.2
          rw [g.2.2] at this
          exact absurd ((n_eq (by have := hH.2.2.1.2; omega) (by omega)).mp this) e
      rw [cF4 c hc 2 (by omega) (.inr ho)] at hp
      have ht5 : t < 5 := by have := hH.2.2.1.2; omega
      rw [show oS F4 t 0 = oS F t 0 from gF4 _ (by unfold aS; omega) (by unfold aS; omega) (by unfold aS; omega) (by unfold aS; omega) (fun c hc _ => by unfold aS aC; omega)] at hm'
      exact hpos c t p m' hc ht g hp hp64 hm' hm64
  · obtain ⟨s1, s2, s3', s4', s5', -⟩ := sS1
    refine ⟨?_, ?_, fun y hy => (hC4.1 y hy).trans (hF4.1 y hy).symm, fun y hy => (hC4.2.1 y hy).trans (hF4.2.1 y hy).symm, fun y hy hmy => ?_, hL4⟩
    · rw [rC _ (by omega), hC2, gt_ne (by omega), gt_eq, m4]
    · rw [rC _ (by omega), gC _ _ (by omega) (by omega) (by omega) (by omega) (by omega), gt_m 1 (by omega) (.inr rfl)]; exact s2
    · rw [rC _ (by omega), gC _ _ (by omega) (by omega) (by omega) (by omega) (by omega), gt_m (134 + y) (by omega) (.inl (by omega))]
      refine s5' y hy ?_
      obtain ⟨p, m', w1, w2, w3, w4, w5⟩ := hmy
      rw [m4] at w2
      have em := (n_eq (by omega) (by omega)).mp w2
      have g1 : xE.1 p = y := (n_eq (by have := bE.1 p (by omega); omega) (by omega)).mp ((hF4.1 p (by omega)).symm.trans w5)
      obtain ⟨-, -, -, p', v1, v2⟩ := iE p (by omega) (by omega)
      rw [g1] at v2
      have v3 := (hmu.2 p' v1).2
      rw [v2] at v3
      exact ⟨p', m, by rw [hx0.2.1 y hy, v3], q2, v1, q4, by rw [hx0.1 p' (by omega), v2]⟩
  · refine ⟨⟨m - 1, by omega, m4, fun p hp => ?_⟩, fun y hy => ⟨_, bE.2 y hy, hF4.2.1 y hy⟩, fun y hy => ⟨_, bE.1 y hy, hF4.1 y hy⟩, n2, hn2, hn4⟩
    obtain ⟨w1, w2, -⟩ := iE p (by omega) (by omega)
    exact ⟨xE.1 p, w1, hF4.1 p (by omega), by rw [hF4.2.1 _ (by omega), w2]⟩
  · have : m = m' := (n_eq (by omega) (by omega)).mp (q2.symm.trans h1)
    subst this
    exact ⟨by omega, m4⟩
  · exact gF4 _ (by unfold aS; omega) (by unfold aS; omega) (by unfold aS; omega) (by unfold aS; omega) (fun c hc _ => by unfold aS aC; omega)
end
