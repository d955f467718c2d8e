section
variable {M : vMe} {a r : Nat} {C F : Nat → Nat → Value}
/-- whether cursor c meets a member with this stamp -/
def mtF (F : Nat → Nat → Value) (c : Nat) (st : Int32) : Int32 := if oC F c 4 = 0 then 1 else if oC F c 5 < st then 0 else 1
theorem mtF_01 (F : Nat → Nat → Value) (c : Nat) (st : Int32) : mtF F c st = 0 ∨ mtF F c st = 1 := by
  unfold mtF
  by_cases h : oC F c 4 = 0
  · rw [if_pos h]; exact .inr rfl
  · rw [if_neg h]
    by_cases g : oC F c 5 < st
    · rw [if_pos g]; exact .inl rfl
    · rw [if_neg g]; exact .inr rfl
theorem c_meets {c : Nat} {st : Int32} (hc : c < 6) (h2 : gt C (44 + c) 2 = oC F c 4) (h5 : gt C (44 + c) 5 = oC F c 5) : tX0_meets (a + (44 + c)) st (cv M a C) = some (mtF F c st) := by
  rw [tX0_meets, uI hc, Option.bind_some, h2, mtF]
  by_cases h : oC F c 4 = 0
  · rw [if_pos h, if_pos h]
  · rw [if_neg h, if_neg h, uI hc, Option.bind_some, h5]
    by_cases g : oC F c 5 < st
    · rw [if_pos g, if_pos g]
    · rw [if_neg g, if_neg g]
theorem r_meets {c s x : Nat} (h : rOk M r F) (hc : c < 6) (hs : s < 5) (hx : x < 64) (h1 : oC F c 1 = Int32.ofNat s) : tX10_meets r (Int32.ofNat c) (Int32.ofNat x) (rv M r F) = some (mtF F c (oS F s (134 + x))) := by
  rw [tX10_meets, if_pos r_tag, l4, r_ofCursor h hc (by omega), Option.bind_some, mtF]
  by_cases g : oC F c 4 = 0
  · rw [if_pos g, if_pos g]
  · rw [if_neg g, if_neg g, if_pos r_tag, l1, r_ofCursor h hc (by omega), Option.bind_some, if_pos r_tag, h1, l134, n_add, r_of h hs (by omega), Option.bind_some, if_pos r_tag, l5, r_ofCursor h hc (by omega), Option.bind_some]
    by_cases g : oC F c 5 < oS F s (134 + x)
    · rw [if_pos g, if_pos g]
    · rw [if_neg g, if_neg g]
/-- the number in place p of set s -/
def numP (F : Nat → Nat → Value) (s p : Nat) : Nat := (oS F s (6 + p)).toNatClampNeg
theorem numP_at {u hz s m p : Nat} (h : okS F u hz s) (hu : u ≤ 64) (hm : oS F s 0 = Int32.ofNat m) (hm64 : m ≤ 64) (hp : p < m) : oS F s (6 + p) = Int32.ofNat (numP F s p) ∧ numP F s p < u ∧ isM F s (numP F s p) ∧ oS F s (70 + numP F s p) = Int32.ofNat p := by
  obtain ⟨⟨m', e1, e2, e3⟩, -⟩ := h
  have q : m = m' := (n_eq (by omega) (by omega)).mp (hm.symm.trans e2)
  subst q
  obtain ⟨y, y1, y2, y3⟩ := e3 p hp
  have e : numP F s p = y := by unfold numP; rw [y2, n_clamp (by omega)]
  rw [e]
  exact ⟨y2, y1, ⟨p, m, y3, hm, hp, hm64, y2⟩, y3⟩
theorem c_stampAt {u hz s m p : Nat} (hC : cOk M a C) (hs : s < 5) (hO : okS F u hz s) (hS : simS C F s) (hu : u ≤ 64) (hm : oS F s 0 = Int32.ofNat m) (hm64 : m ≤ 64) (hp : p < m) :
    tX7_stampAt (a + (4 + 8 * s)) (Int32.ofNat p) (cv M a C) = some (oS F s (134 + numP F s p)) := by
  obtain ⟨n1, n2, n3, -⟩ := numP_at hO hu hm hm64 hp
  have e1 : gt C (4 + 8 * s + (0 + 1)) p = Int32.ofNat (numP F s p) := (hS.2.2.1 p (by omega)).trans n1
  have e2 : gt C (4 + 8 * s + (2 + 1)) (numP F s p) = oS F s (134 + numP F s p) := hS.2.2.2.2.1 _ (by omega) n3
  rw [tX7_stampAt, c_rA hC hs (by omega), Option.bind_some, c_rA hC hs (by omega), Option.bind_some, c_mI hs (by omega) (by omega), Option.bind_some, e1, c_mI hs (by omega) (by omega), Option.bind_some, e2]
theorem kN.rf : kN C C := fun _ _ => rfl
theorem kN.tr {C1 C2 : Nat → Nat → Value} (h : kN C C1) (g : kN C1 C2) : kN C C2 := fun t ht => (g t ht).trans (h t ht)
/-- a cursor passes members until it meets one -/
theorem step_L {M' : vMe} {u hz n k c s m : Nat} (hc : c < 6) (hs : s < n) (hm64 : m ≤ 64) : ∀ (j p f f' : Nat) (C F : Nat → Nat → Value), cOk M a C → rOk M' r F → simP C F u hz n k → oC F c 0 = 1 → oC F c 3 = 1 → oC F c 1 = Int32.ofNat s → oC F c 2 = Int32.ofNat p → oS F s 0 = Int32.ofNat m → p + j = m → j < f → j < f' →
    ∃ C2 F2 z, tX5_meetNext_L15 a (a + (44 + c)) (a + (4 + 8 * s)) f (Int32.ofNat p) (cv M a C) = some (z, cv M a C2) ∧ tX10_step_L21 r (Int32.ofNat c) (Int32.ofNat s) f' (rv M' r F) = some (z, rv M' r F2) ∧ cOk M a C2 ∧ rOk M' r F2 ∧ kF F F2 ∧ kN C C2 ∧ simP C2 F2 u hz n k ∧ oC F2 c 0 = 1 := by
  intro j
  induction j with
  | zero =>
    intro p f f' C F hC hR h h0 h3 h1 hp hm hpj hf hf'
    obtain ⟨f, rfl⟩ : ∃ g, f = g + 1 := ⟨f - 1, by omega⟩
    obtain ⟨f', rfl⟩ : ∃ g, f' = g + 1 := ⟨f' - 1, by omega⟩
    have hs5 : s < 5 := by have := h.1.2.2.1.2; omega
    refine ⟨C, F, Sum.inr (), ?_, ?_, hC, hR, kF.rf, kN.rf, h, h0⟩
    · rw [tX5_meetNext_L15, c_rF hs5, Option.bind_some, (h.2.2.2.2.2 s hs).1.1, hm, if_pos ((n_le (by omega) (by omega)).mpr (by omega))]
    · rw [tX10_step_L21, if_pos r_tag, l3, r_ofCursor hR hc (by omega), Option.bind_some, h3, if_pos rfl, if_pos r_tag, l2, r_ofCursor hR hc (by omega), Option.bind_some, if_pos r_tag, l0, r_of hR hs5 (by omega), Option.bind_some, hm, hp, if_pos ((n_le (by omega) (by omega)).mpr (by omega))]
  | succ j ih =>
    intro p f f' C F hC hR h h0 h3 h1 hp hm hpj hf hf'
    obtain ⟨f, rfl⟩ : ∃ g, f = g + 1 := ⟨f - 1, by omega⟩
    obtain ⟨f', rfl⟩ : ∃ g, f' = g + 1 := ⟨f' - 1, by omega⟩
    have hs5 : s < 5 := by have := h.1.2.2.1.2; omega
    have hu := h.1.1.2.2
    obtain ⟨sS1, sO1⟩ := h.2.2.2.2.2 s hs
    obtain ⟨x1, x2, x3, x4⟩ := numP_at sO1 hu hm hm64 (show p < m by omega)
    obtain ⟨x, hx⟩ : ∃ x, x = numP F s p := ⟨_, rfl⟩
    rw [← hx] at x1 x2 x3 x4
    have hcs := h.2.2.2.1 c hc
    rcases hcs with ⟨g1, -⟩ | ⟨g1, g2, g3, g4, g5, g6, g7, g8, g9, g10, g11, g12, g13, g14⟩
    · exact absurd h0 (by rw [g1]; decide)
    obtain ⟨C1, hC1⟩ : ∃ C1, C1 = pu (pu C (44 + c) 4 (.int (Int32.ofNat (p + 1)))) 0 8 (.int (gt C 0 8 + 1)) := ⟨_, rfl⟩
    have o1 : cOk M a (pu C (44 + c) 4 (.int (Int32.ofNat (p + 1)))) := cOk_u hC hc
    have o2 : cOk M a C1 := hC1 ▸ cOk_0 o1 (by omega)
    obtain ⟨F1, hF1⟩ : ∃ F1, F1 = pu (sC F c 2 (Int32.ofNat (p + 1))) 1 5 (.int (gt F 1 5 + 1)) := ⟨_, rfl⟩
    have r1 : rOk M' r F1 := hF1 ▸ pu_ok (sC_ok hR) (.inl (by decide))
    have k1 : kF F F1 := hF1 ▸ kF.rf.C.pu1
    have gC : ∀ j l, (j ≠ 44 + c ∨ l ≠ 4) → (j ≠ 0 ∨ l ≠ 8) → C1 j l = C j l := fun j l h1 h2 => by rw [hC1, pu_ne (by omega), pu_ne (by omega)]
    have gg : ∀ j l, (j ≠ 44 + c ∨ l ≠ 4) → (j ≠ 0 ∨ l ≠ 8) → gt C1 j l = gt C j l := fun j l h1 h2 => by unfold gt; rw [gC j l h1 h2]
    have gF : ∀ l, l ≠ aC c 2 → l ≠ 5 → gt F1 1 l = gt F 1 l := fun l h1 h2 => by rw [hF1, gt_ne (by omega), sC, gt_ne (by omega)]
    have gFs : ∀ t w, oS F1 t w = oS F t w := fun t w => gF _ (by unfold aS aC; omega) (by unfold aS; omega)
    have gFc : ∀ d w, d < 6 → w < 8 → (d ≠ c ∨ w ≠ 2) → oC F1 d w = oC F d w := fun d w h1 h2 h3 => gF _ (by unfold aC; omega) (by unfold aC; omega)
    have e4 : gt C1 (44 + c) 4 = Int32.ofNat (p + 1) := by rw [hC1, gt_ne (by omega), gt_eq]
    have e2 : oC F1 c 2 = Int32.ofNat (p + 1) := by rw [hF1, oC, gt_ne (by unfold aC; omega), sC, gt_pu, if_pos ⟨rfl, rfl⟩]
    have P1 : simP C1 F1 u hz n k := by
      refine simP_cur (c := c) h hc (fun l h1 h2 => gF l (by unfold aC at *; omega) h1) (fun j l h1 h2 => gC j l (by omega) h2) ?_ ?_ ?_
      · rw [hC1, hF1, gt_eq, gt_eq, h.2.1.2.2.2.2.2]
      · right
        rw [gFc c 0 hc (by omega) (by omega), gFc c 1 hc (by omega) (by omega), gFc c 3 hc (by omega) (by omega), gFc c 4 hc (by omega) (by omega), gFc c 5 hc (by omega) (by omega), gFc c 6 hc (by omega) (by omega), gFc c 7 hc (by omega) (by omega), e2, e4]
        rw [gg _ 0 (by omega) (by omega), gg _ 1 (by omega) (by omega), gg _ 2 (by omega) (by omega), gg _ 3 (by omega) (by omega), gg _ 5 (by omega) (by omega), gg _ 6 (by omega) (by omega), gg _ 7 (by omega) (by omega)]
        exact ⟨g1, g2, g3, g4, g5, rfl, g7, g8, g9, g10, g11, g12, ⟨p + 1, by omega, rfl⟩, g14⟩
      · intro t p' m' ht hon hp' hp64 hm' hm64'
        have e1 := hon.2.2
        rw [gFc c 1 hc (by omega) (by omega), h1] at e1
        have ets : s = t := (n_eq (by omega) (by have := h.1.2.2.1.2; omega)).mp e1
        subst ets
        rw [e2] at hp'
        have := (n_eq (by omega) (by omega)).mp hp'
        have := (n_eq (by omega) (by omega)).mp (hm.symm.trans hm')
        omega
    obtain ⟨sS2, sO2⟩ := P1.2.2.2.2.2 s hs
    have hm1 : oS F1 s 0 = Int32.ofNat m := (gFs s 0).trans hm
    have nx : numP F1 s p = x := by unfold numP; rw [gFs]; exact hx.symm
    have hst := c_stampAt (M := M) o2 hs5 sO2 sS2 hu hm1 hm64 (show p < m by omega)
    rw [nx] at hst
    have hmc : tX0_meets (a + (44 + c)) (oS F1 s (134 + x)) (cv M a C1) = some (mtF F1 c (oS F1 s (134 + x))) := c_meets hc (by rw [gg _ 2 (by omega) (by omega), gFc c 4 hc (by omega) (by omega), g4]) (by rw [gg _ 5 (by omega) (by omega), gFc c 5 hc (by omega) (by omega), g7])
    have hmr : tX10_meets r (Int32.ofNat c) (Int32.ofNat x) (rv M' r F1) = some (mtF F1 c (oS F1 s (134 + x))) := r_meets r1 hc hs5 (by omega) (by rw [gFc c 1 hc (by omega) (by omega)]; exact h1)
    have stC : tX5_meetNext_L15 a (a + (44 + c)) (a + (4 + 8 * s)) (f + 1) (Int32.ofNat p) (cv M a C) = if mtF F1 c (oS F1 s (134 + x)) = 0 then tX5_meetNext_L15 a (a + (44 + c)) (a + (4 + 8 * s)) f (Int32.ofNat (p + 1)) (cv M a C1)
        else some (Sum.inl (Int32.ofNat x), cv M a (pu (pu C1 (44 + c) 6 (.int (gt C (44 + c) 6 + 1))) (44 + c) 7 (.int (Int32.ofNat x)))) := by
      have o3 : cOk M a (pu C1 (44 + c) 6 (.int (gt C (44 + c) 6 + 1))) := cOk_u o2 hc
      have em : gt (pu C1 (44 + c) 6 (.int (gt C (44 + c) 6 + 1))) (4 + 8 * s + (0 + 1)) p = Int32.ofNat x := by
        rw [gt_ne (by omega), gg _ _ (by omega) (by omega)]; exact (sS1.2.2.1 p (by omega)).trans x1
      rw [tX5_meetNext_L15, c_rF hs5, Option.bind_some, sS1.1, hm, if_neg (fun g => by have := (n_le (by omega) (by omega)).mp g; omega), l1, n_add, uV hC hc, Option.bind_some, c_gI0, Option.bind_some, gt_ne (by omega), ← l1, c_sV0 o1, Option.bind_some, ← hC1, if_pos (c_tagR hs5), hst, Option.bind_some, if_pos (uT hc), hmc, Option.bind_some]
      by_cases q : mtF F1 c (oS F1 s (134 + x)) = 0
      · rw [if_pos q, if_pos q]
      · rw [if_neg q, if_neg q, uI hc, Option.bind_some, gg _ 6 (by omega) (by omega), uV o2 hc, Option.bind_some, c_rA o3 hs5 (by omega), Option.bind_some, c_mI hs5 (by omega) (by omega), Option.bind_some, em, uV o3 hc, Option.bind_some, uI hc, Option.bind_some, gt_eq]
    have stF : tX10_step_L21 r (Int32.ofNat c) (Int32.ofNat s) (f' + 1) (rv M' r F) = if mtF F1 c (oS F1 s (134 + x)) = 0 then tX10_step_L21 r (Int32.ofNat c) (Int32.ofNat s) f' (rv M' r F1)
        else some (Sum.inl (Int32.ofNat x), rv M' r (sC (sC F1 c 6 (oC F c 6 + 1)) c 7 (Int32.ofNat (x + 1)))) := by
      have cst : gt (sC F c 2 (Int32.ofNat (p + 1))) 1 5 = gt F 1 5 := by rw [sC, gt_ne (by unfold aC; omega)]
      rw [tX10_step_L21, if_pos r_tag, l3, r_ofCursor hR hc (by omega), Option.bind_some, h3, if_pos rfl, if_pos r_tag, l2, r_ofCursor hR hc (by omega), Option.bind_some, if_pos r_tag, l0, r_of hR hs5 (by omega), Option.bind_some, hm, hp, if_neg (fun g => by have := (n_le (by omega) (by omega)).mp g; omega)]
      rw [if_pos r_tag, Option.bind_some, if_pos r_tag, l6, n_add, r_of hR hs5 (by omega), Option.bind_some, x1, if_pos r_tag, Option.bind_some, if_pos r_tag, l1, n_add, r_setsCursor hR hc (by omega), Option.bind_some]
      rw [rA1 (sC_ok hR), Option.bind_some, l5, r_now (by omega), Option.bind_some, cst, r_nowS (sC_ok hR) (by omega), Option.bind_some, ← l1, ← hF1, if_pos r_tag, hmr, Option.bind_some, ← l0]
      by_cases q : mtF F1 c (oS F1 s (134 + x)) = 0
      · rw [if_pos q, if_pos q]
      · rw [if_neg q, if_neg q, if_pos r_tag, r_ofCursor r1 hc (by omega), Option.bind_some, gFc c 6 hc (by omega) (by omega), if_pos r_tag, r_setsCursor r1 hc (by omega), Option.bind_some, if_pos r_tag, l7, l1, n_add, r_setsCursor (sC_ok r1) hc (by omega), Option.bind_some]
    rw [stC, stF]
    by_cases q : mtF F1 c (oS F1 s (134 + x)) = 0
    · rw [if_pos q, if_pos q]
      obtain ⟨C2, F2, z, w1, w2, w3, w4, w5, w6, w7, w8⟩ := ih (p + 1) f f' C1 F1 o2 r1 P1 (by rw [gFc c 0 hc (by omega) (by omega)]; exact h0) (by rw [gFc c 3 hc (by omega) (by omega)]; exact h3) (by rw [gFc c 1 hc (by omega) (by omega)]; exact h1) e2 hm1 (by omega) (by omega) (by omega)
      exact ⟨C2, F2, z, w1, w2, w3, w4, kF.tr k1 w5, kN.tr (fun t ht => gC _ _ (by omega) (by omega)) w6, w7, w8⟩
    · rw [if_neg q, if_neg q]
      refine ⟨_, _, _, rfl, rfl, cOk_u (cOk_u o2 hc) hc, sC_ok (sC_ok r1), k1.C.C, fun t ht => by rw [pu_ne (by omega), pu_ne (by omega), gC _ _ (by omega) (by omega)], ?_, ?_⟩
      · have fc : ∀ d w, d < 6 → w < 8 → (d ≠ c ∨ w < 6) → oC (sC (sC F1 c 6 (oC F c 6 + 1)) c 7 (Int32.ofNat (x + 1))) d w = oC F1 d w := fun d w h1 h2 h3 => by
          rw [oC_sC, if_neg (by unfold aC; omega), oC_sC, if_neg (by unfold aC; omega)]
        refine simP_cur (c := c) P1 hc (fun l h1 h2 => ?_) (fun j l h1 h2 => by rw [pu_ne (by omega), pu_ne (by omega)]) ?_ ?_ ?_
        · rw [sC, gt_ne (by unfold aC at *; omega), sC, gt_ne (by unfold aC at *; omega)]
        · rw [gt_ne (by omega), gt_ne (by omega), P1.2.1.2.2.2.2.2, sC, gt_ne (by unfold aC; omega), sC, gt_ne (by unfold aC; omega)]
        · right
          rw [fc c 0 hc (by omega) (by omega), fc c 1 hc (by omega) (by omega), fc c 2 hc (by omega) (by omega), fc c 3 hc (by omega) (by omega), fc c 4 hc (by omega) (by omega), fc c 5 hc (by omega) (by omega)]
          rw [oC_sC, if_neg (by unfold aC; omega), oC_sC, if_pos rfl, oC_sC, if_pos rfl]
          rw [gt_ne (k := 7) (l := 0) (by omega), gt_ne (k := 6) (l := 0) (by omega), gt_ne (k := 7) (l := 1) (by omega), gt_ne (k := 6) (l := 1) (by omega), gt_ne (k := 7) (l := 2) (by omega), gt_ne (k := 6) (l := 2) (by omega), gt_ne (k := 7) (l := 3) (by omega), gt_ne (k := 6) (l := 3) (by omega), gt_ne (k := 7) (l := 4) (by omega), gt_ne (k := 6) (l := 4) (by omega), gt_ne (k := 7) (l := 5) (by omega), gt_ne (k := 6) (l := 5) (by omega), gt_ne (k := 7) (l := 6) (by omega), gt_eq, gt_eq]
          rw [gFc c 0 hc (by omega) (by omega), gFc c 1 hc (by omega) (by omega), gFc c 3 hc (by omega) (by omega), gFc c 4 hc (by omega) (by omega), gFc c 5 hc (by omega) (by omega), e2, e4]
          rw [gg _ 0 (by omega) (by omega), gg _ 1 (by omega) (by omega), gg _ 2 (by omega) (by omega), gg _ 3 (by omega) (by omega), gg _ 5 (by omega) (by omega)]
          exact ⟨g1, g2, g3, g4, g5, rfl, g7, by rw [g8], by rw [l1, n_sub (by omega), Nat.add_sub_cancel], g10, g11, g12, ⟨p + 1, by omega, rfl⟩, x + 1, by omega, rfl⟩
        · intro t p' m' ht hon hp' hp64 hm' hm64'
          have e1 := hon.2.2
          rw [fc c 1 hc (by omega) (by omega), gFc c 1 hc (by omega) (by omega), h1] at e1
          have ets : s = t := (n_eq (by omega) (by have := h.1.2.2.1.2; omega)).mp e1
          subst ets
          rw [fc c 2 hc (by omega) (by omega), e2] at hp'
          have := (n_eq (by omega) (by omega)).mp hp'
          have := (n_eq (by omega) (by omega)).mp (hm1.symm.trans hm')
          omega
      · rw [oC_sC, if_neg (by unfold aC; omega), oC_sC, if_neg (by unfold aC; omega), gFc c 0 hc (by omega) (by omega)]; exact h0
/-- the place to which a field of a cursor that is not open any more is set -/
theorem close_P {u hz n k c : Nat} (h : simP C F u hz n k) (hc : c < 6) : simP (pu C (44 + c) 1 (.int 0)) (sC F c 3 0) u hz n k := by
  refine simP_cur (c := c) h hc (fun l h1 h2 => by rw [sC, gt_ne (by unfold aC at *; omega)]) (fun j l h1 h2 => by rw [pu_ne (by omega)]) ?_ ?_ ?_
  · rw [gt_ne (by omega), sC, gt_ne (by unfold aC; omega)]; exact h.2.1.2.2.2.2.2
  · have fc : ∀ w, w < 8 → w ≠ 3 → oC (sC F c 3 0) c w = oC F c w := fun w h1 h2 => by rw [oC_sC, if_neg (by unfold aC; omega)]
    unfold simC
    rw [fc 0 (by omega) (by omega), fc 1 (by omega) (by omega), fc 2 (by omega) (by omega), fc 4 (by omega) (by omega), fc 5 (by omega) (by omega), fc 6 (by omega) (by omega), fc 7 (by omega) (by omega), oC_sC, if_pos rfl]
    rw [gt_ne (l := 0) (by omega), gt_eq, gt_ne (l := 2) (by omega), gt_ne (l := 3) (by omega), gt_ne (l := 4) (by omega), gt_ne (l := 5) (by omega), gt_ne (l := 6) (by omega), gt_ne (l := 7) (by omega)]
    rcases h.2.2.2.1 c hc with ⟨g1, g2, g3⟩ | ⟨g1, g2, g3, g4, g5, g6, g7, g8, g9, g10, g11, g12, g13, g14⟩
    · exact .inl ⟨g1, g2, rfl⟩
    · exact .inr ⟨g1, g2, rfl, g4, g5, g6, g7, g8, g9, .inl rfl, g11, g12, g13, g14⟩
  · intro t p m ht hon
    have := hon.2.1
    rw [oC_sC, if_pos rfl] at this
    exact absurd this (by decide)
/-- a step, on both sides -/
theorem step_P {M' : vMe} {u hz n k c : Nat} (hC : cOk M a C) (hR : rOk M' r F) (h : simP C F u hz n k) (hc : c < 6) (h0 : oC F c 0 = 1) :
    ∃ C2 F2 v, (if gt C (44 + c) 1 = 0 then some ((-1 : Int32), cv M a C) else tX5_meetNext a (a + (44 + c)) (cv M a C)) = some (v, cv M a C2) ∧
      (((tX10_step_L21 r (Int32.ofNat c) (oC F c 1) vF (rv M' r F)).bind fun z39 => Sum.elim (fun r42 => some (r42, z39.2)) (fun _ => tX10_step_J125 r (Int32.ofNat c) z39.2) z39.1) = some (v, rv M' r F2)) ∧ cOk M a C2 ∧ rOk M' r F2 ∧ kF F F2 ∧ kN C C2 ∧ simP C2 F2 u hz n k := by
  have hcs := h.2.2.2.1 c hc
  rcases hcs with ⟨g1, -⟩ | ⟨g1, g2, g3, g4, g5, g6, g7, g8, g9, g10, g11, ⟨s, s1, s2⟩, ⟨p, p1, p2⟩, g14⟩
  · exact absurd h0 (by rw [g1]; decide)
  have hs5 : s < 5 := by have := h.1.2.2.1.2; omega
  have J : ∀ F1, rOk M' r F1 → tX10_step_J125 r (Int32.ofNat c) (rv M' r F1) = some (-1, rv M' r (sC F1 c 3 0)) := fun F1 h1 => by
    rw [tX10_step_J125, if_pos r_tag, l3, r_setsCursor h1 hc (by omega), Option.bind_some]
  by_cases o : oC F c 3 = 1
  · have ho : ¬ gt C (44 + c) 1 = 0 := by rw [g3, o]; decide
    obtain ⟨m, m1, m2⟩ := okS_m (h.2.2.2.2.2 s s1).2
    have hu := h.1.1.2.2
    have hpm := h.2.2.2.2.1 c s p m hc s1 ⟨h0, o, s2⟩ p2 p1 m2 (by omega)
    obtain ⟨C2, F2, z, w1, w2, w3, w4, w5, w6, w7, w8⟩ := step_L (M := M) (a := a) (r := r) (M' := M') hc s1 (show m ≤ 64 by omega) (m - p) p vF vF C F hC hR h h0 o s2 p2 m2 (by omega) (by unfold vF; omega) (by unfold vF; omega)
    rw [if_neg ho, tX5_meetNext, cA0 hC, Option.bind_some, uI hc, Option.bind_some, g5, s2, cS hC hs5, Option.bind_some, uI hc, Option.bind_some, g6, p2, w1, w2, Option.bind_some, Option.bind_some]
    rcases z with v | ⟨⟩
    · exact ⟨C2, F2, v, rfl, rfl, w3, w4, w5, w6, w7⟩
    · refine ⟨_, _, -1, ?_, J F2 w4, cOk_u w3 hc, sC_ok w4, w5.C, kN.tr w6 (fun t ht => by rw [pu_ne (by omega)]), close_P w7 hc⟩
      show ((sV (cv M a C2) (a + (44 + c)) 3 1 (.int 0)).bind fun M35 => some ((-1 : Int32), M35)) = _
      rw [uV w3 hc]; rfl
  · have e : oC F c 3 = 0 := g10.resolve_right o
    refine ⟨C, sC F c 3 0, -1, by rw [if_pos (by rw [g3, e])], ?_, hC, sC_ok hR, kF.rf.C, kN.rf, ?_⟩
    · rw [show vF = 99999 + 1 from rfl, tX10_step_L21, if_pos r_tag, l3, r_ofCursor hR hc (by omega), Option.bind_some, e, if_neg (by decide), Option.bind_some]
      exact J F hR
    · have := close_P h hc
      refine simP_cur (c := c) h hc (fun l h1 h2 => by rw [sC, gt_ne (by unfold aC at *; omega)]) (fun j l h1 h2 => rfl) ?_ ?_ ?_
      · rw [sC, gt_ne (by unfold aC; omega)]; exact h.2.1.2.2.2.2.2
      · exact simC_congr (F := F) (C := C) (fun w hw => by
          by_cases q : w = 3
          · rw [q, oC_sC, if_pos rfl, e]
          · rw [oC_sC, if_neg (by unfold aC; omega)]) (fun _ => rfl) (h.2.2.2.1 c hc)
      · intro t p m ht hon
        have := hon.2.1
        rw [oC_sC, if_pos rfl] at this
        exact absurd this (by decide)
end
