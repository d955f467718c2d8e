section
variable {M : vMe} {a r : Nat} {C F : Nat → Nat → Value}
theorem c_empty_L {s : Nat} : ∀ (j f k : Nat) (C : Nat → Nat → Value), cOk M a C → k + j = 6 → j < f →
    ∃ C1, tX5_emptySet_L68 a (Int32.ofNat s) f (Int32.ofNat k) (cv M a C) = some ((), cv M a C1) ∧ cOk M a C1 ∧
      (∀ c, c < 6 → gt C1 (44 + c) 1 = if k ≤ c ∧ onC C c s then 0 else gt C (44 + c) 1) ∧ ∀ j l, (j < 44 ∨ l ≠ 1) → C1 j l = C j l := by
  intro j
  induction j with
  | zero =>
    intro f k C h hk hf
    obtain ⟨f, rfl⟩ : ∃ g, f = g + 1 := ⟨f - 1, by omega⟩
    refine ⟨C, ?_, h, fun c hc => ?_, fun _ _ _ => rfl⟩
    · rw [tX5_emptySet_L68, if_pos (by rw [l6]; exact (n_le (by omega) (by omega)).mpr (by omega))]
    · rw [if_neg (by omega)]
  | succ j ih =>
    intro f k C h hk hf
    obtain ⟨f, rfl⟩ : ∃ g, f = g + 1 := ⟨f - 1, by omega⟩
    have hk6 : k < 6 := by omega
    have st : tX5_emptySet_L68 a (Int32.ofNat s) (f + 1) (Int32.ofNat k) (cv M a C) = tX5_emptySet_L68 a (Int32.ofNat s) f (Int32.ofNat (k + 1)) (cv M a (if onC C k s then pu C (44 + k) 1 (.int 0) else C)) := by
      rw [tX5_emptySet_L68, if_neg (by rw [l6]; exact fun g => by have := (n_le (by omega) (by omega)).mp g; omega)]
      rw [cA1 h, Option.bind_some, cU h hk6, Option.bind_some, if_pos (uT hk6), c_isOpenOn hk6, Option.bind_some]
      by_cases c1 : onC C k s
      · rw [if_pos c1, if_pos c1, if_neg (by decide), Option.bind_some, cU h hk6, Option.bind_some, uV h hk6, Option.bind_some, tX5_emptySet_J97_68, n_succ]
      · rw [if_neg c1, if_neg c1, if_pos rfl, tX5_emptySet_J97_68, n_succ]
    rw [st]
    by_cases c : onC C k s
    · rw [if_pos c]
      obtain ⟨C1, e1, e2, e3, e4⟩ := ih f (k + 1) (pu C (44 + k) 1 (.int 0)) (cOk_u h hk6) (by omega) (by omega)
      refine ⟨C1, e1, e2, fun d hd => ?_, fun j l hj => by rw [e4 j l hj, pu_ne (by omega)]⟩
      rw [e3 d hd]
      by_cases e : d = k
      · subst e
        rw [if_neg (by omega), gt_eq, if_pos ⟨by omega, c⟩]
      · have eo : onC (pu C (44 + k) 1 (.int 0)) d s ↔ onC C d s := by unfold onC; rw [gt_ne (by omega), gt_ne (by omega)]
        by_cases g : k + 1 ≤ d ∧ onC C d s
        · rw [if_pos ⟨g.1, eo.mpr g.2⟩, if_pos ⟨by omega, g.2⟩]
        · rw [if_neg (fun q => g ⟨q.1, eo.mp q.2⟩), if_neg (fun q => g ⟨by omega, q.2⟩), gt_ne (by omega)]
    · rw [if_neg c]
      obtain ⟨C1, e1, e2, e3, e4⟩ := ih f (k + 1) C h (by omega) (by omega)
      refine ⟨C1, e1, e2, fun d hd => ?_, e4⟩
      rw [e3 d hd]
      by_cases e : d = k
      · subst e
        rw [if_neg (by omega), if_neg (fun q => c q.2)]
      · by_cases g : k + 1 ≤ d ∧ onC C d s
        · rw [if_pos g, if_pos ⟨by omega, g.2⟩]
        · rw [if_neg g, if_neg (fun q => g ⟨by omega, q.2⟩)]
/-- a set is cleared, on both sides -/
theorem clear_PF {M' : vMe} {u hz n k s : Nat} (hC : cOk M a C) (hR : rOk M' r F) (h : simP C F u hz n k) (hs : s < n) :
    ∃ C2 F2, tX5_emptySet a (Int32.ofNat s) (cv M a C) = some ((), cv M a C2) ∧ tX10_clears r (Int32.ofNat s) (rv M' r F) = some ((), rv M' r F2) ∧
      cOk M a C2 ∧ rOk M' r F2 ∧ kF F F2 ∧ kN C C2 ∧ simP C2 F2 u hz n k ∧ ∀ t, t ≠ s → t < 5 → ∀ w, w < 378 → oS F2 t w = oS F t w := by
  have hP := h
  obtain ⟨hH, hh, hmk, hcu, hpos, hst⟩ := h
  have hs5 : s < 5 := by have := hH.2.2.1.2; omega
  obtain ⟨sS1, sO1⟩ := hst s hs
  have hu := hH.1.2.2
  obtain ⟨m, m1, m2⟩ := okS_m sO1
  obtain ⟨n0, n1, n3⟩ := sO1.2.2.2
  have hzz := hH.2.1.2
  obtain ⟨G0, hG0⟩ : ∃ G0, G0 = pu F 1 5 (.int (gt F 1 5 + 1)) := ⟨_, rfl⟩
  have h0 : rOk M' r G0 := hG0 ▸ pu_ok hR (.inl (by decide))
  have gG0 : ∀ l, l ≠ 5 → gt G0 1 l = gt F 1 l := fun l hl => by rw [hG0, gt_ne (by omega)]
  have oG0 : ∀ w, oS G0 s w = oS F s w := fun w => gG0 _ (by unfold aS; omega)
  have hL := simS_L sS1
  -- the event, if there is one
  have A : ∃ Ca Fa, tX5_emptySet a (Int32.ofNat s) (cv M a C) = tX5_emptySet_J41 a (Int32.ofNat s) (a + (4 + 8 * s)) (cv M a Ca) ∧ tX10_clears r (Int32.ofNat s) (rv M' r F) = tX10_clears_J26 r (Int32.ofNat s) (rv M' r Fa) ∧
      cOk M a Ca ∧ rOk M' r Fa ∧ kF F Fa ∧ simL Ca Fa s ∧ (∃ n2, n2 ≤ hz ∧ oS Fa s 3 = Int32.ofNat n2) ∧ gt Ca 0 7 = gt Fa 1 3 ∧ gt Fa 1 5 = gt F 1 5 + 1 ∧
      (∀ j l, (j < 4 + 8 * s + 4 ∨ 4 + 8 * s + 8 ≤ j) → (j ≠ 0 ∨ l ≠ 7) → Ca j l = C j l) ∧ ∀ l, l ≠ 3 → l ≠ 5 → (l < aS s 2 ∨ (aS s 6 ≤ l ∧ l < aS s 198) ∨ aS s 378 ≤ l) → gt Fa 1 l = gt F 1 l := by
    have eC : tX5_emptySet a (Int32.ofNat s) (cv M a C) = if m = 0 then tX5_emptySet_J41 a (Int32.ofNat s) (a + (4 + 8 * s)) (cv M a C) else
        ((tX2_note (a + (4 + 8 * s + 4)) (gt C 0 7 + 1) (-1) 2 (Int32.ofNat hz) (cv M a (pu C 0 7 (.int (gt C 0 7 + 1))))).bind fun z32 => tX5_emptySet_J41 a (Int32.ofNat s) (a + (4 + 8 * s)) z32.2) := by
      rw [tX5_emptySet, cA0 hC, Option.bind_some, cS hC hs5, Option.bind_some, c_rF hs5, Option.bind_some, sS1.1, m2]
      by_cases c : m = 0
      · rw [if_pos c, if_pos (by rw [c]; decide)]
      · rw [if_neg c, if_neg (fun g => by rw [l0] at g; have := (n_le (by omega) (by omega)).mp g; omega)]
        rw [c_gI0, Option.bind_some, c_sV0 hC, Option.bind_some, c_rA (cOk_0 hC (by omega)) hs5 (by omega), Option.bind_some, c_gI0, Option.bind_some, c_gI0, Option.bind_some, gt_eq, gt_ne (by omega), hh.2.1, hH.2.1.1]
        rw [show a + (4 + 8 * s + (3 + 1)) = a + (4 + 8 * s + 4) from rfl, if_pos (c_tagL hs5)]
    have eF : tX10_clears r (Int32.ofNat s) (rv M' r F) = if m = 0 then tX10_clears_J26 r (Int32.ofNat s) (rv M' r G0) else ((tX10_happens r (Int32.ofNat s) (-1) 2 (rv M' r G0)).bind fun z18 => tX10_clears_J26 r (Int32.ofNat s) z18.2) := by
      rw [tX10_clears, rA1 hR, Option.bind_some, l5, r_now (by omega), Option.bind_some, r_nowS hR (by omega), Option.bind_some, ← hG0, if_pos r_tag, l0, r_of h0 hs5 (by omega), Option.bind_some, oG0, m2]
      by_cases c : m = 0
      · rw [if_pos c, if_pos (by rw [c]; exact (n_le (by omega) (by omega)).mpr (by omega))]
      · rw [if_neg c, if_neg (fun g => by have := (n_le (by omega) (by omega)).mp g; omega), if_pos r_tag]
    by_cases c : m = 0
    · rw [if_pos c] at eC eF
      refine ⟨C, G0, eC, eF, hC, h0, hG0 ▸ kF.rf.pu1, ?_, ⟨n0, n1, by rw [oG0]; exact n3⟩, ?_, ?_, fun _ _ _ _ => rfl, fun l h1 h2 _ => gG0 l h2⟩
      · unfold simL; simp only [oG0]; exact hL
      · rw [gG0 _ (by omega)]; exact hh.2.2.2.2.1
      · rw [hG0, gt_eq]
    · rw [if_neg c] at eC eF
      obtain ⟨C0, hC0⟩ : ∃ C0, C0 = pu C 0 7 (.int (gt C 0 7 + 1)) := ⟨_, rfl⟩
      rw [← hC0] at eC
      have o0 : cOk M a C0 := hC0 ▸ cOk_0 hC (by omega)
      have g0 : ∀ j l, (j ≠ 0 ∨ l ≠ 7) → C0 j l = C j l := fun j l hj => by rw [hC0, pu_ne (by omega)]
      have g3 : gt C0 (4 + 8 * s + 4) 3 = Int32.ofNat n0 := by unfold gt; rw [g0 _ _ (by omega)]; exact sS1.2.2.2.2.2.1.trans n3
      obtain ⟨Ca, k1, k2, k3⟩ := c_note (st := gt C 0 7 + 1) (x := -1) (k := 2) o0 hs5 g3 n1 hzz.2 hzz.1
      obtain ⟨Fa, t1, t2, tk, t3⟩ := r_happens (M := M') (x := -1) (kind := 2) h0 hs5 ((oG0 3).trans n3) ((gG0 2 (by omega)).trans hH.2.1.1) n1 hzz.2 hzz.1
      have hL0 : simL C0 G0 s := by
        refine ⟨?_, ?_, ?_, fun k' n' h1 h2 h3 w hw => ?_⟩
        · rw [oG0]; unfold gt; rw [g0 _ _ (by omega)]; exact hL.1
        · rw [oG0]; unfold gt; rw [g0 _ _ (by omega)]; exact hL.2.1
        · rw [oG0, oG0, g0 _ _ (by omega)]; exact hL.2.2.1
        · rw [oG0] at h1
          rw [oG0]; unfold gt; rw [g0 _ _ (by omega)]; exact hL.2.2.2 k' n' h1 h2 h3 w hw
      obtain ⟨hL4, n2, hn2, hn4⟩ := sim_hap hL0 ((oG0 3).trans n3) (by rw [gG0 _ (by omega), hh.2.2.2.2.1]) k3 t3 hzz.2 n1 hzz.1
      refine ⟨Ca, Fa, by rw [eC, k1]; rfl, by rw [eF, t1]; rfl, k2, t2, kF.tr (hG0 ▸ kF.rf.pu1) tk, hL4, ⟨n2, hn2, hn4⟩, ?_, ?_, fun j l hj hl => ?_, fun l g1 g2 g4 => ?_⟩
      · rw [gt_row (hapC_out k3 0 (by omega)), hC0, gt_eq, hapF_clock t3, gG0 _ (by omega), hh.2.2.2.2.1]
      · rw [hapF_out t3 hzz.2 n1 hzz.1 1 5 (.inr ⟨by omega, by unfold aS; omega⟩), hG0, gt_eq]
      · rw [hapC_out k3 j hj, g0 j l hl]
      · rw [hapF_out t3 hzz.2 n1 hzz.1 1 l (.inr ⟨g1, g4⟩), gG0 l g2]
  obtain ⟨Ca, Fa, eC, eF, oa, ra, ka, la, ⟨n2, hn2, hn4⟩, clk, cst, fa, ga⟩ := A
  obtain ⟨gn, hgn⟩ : ∃ gn, gn = oS F s 1 := ⟨_, rfl⟩
  -- the class's rest
  obtain ⟨C1, hC1⟩ : ∃ C1, C1 = pu (pu (pu Ca (4 + 8 * s) 5 (.int 0)) (4 + 8 * s) 6 (.int (gn + 1))) 0 8 (.int (gt C 0 8 + 1)) := ⟨_, rfl⟩
  have b1 : cOk M a (pu Ca (4 + 8 * s) 5 (.int 0)) := cOk_r oa hs5 (by omega)
  have b2 : cOk M a (pu (pu Ca (4 + 8 * s) 5 (.int 0)) (4 + 8 * s) 6 (.int (gn + 1))) := cOk_r b1 hs5 (by omega)
  have b3 : cOk M a C1 := hC1 ▸ cOk_0 b2 (by omega)
  obtain ⟨C2, w1, w2, w3, w4⟩ := c_empty_L (M := M) (a := a) (s := s) 6 vF 0 C1 b3 (by omega) (by unfold vF; omega)
  have eC2 : tX5_emptySet a (Int32.ofNat s) (cv M a C) = some ((), cv M a C2) := by
    have q6 : gt (pu Ca (4 + 8 * s) 5 (.int 0)) (4 + 8 * s) 6 = gn := by rw [gt_ne (by omega)]; unfold gt; rw [fa _ _ (by omega) (by omega), hgn]; exact sS1.2.1
    have q8 : gt (pu (pu Ca (4 + 8 * s) 5 (.int 0)) (4 + 8 * s) 6 (.int (gn + 1))) 0 8 = gt C 0 8 := by rw [gt_ne (by omega), gt_ne (by omega)]; unfold gt; rw [fa _ _ (by omega) (by omega)]
    rw [eC, tX5_emptySet_J41, c_rV oa hs5, Option.bind_some, c_rF hs5, Option.bind_some, q6, c_rV b1 hs5, Option.bind_some, c_gI0, Option.bind_some, q8, c_sV0 b2, Option.bind_some, ← hC1, l0, w1, Option.bind_some]
  -- the reference's rest
  obtain ⟨F1, hF1⟩ : ∃ F1, F1 = sS (sS Fa s 0 0) s 1 (gn + 1) := ⟨_, rfl⟩
  have r1 : rOk M' r F1 := hF1 ▸ sS_ok (sS_ok ra)
  obtain ⟨F2, v1, v2, vk, v3, v4⟩ := r_clears_L (M := M') (r := r) (s := s) 6 vF 0 F1 r1 (by omega) (by unfold vF; omega)
  have eF2 : tX10_clears r (Int32.ofNat s) (rv M' r F) = some ((), rv M' r F2) := by
    have q1 : oS (sS Fa s 0 0) s 1 = gn := by rw [oS_sS, if_neg (by unfold aS; omega), oS, ga _ (by unfold aS; omega) (by unfold aS; omega) (by unfold aS; omega), hgn]; rfl
    rw [eF, tX10_clears_J26, if_pos r_tag, show tX10_sets r (Int32.ofNat s) 0 0 (rv M' r Fa) = some ((), rv M' r (sS Fa s 0 0)) from r_sets (w := 0) ra hs5 (by omega), Option.bind_some]
    simp only [r_tag, if_true]
    rw [l1, r_of (sS_ok ra) hs5 (by omega), Option.bind_some, q1, r_sets (sS_ok ra) hs5 (by omega), Option.bind_some, ← l1, ← hF1, l0, v1, Option.bind_some]
  have gF1 : ∀ l, l ≠ 3 → l ≠ 5 → l ≠ aS s 0 → l ≠ aS s 1 → (l < aS s 2 ∨ (aS s 6 ≤ l ∧ l < aS s 198) ∨ aS s 378 ≤ l) → gt F1 1 l = gt F 1 l := fun l g1 g2 g3 g4 g5 => by
    rw [hF1, gt_S, if_neg (by omega), gt_S, if_neg (by omega), ga l g1 g2 g5]
  have gF2 : ∀ l, l ≠ 3 → l ≠ 5 → l ≠ aS s 0 → l ≠ aS s 1 → (l < aS s 2 ∨ (aS s 6 ≤ l ∧ l < aS s 198) ∨ aS s 378 ≤ l) → (∀ c, c < 6 → l ≠ aC c 3) → gt F2 1 l = gt F 1 l := fun l g1 g2 g3 g4 g5 g6 => by
    rw [v4 1 l (.inr g6), gF1 l g1 g2 g3 g4 g5]
  have sF2 : ∀ w, w < 378 → oS F2 s w = oS F1 s w := fun w hw => v4 1 _ (.inr (fun c hc => by unfold aS aC; omega))
  have sF1 : ∀ w, w < 378 → 2 ≤ w → oS F1 s w = oS Fa s w := fun w h1 h2 => by rw [hF1, oS_sS, if_neg (by unfold aS; omega), oS_sS, if_neg (by unfold aS; omega)]
  have cu8 : ∀ c, c < 6 → ∀ w, w < 8 → w ≠ 3 → oC F2 c w = oC F c w := fun c hc w hw hq => gF2 _ (by unfold aC; omega) (by unfold aC; omega) (by unfold aS aC; omega) (by unfold aS aC; omega) (by unfold aS aC; omega) (fun d hd => by unfold aC; omega)
  have cu1 : ∀ c, c < 6 → ∀ w, w < 8 → oC F1 c w = oC F c w := fun c hc w hw => gF1 _ (by unfold aC; omega) (by unfold aC; omega) (by unfold aS aC; omega) (by unfold aS aC; omega) (by unfold aS aC; omega)
  have gC1 : ∀ c, c < 6 → ∀ l, gt C1 (44 + c) l = gt C (44 + c) l := fun c hc l => by rw [hC1, gt_ne (by omega), gt_ne (by omega), gt_ne (by omega)]; unfold gt; rw [fa _ _ (by omega) (by omega)]
  have gC2 : ∀ c, c < 6 → ∀ l, l ≠ 1 → gt C2 (44 + c) l = gt C (44 + c) l := fun c hc l hl => by
    rw [show gt C2 (44 + c) l = gt C1 (44 + c) l from by unfold gt; rw [w4 _ _ (.inr hl)]]; exact gC1 c hc l
  have onC1 : ∀ c, c < 6 → (onC C1 c s ↔ onF F c s) := fun c hc => by
    unfold onC; rw [gC1 c hc, gC1 c hc]; exact on_eq (hcu c hc)
  have onF1 : ∀ c, c < 6 → (onF F1 c s ↔ onF F c s) := fun c hc => by
    unfold onF; rw [cu1 c hc 0 (by omega), cu1 c hc 3 (by omega), cu1 c hc 1 (by omega)]
  have fC2 : ∀ j l, j ≠ 0 → (j < 4 + 8 * s ∨ (4 + 8 * s < j ∧ j < 4 + 8 * s + 4) ∨ (4 + 8 * s + 8 ≤ j ∧ j < 44)) → C2 j l = C j l := fun j l g1 g2 => by
    rw [w4 j l (by omega), hC1, pu_ne (by omega), pu_ne (by omega), pu_ne (by omega), fa j l (by omega) (by omega)]
  have m0 : oS F2 s 0 = 0 := by rw [sF2 0 (by omega), hF1, oS_sS, if_neg (by unfold aS; omega), oS_sS, if_pos rfl]
  have m0' : oS F2 s 0 = Int32.ofNat 0 := m0
  have f3 : ∀ w, w < 378 → 6 ≤ w → w < 198 → oS F2 s w = oS F s w := fun w h1 h2 h3 => by
    rw [sF2 w h1, sF1 w h1 (by omega)]; exact ga _ (by unfold aS; omega) (by unfold aS; omega) (by unfold aS; omega)
  refine ⟨C2, F2, eC2, eF2, w2, v2, kF.tr (kF.tr ka (hF1 ▸ kF.rf.S.S)) vk, fun t ht => ?_, simP_set hP hs (fun l h1 h2 h3 h4 => ?_) (fun j l h1 h2 => ?_) ?_ ?_ (fun c hc => ?_) ?_ ?_ ?_, fun t ht h5 w hw => gF2 _ (by unfold aS; omega) (by unfold aS; omega) (by unfold aS; omega) (by unfold aS; omega) (by unfold aS; omega) (fun c hc => by unfold aS aC; omega)⟩
  · by_cases e : t = s
    · subst e
      rw [w4 _ _ (by omega), hC1, pu_ne (by omega), pu_ne (by omega), pu_ne (by omega), fa _ _ (by omega) (by omega)]
    · exact fC2 _ _ (by omega) (by omega)
  · exact gF2 l h1 h2 (by unfold aS at *; omega) (by unfold aS at *; omega) (by unfold aS at *; omega) (fun c hc => by unfold aC; omega)
  · by_cases e : j = 0
    · subst e
      rw [w4 _ _ (by omega), hC1, pu_ne (by omega), pu_ne (by omega), pu_ne (by omega), fa _ _ (by omega) (by omega)]
    · exact fC2 j l e (by omega)
  · rw [v4 1 3 (.inr (fun c hc => by unfold aC; omega)), hF1, gt_S, if_neg (by unfold aS; omega), gt_S, if_neg (by unfold aS; omega), ← clk]
    rw [show gt C2 0 7 = gt C1 0 7 from by unfold gt; rw [w4 _ _ (by omega)], hC1, gt_ne (by omega), gt_ne (by omega), gt_ne (by omega)]
  · rw [v4 1 5 (.inr (fun c hc => by unfold aC; omega)), hF1, gt_S, if_neg (by unfold aS; omega), gt_S, if_neg (by unfold aS; omega), cst]
    rw [show gt C2 0 8 = gt C1 0 8 from by unfold gt; rw [w4 _ _ (by omega)], hC1, gt_eq, hh.2.2.2.2.2]
  · have e3 : oC F2 c 3 = if onF F c s then 0 else oC F c 3 := by
      rw [v3 c hc]
      by_cases g : onF F c s
      · rw [if_pos ⟨by omega, (onF1 c hc).mpr g⟩, if_pos g]
      · rw [if_neg (fun q => g ((onF1 c hc).mp q.2)), if_neg g, cu1 c hc 3 (by omega)]
    have e1 : gt C2 (44 + c) 1 = if onF F c s then 0 else gt C (44 + c) 1 := by
      rw [w3 c hc]
      by_cases g : onF F c s
      · rw [if_pos ⟨by omega, (onC1 c hc).mpr g⟩, if_pos g]
      · rw [if_neg (fun q => g ((onC1 c hc).mp q.2)), if_neg g, gC1 c hc]
    unfold simC
    rw [cu8 c hc 0 (by omega) (by omega), cu8 c hc 1 (by omega) (by omega), cu8 c hc 2 (by omega) (by omega), cu8 c hc 4 (by omega) (by omega), cu8 c hc 5 (by omega) (by omega), cu8 c hc 6 (by omega) (by omega), cu8 c hc 7 (by omega) (by omega), e3, e1]
    rw [gC2 c hc 0 (by omega), gC2 c hc 2 (by omega), gC2 c hc 3 (by omega), gC2 c hc 4 (by omega), gC2 c hc 5 (by omega), gC2 c hc 6 (by omega), gC2 c hc 7 (by omega)]
    by_cases g : onF F c s
    · rw [if_pos g, if_pos g]
      rcases hcu c hc with ⟨g1, g2, g3⟩ | ⟨g1, g2, g3, g4, g5, g6, g7, g8, g9, g10, g11, g12, g13, g14⟩
      · exact .inl ⟨g1, g2, rfl⟩
      · exact .inr ⟨g1, g2, rfl, g4, g5, g6, g7, g8, g9, .inl rfl, g11, g12, g13, g14⟩
    · rw [if_neg g, if_neg g]; exact hcu c hc
  · intro c t p m' hc ht hon' hp hp64 hm' hm64
    have e3 : oC F2 c 3 = if onF F c s then 0 else oC F c 3 := by
      rw [v3 c hc]
      by_cases g : onF F c s
      · rw [if_pos ⟨by omega, (onF1 c hc).mpr g⟩, if_pos g]
      · rw [if_neg (fun q => g ((onF1 c hc).mp q.2)), if_neg g, cu1 c hc 3 (by omega)]
    by_cases g : onF F c s
    · have := hon'.2.1
      rw [e3, if_pos g] at this
      exact absurd this (by decide)
    · have hon2 : onF F c t := by
        unfold onF at hon' ⊢
        rw [cu8 c hc 0 (by omega) (by omega), e3, if_neg g, cu8 c hc 1 (by omega) (by omega)] at hon'
        exact hon'
      have hts : t ≠ s := fun e => g (e ▸ hon2)
      rw [cu8 c hc 2 (by omega) (by omega)] at hp
      have ht5 : t < 5 := by have := hH.2.2.1.2; omega
      rw [show oS F2 t 0 = oS F t 0 from gF2 _ (by unfold aS; omega) (by unfold aS; omega) (by unfold aS; omega) (by unfold aS; omega) (by unfold aS; omega) (fun c hc => by unfold aS aC; omega)] at hm'
      exact hpos c t p m' hc ht hon2 hp hp64 hm' hm64
  · obtain ⟨s1, s2, s3, s4, s5, -⟩ := sS1
    refine ⟨?_, ?_, fun y hy => ?_, fun y hy => ?_, fun y hy hmy => ?_, ?_⟩
    · rw [show gt C2 (4 + 8 * s) 5 = gt C1 (4 + 8 * s) 5 from by unfold gt; rw [w4 _ _ (by omega)], hC1, gt_ne (by omega), gt_ne (by omega), gt_eq, m0]
    · rw [show gt C2 (4 + 8 * s) 6 = gt C1 (4 + 8 * s) 6 from by unfold gt; rw [w4 _ _ (by omega)], hC1, gt_ne (by omega), gt_eq, sF2 1 (by omega), hF1, oS_sS, if_pos rfl]
    · unfold gt; rw [fC2 _ _ (by omega) (by omega), f3 _ (by omega) (by omega) (by omega)]; exact s3 y hy
    · unfold gt; rw [fC2 _ _ (by omega) (by omega), f3 _ (by omega) (by omega) (by omega)]; exact s4 y hy
    · obtain ⟨p, m', q1, q2, q3, q4, q5⟩ := hmy
      rw [m0'] at q2
      have := (n_eq (by omega) (by omega)).mp q2
      omega
    · have fl : ∀ j l, 4 + 8 * s + 4 ≤ j → j < 4 + 8 * s + 8 → C2 j l = Ca j l := fun j l h1 h2 => by rw [w4 j l (by omega), hC1, pu_ne (by omega), pu_ne (by omega), pu_ne (by omega)]
      have ff : ∀ w, w < 378 → 2 ≤ w → oS F2 s w = oS Fa s w := fun w h1 h2 => (sF2 w h1).trans (sF1 w h1 h2)
      refine ⟨?_, ?_, ?_, fun k' n' h1 h2 h3 w hw => ?_⟩
      · unfold gt; rw [fl _ _ (by omega) (by omega), ff _ (by omega) (by omega)]; exact la.1
      · unfold gt; rw [fl _ _ (by omega) (by omega), ff _ (by omega) (by omega)]; exact la.2.1
      · rw [fl _ _ (by omega) (by omega), ff _ (by omega) (by omega), ff _ (by omega) (by omega)]; exact la.2.2.1
      · rw [ff _ (by omega) (by omega)] at h1
        unfold gt; rw [fl _ _ (by omega) (by omega), ff _ (by omega) (by omega)]; exact la.2.2.2 k' n' h1 h2 h3 w hw
  · refine ⟨⟨0, by omega, m0', fun p hp => by omega⟩, fun y hy => ?_, fun y hy => ?_, n2, hn2, ?_⟩
    · rw [f3 _ (by omega) (by omega) (by omega)]; exact sO1.2.1 y hy
    · rw [f3 _ (by omega) (by omega) (by omega)]; exact sO1.2.2.1 y hy
    · rw [sF2 3 (by omega), sF1 3 (by omega) (by omega)]; exact hn4
theorem clear_P {M' : vMe} {u hz n k s : Nat} (hC : cOk M a C) (hR : rOk M' r F) (h : simP C F u hz n k) (hs : s < n) :
    ∃ C2 F2, tX5_emptySet a (Int32.ofNat s) (cv M a C) = some ((), cv M a C2) ∧ tX10_clears r (Int32.ofNat s) (rv M' r F) = some ((), rv M' r F2) ∧
      cOk M a C2 ∧ rOk M' r F2 ∧ kF F F2 ∧ kN C C2 ∧ simP C2 F2 u hz n k := by
  obtain ⟨C2, F2, o1, o2, o3, o4, o5, o6, o7, -⟩ := clear_PF hC hR h hs
  exact ⟨C2, F2, o1, o2, o3, o4, o5, o6, o7⟩
end
