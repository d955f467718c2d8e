section
variable {M M' : vMe} {a b u hz n k s : Nat} {C E F : Nat → Nat → Value}
/-- a set is cleared, on both sides -/
theorem clear_E {clk : Nat} (h : simP C F u hz n k) (hF : F 1 = eR E) (hK : okE b E F n clk) (hclk : clk < 1999) (hs : s < n) (hC : cOk M a C) (hE : eOk M' b E) :
    ∃ C2 E2 clk2, tX5_emptySet a (Int32.ofNat s) (cv M a C) = some ((), cv M a C2) ∧ tX12_clear b (b + (2 + 8 * s)) (ew M' b E) = some (gt E (2 + 8 * s) 0, ew M' b E2) ∧ cOk M a C2 ∧ eOk M' b E2 ∧ kN C C2 ∧ simP C2 (gRow F E2) u hz n k ∧ okE b E2 (gRow F E2) n clk2 ∧ clk ≤ clk2 ∧ clk2 ≤ clk + 1 ∧ E2 42 = E 42 ∧ (∀ d, d < 6 → fits .boolean (.int (gt C (44 + d) 1)) = true → fits .boolean (.int (gt C2 (44 + d) 1)) = true) ∧ (∀ d, d < 6 → ∀ l, l = 0 ∨ l = 2 → C2 (44 + d) l = C (44 + d) l) := by
  have hn5 := h.1.2.2.1.2
  have hs5 : s < 5 := by omega
  have hu := h.1.1.2.2
  obtain ⟨hz1, hz60⟩ := h.1.2.1.2
  obtain ⟨c7, e3, eh, c8⟩ := clk_P h hF hK
  obtain ⟨sS, sO⟩ := h.2.2.2.2.2 s hs
  obtain ⟨x0, m, ex0, hb, hc0, he0, hmu, e0, f0, c0, val, mem⟩ := rows_P h hF hs
  obtain ⟨N, hL⟩ := hK.2.2.2 s hs
  have hN2 : N < 2000 := by have := hL.2.1; omega
  -- the class behind its event
  have JC : ∀ Ca : Nat → Nat → Value, cOk M a Ca → ∃ C2, tX5_emptySet_J41 a (Int32.ofNat s) (a + (4 + 8 * s)) (cv M a Ca) = some ((), cv M a C2) ∧ cOk M a C2 ∧ gt C2 (4 + 8 * s) 5 = 0 ∧ gt C2 (4 + 8 * s) 6 = gt Ca (4 + 8 * s) 6 + 1 ∧ gt C2 0 8 = gt Ca 0 8 + 1 ∧ (∀ c, c < 6 → gt C2 (44 + c) 1 = if onC Ca c s then 0 else gt Ca (44 + c) 1) ∧ ∀ j l, (j ≠ 4 + 8 * s ∨ (l ≠ 5 ∧ l ≠ 6)) → (j ≠ 0 ∨ l ≠ 8) → (j < 44 ∨ l ≠ 1) → C2 j l = Ca j l := by
    intro Ca oa
    obtain ⟨C1, hC1⟩ : ∃ C1, C1 = pu (pu (pu Ca (4 + 8 * s) 5 (.int 0)) (4 + 8 * s) 6 (.int (gt Ca (4 + 8 * s) 6 + 1))) 0 8 (.int (gt Ca 0 8 + 1)) := ⟨_, rfl⟩
    have b1 : cOk M a (pu Ca (4 + 8 * s) 5 (.int 0)) := cOk_r oa hs5 (by omega)
    have b2 : cOk M a (pu (pu Ca (4 + 8 * s) 5 (.int 0)) (4 + 8 * s) 6 (.int (gt Ca (4 + 8 * s) 6 + 1))) := cOk_r b1 hs5 (by omega)
    have b3 : cOk M a C1 := hC1 ▸ cOk_0 b2 (by omega)
    obtain ⟨C2, w1, w2, w3, w4⟩ := c_empty_L (M := M) (a := a) (s := s) 6 vF 0 C1 b3 (by omega) (by unfold vF; omega)
    refine ⟨C2, ?_, w2, ?_, ?_, ?_, fun c hc => ?_, fun j l g1 g2 g3 => ?_⟩
    · rw [tX5_emptySet_J41, c_rV oa hs5, Option.bind_some, c_rF hs5, Option.bind_some, gt_ne (by omega), c_rV b1 hs5, Option.bind_some, c_gI0, Option.bind_some, gt_ne (by omega), gt_ne (by omega), c_sV0 b2, Option.bind_some, ← hC1, l0, w1, Option.bind_some]
    · unfold gt; rw [w4 _ _ (.inl (by omega)), hC1, pu_ne (by omega), pu_ne (by omega), pu_eq]; rfl
    · unfold gt; rw [w4 _ _ (.inl (by omega)), hC1, pu_ne (by omega), pu_eq]; rfl
    · unfold gt; rw [w4 _ _ (.inl (by omega)), hC1, pu_eq]; rfl
    · have g1 : ∀ l, gt C1 (44 + c) l = gt Ca (44 + c) l := fun l => by rw [hC1, gt_ne (by omega), gt_ne (by omega), gt_ne (by omega)]
      have g2 : onC C1 c s ↔ onC Ca c s := by unfold onC; rw [g1, g1]
      rw [w3 c hc]
      by_cases q : onC Ca c s
      · rw [if_pos ⟨Nat.zero_le _, g2.mpr q⟩, if_pos q]
      · rw [if_neg (fun w => q (g2.mp w.2)), if_neg q, g1]
    · rw [w4 j l g3, hC1, pu_ne (by omega), pu_ne (by omega), pu_ne (by omega)]
  -- the law's box without its members
  obtain ⟨E1, hE1⟩ : ∃ E1, E1 = pu (pu (pu E 0 4 (.int (gt E 0 4 + 1))) (2 + 8 * s) 0 (.int 0)) (2 + 8 * s) 1 (.int (gt E (2 + 8 * s) 1 + 1)) := ⟨_, rfl⟩
  have a1 : eOk M' b (pu E 0 4 (.int (gt E 0 4 + 1))) := eOk_pu hE (eFr0 (by omega))
  have a2 : eOk M' b (pu (pu E 0 4 (.int (gt E 0 4 + 1))) (2 + 8 * s) 0 (.int 0)) := eOk_pu a1 (eFrB hs5 (by omega))
  have a3 : eOk M' b E1 := hE1 ▸ eOk_pu a2 (eFrB hs5 (by omega))
  have fr1 : ∀ i l, (i ≠ 2 + 8 * s ∨ (l ≠ 0 ∧ l ≠ 1)) → (i ≠ 0 ∨ l ≠ 4) → E1 i l = E i l := fun i l h1 h2 => by rw [hE1, pu_ne (by omega), pu_ne (by omega), pu_ne (by omega)]
  have U1 : okU b E1 n := by rw [hE1]; exact okU_pu (okU_pu (okU_pu hK.2.2.1 (by omega)) (by omega)) (by omega)
  have J54 : ∀ v : Int32, ∀ E' : Nat → Nat → Value, eOk M' b E' → okU b E' n → ∃ E2, tX12_clear_J54 b (b + (2 + 8 * s)) v (ew M' b E') = some (v, ew M' b E2) ∧ eOk M' b E2 ∧ okU b E2 n ∧ (∀ c, c < 6 → gt E2 (44 + c) 6 = if clU E' (b + (2 + 8 * s)) c then 0 else gt E' (44 + c) 6) ∧ ∀ i l, (i < 44 ∨ l ≠ 6) → E2 i l = E' i l := fun v E' h1 h2 => by
    obtain ⟨E2, w1, w2, w3, w4, w5⟩ := e_clr_L (M := M') (b := b) (s := s) (v := v) rfl 6 vF 0 E' h1 h2 (by omega) (by unfold vF; omega)
    refine ⟨E2, ?_, w2, w3, fun c hc => ?_, w5⟩
    · rw [tX12_clear_J54, show tX12_clear_L56 b (b + (2 + 8 * s)) v vF 0 (ew M' b E') = some ((), ew M' b E2) from w1, Option.bind_some]
    · rw [w4 c hc]
      by_cases q : clU E' (b + (2 + 8 * s)) c
      · rw [if_pos ⟨Nat.zero_le _, q⟩, if_pos q]
      · rw [if_neg (fun w => q w.2), if_neg q]
  have stE : tX12_clear b (b + (2 + 8 * s)) (ew M' b E) = if m = 0 then tX12_clear_J54 b (b + (2 + 8 * s)) (Int32.ofNat m) (ew M' b E1) else
      ((tX10_note (b + (2 + 8 * s)) (gt E 0 3 + 1) (-1) 2 (ew M' b (pu E1 0 3 (.int (gt E 0 3 + 1))))).bind fun z36 => tX12_clear_J54 b (b + (2 + 8 * s)) (Int32.ofNat m) z36.2) := by
    rw [tX12_clear, e_bI hs5, Option.bind_some, e_I0, Option.bind_some, e_S0 hE, Option.bind_some, e_bV a1 hs5, Option.bind_some, e_bI hs5, Option.bind_some, gt_ne (by omega), gt_ne (by omega), e_bV a2 hs5, Option.bind_some, ← hE1, e0]
    by_cases c : m = 0
    · rw [if_pos c, if_pos (by rw [c]; decide)]
    · have t3 : gt E1 0 3 = gt E 0 3 := by unfold gt; rw [fr1 _ _ (by omega) (by omega)]
      rw [if_neg c, if_neg (fun g => by rw [l0] at g; have := (n_le (by omega) (by omega)).mp g; omega), e_I0, Option.bind_some, t3, e_S0 a3, Option.bind_some, e_I0, Option.bind_some, gt_eq, if_pos (e_tB hs5)]
  have boolC : ∀ (Ca C2 : Nat → Nat → Value), (∀ c, c < 6 → gt C2 (44 + c) 1 = if onC Ca c s then 0 else gt Ca (44 + c) 1) → (∀ c, c < 6 → gt Ca (44 + c) 1 = gt C (44 + c) 1) → ∀ d, d < 6 → fits .boolean (.int (gt C (44 + d) 1)) = true → fits .boolean (.int (gt C2 (44 + d) 1)) = true := fun Ca C2 h1 h2 d hd g => by
    rw [h1 d hd]
    split
    · decide
    · rw [h2 d hd]; exact g
  by_cases c : m = 0
  · -- nothing was in it
    obtain ⟨C2, k1, k2, k3, k4, k5, k6, k7⟩ := JC C hC
    obtain ⟨E2, q1, q2, q3, q4, q5⟩ := J54 (Int32.ofNat m) E1 a3 U1
    rw [if_pos c] at stE
    have f5 : ∀ j l, (j ≠ 4 + 8 * s ∨ l ≠ 6) → (j ≠ 0 ∨ l ≠ 8) → (j < 44 ∨ l ≠ 1) → gt C2 j l = gt C j l := fun j l g1 g2 g3 => by
      by_cases e : j = 4 + 8 * s ∧ l = 5
      · obtain ⟨rfl, rfl⟩ := e; rw [k3, c0, c]; rfl
      · unfold gt; rw [k7 j l (by omega) g2 g3]
    have g5 : ∀ i l, (i ≠ 2 + 8 * s ∨ l ≠ 1) → (i ≠ 0 ∨ l ≠ 4) → (i < 44 ∨ l ≠ 6) → gt E2 i l = gt E i l := fun i l g1 g2 g3 => by
      by_cases e : i = 2 + 8 * s ∧ l = 0
      · obtain ⟨rfl, rfl⟩ := e
        unfold gt; rw [q5 _ _ (.inl (by omega)), hE1, pu_ne (by omega), pu_eq]
        show (0 : Int32) = gt E (2 + 8 * s) 0
        rw [e0, c]; rfl
      · unfold gt; rw [q5 i l g3, fr1 i l (by omega) g2]
    have r42 : E2 42 = E 42 := funext fun l => by rw [q5 _ _ (.inl (by omega)), fr1 _ _ (by omega) (by omega)]
    have cu : ∀ d, d < 6 → simC C2 (gRow F E2) n d ∧ ∀ t, onF (gRow F E2) d t → onF F d t ∧ oC (gRow F E2) d 2 = oC F d 2 ∧ Int32.ofNat t ≠ Int32.ofNat s := fun d hd => by
      have ec : clU E1 (b + (2 + 8 * s)) d ↔ clU E (b + (2 + 8 * s)) d := by unfold clU; rw [fr1 _ _ (by omega) (by omega), fr1 _ _ (by omega) (by omega)]
      refine clr_U h hF hK.2.2.1 hs hd (fun l hl => f5 _ _ (by omega) (by omega) (.inr hl)) (k6 d hd) (by rw [r42]) (fun l hl => g5 _ _ (by omega) (by omega) (.inr hl)) ?_
      rw [q4 d hd, show gt E1 (44 + d) 6 = gt E (44 + d) 6 from by unfold gt; rw [fr1 _ _ (by omega) (by omega)]]
      by_cases q : clU E (b + (2 + 8 * s)) d
      · rw [if_pos (ec.mpr q), if_pos q]
      · rw [if_neg (fun w => q (ec.mp w)), if_neg q]
    have hF2 : (gRow F E2) 1 = eR E2 := gRow_1
    obtain ⟨P, K, W⟩ := ne_P (C2 := C2) (E2 := E2) (k2 := k) h hF hK (fun j l h1 h2 h3 => f5 j l (by have := h3 s hs; omega) (by omega) (.inl h2)) (fun t ht => k7 _ _ (by omega) (by omega) (.inl (by omega))) (fun i l h1 h2 h3 => g5 i l (by have := h3 s hs; omega) (by omega) (.inl (by omega))) (fun t ht l => by rw [q5 _ _ (.inl (by omega)), fr1 _ _ (by omega) (by omega)]) (fun t ht => by
        have e1 := (h.2.2.2.2.2 t ht).1.2.1
        rw [R_1 hF (by omega)] at e1
        by_cases e : t = s
        · subst e
          rw [k4, e1]; unfold gt; rw [q5 _ _ (.inl (by omega)), hE1, pu_eq]; rfl
        · rw [f5 _ _ (by omega) (by omega) (.inl (by omega)), g5 _ _ (by omega) (by omega) (.inl (by omega))]; exact e1)
      (fun l hl => k7 _ _ (by omega) (by omega) (.inl (by omega))) (by
        rw [k5, c8]; unfold gt; rw [q5 _ _ (.inl (by omega)), hE1, pu_ne (by omega), pu_ne (by omega), pu_eq]; rfl)
      ⟨by rw [f5 _ _ (by omega) (by omega) (.inl (by omega))]; exact h.2.1.2.2.2.1.trans h.1.2.2.2.1, by rw [g5 _ _ (by omega) (by omega) (.inl (by omega))]; exact (R_h hF).2.2.2.2.1.symm.trans h.1.2.2.2.1, h.1.2.2.2.2⟩ (fun i hi => by
        have h9 := h.1.2.2.2.2
        rw [f5 _ _ (by omega) (by omega) (.inl (by omega)), g5 _ _ (by omega) (by omega) (.inl (by omega))]
        exact (h.2.2.1 i hi).trans (R_k hF (by omega))) (fun l hl => by rw [q5 _ _ (.inl (by omega)), fr1 _ _ (by omega) (by omega)]) (fun d hd => (cu d hd).1) (fun d t p m' hd ht hon hp hp64 hm' hm64 => by
        obtain ⟨v1, v2, v3⟩ := (cu d hd).2 t hon
        rw [v2] at hp
        rw [R_0 hF2 (by omega), g5 _ _ (by omega) (by omega) (.inl (by omega)), ← R_0 hF (by omega)] at hm'
        exact h.2.2.2.2.1 d t p m' hd ht v1 hp hp64 hm' hm64) q3
    refine ⟨C2, E2, clk, ?_, by rw [stE, e0]; exact q1, k2, q2, fun t ht => k7 _ _ (by omega) (by omega) (.inl (by omega)), P, K, Nat.le_refl _, by omega, r42, boolC C C2 k6 (fun _ _ => rfl), fun d hd l hl => k7 _ _ (by omega) (by omega) (.inr (by omega))⟩
    rw [tX5_emptySet, cA0 hC, Option.bind_some, cS hC hs5, Option.bind_some, c_rF hs5, Option.bind_some, c0, if_pos (by rw [c]; decide)]
    exact k1
  · -- with its event
    rw [if_neg c] at stE
    have stc : gt C 0 7 + 1 = Int32.ofNat (clk + 1) := by rw [c7, n_succ]
    have st : gt E 0 3 + 1 = Int32.ofNat (clk + 1) := by rw [e3, n_succ]
    rw [st] at stE
    have eKn : oS F s 3 = Int32.ofNat (eK E s) := R_3 hF hs5
    have eKz : eK E s ≤ hz := by unfold eK; rw [eH_of eh hz60]; split <;> omega
    obtain ⟨C0, hC0⟩ : ∃ C0, C0 = pu C 0 7 (.int (gt C 0 7 + 1)) := ⟨_, rfl⟩
    have o0 : cOk M a C0 := hC0 ▸ cOk_0 hC (by omega)
    have g0 : ∀ j l, (j ≠ 0 ∨ l ≠ 7) → C0 j l = C j l := fun j l hj => by rw [hC0, pu_ne (by omega)]
    have g3 : gt C0 (4 + 8 * s + 4) 3 = Int32.ofNat (eK E s) := by unfold gt; rw [g0 _ _ (by omega)]; exact sS.2.2.2.2.2.1.trans eKn
    obtain ⟨Ca, k1, k2, k3⟩ := c_note (st := gt C 0 7 + 1) (x := -1) (k := 2) o0 hs5 g3 eKz hz60 hz1
    obtain ⟨C2, m1, m2, m3, m4, m5, m6, m7⟩ := JC Ca k2
    have cO := hapC_out k3
    have fa : ∀ j l, (j < 4 + 8 * s + 4 ∨ 4 + 8 * s + 8 ≤ j) → (j ≠ 0 ∨ l ≠ 7) → Ca j l = C j l := fun j l h1 h2 => by rw [cO j h1, g0 j l h2]
    have eC : tX5_emptySet a (Int32.ofNat s) (cv M a C) = some ((), cv M a C2) := by
      rw [tX5_emptySet, cA0 hC, Option.bind_some, cS hC hs5, Option.bind_some, c_rF hs5, Option.bind_some, c0, if_neg (fun g => by rw [l0] at g; have := (n_le (by omega) (by omega)).mp g; omega)]
      rw [c_gI0, Option.bind_some, c_sV0 hC, Option.bind_some, ← hC0, c_rA o0 hs5 (by omega), Option.bind_some, c_gI0, Option.bind_some, c_gI0, Option.bind_some, show gt C0 0 7 = gt C 0 7 + 1 from by rw [hC0, gt_eq], show gt C0 0 4 = Int32.ofNat hz from by unfold gt; rw [g0 _ _ (by omega)]; exact h.2.1.2.1.trans h.1.2.1.1]
      rw [show a + (4 + 8 * s + (3 + 1)) = a + (4 + 8 * s + 4) from rfl, if_pos (c_tagL hs5), k1, Option.bind_some]
      exact m1
    rw [stc] at k3
    have hap := hapC_mv (C2 := C2) k3 (fun j h1 h2 => funext fun l => m7 j l (by omega) (by omega) (.inl (by omega)))
    -- the law
    obtain ⟨E1', hE1'⟩ : ∃ E1', E1' = pu E1 0 3 (.int (Int32.ofNat (clk + 1))) := ⟨_, rfl⟩
    rw [← hE1'] at stE
    have a4 : eOk M' b E1' := hE1' ▸ eOk_pu a3 (eFr0 (by omega))
    have fr2 : ∀ i l, (i ≠ 2 + 8 * s ∨ (l ≠ 0 ∧ l ≠ 1)) → (i ≠ 0 ∨ (l ≠ 3 ∧ l ≠ 4)) → E1' i l = E i l := fun i l h1 h2 => by rw [hE1', pu_ne (by omega), fr1 i l h1 (by omega)]
    have n1 : gt E1' (2 + 8 * s) 2 = Int32.ofNat N := by unfold gt; rw [fr2 _ _ (by omega) (by omega)]; exact hL.1
    have z1 : gt E1' (2 + 8 * s) 0 = Int32.ofNat 0 := by rw [hE1', hE1, gt_ne (by omega), gt_ne (by omega), gt_eq]; rfl
    have hn := e_note (M := M') (b := b) (st := Int32.ofNat (clk + 1)) (x := -1) (k := 2) a4 hs5 n1 hN2 (e_bits (m := 0) (nt1_ok a4 hs5) hs5 (by unfold nt1; rw [gt_ne (by omega), gt_ne (by omega), gt_ne (by omega), gt_ne (by omega)]; exact z1) (by omega))
    rw [hn, Option.bind_some] at stE
    obtain ⟨En, hEn⟩ : ∃ En, En = ntE E1' s N (Int32.ofNat (clk + 1)) (-1) 2 (bvE (nt1 E1' s N (Int32.ofNat (clk + 1)) (-1) 2) s 0) := ⟨_, rfl⟩
    rw [← hEn] at stE
    have Un : okU b En n := fun d hd => by
      have hrow : ∀ l, En (44 + d) l = E (44 + d) l := fun l => by rw [hEn, nt_row (by omega), fr2 _ _ (by omega) (by omega)]
      have h42 : En 42 d = E 42 d := by rw [hEn, nt_row (by omega), fr2 _ _ (by omega) (by omega)]
      have hg : ∀ l, gt En (44 + d) l = gt E (44 + d) l := fun l => by unfold gt; rw [hrow]
      rcases hK.2.2.1 d hd with w | ⟨q, t, w1, w2, w3, w4, w5, w6⟩
      · exact .inl (by rw [h42]; exact w)
      · exact .inr ⟨q, t, by rw [h42]; exact w1, w2, by rw [hrow]; exact w3, by rw [hg]; exact w4, by rw [hg]; exact w5, by rw [hg]; exact w6⟩
    obtain ⟨E2, q1, q2, q3, q4, q5⟩ := J54 (Int32.ofNat m) En (hEn ▸ ntE_ok a4 hs5) Un
    obtain ⟨Ex, hEx⟩ : ∃ Ex : Nat → Nat → Value, Ex = fun j => if j < 44 then E1' j else E2 j := ⟨_, rfl⟩
    have xl : ∀ j, j < 44 → Ex j = E1' j := fun j hj => by rw [hEx]; exact if_pos hj
    have xh : ∀ j, 44 ≤ j → Ex j = E2 j := fun j hj => by rw [hEx]; exact if_neg (by omega)
    have eE2 : E2 = ntE Ex s N (Int32.ofNat (clk + 1)) (-1) 2 (bvE (nt1 Ex s N (Int32.ofNat (clk + 1)) (-1) 2) s 0) := by
      funext j
      by_cases hj : j < 44
      · rw [show E2 j = En j from funext fun l => q5 j l (.inl hj), hEn]
        exact ntE_congr (xl j hj).symm
      · funext l
        rw [nt_row (by omega), xh j (by omega)]
    have hcur : ∀ d, d < 6 → ∀ l, l ≠ 6 → E2 (44 + d) l = E (44 + d) l := fun d hd l hl => by rw [q5 _ _ (.inr hl), hEn, nt_row (by omega), fr2 _ _ (by omega) (by omega)]
    have r42 : E2 42 = E 42 := funext fun l => by rw [q5 _ _ (.inl (by omega)), hEn, nt_row (by omega), fr2 _ _ (by omega) (by omega)]
    have x42 : Ex 42 = E 42 := by rw [xl 42 (by omega)]; exact funext fun l => fr2 _ _ (by omega) (by omega)
    have fx : ∀ i l, i < 44 → (i ≠ 2 + 8 * s ∨ (l ≠ 0 ∧ l ≠ 1)) → (i ≠ 0 ∨ (l ≠ 3 ∧ l ≠ 4)) → Ex i l = E i l := fun i l h1 h2 h3 => by rw [xl i h1, fr2 i l h2 h3]
    have fm : ∀ j l, (j < 4 + 8 * s + 4 ∨ 4 + 8 * s + 8 ≤ j) → mixC C0 C2 s j l = C2 j l := fun j l hj => by rw [mixC_o (by omega)]
    have cx : ∀ d, d < 6 → simC (mixC C0 C2 s) (gRow F Ex) n d ∧ ∀ t, onF (gRow F Ex) d t → onF F d t ∧ oC (gRow F Ex) d 2 = oC F d 2 ∧ Int32.ofNat t ≠ Int32.ofNat s := fun d hd => by
      have ec : clU En (b + (2 + 8 * s)) d ↔ clU E (b + (2 + 8 * s)) d := by
        unfold clU; rw [hEn, nt_row (by omega), fr2 _ _ (by omega) (by omega), nt_row (by omega), fr2 _ _ (by omega) (by omega)]
      have ed : onC Ca d s ↔ onC C d s := by unfold onC gt; rw [fa _ _ (by omega) (by omega), fa _ _ (by omega) (by omega)]
      refine clr_U h hF hK.2.2.1 hs hd (fun l hl => by unfold gt; rw [fm _ _ (by omega), m7 _ _ (by omega) (by omega) (.inr hl), fa _ _ (by omega) (by omega)]) ?_ (by rw [x42]) (fun l hl => by unfold gt; rw [xh _ (by omega), hcur d hd l hl]) ?_
      · have h9 : gt (mixC C0 C2 s) (44 + d) 1 = gt C2 (44 + d) 1 := by unfold gt; rw [fm _ _ (by omega)]
        have h8 : gt Ca (44 + d) 1 = gt C (44 + d) 1 := by unfold gt; rw [fa _ _ (by omega) (by omega)]
        rw [h9, m6 d hd]
        by_cases q : onC C d s
        · rw [if_pos (ed.mpr q), if_pos q]
        · rw [if_neg (fun w => q (ed.mp w)), if_neg q, h8]
      · have := q4 d hd
        unfold gt at this ⊢
        rw [xh _ (by omega), this, show En (44 + d) 6 = E (44 + d) 6 from by rw [hEn, nt_row (by omega), fr2 _ _ (by omega) (by omega)]]
        by_cases q : clU E (b + (2 + 8 * s)) d
        · rw [if_pos (ec.mpr q), if_pos q]
        · rw [if_neg (fun w => q (ec.mp w)), if_neg q]
    have F1 : (gRow F Ex) 1 = eR Ex := gRow_1
    have key := ev_P (v := bvE (nt1 Ex s N (Int32.ofNat (clk + 1)) (-1) 2) s 0) (x := (x0.1, x0.2.1, x0.2.2 + 1)) (m := 0) (b := b) (by omega) h hF hK hclk hs hap (fun j l h1 h2 => by
        by_cases q : 4 + 8 * s + 4 ≤ j ∧ j < 4 + 8 * s + 8
        · rw [mixC_l q, g0 _ _ (by omega)]
        · rw [mixC_o q, m7 j l (by omega) (by omega) (.inl (by omega)), fa j l (by omega) (by omega)])
      (by unfold gt; rw [fm _ _ (by omega), m7 _ _ (by omega) (by omega) (.inl (by omega)), cO 0 (by omega), hC0, pu_eq]; exact stc) (by
        have := m5
        unfold gt at this ⊢
        rw [fm _ _ (by omega), this, fa _ _ (by omega) (by omega), xl 0 (by omega), hE1', pu_ne (by omega), hE1, pu_ne (by omega), pu_ne (by omega), pu_eq]
        show gt C 0 8 + 1 = gt E 0 4 + 1
        rw [c8]) (fun i l h1 h2 h3 => fx i l h1 (by omega) h3) (by unfold gt; rw [xl 0 (by omega), hE1', pu_eq]; rfl) (by unfold gt; rw [fx _ _ (by omega) (by omega) (by omega)]; exact hL.1) hL.1
      ⟨fun p hp => by unfold gt; rw [fm _ _ (by omega), m7 _ _ (by omega) (by omega) (.inl (by omega)), fa _ _ (by omega) (by omega)]; exact hc0.1 p hp, fun z hz => by unfold gt; rw [fm _ _ (by omega), m7 _ _ (by omega) (by omega) (.inl (by omega)), fa _ _ (by omega) (by omega)]; exact hc0.2.1 z hz, by
        show gt _ 0 8 = x0.2.2 + 1
        have := m5
        unfold gt at this ⊢
        rw [fm _ _ (by omega), this, fa _ _ (by omega) (by omega)]
        show gt C 0 8 + 1 = _
        rw [hc0.2.2]⟩
      ⟨fun p hp => by unfold gt; rw [fx _ _ (by omega) (by omega) (by omega)]; exact he0.1 p hp, fun z hz => by unfold gt; rw [fx _ _ (by omega) (by omega) (by omega)]; exact he0.2.1 z hz, by
        show gt _ 0 4 = x0.2.2 + 1
        unfold gt
        rw [xl 0 (by omega), hE1', pu_ne (by omega), hE1, pu_ne (by omega), pu_ne (by omega), pu_eq]
        show gt E 0 4 + 1 = _
        rw [he0.2.2]⟩ hb (by unfold gt; rw [fm _ _ (by omega)]; exact m3) (by unfold gt; rw [xl _ (by omega)]; exact z1) (Nat.zero_le _) (by
        have := m4
        unfold gt at this ⊢
        rw [fm _ _ (by omega), this, fa _ _ (by omega) (by omega), xl _ (by omega), hE1', pu_ne (by omega), hE1, pu_eq]
        show gt C (4 + 8 * s) 6 + 1 = gt E (2 + 8 * s) 1 + 1
        rw [sS.2.1, R_1 hF hs5]) (fun p hp => absurd hp (Nat.not_lt_zero _)) (fun y _ hy => by obtain ⟨p, hp, -⟩ := hy; exact absurd hp (Nat.not_lt_zero _)) rfl (fun y hy => by
        show bt (if (2 : Int32) = 2 then 0 else _) y = true ↔ _
        rw [if_pos rfl, bt_zero]
        exact ⟨fun g => (by cases g), fun ⟨p, hp, _⟩ => absurd hp (Nat.not_lt_zero _)⟩)
      (fun d hd => (cx d hd).1) (fun d t p m' hd ht hon hp hp64 hm' hm64 => by
        obtain ⟨v1, v2, v3⟩ := (cx d hd).2 t hon
        rw [v2] at hp
        rw [R_0 F1 (by omega)] at hm'
        have hts : t ≠ s := fun e => v3 (by rw [e])
        have : gt Ex (2 + 8 * t) 0 = gt E (2 + 8 * t) 0 := by unfold gt; rw [fx _ _ (by omega) (by omega) (by omega)]
        rw [this, ← R_0 hF (by omega)] at hm'
        exact h.2.2.2.2.1 d t p m' hd ht v1 hp hp64 hm' hm64) (fun d hd => by
        rcases q3 d hd with w | ⟨q, t, w1, w2, w3, w4, w5, w6⟩
        · exact .inl (by rw [x42, ← r42]; exact w)
        · have hg : ∀ l, gt Ex (44 + d) l = gt E2 (44 + d) l := fun l => by unfold gt; rw [xh _ (by omega)]
          exact .inr ⟨q, t, by rw [x42, ← r42]; exact w1, w2, by rw [xh _ (by omega)]; exact w3, by rw [hg]; exact w4, by rw [hg]; exact w5, by rw [hg]; exact w6⟩)
    rw [← eE2] at key
    refine ⟨C2, E2, clk + 1, eC, by rw [stE, e0]; exact q1, m2, q2, fun t ht => ?_, key.1, key.2.1, by omega, Nat.le_refl _, r42, boolC Ca C2 m6 (fun d hd => by unfold gt; rw [fa _ _ (by omega) (by omega)]), fun d hd l hl => by rw [m7 _ _ (by omega) (by omega) (.inr (by omega)), fa _ _ (by omega) (by omega)]⟩
    rw [m7 _ _ (by omega) (by omega) (.inl (by omega)), fa _ _ (by omega) (by omega)]
end
