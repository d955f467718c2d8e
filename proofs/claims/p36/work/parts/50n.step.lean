section
variable {M M' : vMe} {a b u hz n k s : Nat} {C C2 E E1 E2 F : Nat → Nat → Value}
theorem gRow_2 : gRow (gRow F E1) E2 = gRow F E2 := by
  funext i; unfold gRow
  by_cases e : i = 1
  · rw [if_pos e, if_pos e]
  · rw [if_neg e, if_neg e, if_neg e]
theorem gRow_F (hF : F 1 = eR E) : gRow F E = F := by
  funext i; unfold gRow; split
  · next g => rw [g, hF]
  · rfl
/-- a cursor that there is: the class's fields and the law's -/
theorem cu_F {c q : Nat} (h : simP C F u hz n k) (hF : F 1 = eR E) (hc : c < 6) (hq : E 42 c = .ref q) :
    (gt C (44 + c) 0 = 1 ∧ gt C (44 + c) 1 = gt E (44 + c) 6 ∧ gt C (44 + c) 2 = gt E (44 + c) 7 ∧ gt C (44 + c) 3 = gt E (44 + c) 1 ∧ gt C (44 + c) 4 = gt E (44 + c) 2 ∧ gt C (44 + c) 5 = gt E (44 + c) 3 ∧ gt C (44 + c) 6 = gt E (44 + c) 4 ∧ gt C (44 + c) 7 = gt E (44 + c) 5) ∧
      (∃ s, s < n ∧ gt E (44 + c) 1 = Int32.ofNat s) ∧ (∃ p, p ≤ 64 ∧ gt E (44 + c) 2 = Int32.ofNat p) ∧ (∃ t, t ≤ 64 ∧ gt E (44 + c) 5 + 1 = Int32.ofNat t) ∧ oC F c 0 = 1 := by
  obtain ⟨r0, r1, r2, r3, r4, r5, r6, r7⟩ := R_c hF hc
  rw [hq, if_neg (show ¬ vR (Value.ref q) = none from fun g => by cases g)] at r0
  rcases h.2.2.2.1 c hc with ⟨g1, -⟩ | ⟨g1, g2, g3, g4, g5, g6, g7, g8, g9, g10, g11, ⟨s, g12⟩, ⟨p, g13⟩, t, g14⟩
  · rw [r0] at g1; exact absurd g1 (by decide)
  rw [r1] at g5 g12
  rw [r2] at g6 g13
  rw [r3] at g3
  rw [r4] at g4
  rw [r5] at g7
  rw [r6] at g8
  rw [r7] at g9 g14
  exact ⟨⟨g2, g3, g4, g5, g6, g7, g8, by rw [g9, Int32.add_sub_cancel]⟩, ⟨s, g12⟩, ⟨p, g13⟩, ⟨t, g14⟩, r0⟩
theorem mk_simC {c q : Nat} (hc : c < 6) (hq : E2 42 c = .ref q) (g : gt C2 (44 + c) 0 = 1 ∧ gt C2 (44 + c) 1 = gt E2 (44 + c) 6 ∧ gt C2 (44 + c) 2 = gt E2 (44 + c) 7 ∧ gt C2 (44 + c) 3 = gt E2 (44 + c) 1 ∧ gt C2 (44 + c) 4 = gt E2 (44 + c) 2 ∧ gt C2 (44 + c) 5 = gt E2 (44 + c) 3 ∧ gt C2 (44 + c) 6 = gt E2 (44 + c) 4 ∧ gt C2 (44 + c) 7 = gt E2 (44 + c) 5)
    (h6 : gt E2 (44 + c) 6 = 0 ∨ gt E2 (44 + c) 6 = 1) (h7 : gt E2 (44 + c) 7 = 0 ∨ gt E2 (44 + c) 7 = 1) (hs : ∃ s, s < n ∧ gt E2 (44 + c) 1 = Int32.ofNat s) (hp : ∃ p, p ≤ 64 ∧ gt E2 (44 + c) 2 = Int32.ofNat p) (ht : ∃ t, t ≤ 64 ∧ gt E2 (44 + c) 5 + 1 = Int32.ofNat t) : simC C2 (gRow F E2) n c := by
  obtain ⟨r0, r1, r2, r3, r4, r5, r6, r7⟩ := R_c (F := gRow F E2) gRow_1 hc
  rw [hq, if_neg (show ¬ vR (Value.ref q) = none from fun g => by cases g)] at r0
  obtain ⟨g0, g1, g2, g3, g4, g5, g6, g7⟩ := g
  right
  rw [r0, r1, r2, r3, r4, r5, r6, r7]
  exact ⟨rfl, g0, g1, g2, g3, g4, g5, g6, by rw [g7, Int32.add_sub_cancel], h6.symm.elim .inr .inl |> fun g => g, h7, hs, hp, ht⟩
theorem e_meets {c q x : Nat} (h : eOk M b E) (hc : c < 6) (hq : E 42 c = .ref q) (hs : s < 5) (h0 : E (44 + c) 0 = .ref (b + (2 + 8 * s))) (hF : F 1 = eR E) (hx : x < 64) : tX11_meets q (Int32.ofNat x) (ew M b E) = some (mtF F c (oS F s (134 + x))) := by
  obtain ⟨r0, r1, r2, r3, r4, r5, r6, r7⟩ := R_c hF hc
  rw [tX11_meets, e_vI h hc hq, Option.bind_some, mtF, r4, r5, R_t hF hs hx]
  by_cases g : gt E (44 + c) 7 = 0
  · rw [if_pos g, if_pos g]
  · rw [if_neg g, if_neg g, e_vA h hc hq h0, Option.bind_some, e_bA h hs (by omega), Option.bind_some, e_mI hs (by omega) hx, Option.bind_some, e_vI h hc hq, Option.bind_some]
    by_cases g2 : gt E (44 + c) 3 < gt E (2 + 8 * s + (2 + 1)) x
    · rw [if_pos g2, if_pos g2]
    · rw [if_neg g2, if_neg g2]
/-- the cursor walks on, on both sides -/
theorem step_EL {clk c q m : Nat} (hc : c < 6) (hs : s < n) (hm64 : m ≤ 64) : ∀ (j p f f' : Nat) (C E F : Nat → Nat → Value), cOk M a C → eOk M' b E → simP C F u hz n k → F 1 = eR E → okE b E F n clk → E 42 c = .ref q → gt E (44 + c) 6 = 1 → E (44 + c) 0 = .ref (b + (2 + 8 * s)) → gt E (44 + c) 1 = Int32.ofNat s → gt E (44 + c) 2 = Int32.ofNat p → oS F s 0 = Int32.ofNat m → p + j = m → j < f → j < f' →
    ∃ C2 E2 z, tX5_meetNext_L15 a (a + (44 + c)) (a + (4 + 8 * s)) f (Int32.ofNat p) (cv M a C) = some (z, cv M a C2) ∧ tX12_step_L0 b q f' (ew M' b E) = some (z, ew M' b E2) ∧ cOk M a C2 ∧ eOk M' b E2 ∧ kN C C2 ∧ simP C2 (gRow F E2) u hz n k ∧ okE b E2 (gRow F E2) n clk ∧ E2 42 = E 42 ∧ (∀ d, d < 6 → ∀ l, l < 3 → C2 (44 + d) l = C (44 + d) l) := by
  intro j
  induction j with
  | zero =>
    intro p f f' C E F hC hE h hF hK hq h6 h0 h1 hp hm hpj hf hf'
    obtain ⟨f, rfl⟩ : ∃ g, f = g + 1 := ⟨f - 1, by omega⟩
    obtain ⟨f', rfl⟩ : ∃ g, f' = g + 1 := ⟨f' - 1, by omega⟩
    have hs5 : s < 5 := by have := h.1.2.2.1.2; omega
    refine ⟨C, E, Sum.inr (), ?_, ?_, hC, hE, kN.rf, by rw [gRow_F hF]; exact h, by rw [gRow_F hF]; exact hK, rfl, fun _ _ _ _ => rfl⟩
    · rw [tX5_meetNext_L15, c_rF hs5, Option.bind_some, (h.2.2.2.2.2 s hs).1.1, hm, if_pos ((n_le (by omega) (by omega)).mpr (by omega))]
    · rw [tX12_step_L0, e_vI hE hc hq, Option.bind_some, h6, if_neg n10, e_vI hE hc hq, Option.bind_some, e_vA hE hc hq h0, Option.bind_some, e_bI hs5, Option.bind_some, hp, (R_0 hF hs5).symm.trans hm, if_pos ((n_le (by omega) (by omega)).mpr (by omega))]
  | succ j ih =>
    intro p f f' C E F hC hE h hF hK hq h6 h0 h1 hp hm hpj hf hf'
    obtain ⟨f, rfl⟩ : ∃ g, f = g + 1 := ⟨f - 1, by omega⟩
    obtain ⟨f', rfl⟩ : ∃ g, f' = g + 1 := ⟨f' - 1, by omega⟩
    have hn5 := h.1.2.2.1.2
    have hs5 : s < 5 := by omega
    have hu := h.1.1.2.2
    obtain ⟨sS1, sO1⟩ := h.2.2.2.2.2 s hs
    obtain ⟨x1, x2, x3, x4⟩ := numP_at sO1 hu hm hm64 (show p < m by omega)
    obtain ⟨x, hx⟩ : ∃ x, x = numP F s p := ⟨_, rfl⟩
    rw [← hx] at x1 x2 x3 x4
    obtain ⟨⟨g0, g1, g2, g3, g4, g5, g6, g7⟩, w12, w13, w14, o0⟩ := cu_F h hF hc hq
    obtain ⟨-, -, -, c8⟩ := clk_P h hF hK
    have h7 : gt E (44 + c) 7 = 0 ∨ gt E (44 + c) 7 = 1 := by
      rcases hK.2.2.1 c hc with w | ⟨q', t', w1, w2, w3, w4, w5, w6⟩
      · rw [hq] at w; cases w
      · exact w6
    obtain ⟨C1, hC1⟩ : ∃ C1, C1 = pu (pu C (44 + c) 4 (.int (Int32.ofNat (p + 1)))) 0 8 (.int (gt C 0 8 + 1)) := ⟨_, rfl⟩
    have o1 : cOk M a (pu C (44 + c) 4 (.int (Int32.ofNat (p + 1)))) := cOk_u hC hc
    have o2 : cOk M a C1 := hC1 ▸ cOk_0 o1 (by omega)
    obtain ⟨E1, hE1⟩ : ∃ E1, E1 = pu (pu E (44 + c) 2 (.int (Int32.ofNat (p + 1)))) 0 4 (.int (gt E 0 4 + 1)) := ⟨_, rfl⟩
    have e1 : eOk M' b (pu E (44 + c) 2 (.int (Int32.ofNat (p + 1)))) := eOk_pu hE eFrU
    have e2 : eOk M' b E1 := hE1 ▸ eOk_pu e1 (eFr0 (by omega))
    have gC : ∀ j l, (j ≠ 44 + c ∨ l ≠ 4) → (j ≠ 0 ∨ l ≠ 8) → C1 j l = C j l := fun j l h1 h2 => by rw [hC1, pu_ne (by omega), pu_ne (by omega)]
    have gg : ∀ j l, (j ≠ 44 + c ∨ l ≠ 4) → (j ≠ 0 ∨ l ≠ 8) → gt C1 j l = gt C j l := fun j l h1 h2 => by unfold gt; rw [gC j l h1 h2]
    have gE : ∀ j l, (j ≠ 44 + c ∨ l ≠ 2) → (j ≠ 0 ∨ l ≠ 4) → E1 j l = E j l := fun j l h1 h2 => by rw [hE1, pu_ne (by omega), pu_ne (by omega)]
    have ge : ∀ j l, (j ≠ 44 + c ∨ l ≠ 2) → (j ≠ 0 ∨ l ≠ 4) → gt E1 j l = gt E j l := fun j l h1 h2 => by unfold gt; rw [gE j l h1 h2]
    have p4 : gt C1 (44 + c) 4 = Int32.ofNat (p + 1) := by rw [hC1, gt_ne (by omega), gt_eq]
    have p2 : gt E1 (44 + c) 2 = Int32.ofNat (p + 1) := by rw [hE1, gt_ne (by omega), gt_eq]
    have q1 : E1 42 c = .ref q := by rw [gE _ _ (by omega) (by omega)]; exact hq
    have cost1 : gt C1 0 8 = gt E1 0 4 := by rw [hC1, hE1, gt_eq, gt_eq, c8]
    have hF1 : (gRow F E1) 1 = eR E1 := gRow_1
    obtain ⟨P1, K1, W1⟩ := cu_P (C2 := C1) (E2 := E1) h hF hK hc (fun j l h1 h2 => gC j l (by omega) h2) (fun i l h1 h2 h3 => gE i l (by omega) h3) cost1
      (mk_simC hc q1 ⟨by rw [gg _ _ (by omega) (by omega)]; exact g0, by rw [gg _ _ (by omega) (by omega), ge _ _ (by omega) (by omega)]; exact g1, by rw [gg _ _ (by omega) (by omega), ge _ _ (by omega) (by omega)]; exact g2, by rw [gg _ _ (by omega) (by omega), ge _ _ (by omega) (by omega)]; exact g3, by rw [p4, p2], by rw [gg _ _ (by omega) (by omega), ge _ _ (by omega) (by omega)]; exact g5, by rw [gg _ _ (by omega) (by omega), ge _ _ (by omega) (by omega)]; exact g6, by rw [gg _ _ (by omega) (by omega), ge _ _ (by omega) (by omega)]; exact g7⟩
        (by rw [ge _ _ (by omega) (by omega), h6]; exact .inr rfl) (by rw [ge _ _ (by omega) (by omega)]; exact h7) (by rw [ge _ _ (by omega) (by omega)]; exact w12) ⟨p + 1, by omega, p2⟩ (by rw [ge _ _ (by omega) (by omega)]; exact w14))
      (fun t p' m' ht hon hp' hp64 hm' hm64' => by
        have e1 := hon.2.2
        rw [(R_c hF1 hc).2.1, ge _ _ (by omega) (by omega), h1] at e1
        have ets : s = t := (n_eq (by omega) (by omega)).mp e1
        subst ets
        rw [(R_c hF1 hc).2.2.1, p2] at hp'
        have := (n_eq (by omega) (by omega)).mp hp'
        have := (n_eq (by omega) (by omega)).mp (hm.symm.trans hm')
        omega)
      (.inr ⟨q, s, q1, hs, by rw [gE _ _ (by omega) (by omega)]; exact h0, by rw [ge _ _ (by omega) (by omega)]; exact h1, by rw [ge _ _ (by omega) (by omega), h6]; exact .inr rfl, by rw [ge _ _ (by omega) (by omega)]; exact h7⟩)
    obtain ⟨sS2, sO2⟩ := P1.2.2.2.2.2 s hs
    have hm1 : oS (gRow F E1) s 0 = Int32.ofNat m := (W1 s hs 0 (by omega)).trans hm
    have nx : numP (gRow F E1) s p = x := by unfold numP; rw [W1 s hs _ (by omega)]; exact hx.symm
    have hst := c_stampAt (M := M) o2 hs5 sO2 sS2 hu hm1 hm64 (show p < m by omega)
    rw [nx] at hst
    obtain ⟨r0, r1, r2, r3, r4, r5, r6, r7⟩ := R_c hF1 hc
    have hmc : tX0_meets (a + (44 + c)) (oS (gRow F E1) s (134 + x)) (cv M a C1) = some (mtF (gRow F E1) c (oS (gRow F E1) s (134 + x))) := c_meets hc (by rw [gg _ 2 (by omega) (by omega), r4, ge _ _ (by omega) (by omega), g2]) (by rw [gg _ 5 (by omega) (by omega), r5, ge _ _ (by omega) (by omega), g5])
    have hme := e_meets (M := M') (x := x) e2 hc q1 hs5 (by rw [gE _ _ (by omega) (by omega)]; exact h0) hF1 (by omega)
    have em1 : gt E1 (2 + 8 * s + (0 + 1)) p = Int32.ofNat x := by rw [ge _ _ (by omega) (by omega), ← R_m hF hs5 (by omega)]; exact x1
    have stC : tX5_meetNext_L15 a (a + (44 + c)) (a + (4 + 8 * s)) (f + 1) (Int32.ofNat p) (cv M a C) = if mtF (gRow F E1) c (oS (gRow F E1) s (134 + x)) = 0 then tX5_meetNext_L15 a (a + (44 + c)) (a + (4 + 8 * s)) f (Int32.ofNat (p + 1)) (cv M a C1)
        else some (Sum.inl (Int32.ofNat x), cv M a (pu (pu C1 (44 + c) 6 (.int (gt C (44 + c) 6 + 1))) (44 + c) 7 (.int (Int32.ofNat x)))) := by
      have o3 : cOk M a (pu C1 (44 + c) 6 (.int (gt C (44 + c) 6 + 1))) := cOk_u o2 hc
      have em : gt (pu C1 (44 + c) 6 (.int (gt C (44 + c) 6 + 1))) (4 + 8 * s + (0 + 1)) p = Int32.ofNat x := by
        rw [gt_ne (by omega), gg _ _ (by omega) (by omega)]; exact (sS1.2.2.1 p (by omega)).trans x1
      rw [tX5_meetNext_L15, c_rF hs5, Option.bind_some, sS1.1, hm, if_neg (fun g => by have := (n_le (by omega) (by omega)).mp g; omega), l1, n_add, uV hC hc, Option.bind_some, c_gI0, Option.bind_some, gt_ne (by omega), ← l1, c_sV0 o1, Option.bind_some, ← hC1, if_pos (c_tagR hs5), hst, Option.bind_some, if_pos (uT hc), hmc, Option.bind_some]
      by_cases q : mtF (gRow F E1) c (oS (gRow F E1) s (134 + x)) = 0
      · rw [if_pos q, if_pos q]
      · rw [if_neg q, if_neg q, uI hc, Option.bind_some, gg _ 6 (by omega) (by omega), uV o2 hc, Option.bind_some, c_rA o3 hs5 (by omega), Option.bind_some, c_mI hs5 (by omega) (by omega), Option.bind_some, em, uV o3 hc, Option.bind_some, uI hc, Option.bind_some, gt_eq]
    have stE : tX12_step_L0 b q (f' + 1) (ew M' b E) = if mtF (gRow F E1) c (oS (gRow F E1) s (134 + x)) = 0 then tX12_step_L0 b q f' (ew M' b E1)
        else some (Sum.inl (Int32.ofNat x), ew M' b (pu (pu E1 (44 + c) 4 (.int (gt E (44 + c) 4 + 1))) (44 + c) 5 (.int (Int32.ofNat x)))) := by
      have e3 : eOk M' b (pu E1 (44 + c) 4 (.int (gt E (44 + c) 4 + 1))) := eOk_pu e2 eFrU
      have m1 : gt (pu E (44 + c) 2 (.int (Int32.ofNat (p + 1)))) (2 + 8 * s + (0 + 1)) p = Int32.ofNat x := by rw [gt_ne (by omega), ← R_m hF hs5 (by omega)]; exact x1
      rw [tX12_step_L0, e_vI hE hc hq, Option.bind_some, h6, if_neg n10, e_vI hE hc hq, Option.bind_some, e_vA hE hc hq h0, Option.bind_some, e_bI hs5, Option.bind_some, hp, (R_0 hF hs5).symm.trans hm, if_neg (fun g => by have := (n_le (by omega) (by omega)).mp g; omega)]
      rw [Option.bind_some, e_bA hE hs5 (by omega), Option.bind_some, Option.bind_some, n_succ, e_vV hE hc hq, Option.bind_some, e_mI hs5 (by omega) (by omega), Option.bind_some, m1, e_I0, Option.bind_some, gt_ne (by omega), e_S0 e1, Option.bind_some, ← hE1, if_pos (e_vT e2 hc q1), hme, Option.bind_some]
      by_cases w : mtF (gRow F E1) c (oS (gRow F E1) s (134 + x)) = 0
      · rw [if_pos w, if_pos w]
      · rw [if_neg w, if_neg w, e_vI e2 hc q1, Option.bind_some, ge _ 4 (by omega) (by omega), e_vV e2 hc q1, Option.bind_some, e_vV e3 hc (by rw [pu_ne (by omega)]; exact q1), Option.bind_some]
    rw [stC, stE]
    by_cases w : mtF (gRow F E1) c (oS (gRow F E1) s (134 + x)) = 0
    · rw [if_pos w, if_pos w]
      obtain ⟨C2, E2, z, v1, v2, v3, v4, v5, v6, v7, v8, v9⟩ := ih (p + 1) f f' C1 E1 (gRow F E1) o2 e2 P1 hF1 K1 q1 (by rw [ge _ _ (by omega) (by omega)]; exact h6) (by rw [gE _ _ (by omega) (by omega)]; exact h0) (by rw [ge _ _ (by omega) (by omega)]; exact h1) p2 hm1 (by omega) (by omega) (by omega)
      rw [gRow_2] at v6 v7
      exact ⟨C2, E2, z, v1, v2, v3, v4, kN.tr (fun t ht => gC _ _ (by omega) (by omega)) v5, v6, v7, v8.trans (funext fun l => gE _ _ (by omega) (by omega)), fun d hd l hl => by rw [v9 d hd l hl, gC _ _ (by omega) (by omega)]⟩
    · rw [if_neg w, if_neg w]
      obtain ⟨E2, hE2⟩ : ∃ E2, E2 = pu (pu E1 (44 + c) 4 (.int (gt E (44 + c) 4 + 1))) (44 + c) 5 (.int (Int32.ofNat x)) := ⟨_, rfl⟩
      obtain ⟨C2, hC2⟩ : ∃ C2, C2 = pu (pu C1 (44 + c) 6 (.int (gt C (44 + c) 6 + 1))) (44 + c) 7 (.int (Int32.ofNat x)) := ⟨_, rfl⟩
      rw [← hE2, ← hC2]
      have fE : ∀ i l, (i ≠ 44 + c ∨ (l ≠ 4 ∧ l ≠ 5)) → E2 i l = E1 i l := fun i l hi => by rw [hE2, pu_ne (by omega), pu_ne (by omega)]
      have fe : ∀ i l, (i ≠ 44 + c ∨ (l ≠ 4 ∧ l ≠ 5)) → gt E2 i l = gt E1 i l := fun i l hi => by unfold gt; rw [fE i l hi]
      have fC : ∀ i l, (i ≠ 44 + c ∨ (l ≠ 6 ∧ l ≠ 7)) → C2 i l = C1 i l := fun i l hi => by rw [hC2, pu_ne (by omega), pu_ne (by omega)]
      have fc : ∀ i l, (i ≠ 44 + c ∨ (l ≠ 6 ∧ l ≠ 7)) → gt C2 i l = gt C1 i l := fun i l hi => by unfold gt; rw [fC i l hi]
      have hF2 : (gRow (gRow F E1) E2) 1 = eR E2 := gRow_1
      obtain ⟨P2, K2, W2⟩ := cu_P (C2 := C2) (E2 := E2) P1 hF1 K1 hc (fun j l h1 h2 => fC j l (by omega)) (fun i l h1 h2 h3 => fE i l (by omega)) (by rw [fc _ _ (by omega), fe _ _ (by omega)]; exact cost1)
        (mk_simC hc (by rw [fE _ _ (by omega)]; exact q1) ⟨by rw [fc _ _ (by omega), gg _ _ (by omega) (by omega)]; exact g0, by rw [fc _ _ (by omega), fe _ _ (by omega), gg _ _ (by omega) (by omega), ge _ _ (by omega) (by omega)]; exact g1, by rw [fc _ _ (by omega), fe _ _ (by omega), gg _ _ (by omega) (by omega), ge _ _ (by omega) (by omega)]; exact g2, by rw [fc _ _ (by omega), fe _ _ (by omega), gg _ _ (by omega) (by omega), ge _ _ (by omega) (by omega)]; exact g3, by rw [fc _ _ (by omega), fe _ _ (by omega), p4, p2], by rw [fc _ _ (by omega), fe _ _ (by omega), gg _ _ (by omega) (by omega), ge _ _ (by omega) (by omega)]; exact g5, by rw [hC2, hE2, gt_ne (by omega), gt_eq, gt_ne (by omega), gt_eq, g6], by rw [hC2, hE2, gt_eq, gt_eq]⟩
          (by rw [fe _ _ (by omega), ge _ _ (by omega) (by omega), h6]; exact .inr rfl) (by rw [fe _ _ (by omega), ge _ _ (by omega) (by omega)]; exact h7) (by rw [fe _ _ (by omega), ge _ _ (by omega) (by omega)]; exact w12) ⟨p + 1, by omega, by rw [fe _ _ (by omega)]; exact p2⟩ ⟨x + 1, by omega, by rw [hE2, gt_eq, n_succ]⟩)
        (fun t p' m' ht hon hp' hp64 hm' hm64' => by
          have e1 := hon.2.2
          rw [(R_c hF2 hc).2.1, fe _ _ (by omega), ge _ _ (by omega) (by omega), h1] at e1
          have ets : s = t := (n_eq (by omega) (by omega)).mp e1
          subst ets
          rw [(R_c hF2 hc).2.2.1, fe _ _ (by omega), p2] at hp'
          have := (n_eq (by omega) (by omega)).mp hp'
          have := (n_eq (by omega) (by omega)).mp (hm1.symm.trans hm')
          omega)
        (.inr ⟨q, s, by rw [fE _ _ (by omega)]; exact q1, hs, by rw [fE _ _ (by omega), gE _ _ (by omega) (by omega)]; exact h0, by rw [fe _ _ (by omega), ge _ _ (by omega) (by omega)]; exact h1, by rw [fe _ _ (by omega), ge _ _ (by omega) (by omega), h6]; exact .inr rfl, by rw [fe _ _ (by omega), ge _ _ (by omega) (by omega)]; exact h7⟩)
      rw [gRow_2] at P2 K2
      exact ⟨C2, E2, _, rfl, rfl, hC2 ▸ cOk_u (cOk_u o2 hc) hc, hE2 ▸ eOk_pu (eOk_pu e2 eFrU) eFrU, fun t ht => by rw [fC _ _ (by omega), gC _ _ (by omega) (by omega)], P2, K2, funext fun l => by rw [fE _ _ (by omega), gE _ _ (by omega) (by omega)], fun d hd l hl => by rw [fC _ _ (by omega), gC _ _ (by omega) (by omega)]⟩
/-- the cursor closes of itself -/
theorem shut_E {clk c q : Nat} (h : simP C F u hz n k) (hF : F 1 = eR E) (hK : okE b E F n clk) (hc : c < 6) (hq : E 42 c = .ref q) : simP (pu C (44 + c) 1 (.int 0)) (gRow F (pu E (44 + c) 6 (.int 0))) u hz n k ∧ okE b (pu E (44 + c) 6 (.int 0)) (gRow F (pu E (44 + c) 6 (.int 0))) n clk := by
  obtain ⟨⟨g0, g1, g2, g3, g4, g5, g6, g7⟩, w12, w13, w14, o0⟩ := cu_F h hF hc hq
  obtain ⟨-, -, -, c8⟩ := clk_P h hF hK
  rcases hK.2.2.1 c hc with w | ⟨q', t', w1, w2, w3, w4, w5, w6⟩
  · rw [hq] at w; cases w
  obtain ⟨P, K, W⟩ := cu_P (C2 := pu C (44 + c) 1 (.int 0)) (E2 := pu E (44 + c) 6 (.int 0)) h hF hK hc (fun j l h1 h2 => pu_ne (by omega)) (fun i l h1 h2 h3 => pu_ne (by omega)) (by rw [gt_ne (by omega), gt_ne (by omega)]; exact c8)
    (mk_simC hc (by rw [pu_ne (by omega)]; exact hq) ⟨by rw [gt_ne (by omega)]; exact g0, by rw [gt_eq, gt_eq], by rw [gt_ne (by omega), gt_ne (by omega)]; exact g2, by rw [gt_ne (by omega), gt_ne (by omega)]; exact g3, by rw [gt_ne (by omega), gt_ne (by omega)]; exact g4, by rw [gt_ne (by omega), gt_ne (by omega)]; exact g5, by rw [gt_ne (by omega), gt_ne (by omega)]; exact g6, by rw [gt_ne (by omega), gt_ne (by omega)]; exact g7⟩
      (.inl (gt_eq _ _ _)) (by rw [gt_ne (by omega)]; exact w6) (by rw [gt_ne (by omega)]; exact w12) (by rw [gt_ne (by omega)]; exact w13) (by rw [gt_ne (by omega)]; exact w14))
    (fun t p m ht hon => by
      have := hon.2.1
      rw [(R_c (F := gRow F (pu E (44 + c) 6 (.int 0))) gRow_1 hc).2.2.2.1, gt_eq] at this
      exact absurd this (by decide))
    (.inr ⟨q, t', by rw [pu_ne (by omega)]; exact hq, w2, by rw [pu_ne (by omega)]; exact w3, by rw [gt_ne (by omega)]; exact w4, .inl (gt_eq _ _ _), by rw [gt_ne (by omega)]; exact w6⟩)
  exact ⟨P, K⟩
/-- a step, on both sides -/
theorem step_E {clk c q : Nat} (h : simP C F u hz n k) (hF : F 1 = eR E) (hK : okE b E F n clk) (hc : c < 6) (hq : E 42 c = .ref q) (hC : cOk M a C) (hE : eOk M' b E) :
    ∃ C2 E2 v, (if gt C (44 + c) 1 = 0 then some ((-1 : Int32), cv M a C) else tX5_meetNext a (a + (44 + c)) (cv M a C)) = some (v, cv M a C2) ∧ tX12_step b q (ew M' b E) = some (v, ew M' b E2) ∧ cOk M a C2 ∧ eOk M' b E2 ∧ kN C C2 ∧ simP C2 (gRow F E2) u hz n k ∧ okE b E2 (gRow F E2) n clk ∧ E2 42 = E 42 ∧ (∀ d, d < 6 → fits .boolean (.int (gt C (44 + d) 1)) = true → fits .boolean (.int (gt C2 (44 + d) 1)) = true) ∧ (∀ d, d < 6 → ∀ l, l = 0 ∨ l = 2 → C2 (44 + d) l = C (44 + d) l) := by
  obtain ⟨⟨g0, g1, g2, g3, g4, g5, g6, g7⟩, ⟨s, s1, s2⟩, ⟨p, p1, p2⟩, w14, o0⟩ := cu_F h hF hc hq
  have hn5 := h.1.2.2.1.2
  have hs5 : s < 5 := by omega
  rcases hK.2.2.1 c hc with w | ⟨q', t', w1, w2, w3, w4, w5, w6⟩
  · rw [hq] at w; cases w
  have ets : t' = s := (n_eq (by omega) (by omega)).mp (w4.symm.trans s2)
  subst ets
  have J : ∀ E1, eOk M' b E1 → E1 42 c = .ref q → tX12_step_J79 q (ew M' b E1) = some (-1, ew M' b (pu E1 (44 + c) 6 (.int 0))) := fun E1 h1 h2 => by
    rw [tX12_step_J79, e_vV h1 hc h2, Option.bind_some]
  rcases w5 with w5 | w5
  · -- closed before
    obtain ⟨P, K⟩ := shut_E h hF hK hc hq
    have eC : simP C (gRow F (pu E (44 + c) 6 (.int 0))) u hz n k := by
      have : pu E (44 + c) 6 (.int 0) = pu E (44 + c) 6 (.int 0) := rfl
      obtain ⟨-, -, -, c8⟩ := clk_P h hF hK
      exact (cu_P (C2 := C) (E2 := pu E (44 + c) 6 (.int 0)) h hF hK hc (fun _ _ _ _ => rfl) (fun i l h1 h2 h3 => pu_ne (by omega)) (by rw [gt_ne (by omega)]; exact c8)
        (mk_simC hc (by rw [pu_ne (by omega)]; exact hq) ⟨g0, by rw [gt_eq, g1, w5], by rw [gt_ne (by omega)]; exact g2, by rw [gt_ne (by omega)]; exact g3, by rw [gt_ne (by omega)]; exact g4, by rw [gt_ne (by omega)]; exact g5, by rw [gt_ne (by omega)]; exact g6, by rw [gt_ne (by omega)]; exact g7⟩
          (.inl (gt_eq _ _ _)) (by rw [gt_ne (by omega)]; exact w6) (by rw [gt_ne (by omega)]; exact ⟨t', s1, s2⟩) (by rw [gt_ne (by omega)]; exact ⟨p, p1, p2⟩) (by rw [gt_ne (by omega)]; exact w14))
        (fun t p m ht hon => by
          have := hon.2.1
          rw [(R_c (F := gRow F (pu E (44 + c) 6 (.int 0))) gRow_1 hc).2.2.2.1, gt_eq] at this
          exact absurd this (by decide))
        (.inr ⟨q, t', by rw [pu_ne (by omega)]; exact hq, w2, by rw [pu_ne (by omega)]; exact w3, by rw [gt_ne (by omega)]; exact w4, .inl (gt_eq _ _ _), by rw [gt_ne (by omega)]; exact w6⟩)).1
    refine ⟨C, pu E (44 + c) 6 (.int 0), -1, by rw [if_pos (by rw [g1, w5])], ?_, hC, eOk_pu hE eFrU, kN.rf, eC, K, funext fun l => pu_ne (by omega), fun _ _ g => g, fun _ _ _ _ => rfl⟩
    rw [tX12_step, show vF = 99999 + 1 from rfl, tX12_step_L0, e_vI hE hc hq, Option.bind_some, w5, if_pos rfl, Option.bind_some]
    exact J E hE hq
  · obtain ⟨m, m1, m2⟩ := okS_m (h.2.2.2.2.2 t' s1).2
    have hu := h.1.1.2.2
    obtain ⟨r0, r1, r2, r3, -⟩ := R_c hF hc
    have hpm := h.2.2.2.2.1 c t' p m hc s1 ⟨o0, by rw [r3, w5], by rw [r1, s2]⟩ (by rw [r2, p2]) p1 m2 (by omega)
    obtain ⟨C2, E2, z, v1, v2, v3, v4, v5, v6, v7, v8, v9⟩ := step_EL (M := M) (M' := M') (a := a) (b := b) (clk := clk) hc s1 (show m ≤ 64 by omega) (m - p) p vF vF C E F hC hE h hF hK hq w5 w3 s2 p2 m2 (by omega) (by unfold vF; omega) (by unfold vF; omega)
    rw [if_neg (by rw [g1, w5]; decide), tX5_meetNext, cA0 hC, Option.bind_some, uI hc, Option.bind_some, g3, s2, cS hC hs5, Option.bind_some, uI hc, Option.bind_some, g4, p2, v1, Option.bind_some, tX12_step, v2, Option.bind_some]
    rcases z with v | ⟨⟩
    · exact ⟨C2, E2, v, rfl, rfl, v3, v4, v5, v6, v7, v8, fun d hd g => by unfold gt at g ⊢; rw [v9 d hd 1 (by omega)]; exact g, fun d hd l hl => v9 d hd l (by omega)⟩
    · have q2 : E2 42 c = .ref q := by rw [v8]; exact hq
      obtain ⟨P, K⟩ := shut_E v6 gRow_1 v7 hc q2
      rw [gRow_2] at P K
      refine ⟨_, _, -1, ?_, J E2 v4 q2, cOk_u v3 hc, eOk_pu v4 eFrU, kN.tr v5 (fun t ht => by rw [pu_ne (by omega)]), P, K, by rw [← v8]; exact funext fun l => pu_ne (by omega), fun d hd g => ?_, fun d hd l hl => by rw [pu_ne (by omega)]; exact v9 d hd l (by omega)⟩
      · show ((sV (cv M a C2) (a + (44 + c)) 3 1 (.int 0)).bind fun M35 => some ((-1 : Int32), M35)) = _
        rw [uV v3 hc]; rfl
      · by_cases e : d = c
        · subst e; rw [gt_eq]; decide
        · rw [gt_ne (by omega)]; unfold gt at g ⊢; rw [v9 d hd 1 (by omega)]; exact g
end
