section
variable {M M' : vMe} {a b u hz n k s : Nat} {C E F : Nat → Nat → Value}
theorem oC_same {E1 F1 F2 : Nat → Nat → Value} {c w : Nat} (h1 : F1 1 = eR E1) (h2 : F2 1 = eR E) (hc : c < 6) (hw : w < 8) (h42 : E1 42 = E 42) (hu : E1 (44 + c) = E (44 + c)) : oC F1 c w = oC F2 c w := by
  rw [R_C h1 hc hw, R_C h2 hc hw]
  unfold eV gt
  rw [h42, hu]
/-- the rows of set s as numbers, on both sides -/
theorem rows_P (h : simP C F u hz n k) (hF : F 1 = eR E) (hs : s < n) : ∃ x m, x = rowT F s ∧ bT x ∧ hoC C s x ∧ hoE E s x ∧ m ≤ u ∧ gt E (2 + 8 * s) 0 = Int32.ofNat m ∧ oS F s 0 = Int32.ofNat m ∧ gt C (4 + 8 * s) 5 = Int32.ofNat m ∧ (∀ p, p < m → x.1 p < u ∧ x.2.1 (x.1 p) = p) ∧ ∀ y, y < 64 → (isM F s y ↔ ∃ p, p < m ∧ x.1 p = y) := by
  obtain ⟨sS, sO⟩ := h.2.2.2.2.2 s hs
  have hs5 : s < 5 := by have := h.1.2.2.1.2; omega
  have hu := h.1.1.2.2
  obtain ⟨hf, hb⟩ := rowT_h sO
  have hm := sO.1
  obtain ⟨m, m1, m2, m3⟩ := hm
  have hoE1 : hoE E s (rowT F s) := ⟨fun p hp => (R_m hF hs5 hp).symm.trans (hf.1 p hp), fun z hz => (R_p hF hs5 hz).symm.trans (hf.2.1 z hz), (R_h hF).2.2.2.2.2.symm.trans hf.2.2⟩
  have e0 : gt E (2 + 8 * s) 0 = Int32.ofNat m := (R_0 hF hs5).symm.trans m2
  have val : ∀ p, p < m → (rowT F s).1 p < u ∧ (rowT F s).2.1 ((rowT F s).1 p) = p := fun p hp => by
    obtain ⟨y, y1, y2, y3⟩ := m3 p hp
    have g1 : (rowT F s).1 p = y := (n_eq (by have := hb.1 p (by omega); omega) (by omega)).mp ((hf.1 p (by omega)).symm.trans y2)
    have g2 : (rowT F s).2.1 y = p := (n_eq (by have := hb.2 y (by omega); omega) (by omega)).mp ((hf.2.1 y (by omega)).symm.trans y3)
    rw [g1]; exact ⟨y1, g2⟩
  exact ⟨rowT F s, m, rfl, hb, hoC_of sS h.2.1.2.2.2.2.2 hf, hoE1, m1, e0, m2, sS.1.trans m2, val, fun y hy => isM_w hF hs5 hoE1 hb e0 (by omega) (fun p hp => (val p hp).2) hy⟩
theorem clk_P {clk : Nat} (h : simP C F u hz n k) (hF : F 1 = eR E) (hK : okE b E F n clk) : gt C 0 7 = Int32.ofNat clk ∧ gt E 0 3 = Int32.ofNat clk ∧ gt E 0 2 = Int32.ofNat hz ∧ gt C 0 8 = gt E 0 4 := by
  obtain ⟨r0, r1, r2, r3, r4, r5⟩ := R_h hF
  have hh := h.2.1
  exact ⟨hh.2.2.2.2.1.trans (r3.trans hK.1), hK.1, r2.symm.trans h.1.2.1.1, hh.2.2.2.2.2.trans r5⟩
/-- a number comes, on both sides -/
theorem add_P {clk x : Nat} (h : simP C F u hz n k) (hF : F 1 = eR E) (hK : okE b E F n clk) (hclk : clk < 1999) (hs : s < n) (hx : x < u) (hC : cOk M a C) (hE : eOk M' b E) :
    ∃ C2 E2 clk2 v, tX5_bringIn a (a + (4 + 8 * s)) (Int32.ofNat x) (cv M a C) = some (v, cv M a C2) ∧ tX12_add b (b + (2 + 8 * s)) (Int32.ofNat x) (ew M' b E) = some ((), ew M' b E2) ∧ cOk M a C2 ∧ eOk M' b E2 ∧ kN C C2 ∧ simP C2 (gRow F E2) u hz n k ∧ okE b E2 (gRow F E2) n clk2 ∧ clk ≤ clk2 ∧ clk2 ≤ clk + 1 ∧ E2 42 = E 42 ∧ (∀ c, c < 6 → C2 (44 + c) = C (44 + c)) ∧ isM (gRow F E2) s x ∧
      (isM F s x → v = 0 ∧ oS (gRow F E2) s 0 = oS F s 0) ∧ (¬ isM F s x → v = 1 ∧ ∀ m, oS F s 0 = Int32.ofNat m → m ≤ 64 → oS (gRow F E2) s 0 = Int32.ofNat (m + 1)) ∧ ∀ t, t < 5 → t ≠ s → ∀ w, w < 378 → oS (gRow F E2) t w = oS F t w := by
  obtain ⟨sS, sO⟩ := h.2.2.2.2.2 s hs
  have hs5 : s < 5 := by have := h.1.2.2.1.2; omega
  have hu := h.1.1.2.2
  obtain ⟨hz1, hz60⟩ := h.1.2.1.2
  obtain ⟨c7, e3, eh, c8⟩ := clk_P h hF hK
  by_cases hM : isM F s x
  · have F1 : (gRow F E) = F := by funext i; unfold gRow; split
                                   · next g => rw [g, hF]
                                   · rfl
    refine ⟨C, E, clk, 0, ?_, e_add_no hE hs5 hF sO hu (by omega) hM, hC, hE, fun _ _ => rfl, by rw [F1]; exact h, by rw [F1]; exact hK, Nat.le_refl _, by omega, rfl, fun _ _ => rfl, by rw [F1]; exact hM, fun _ => ⟨rfl, by rw [F1]⟩, fun g => absurd hM g, fun _ _ _ _ _ => by rw [F1]⟩
    simp only [tX5_bringIn]
    rw [if_pos (c_tagR hs5), (c_has hC hs5 sO sS hu (by omega)).1 hM, Option.bind_some, if_neg (by decide)]
  · obtain ⟨x0, m, ex0, hb, hc0, he0, hmu, e0, f0, c0, val, mem⟩ := rows_P h hF hs
    have hmlt : m < u := okS_room sO f0 hmu hu hx hM
    obtain ⟨N, hL⟩ := hK.2.2.2 s hs
    have hN2 : N < 2000 := by have := hL.2.1; omega
    have eKn : oS F s 3 = Int32.ofNat (eK E s) := R_3 hF hs5
    have eKz : eK E s ≤ hz := by unfold eK; rw [eH_of eh hz60]; split <;> omega
    obtain ⟨C2, c1, c2, c3⟩ := c_bringIn hC hs5 (show x < 64 by omega) sO sS hu f0 (by omega) eKn (h.2.1.2.1.trans h.1.2.1.1) eKz hz60 hz1 hM
    have a1 := e_add (M := M') (b := b) (x := x) (m := m) (N := N) hE hs5 hF sO hu (by omega) f0 (by omega) hL.1 hN2 hM
    have st : gt E 0 3 + 1 = Int32.ofNat (clk + 1) := by rw [e3, n_succ]
    have stc : gt C 0 7 + 1 = Int32.ofNat (clk + 1) := by rw [c7, n_succ]
    unfold adE at a1
    rw [st] at a1
    rw [stc] at c3
    have gB : ∀ j l, (j < 4 + 8 * s ∨ 4 + 8 * s + 4 ≤ j) → (j ≠ 0 ∨ l < 7 ∨ 8 < l) → cB C s x m j l = C j l := fun j l h1 h2 => by
      rw [cB, pu_ne (by omega), pu_ne (by omega), pu_ne (by omega), cL, pu_ne (by omega), pu_ne (by omega), pu_ne (by omega)]
    have gA : ∀ i l, (i < 2 + 8 * s ∨ 2 + 8 * s + 4 ≤ i) → (i ≠ 0 ∨ (l ≠ 3 ∧ l ≠ 4)) → adB E s x m i l = E i l := fun i l h1 h2 => by
      rw [adB, pu_ne (by omega), pu_ne (by omega), pu_ne (by omega), puL, pu_ne (by omega), pu_ne (by omega), pu_ne (by omega)]
    have F1 : (gRow F (adB E s x m)) 1 = eR (adB E s x m) := gRow_1
    have oc : ∀ c w, c < 6 → w < 8 → oC (gRow F (adB E s x m)) c w = oC F c w := fun c w hc hw => oC_same F1 hF hc hw (funext fun l => gA _ _ (by omega) (by omega)) (funext fun l => gA _ _ (by omega) (by omega))
    have o0 : ∀ t, t < 5 → t ≠ s → oS (gRow F (adB E s x m)) t 0 = oS F t 0 := fun t t5 ht => by
      rw [R_0 F1 t5, R_0 hF t5]; unfold gt; rw [gA _ _ (by omega) (by omega)]
    have am : gt (adB E s x m) (2 + 8 * s) 0 = Int32.ofNat (m + 1) := by rw [adB, gt_ne (by omega), gt_ne (by omega), gt_eq]
    have hneq : ∀ p, p < m → x0.1 p ≠ x := fun p hp e => hM ((mem x (by omega)).mpr ⟨p, hp, e⟩)
    have key := ev_P (v := bvE (nt1 (adB E s x m) s N (Int32.ofNat (clk + 1)) (Int32.ofNat x) 0) s (m + 1)) (x := lyT x0 x m) (m := m + 1) (b := b) (by omega) h hF hK hclk hs c3 (fun j l h1 h2 => gB j l (by omega) h2) (by rw [cB, gt_ne (by omega), gt_eq]; exact stc) (by
        rw [cB, gt_ne (by omega), gt_ne (by omega), gt_ne (by omega), cL, gt_eq, adB, gt_ne (by omega), gt_ne (by omega), gt_ne (by omega), puL, gt_eq, c8])
      (fun i l _ h1 h2 => gA i l h1 h2) (by rw [adB, gt_ne (by omega), gt_eq]; exact st) (by rw [adB, gt_ne (by omega), gt_ne (by omega), gt_ne (by omega), puL, gt_ne (by omega), gt_ne (by omega), gt_ne (by omega)]; exact hL.1) hL.1
      ⟨fun p hp => ?_, fun z hz => ?_, ?_⟩ ⟨fun p hp => ?_, fun z hz => ?_, ?_⟩ ⟨fun p hp => ?_, fun z hz => ?_⟩ (by rw [cB, gt_ne (by omega), gt_ne (by omega), gt_eq]) am (by omega) (by
        rw [cB, gt_ne (by omega), gt_ne (by omega), gt_ne (by omega), cL, gt_ne (by omega), gt_ne (by omega), gt_ne (by omega), adB, gt_ne (by omega), gt_ne (by omega), gt_ne (by omega), puL, gt_ne (by omega), gt_ne (by omega), gt_ne (by omega), sS.2.1, R_1 hF hs5]) (fun p hp => ?_) (fun y hy hy2 => ?_) rfl (fun y hy => ?_)
      (fun c hc => simC_congr (fun w hw => oc c w hc hw) (fun l => by unfold gt; rw [gB _ _ (by omega) (by omega)]) (h.2.2.2.1 c hc)) ?_ (fun c hc => ?_)
    · obtain ⟨k1, k2, k3, k4⟩ := key
      refine ⟨C2, _, clk + 1, 1, c1, a1, c2, ntE_ok (adB_ok hE hs5) hs5, fun t ht => ?_, k1, k2, by omega, Nat.le_refl _, funext fun l => ?_, fun c hc => funext fun l => ?_, ?_, fun g => absurd g hM, fun _ => ⟨rfl, fun m' h1 h2 => ?_⟩, k4⟩
      · by_cases e : t = s
        · subst e
          rw [hapC_out c3 _ (by omega), cB, pu_ne (by omega), pu_ne (by omega), pu_ne (by omega), cL, pu_ne (by omega), pu_ne (by omega), pu_ne (by omega)]
        · rw [hapC_out c3 _ (by omega), gB _ _ (by omega) (by omega)]
      · rw [nt_row (by omega), gA _ _ (by omega) (by omega)]
      · rw [hapC_out c3 _ (by omega), gB _ _ (by omega) (by omega)]
      · exact (k3 x (by omega)).mpr ⟨m, by omega, by show (if m = m then x else x0.1 m) = x; rw [if_pos rfl]⟩
      · have q : m = m' := (n_eq (by omega) (by omega)).mp (f0.symm.trans h1)
        subst q
        rw [R_0 gRow_1 hs5]
        unfold gt; rw [nt_0 (by omega)]; exact am
    · show _ = Int32.ofNat (if p = m then x else x0.1 p)
      rw [cB, gt_ne (by omega), gt_ne (by omega), gt_ne (by omega), cL, gt_ne (by omega), gt_ne (by omega)]
      by_cases e : p = m
      · rw [if_pos e, e]; exact gt_eq _ _ _
      · rw [if_neg e, gt_ne (by omega)]; exact hc0.1 p hp
    · show _ = Int32.ofNat (if z = x then m else x0.2.1 z)
      rw [cB, gt_ne (by omega), gt_ne (by omega), gt_ne (by omega), cL, gt_ne (by omega)]
      by_cases e : z = x
      · rw [if_pos e, e]; exact gt_eq _ _ _
      · rw [if_neg e, gt_ne (by omega), gt_ne (by omega)]; exact hc0.2.1 z hz
    · show _ = x0.2.2 + 2
      rw [cB, gt_ne (by omega), gt_ne (by omega), gt_ne (by omega), cL, gt_eq, hc0.2.2]
    · show _ = Int32.ofNat (if p = m then x else x0.1 p)
      rw [adB, gt_ne (by omega), gt_ne (by omega), gt_ne (by omega), puL, gt_ne (by omega), gt_ne (by omega)]
      by_cases e : p = m
      · rw [if_pos e, e]; exact gt_eq _ _ _
      · rw [if_neg e, gt_ne (by omega)]; exact he0.1 p hp
    · show _ = Int32.ofNat (if z = x then m else x0.2.1 z)
      rw [adB, gt_ne (by omega), gt_ne (by omega), gt_ne (by omega), puL, gt_ne (by omega)]
      by_cases e : z = x
      · rw [if_pos e, e]; exact gt_eq _ _ _
      · rw [if_neg e, gt_ne (by omega), gt_ne (by omega)]; exact he0.2.1 z hz
    · show _ = x0.2.2 + 2
      rw [adB, gt_ne (by omega), gt_ne (by omega), gt_ne (by omega), puL, gt_eq, he0.2.2]
    · show (if p = m then x else x0.1 p) < 64
      split
      · omega
      · exact hb.1 p hp
    · show (if z = x then m else x0.2.1 z) < 64
      split
      · omega
      · exact hb.2 z hz
    · show (if p = m then x else x0.1 p) < u ∧ (if (if p = m then x else x0.1 p) = x then m else x0.2.1 (if p = m then x else x0.1 p)) = p
      by_cases e : p = m
      · rw [if_pos e, if_pos rfl]; exact ⟨hx, e.symm⟩
      · obtain ⟨v1, v2⟩ := val p (by omega)
        rw [if_neg e, if_neg (hneq p (by omega))]; exact ⟨v1, v2⟩
    · obtain ⟨p, p1, p2⟩ := hy2
      have p2 : (if p = m then x else x0.1 p) = y := p2
      rw [cB, adB]
      by_cases e : y = x
      · rw [e]
        show gt (pu _ _ _ _) _ _ = gt (pu _ _ _ _) _ _
        rw [gt_eq, gt_eq, stc, st]
      · rw [gt_ne (by omega), gt_ne (by omega), gt_ne (by omega), cL, gt_ne (by omega), gt_ne (by omega), gt_ne (by omega), gt_ne (by omega), gt_ne (by omega), gt_ne (by omega), puL, gt_ne (by omega), gt_ne (by omega), gt_ne (by omega)]
        have hm1 : isM F s y := (mem y hy).mpr ⟨p, by
          have : p ≠ m := fun w => by rw [if_pos w] at p2; exact e p2.symm
          omega, by rw [if_neg (fun w => by rw [if_pos w] at p2; exact e p2.symm)] at p2; exact p2⟩
        rw [sS.2.2.2.2.1 y hy hm1, R_t hF hs5 hy]
    · show bt (if (0 : Int32) = 2 then _ else if (0 : Int32) = 0 then _ else _) y = true ↔ _
      rw [if_neg (by decide), if_pos rfl, bt_or, bt_one _ (by omega) y hy, Bool.or_eq_true, hL.2.2.2.2.2 y hy, mem y hy, decide_eq_true_iff]
      constructor
      · rintro (⟨p, p1, p2⟩ | e)
        · exact ⟨p, by omega, by show (if p = m then x else x0.1 p) = y; rw [if_neg (by omega)]; exact p2⟩
        · exact ⟨m, by omega, by show (if m = m then x else x0.1 m) = y; rw [if_pos rfl]; exact e.symm⟩
      · rintro ⟨p, p1, p2⟩
        have p2 : (if p = m then x else x0.1 p) = y := p2
        by_cases e : p = m
        · rw [if_pos e] at p2; exact .inr p2.symm
        · rw [if_neg e] at p2; exact .inl ⟨p, by omega, p2⟩
    · intro c t p m' hc ht hon hp hp64 hm' hm64
      have t5 : t < 5 := by have := h.1.2.2.1.2; omega
      unfold onF at hon
      rw [oc c 0 hc (by omega), oc c 3 hc (by omega), oc c 1 hc (by omega)] at hon
      rw [oc c 2 hc (by omega)] at hp
      by_cases e : t = s
      · subst e
        rw [R_0 F1 t5, am] at hm'
        have := (n_eq (by omega) (by omega)).mp hm'
        have := h.2.2.2.2.1 c t p m hc ht hon hp hp64 f0 (by omega)
        omega
      · rw [o0 t t5 e] at hm'
        exact h.2.2.2.2.1 c t p m' hc ht hon hp hp64 hm' hm64
    · rcases hK.2.2.1 c hc with q | ⟨q, t, q1, q2, q3, q4, q5, q6⟩
      · exact .inl (by rw [gA _ _ (by omega) (by omega)]; exact q)
      · have gu : ∀ l, gt (adB E s x m) (44 + c) l = gt E (44 + c) l := fun l => by unfold gt; rw [gA _ _ (by omega) (by omega)]
        exact .inr ⟨q, t, by rw [gA _ _ (by omega) (by omega)]; exact q1, q2, by rw [gA _ _ (by omega) (by omega)]; exact q3, by rw [gu]; exact q4, by rw [gu]; exact q5, by rw [gu]; exact q6⟩
end
