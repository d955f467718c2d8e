section
variable {M : vMe} {b u hz n k s : Nat} {C C1 C2 E E1 F : Nat → Nat → Value}
/-- members by the rows -/
theorem isM_w {F2 : Nat → Nat → Value} {x : w_T} {m : Nat} (hF : F2 1 = eR E) (hs : s < 5) (hh : hoE E s x) (hb : bT x) (hm : gt E (2 + 8 * s) 0 = Int32.ofNat m) (hm64 : m ≤ 64) (hv : ∀ p, p < m → x.2.1 (x.1 p) = p) {y : Nat} (hy : y < 64) : isM F2 s y ↔ ∃ p, p < m ∧ x.1 p = y := by
  constructor
  · rintro ⟨p, m', e1, e2, e3, e4, e5⟩
    have q : m = m' := (n_eq (by omega) (by omega)).mp (hm.symm.trans ((R_0 hF hs).symm.trans e2))
    subst q
    refine ⟨p, e3, ?_⟩
    have g := (hh.1 p (by omega)).symm.trans ((R_m hF hs (by omega)).symm.trans e5)
    exact (n_eq (by have := hb.1 p (by omega); omega) (by omega)).mp g
  · rintro ⟨p, h1, h2⟩
    refine ⟨p, m, ?_, (R_0 hF hs).trans hm, h1, hm64, ?_⟩
    · rw [R_p hF hs hy, hh.2.1 y hy, ← h2, hv p h1]
    · rw [R_m hF hs (by omega), hh.1 p (by omega), h2]
/-- a change of set s with its event, in the class's state and in the law's sets -/
theorem ev_P {clk m N : Nat} {xv kd : Int32} {x : w_T} {v : Int64} (hNs : N < 2147483648) (h : simP C F u hz n k) (hF : F 1 = eR E) (hK : okE b E F n clk) (hclk : clk < 1999) (hs : s < n)
    (hap : hapC C1 C2 s (eK E s) hz (Int32.ofNat (clk + 1)) xv kd) (fC : ∀ j l, (j < 4 + 8 * s ∨ (4 + 8 * s + 4 ≤ j ∧ j < 44)) → (j ≠ 0 ∨ l < 7 ∨ 8 < l) → C1 j l = C j l) (c7 : gt C1 0 7 = Int32.ofNat (clk + 1)) (c8 : gt C1 0 8 = gt E1 0 4)
    (fE : ∀ i l, i < 44 → (i < 2 + 8 * s ∨ 2 + 8 * s + 4 ≤ i) → (i ≠ 0 ∨ (l ≠ 3 ∧ l ≠ 4)) → E1 i l = E i l) (e3 : gt E1 0 3 = Int32.ofNat (clk + 1)) (eN1 : gt E1 (2 + 8 * s) 2 = Int32.ofNat N) (eN0 : gt E (2 + 8 * s) 2 = Int32.ofNat N)
    (hC1 : hoC C1 s x) (hE1 : hoE E1 s x) (hb : bT x) (hcm : gt C1 (4 + 8 * s) 5 = Int32.ofNat m) (hem : gt E1 (2 + 8 * s) 0 = Int32.ofNat m) (hmu : m ≤ u) (hcg : gt C1 (4 + 8 * s) 6 = gt E1 (2 + 8 * s) 1) (hval : ∀ p, p < m → x.1 p < u ∧ x.2.1 (x.1 p) = p)
    (hst : ∀ y, y < 64 → (∃ p, p < m ∧ x.1 p = y) → gt C1 (4 + 8 * s + 3) y = gt E1 (2 + 8 * s + (2 + 1)) y) (hv : v = bvE (nt1 E1 s N (Int32.ofNat (clk + 1)) xv kd) s m) (hbit : ∀ y, y < 64 → (bt (bh (vJ (E (2 + 8 * s + (6 + 1)) N)) xv kd) y = true ↔ ∃ p, p < m ∧ x.1 p = y))
    (hcu : ∀ c, c < 6 → simC C1 (gRow F E1) n c) (hpo : posB (gRow F E1) n) (hU : okU b E1 n) :
    simP C2 (gRow F (ntE E1 s N (Int32.ofNat (clk + 1)) xv kd v)) u hz n k ∧ okE b (ntE E1 s N (Int32.ofNat (clk + 1)) xv kd v) (gRow F (ntE E1 s N (Int32.ofNat (clk + 1)) xv kd v)) n (clk + 1) ∧ (∀ y, y < 64 → (isM (gRow F (ntE E1 s N (Int32.ofNat (clk + 1)) xv kd v)) s y ↔ ∃ p, p < m ∧ x.1 p = y)) ∧ ∀ t, t < 5 → t ≠ s → ∀ w, w < 378 → oS (gRow F (ntE E1 s N (Int32.ofNat (clk + 1)) xv kd v)) t w = oS F t w := by
  obtain ⟨k1, k2, k3, k4⟩ := hK
  have hs5 : s < 5 := by have := h.1.2.2.1.2; omega
  have hu64 := h.1.1.2.2
  obtain ⟨hz1, hz60⟩ := h.1.2.1.2
  obtain ⟨st, hst'⟩ : ∃ st, st = Int32.ofNat (clk + 1) := ⟨_, rfl⟩
  obtain ⟨E2, hE2⟩ : ∃ E2, E2 = ntE E1 s N st xv kd v := ⟨_, rfl⟩
  rw [← hst'] at hap c7 e3 hv ⊢
  rw [← hE2]
  obtain ⟨F2, hF2⟩ : ∃ F2, F2 = gRow F E2 := ⟨_, rfl⟩
  rw [← hF2]
  have hF21 : F2 1 = eR E2 := by rw [hF2]; exact gRow_1
  have hF11 : (gRow F E1) 1 = eR E1 := gRow_1
  obtain ⟨N', hL⟩ := k4 s hs
  have eNN : N' = N := (n_eq (by have := hL.2.1; omega) (by omega)).mp (hL.1.symm.trans eN0)
  subst eNN
  have hN2 : N' < 2000 := by have := hL.2.1; omega
  -- the law's rows behind the event
  have r2 : ∀ i l, (i < 2 + 8 * s ∨ 2 + 8 * s + 8 ≤ i ∨ (1 ≤ i - (2 + 8 * s) ∧ i - (2 + 8 * s) ≤ 3 ∧ 2 + 8 * s ≤ i)) → E2 i l = E1 i l := fun i l hi => by rw [hE2]; exact nt_row hi
  have g2 : ∀ i l, (i < 2 + 8 * s ∨ 2 + 8 * s + 8 ≤ i ∨ (1 ≤ i - (2 + 8 * s) ∧ i - (2 + 8 * s) ≤ 3 ∧ 2 + 8 * s ≤ i)) → gt E2 i l = gt E1 i l := fun i l hi => by unfold gt; rw [r2 i l hi]
  have g20 : ∀ l, l ≠ 2 → gt E2 (2 + 8 * s) l = gt E1 (2 + 8 * s) l := fun l hl => by rw [hE2]; unfold gt; rw [nt_0 hl]
  have e42 : ∀ l, E2 42 l = E1 42 l := fun l => r2 _ _ (by omega)
  have hoE2 : hoE E2 s x := ⟨fun p hp => by rw [g2 _ _ (by omega)]; exact hE1.1 p hp, fun z hz => by rw [g2 _ _ (by omega)]; exact hE1.2.1 z hz, by rw [g2 _ _ (by omega)]; exact hE1.2.2⟩
  have hem2 : gt E2 (2 + 8 * s) 0 = Int32.ofNat m := (g20 0 (by omega)).trans hem
  have same : ∀ l, l ≠ 3 → l ≠ 5 → (l < 14 ∨ 62 ≤ l) → (l < aS s 0 ∨ aS s 378 ≤ l) → eR E2 l = eR E l := fun l a1 a2 a3 a4 => R_same (s := s) (fun j j1 j2 => by rw [r2 _ _ (by omega), fE _ _ (by omega) (by omega) (by omega)]) (funext fun j => by rw [r2 _ _ (by omega), fE _ _ (by omega) (by omega) (by omega)]) (fun i i1 i2 i3 => funext fun j => by rw [r2 _ _ (by omega), fE _ _ (by omega) (by omega) (by omega)]) l a1 a2 a3 a4
  have fF : ∀ l, l ≠ 3 → l ≠ 5 → (l < 14 ∨ 62 ≤ l) → (l < aS s 0 ∨ aS s 378 ≤ l) → gt F2 1 l = gt F 1 l := fun l a1 a2 a3 a4 => by
    unfold gt; rw [hF21, hF, same l a1 a2 a3 a4]
  have oth : ∀ t, t < 5 → t ≠ s → ∀ w, w < 378 → oS F2 t w = oS F t w := fun t t5 ht w hw => fF _ (by unfold aS; omega) (by unfold aS; omega) (by unfold aS; omega) (by unfold aS; omega)
  -- the kept events
  have hz2 : gt E1 0 2 = Int32.ofNat hz := by
    have := (R_h hF).2.2.1
    unfold gt at this ⊢
    rw [fE 0 2 (by omega) (by omega) (by omega)]
    exact this.symm.trans h.1.2.1.1
  have eKs : eK E1 s = eK E s := by
    have a1 : eN E1 s = N' := eN_of eN1 (by omega)
    have a2 : eN E s = N' := eN_of eN0 (by omega)
    have a3 : eH E1 = eH E := by unfold eH gt; rw [fE 0 2 (by omega) (by omega) (by omega)]
    unfold eK; rw [a1, a2, a3]
  have rowE : ∀ i, 4 ≤ i → i < 8 → E1 (2 + 8 * s + i) = E (2 + 8 * s + i) := fun i i1 i2 => funext fun l => fE _ _ (by omega) (by omega) (by omega)
  have rowg : ∀ i l, 4 ≤ i → i < 8 → gt E1 (2 + 8 * s + i) l = gt E (2 + 8 * s + i) l := fun i l i1 i2 => by unfold gt; rw [rowE i i1 i2]
  obtain ⟨sS, sO⟩ := h.2.2.2.2.2 s hs
  have L1 : simL C1 (gRow F E1) s := by
    have a1 : eN E1 s = N' := eN_of eN1 (by omega)
    have a2 : eN E s = N' := eN_of eN0 (by omega)
    have a3 : eH E1 = eH E := by unfold eH gt; rw [fE 0 2 (by omega) (by omega) (by omega)]
    have o2 : oS (gRow F E1) s 2 = oS F s 2 := by rw [R_2 hF11 hs5, R_2 hF hs5, a1, a2, a3, rowg (3 + 1) _ (by omega) (by omega)]
    have o3 : oS (gRow F E1) s 3 = oS F s 3 := by rw [R_3 hF11 hs5, R_3 hF hs5, eKs]
    have o45 : two (oS (gRow F E1) s 5) (oS (gRow F E1) s 4) = two (oS F s 5) (oS F s 4) := by rw [R_45 hF11 hs5, R_45 hF hs5, a1, a2, eKs, rowE (6 + 1) (by omega) (by omega)]
    have oe : ∀ k w, k < 60 → w < 3 → oS (gRow F E1) s (198 + 3 * k + w) = oS F s (198 + 3 * k + w) := fun k w h1 h2 => by rw [R_e hF11 hs5 h1 h2, R_e hF hs5 h1 h2, a1, a2, eKs, rowg (3 + w + 1) _ (by omega) (by omega)]
    obtain ⟨l1, l2, l3, l4⟩ := simS_L sS
    have gc : ∀ j l, (4 + 8 * s + 4 ≤ j ∧ j < 44) → gt C1 j l = gt C j l := fun j l hj => by unfold gt; rw [fC j l (by omega) (by omega)]
    refine ⟨?_, ?_, ?_, fun j n' h2 h3 h4 w hw => ?_⟩
    · rw [gc _ _ (by omega), o3]; exact l1
    · rw [gc _ _ (by omega), o2]; exact l2
    · rw [fC _ _ (by omega) (by omega), o45]; exact l3
    · rw [o3] at h2
      rw [gc _ _ (by omega), oe _ _ (by omega) hw]; exact l4 j n' h2 h3 h4 w hw
  have L2 : simL C2 F2 s := simL_hap (F1 := gRow F E1) (N := N') (v := v) (st := st) (x := xv) (kd := kd) hs5 hF11 eN1 hN2 hz2 hz1 hz60 (fun j hj => by
    rw [rowE (6 + 1) (by omega) (by omega), rowg (3 + 1 + 1) _ (by omega) (by omega), rowg (3 + 2 + 1) _ (by omega) (by omega)]
    exact hL.2.2.2.1 j hj) L1 (by rw [eKs]; exact hap) (by rw [hF21, hE2])
  have cO : ∀ j, (j < 4 + 8 * s + 4 ∨ 4 + 8 * s + 8 ≤ j) → C2 j = C1 j := hapC_out hap
  have gC : ∀ j l, (j < 4 + 8 * s + 4 ∨ 4 + 8 * s + 8 ≤ j) → gt C2 j l = gt C1 j l := fun j l hj => by unfold gt; rw [cO j hj]
  have mem : ∀ y, y < 64 → (isM F2 s y ↔ ∃ p, p < m ∧ x.1 p = y) := fun y hy => isM_w hF21 hs5 hoE2 hb hem2 (by omega) (fun p hp => (hval p hp).2) hy
  have k2K : eK E2 s ≤ hz := by
    have a1 : eH E2 = hz := by rw [eH_of (hz := hz) (by rw [g2 _ _ (by omega)]; exact hz2) hz60]
    unfold eK; rw [a1]; split <;> omega
  have hO2 : okS F2 u hz s := ⟨⟨m, hmu, (R_0 hF21 hs5).trans hem2, fun p hp => ⟨x.1 p, (hval p hp).1, by rw [R_m hF21 hs5 (by omega)]; exact hoE2.1 p (by omega), by
      have := (hval p hp).1
      rw [R_p hF21 hs5 (by omega), hoE2.2.1 _ (by omega), (hval p hp).2]⟩⟩,
    fun y hy => ⟨x.2.1 y, hb.2 y hy, by rw [R_p hF21 hs5 hy]; exact hoE2.2.1 y hy⟩, fun y hy => ⟨x.1 y, hb.1 y hy, by rw [R_m hF21 hs5 hy]; exact hoE2.1 y hy⟩, eK E2 s, k2K, R_3 hF21 hs5⟩
  have hS2 : simS C2 F2 s := by
    refine ⟨?_, ?_, fun y hy => ?_, fun y hy => ?_, fun y hy hm => ?_, L2⟩
    · rw [gC _ _ (by omega), hcm, R_0 hF21 hs5, hem2]
    · rw [gC _ _ (by omega), hcg, R_1 hF21 hs5, g20 1 (by omega)]
    · rw [gC _ _ (by omega), R_m hF21 hs5 hy, hoE2.1 y hy]; exact hC1.1 y hy
    · rw [gC _ _ (by omega), R_p hF21 hs5 hy, hoE2.2.1 y hy]; exact hC1.2.1 y hy
    · rw [gC _ _ (by omega), R_t hF21 hs5 hy, g2 _ _ (by omega)]; exact hst y hy ((mem y hy).mp hm)
  have ocs : ∀ c w, c < 6 → w < 8 → oC F2 c w = oC (gRow F E1) c w := fun c w hc hw => by
    rw [R_C hF21 hc hw, R_C hF11 hc hw]
    unfold eV
    rw [e42 c, g2 _ _ (by omega), g2 _ _ (by omega), g2 _ _ (by omega), g2 _ _ (by omega), g2 _ _ (by omega), g2 _ _ (by omega), g2 _ _ (by omega)]
  have os0 : ∀ t, t < 5 → oS F2 t 0 = oS (gRow F E1) t 0 := fun t ht => by
    rw [R_0 hF21 ht, R_0 hF11 ht]
    by_cases c : t = s
    · rw [c]; exact g20 0 (by omega)
    · exact g2 _ _ (by omega)
  refine ⟨simP_set h hs fF (fun j l h1 h2 => by rw [cO j (by omega), fC j l (by omega) h2]) ?_ ?_ (fun c hc => simC_congr (fun w hw => ocs c w hc hw) (fun l => gC _ _ (by omega)) (hcu c hc)) ?_ hS2 hO2, ⟨?_, by omega, ?_, fun t ht => ?_⟩, mem, oth⟩
  · rw [gC _ _ (by omega), c7, (R_h hF21).2.2.2.1, g2 _ _ (by omega), e3]
  · rw [gC _ _ (by omega), c8, (R_h hF21).2.2.2.2.2, g2 _ _ (by omega)]
  · intro c t p m' hc ht hon hp hp64 hm' hm64
    have ht5 : t < 5 := by have := h.1.2.2.1.2; omega
    unfold onF at hon
    rw [ocs c 0 hc (by omega), ocs c 3 hc (by omega), ocs c 1 hc (by omega)] at hon
    rw [ocs c 2 hc (by omega)] at hp
    rw [os0 t ht5] at hm'
    exact hpo c t p m' hc ht hon hp hp64 hm' hm64
  · rw [g2 _ _ (by omega), e3, hst']
  · intro c hc
    rcases hU c hc with q | ⟨q, t, q1, q2, q3, q4, q5, q6⟩
    · exact .inl (by rw [e42]; exact q)
    · exact .inr ⟨q, t, by rw [e42]; exact q1, q2, by rw [r2 _ _ (by omega)]; exact q3, by rw [g2 _ _ (by omega)]; exact q4, by rw [g2 _ _ (by omega)]; exact q5, by rw [g2 _ _ (by omega)]; exact q6⟩
  · by_cases c : t = s
    · subst c
      have hvb : ∀ y, y < 64 → (bt v y = true ↔ isM F2 t y) := fun y hy => by
        have hF3 : (gRow F (nt1 E1 t N' st xv kd)) 1 = eR (nt1 E1 t N' st xv kd) := gRow_1
        have rn : ∀ i l, 1 ≤ i → i ≤ 3 → nt1 E1 t N' st xv kd (2 + 8 * t + i) l = E1 (2 + 8 * t + i) l := fun i l i1 i2 => by unfold nt1; rw [pu_ne (by omega), pu_ne (by omega), pu_ne (by omega), pu_ne (by omega)]
        have rg : ∀ i l, 1 ≤ i → i ≤ 3 → gt (nt1 E1 t N' st xv kd) (2 + 8 * t + i) l = gt E1 (2 + 8 * t + i) l := fun i l i1 i2 => by unfold gt; rw [rn i l i1 i2]
        rw [hv]
        unfold bvE
        rw [bfl_bt (g := x.1) m 0 0 (fun q _ hq => ⟨by rw [rg (0 + 1) _ (by omega) (by omega)]; exact hE1.1 q (by omega), by have := (hval q (by omega)).1; omega⟩) y hy, bt_zero, mem y hy]
        constructor
        · rintro (g | ⟨q, -, g1, g2⟩)
          · cases g
          · exact ⟨q, by omega, g2⟩
        · rintro ⟨q, g1, g2⟩
          exact .inr ⟨q, Nat.zero_le _, by omega, g2⟩
      have := okL_nt (F2 := F2) (E1 := E1) (x := xv) (kd := kd) (v := v) hL rowE eN1 (fun y hy => by
        rw [Bool.eq_iff_iff, hvb y hy, hbit y hy, mem y hy]) hvb
      rw [← hst', ← hE2] at this
      exact ⟨_, this⟩
    · obtain ⟨N2, hL2⟩ := k4 t ht
      have ht5 : t < 5 := by have := h.1.2.2.1.2; omega
      exact ⟨N2, okL_oth hL2 ht5 (fun i hi => funext fun l => by rw [r2 _ _ (by omega), fE _ _ (by omega) (by omega) (by omega)]) (fun y hy => isM_congr (fun w hw => oth t ht5 c w (by omega)) hy) (by omega)⟩
end
