section
variable {M M' N : vMe} {x y r a d u hz n k : Nat} {G F C D : Nat → Nat → Value} {P : Nat → Value} {T : Nat → Nat} {len : Nat} {Gs : Nat → Nat}
theorem cOk_off {C2 : Nat → Nat → Value} {s w : Nat} (h : cOk M a C) (hw : 1 ≤ w ∧ w ≤ 3) (g : ∀ z k, z ≠ 4 + 8 * s + w → C2 z k = C z k) (hs : s < 5) : cOk M a C2 :=
  ⟨h.1, fun k hk => by rw [g _ _ (by omega)]; exact h.2.1 k hk, fun i hi => by rw [g _ _ (by omega)]; exact h.2.2.1 i hi, fun i hi => by rw [g _ _ (by omega)]; exact h.2.2.2.1 i hi, fun i k hi hk => by rw [g _ _ (by omega)]; exact h.2.2.2.2.1 i k hi hk, fun i k hi hk => by rw [g _ _ (by omega)]; exact h.2.2.2.2.2 i k hi hk⟩
theorem c_fill {s w : Nat} (h : cOk M a C) (hs : s < 5) (hw : 1 ≤ w ∧ w ≤ 3) : ∃ C2, tJ7_fill_53178 (a + (4 + 8 * s + w)) 0 (cv M a C) = some ((), cv M a C2) ∧ cOk M a C2 ∧ (∀ z, z < 64 → gt C2 (4 + 8 * s + w) z = 0) ∧ ∀ z, z ≠ 4 + 8 * s + w → C2 z = C z := by
  have tt := cT_m hs hw.1 hw.2
  obtain ⟨C2, q1, q2, q3, q4⟩ := fill_L (M := M) (a := a) (i := 4 + 8 * s + w) (l := 64) (by omega) tt (by omega) 64 vF 0 C h (by omega) (by omega) (by unfold vF; omega) (fun C2 g => cOk_off h hw g hs)
  refine ⟨C2, ?_, cOk_off h hw (fun z k hz => by rw [q4 z hz]) hs, fun z hz => q2 z hz (Nat.zero_le _), q4⟩
  have e : aN (cv M a C) (a + (4 + 8 * s + w)) 101 = some (Int32.ofNat 64) := aN_g (l := 64) (S := C (4 + 8 * s + w)) (by rw [cv_at M a _ C (by omega), tt])
  rw [tJ7_fill_53178, e, Option.bind_some, show tJ7_fill_53178_L5 (a + (4 + 8 * s + w)) 0 (Int32.ofNat 64) vF 0 (cv M a C) = _ from q1, Option.bind_some]
/-- what a set begun leaves in the block -/
def bgn (D D2 : Nat → Nat → Value) (n w : Nat) : Prop := D2 (4 + 8 * n) 4 = .ref w ∧ gt D2 (4 + 8 * n) 5 = 0 ∧ gt D2 (4 + 8 * n) 6 = 0 ∧ (∀ z, z < 64 → gt D2 (4 + 8 * n + 1) z = 0) ∧ (∀ z, z < 64 → gt D2 (4 + 8 * n + 2) z = 0) ∧ gt D2 (4 + 8 * n + 4) 3 = 0 ∧ gt D2 (4 + 8 * n + 4) 4 = 0 ∧ vJ (D2 (4 + 8 * n + 4) 5) = 0 ∧ gt D2 0 5 = Int32.ofNat (n + 1) ∧ ∀ j l, (j ≠ 0 ∨ l ≠ 5) → (j < 4 + 8 * n ∨ 4 + 8 * n + 8 ≤ j) → D2 j l = D j l
theorem c_beginSet {w : Nat} (h : cOk M a C) (hn : n < 5) (h5 : gt C 0 5 = Int32.ofNat n) : ∃ C2, tX5_beginSet a w (cv M a C) = some ((), cv M a C2) ∧ cOk M a C2 ∧ bgn C C2 n w := by
  obtain ⟨C1, hC1⟩ : ∃ C1, C1 = pu (pu (pu C (4 + 8 * n) 4 (.ref w)) (4 + 8 * n) 5 (.int 0)) (4 + 8 * n) 6 (.int 0) := ⟨_, rfl⟩
  have o1 : cOk M a (pu C (4 + 8 * n) 4 (.ref w)) := cOk_r h hn (by omega)
  have o2 : cOk M a (pu (pu C (4 + 8 * n) 4 (.ref w)) (4 + 8 * n) 5 (.int 0)) := cOk_r o1 hn (by omega)
  have o3 : cOk M a C1 := hC1 ▸ cOk_r o2 hn (by omega)
  obtain ⟨C2, a1, a2, a3, a4⟩ := c_fill (w := 1) o3 hn (by omega)
  obtain ⟨C3, b1, b2, b3, b4⟩ := c_fill (w := 2) a2 hn (by omega)
  obtain ⟨C4, hC4⟩ : ∃ C4, C4 = pu (pu (pu C3 (4 + 8 * n + 4) 3 (.int 0)) (4 + 8 * n + 4) 4 (.int 0)) (4 + 8 * n + 4) 5 (.long 0) := ⟨_, rfl⟩
  have o4 : cOk M a (pu C3 (4 + 8 * n + 4) 3 (.int 0)) := cOk_l b2 hn (by omega)
  have o5 : cOk M a (pu (pu C3 (4 + 8 * n + 4) 3 (.int 0)) (4 + 8 * n + 4) 4 (.int 0)) := cOk_l o4 hn (by omega)
  have o6 : cOk M a C4 := hC4 ▸ cOk_l o5 hn (by omega)
  have eb : tX2_begin (a + (4 + 8 * n + 4)) (cv M a C3) = some ((), cv M a C4) := by
    rw [tX2_begin, c_lV b2 hn, Option.bind_some, c_lV o4 hn, Option.bind_some, c_lV o5 hn, Option.bind_some, ← hC4]
  have e7 : tX7_begin (a + (4 + 8 * n)) w (cv M a C) = some ((), cv M a C4) := by
    rw [tX7_begin, c_rV h hn, Option.bind_some, c_rV o1 hn, Option.bind_some, c_rV o2 hn, Option.bind_some, ← hC1, c_rA o3 hn (by omega), Option.bind_some, show a + (4 + 8 * n + (0 + 1)) = a + (4 + 8 * n + 1) from rfl, a1, Option.bind_some, c_rA a2 hn (by omega), Option.bind_some, show a + (4 + 8 * n + (1 + 1)) = a + (4 + 8 * n + 2) from rfl, b1, Option.bind_some, c_rA b2 hn (by omega), Option.bind_some, show a + (4 + 8 * n + (3 + 1)) = a + (4 + 8 * n + 4) from rfl, if_pos (c_tagL hn), eb, Option.bind_some]
  have g5 : gt C4 0 5 = Int32.ofNat n := by
    rw [hC4, gt_ne (by omega), gt_ne (by omega), gt_ne (by omega), gt_row (b4 0 (by omega)), gt_row (a4 0 (by omega)), hC1, gt_ne (by omega), gt_ne (by omega), gt_ne (by omega)]; exact h5
  refine ⟨pu C4 0 5 (.int (Int32.ofNat (n + 1))), ?_, cOk_0 o6 (by omega), ?_, ?_, ?_, fun z hz => ?_, fun z hz => ?_, ?_, ?_, ?_, gt_eq _ _ _, fun j l h1 h2 => ?_⟩
  · have c5 : ¬ (5 : Int32) ≤ Int32.ofNat n := fun g => by have := (n_le (a := 5) (by omega) (by omega)).mp g; omega
    rw [tX5_beginSet, c_gI0, Option.bind_some, h5, if_neg c5, cA0 h, Option.bind_some, Option.bind_some, cS h hn, Option.bind_some, if_pos (c_tagR hn), e7, Option.bind_some, c_gI0, Option.bind_some, g5, n_succ, c_sV0 o6, Option.bind_some]
  · rw [pu_ne (by omega), hC4, pu_ne (by omega), pu_ne (by omega), pu_ne (by omega), b4 _ (by omega), a4 _ (by omega), hC1, pu_ne (by omega), pu_ne (by omega), pu_eq]
  · rw [gt_ne (by omega), hC4, gt_ne (by omega), gt_ne (by omega), gt_ne (by omega), gt_row (b4 _ (by omega)), gt_row (a4 _ (by omega)), hC1, gt_ne (by omega), gt_eq]
  · rw [gt_ne (by omega), hC4, gt_ne (by omega), gt_ne (by omega), gt_ne (by omega), gt_row (b4 _ (by omega)), gt_row (a4 _ (by omega)), hC1, gt_eq]
  · rw [gt_ne (by omega), hC4, gt_ne (by omega), gt_ne (by omega), gt_ne (by omega), gt_row (b4 _ (by omega))]; exact a3 z hz
  · rw [gt_ne (by omega), hC4, gt_ne (by omega), gt_ne (by omega), gt_ne (by omega)]; exact b3 z hz
  · rw [gt_ne (by omega), hC4, gt_ne (by omega), gt_ne (by omega), gt_eq]
  · rw [gt_ne (by omega), hC4, gt_ne (by omega), gt_eq]
  · rw [pu_ne (by omega), hC4, vJ_pu]
  · rw [pu_ne (by omega), hC4, pu_ne (by omega), pu_ne (by omega), pu_ne (by omega), b4 _ (by omega), a4 _ (by omega), hC1, pu_ne (by omega), pu_ne (by omega), pu_ne (by omega)]
/-- the two states with a set begun -/
theorem simP_bgn {D2 F2 : Nat → Nat → Value} {w : Nat} (hP : simP D F u hz n k) (hn : n < 5) (b : bgn D D2 n w) (hZ : zr F n) (e0 : gt F2 1 0 = Int32.ofNat (n + 1)) (e1 : ∀ l, l ≠ 0 → gt F2 1 l = gt F 1 l) : simP D2 F2 u hz (n + 1) k := by
  obtain ⟨b1, b2, b3, b4, b5, b6, b7, b8, b9, b10⟩ := b
  obtain ⟨hH, hh, hmk, hcu, hpos, hst⟩ := hP
  have gD : ∀ j l, (j ≠ 0 ∨ l ≠ 5) → (j < 4 + 8 * n ∨ 4 + 8 * n + 8 ≤ j) → gt D2 j l = gt D j l := fun j l h1 h2 => by unfold gt; rw [b10 j l h1 h2]
  have eC : ∀ c w, oC F2 c w = oC F c w := fun c w => e1 _ (by unfold aC; omega)
  have eS : ∀ s w, oS F2 s w = oS F s w := fun s w => e1 _ (by unfold aS; omega)
  have z0 : ∀ w, w < 378 → oS F2 n w = 0 := fun w hw => by rw [eS]; exact hZ n (Nat.le_refl _) hn w hw
  have nM : ∀ x, ¬ isM F2 n x := fun x g => by
    obtain ⟨p, m, q1, q2, q3, q4, q5⟩ := g
    rw [z0 0 (by omega)] at q2
    have := (n_eq (a := 0) (by omega) (by omega)).mp q2
    omega
  refine ⟨⟨⟨by rw [e1 1 (by omega)]; exact hH.1.1, hH.1.2⟩, ⟨by rw [e1 2 (by omega)]; exact hH.2.1.1, hH.2.1.2⟩, ⟨e0, by omega⟩, by rw [e1 4 (by omega)]; exact hH.2.2.2.1, hH.2.2.2.2⟩, ⟨?_, ?_, ?_, ?_, ?_, ?_⟩, fun i hi => ?_, fun c hc => ?_, ?_, fun s hs => ?_⟩
  · rw [gD _ _ (by omega) (by omega), e1 1 (by omega)]; exact hh.1
  · rw [gD _ _ (by omega) (by omega), e1 2 (by omega)]; exact hh.2.1
  · rw [b9, e0]
  · rw [gD _ _ (by omega) (by omega), e1 4 (by omega)]; exact hh.2.2.2.1
  · rw [gD _ _ (by omega) (by omega), e1 3 (by omega)]; exact hh.2.2.2.2.1
  · rw [gD _ _ (by omega) (by omega), e1 5 (by omega)]; exact hh.2.2.2.2.2
  · rw [gD _ _ (by omega) (by omega), e1 _ (by omega)]; exact hmk i hi
  · have h1 := simC_congr (C1 := D2) (F1 := F2) (fun w _ => eC c w) (fun l => gD _ _ (by omega) (by omega)) (hcu c hc)
    unfold simC at h1 ⊢
    rcases h1 with h1 | ⟨q1, q2, q3, q4, q5, q6, q7, q8, q9, q10, q11, ⟨s, s1, s2⟩, q13, q14⟩
    · exact .inl h1
    · exact .inr ⟨q1, q2, q3, q4, q5, q6, q7, q8, q9, q10, q11, ⟨s, by omega, s2⟩, q13, q14⟩
  · intro c s p m hc hs hon hp hp64 hm hm64
    have hon2 : onF F c s := by
      unfold onF at hon ⊢
      rw [← eC c 0, ← eC c 3, ← eC c 1]; exact hon
    by_cases e : s = n
    · subst e
      exfalso
      unfold onF at hon2
      rcases hcu c hc with ⟨q1, -, -⟩ | ⟨q1, q2, q3, q4, q5, q6, q7, q8, q9, q10, q11, ⟨s', s1, s2⟩, -⟩
      · exact absurd (hon2.1.symm.trans q1) (by decide)
      · have := (n_eq (by omega) (by omega)).mp (s2.symm.trans hon2.2.2)
        omega
    · rw [eC] at hp
      rw [eS] at hm
      exact hpos c s p m hc (by omega) hon2 hp hp64 hm hm64
  · by_cases e : s = n
    · subst e
      refine ⟨⟨by rw [b2, z0 0 (by omega)], by rw [b3, z0 1 (by omega)], fun x hx => by rw [b4 x hx, z0 _ (by omega)], fun x hx => by rw [b5 x hx, z0 _ (by omega)], fun x _ g => absurd g (nM x), by rw [b6, z0 3 (by omega)], by rw [b7, z0 2 (by omega)], by rw [b8, z0 5 (by omega), z0 4 (by omega)]; decide, fun i m h1 h2 h3 => ?_⟩, ⟨0, by omega, by rw [z0 0 (by omega)]; rfl, fun p hp => by omega⟩, fun x hx => ⟨0, by omega, by rw [z0 _ (by omega)]; rfl⟩, fun x hx => ⟨0, by omega, by rw [z0 _ (by omega)]; rfl⟩, 0, by omega, by rw [z0 3 (by omega)]; rfl⟩
      rw [z0 3 (by omega)] at h1
      have := (n_eq (a := 0) (by omega) (by omega)).mp h1
      omega
    · exact ⟨simS_congr (fun w _ => eS s w) (fun j h1 h2 => funext fun l => b10 j l (by omega) (by omega)) (hst s (by omega)).1, okS_congr (fun w _ => eS s w) hH.1.2.2 (hst s (by omega)).2⟩
end
