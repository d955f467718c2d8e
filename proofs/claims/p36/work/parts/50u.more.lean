section
variable {KK : Nat → vOb} {M : vMe} {x r b y u hz n clk n0 s0 : Nat} {E : Nat → Nat → Value} {Gs : Nat → Nat}
/-- cursor c's cell in the row is set -/
theorem hE_set {E2 : Nat → Nat → Value} {c : Nat} {v : Value} (h : hE M b E) (o : eOk M b E) (e42 : E2 42 = updV (E 42) c v) (eo : ∀ i, i < 44 → i ≠ 42 → E2 i = E i) (ec : ∀ d, d < 6 → d ≠ c → E2 (44 + d) = E (44 + d)) (hv : ∀ q, v = .ref q → M.1 q = (13, 0, E2 (44 + c)) ∧ b + 44 ≤ q) : hE (wr M (b + 42) c v) b E2 := by
  have h42 := h.1 42 (by omega)
  have w42 : (wr M (b + 42) c v).1 (b + 42) = ((eT 42).1, (eT 42).2, E2 42) := by
    simp only [wr, pt, h42, e42]; simp
  have wo : ∀ z, z ≠ b + 42 → (wr M (b + 42) c v).1 z = M.1 z := fun z hz => by simp [wr, pt, hz]
  refine ⟨fun i hi => ?_, fun d q hd hq => ?_⟩
  · by_cases e : i = 42
    · subst e; exact w42
    · rw [wo _ (by omega), eo i hi e]; exact h.1 i hi
  · by_cases e : d = c
    · subst e
      rw [e42] at hq
      simp [updV] at hq
      obtain ⟨g1, g2⟩ := hv q hq
      rw [wo _ (by omega), g1]
    · rw [e42] at hq
      simp only [updV, e, if_false] at hq
      have hl : b + 44 ≤ q := by
        rcases o.2.2.2.2.1 d hd with g | ⟨p, g, g2⟩
        · rw [g] at hq; cases hq
        · rw [g] at hq; cases hq; exact g2
      rw [wo _ (by omega), ec d hd e]; exact h.2 d q hd hq
theorem ch_close {c q : Nat} (w : WW KK M x r b y u hz n clk E) (hclk : clk + 64 < 2000) (hc : c < 6) (hq : E 42 c = .ref q) (h1 : M.2.1 ≤ n0) (h2 : M.2.2.1 ≤ s0) : goodC KK n0 s0 x r b y u hz n clk
    ((gA M b 14 7).bind fun a58 => (aA M a58 110 (Int32.ofNat c)).bind fun a59 => (gI M a59 13 4).bind fun v60 => (gA M b 14 7).bind fun a61 => (sA M a61 110 (Int32.ofNat c) .null).bind fun M62 => if M62.2.1 + 50 ≤ n0 + 128 ∧ M62.2.2.1 + 2001 ≤ s0 + 2600 then (if (M62.1 x).1 = 11 then ((tX9_close Gs x (Int32.ofNat c) M62).bind fun z63 => Sum.elim (fun r64 => if r64 = v60 then (if z63.2.2.1 ≤ n0 + 128 ∧ z63.2.2.2.1 ≤ s0 + 2600 then some (1, z63.2) else none) else (if z63.2.2.1 ≤ n0 + 128 ∧ z63.2.2.2.1 ≤ s0 + 2600 then some (0, z63.2) else none)) (fun _ => none) z63.1) else none) else none) := by
  obtain ⟨G, F, a, d, C, k, w1, w2, w3, w4, w5, w6, w7, w8⟩ := w
  have hP := D_p w1
  obtain ⟨E2, hE2⟩ : ∃ E2, E2 = pu E 42 c .null := ⟨_, rfl⟩
  obtain ⟨M62, hM⟩ : ∃ M62, M62 = wr M (b + 42) c .null := ⟨_, rfl⟩
  have e42 : E2 42 = updV (E 42) c .null := by rw [hE2]; simp [pu]
  have eo : ∀ i, i ≠ 42 → E2 i = E i := fun i hi => by rw [hE2]; simp [pu, hi]
  have e62 : M62.2 = M.2 := by rw [hM]; rfl
  have wo : ∀ z, z ≠ b + 42 → M62.1 z = M.1 z := fun z hz => by rw [hM]; simp [wr, pt, hz]
  have he : hE M62 b E2 := hM ▸ hE_set w4 w5 e42 (fun i _ h => eo i h) (fun d _ _ => eo _ (by omega)) (fun q h => by cases h)
  have n42 : ∀ d p, E2 42 d = .ref p → d ≠ c ∧ E 42 d = .ref p := fun d p h => by
    rw [e42] at h
    by_cases e : d = c
    · simp [updV, e] at h
    · simp only [updV, e, if_false] at h; exact ⟨e, h⟩
  have ho : eOk M62 b E2 := by
    obtain ⟨h1, h2, h3, h4, h5, h6⟩ := w5
    refine ⟨by rw [e62]; exact h1, by rw [eo 0 (by omega)]; exact h2, fun s hs => by rw [eo 1 (by omega)]; exact h3 s hs, fun s hs j hj => by rw [eo _ (by omega)]; exact h4 s hs j hj, fun d hd => ?_, fun d d' p hd hd' g g' => h6 d d' p hd hd' (n42 d p g).2 (n42 d' p g').2⟩
    by_cases e : d = c
    · left; rw [e42]; simp [updV, e]
    · rw [e42]; simp only [updV, e, if_false]; exact h5 d hd
  have hA2 : ∀ z, eA b E2 z → eA b E z := fun z g => by
    rcases g with g | ⟨d, hd, g⟩
    · exact .inl g
    · exact .inr ⟨d, hd, (n42 d z g).2⟩
  have b42 : eA b E (b + 42) := .inl ⟨by omega, by omega⟩
  have s1 : simD M62 x r G F a d C u hz n k := simD_law w1 (fun z hz hw => wo z (fun e => by
    rw [e] at hw
    rcases hw with g | g | g
    · exact (w6.1 _ b42).2 g
    · exact (w4.tag b42).1 g
    · exact (w4.tag b42).2 g)) (by rw [e62]; exact Nat.le_refl _) (by rw [e62])
  have sp : sepW KK M62 x r b y G E2 := by
    obtain ⟨t1, t2, t3, t4, t5, t6, t7⟩ := w6
    have ny : y ≠ b + 42 := fun e => t7.1 (e ▸ b42)
    exact ⟨fun z hz => by rw [e62]; exact t1 z (hA2 z hz), by rw [wo y ny]; exact t2, by rw [wo y ny]; exact t3, by rw [e62]; exact t4, by rw [e62]; exact t5, t6, fun g => t7.1 (hA2 y g), t7.2.1, t7.2.2.1, t7.2.2.2.1, fun q hq => (t7.2.2.2.2 q hq).elim (fun k1 k2 => ⟨by rw [e62]; exact k1, k2.1, (wo q (by have := t7.2.2.1; omega)).trans k2.2⟩)⟩
  obtain ⟨M1, G1, hr⟩ := rem_P (Gs := Gs) s1 w7
  have hrr := hr
  obtain ⟨q1, q2, q3, q4, q5, q6, q7, q8, q9, q10, q11, q12, q13⟩ := hrr
  obtain ⟨p1, p2, -⟩ := close_E (b := b) hP w2 w3 hc
  rw [← hE2] at p1 p2
  obtain ⟨C2, hC2⟩ : ∃ C2, C2 = pu (pu C (44 + c) 0 (.int 0)) (44 + c) 1 (.int 0) := ⟨_, rfl⟩
  rw [← hC2] at p1
  have o1 : cOk M1 a (pu C (44 + c) 0 (.int 0)) := cOk_u q8 hc
  have o2 : cOk M1 a C2 := hC2 ▸ cOk_u o1 hc
  have kn : kN C C2 := fun t ht => by rw [hC2, pu_ne (by omega), pu_ne (by omega)]
  obtain ⟨F2, f1, f2⟩ := q13 C2 E2 k o2 kn p1
  obtain ⟨t1, t2, t3⟩ := sep_rem hr sp he ho C2
  have z2 : bz C2 := fun c' hc' k' hk' => by
    rw [hC2]
    simp only [gt_pu]
    split
    · decide
    · split
      · decide
      · exact w7 c' hc' k' hk'
  obtain ⟨r0, r1, r2, r3, r4, r5, r6, r7⟩ := R_c w2 hc
  have u1 : oC F c 0 = 1 := (use_P hP w2 hc).2 (by rw [hq]; exact fun g => by cases g)
  have e6 : gt C (44 + c) 6 = gt E (44 + c) 4 := by
    rcases hP.2.2.2.1 c hc with ⟨g, -⟩ | ⟨-, -, -, -, -, -, -, g8, -⟩
    · rw [g] at u1; exact absurd u1 (by decide)
    · rw [g8, r6]
  have hx := X_close (v := gt E (44 + c) 4) (M7 := cv M1 a (pu C (44 + c) 0 (.int 0))) (Mc := cv M1 a C2) s1 hr hc u1 (by
      have := uV (k := 0) (v := .int 0) q8 hc
      rw [q7.eq] at this; exact this) (by rw [hC2]; exact uV o1 hc) (by rw [uI hc, hC2, gt_ne (by omega), gt_ne (by omega), e6]) rfl
  have hn5 := hP.1.2.2.1.2
  have rA : sA M (b + 42) 110 (Int32.ofNat c) .null = some M62 := by
    have h42 := w4.1 42 (by omega)
    have hb2 : M.2.2.2 ≤ b + 42 := by have := w5.1; omega
    rw [hM]
    simp only [sA, h42, show eT 42 = (110, 6) from rfl, n_clamp (show c < 2147483648 by omega), n_neg (show c < 2147483648 by omega), hb2]; simp [hc]
  have q2' : M1.2.1 ≤ M.2.1 + 50 := by rw [← e62]; exact q2
  have q3' : M1.2.2.1 ≤ M.2.2.1 + 2001 := by rw [← e62]; exact q3
  refine ⟨cv M1 a C2, E2, clk, ?_, ⟨G1, F2, a, d, C2, k, f2, f1, okE_row p2 (by rw [f1, gRow_1]) hn5, t2, t3, t1, z2, ?_⟩, by omega, by show M1.2.1 ≤ _; omega, by show M1.2.2.1 ≤ _; omega⟩
  · rw [w4.A7 w5, Option.bind_some, w4.cA w5 hc hq, Option.bind_some, w4.vI w5 hc hq, Option.bind_some, Option.bind_some, rA, Option.bind_some, e62, if_pos ⟨by omega, by omega⟩, if_pos (T_x s1.1.1), hx, Option.bind_some]
    simp only [Sum.elim_inl]
    rw [if_pos trivial, cv_2, if_pos (show M1.2.1 ≤ n0 + 128 ∧ M1.2.2.1 ≤ s0 + 2600 from ⟨by omega, by omega⟩)]
  · show M1.2.2.2 ≤ M1.2.1
    rw [q5]
    have h9 : M62.2.2.2 ≤ M62.2.1 := by rw [e62]; exact w8
    omega
theorem ch_mark (w : WW KK M x r b y u hz n clk E) (hclk : clk + 64 < 2000) (h1 : M.2.1 ≤ n0) (h2 : M.2.2.1 ≤ s0) : goodC KK n0 s0 x r b y u hz n clk
    ((gI M b 14 5).bind fun v15 => if v15 = (8 : Int32) then (if M.2.1 ≤ n0 + 128 ∧ M.2.2.1 ≤ s0 + 2600 then some (1, M) else none) else ((gA M b 14 8).bind fun a17 => (gI M b 14 5).bind fun v18 => (gI M b 14 3).bind fun v19 => (sA M a17 101 v18 (.int v19)).bind fun M20 => if M20.2.1 + 50 ≤ n0 + 128 ∧ M20.2.2.1 + 2001 ≤ s0 + 2600 then (if (M20.1 x).1 = 11 then ((tX9_mark Gs x M20).bind fun z21 => Sum.elim (fun r22 => (gI z21.2 b 14 5).bind fun v23 => (sV z21.2 b 14 5 (.int (v23 + 1))).bind fun M24 => if r22 = v23 then (if M24.2.1 ≤ n0 + 128 ∧ M24.2.2.1 ≤ s0 + 2600 then some (1, M24) else none) else (if M24.2.1 ≤ n0 + 128 ∧ M24.2.2.1 ≤ s0 + 2600 then some (0, M24) else none)) (fun _ => none) z21.1) else none) else none)) := by
  have w0 := w
  obtain ⟨G, F, a, d, C, k, w1, w2, w3, w4, w5, w6, w7, w8⟩ := w
  have hP := D_p w1
  obtain ⟨R0, R1, R2, R3, R4, R5⟩ := R_h w2
  have ek : gt E 0 5 = Int32.ofNat k := R4.symm.trans hP.1.2.2.2.1
  have hk8 := hP.1.2.2.2.2
  by_cases q : k = 8
  · have := good_no w0 h1 h2
    rw [w4.I0 w5, Option.bind_some, ek, if_pos (by rw [q]; rfl)]
    exact this
  obtain ⟨E1, hE1⟩ : ∃ E1, E1 = pu E 43 k (.int (gt E 0 3)) := ⟨_, rfl⟩
  obtain ⟨E2, hE2⟩ : ∃ E2, E2 = pu E1 0 5 (.int (Int32.ofNat (k + 1))) := ⟨_, rfl⟩
  have o1 : eOk M b E1 := hE1 ▸ eOk_pu w5 eFrK
  have e42 : E1 42 = E 42 := funext fun l => by rw [hE1, pu_ne (by omega)]
  have f42 : E2 42 = E1 42 := funext fun l => by rw [hE2, pu_ne (by omega)]
  have s1 := simD_ew w1 w4 w6 (gro.rf (q := 0)) e42 o1
  have sp := sep_law w6 (gro.rf (q := 0)) e42 o1
  obtain ⟨M1, G1, hr⟩ := rem_P (Gs := Gs) s1 w7
  have hrr := hr
  obtain ⟨q1, q2, q3, q4, q5, q6, q7, q8, q9, q10, q11, q12, q13⟩ := hrr
  obtain ⟨C2, c1, c2, c3, c4, c5, c6, c7⟩ := mark_E (M := M1) (b := b) hP w2 w3 (show k < 8 by omega) q8
  rw [← hE1, ← hE2] at c6 c7
  obtain ⟨F2, f1, f2⟩ := q13 C2 E2 (k + 1) c2 c3 c6
  obtain ⟨t1, t2, t3⟩ := sep_rem hr sp (hE_ew o1) (eOk_ew o1) C2
  have o2 : eOk (cv M1 a C2) b E2 := hE2 ▸ eOk_pu t3 (eFr0 (by omega))
  have s3 := simD_ew f2 t2 t1 (gro.rf (q := 0)) f42 o2
  have sp3 := sep_law t1 (gro.rf (q := 0)) f42 o2
  rw [q7.eq] at c1
  have hx := X_mark (v := gt C2 0 6) s1 hr (by omega) c1 rfl (A_no f2) (B_I0 hB_cv)
  have hn5 := hP.1.2.2.1.2
  have ek1 : gt E1 0 5 = Int32.ofNat k := by rw [hE1, gt_ne (by omega)]; exact ek
  refine ⟨ew (cv M1 a C2) b E2, E2, clk, ?_, ⟨G1, F2, a, d, C2, k + 1, s3, f1, okE_row c7 (by rw [f1, gRow_1]) hn5, hE_ew o2, eOk_ew o2, sp3, bz_4 w7 (fun c hc l _ => by rw [c5 c hc]), ?_⟩, by omega, by show M1.2.1 ≤ _; have : M1.2.1 ≤ M.2.1 + 50 := q2; omega, by show M1.2.2.1 ≤ _; have : M1.2.2.1 ≤ M.2.2.1 + 2001 := q3; omega⟩
  · have rA : sA M (b + 43) 101 (Int32.ofNat k) (.int (gt E 0 3)) = some (ew M b E1) := by
      have := e_kS (M := M) (b := b) (v := .int (gt E 0 3)) w5 (show k < 8 by omega)
      rw [w4.eq w5] at this; rw [hE1]; exact this
    have rV : sV (cv M1 a C2) b 14 5 (.int (Int32.ofNat k + 1)) = some (ew (cv M1 a C2) b E2) := by
      have := e_S0 (k := 5) (v := .int (Int32.ofNat k + 1)) t3
      rw [t2.eq t3] at this; rw [this, hE2, n_succ]
    rw [w4.I0 w5, Option.bind_some, ek, if_neg (show ¬ Int32.ofNat k = 8 from fun g => q ((n_eq (b := 8) (by omega) (by omega)).mp g)), w4.A8 w5, Option.bind_some, Option.bind_some, w4.I0 w5, Option.bind_some, rA, Option.bind_some, ew_2, if_pos ⟨by omega, by omega⟩, if_pos (T_x s1.1.1), hx, Option.bind_some]
    simp only [Sum.elim_inl]
    rw [t2.I0 t3, Option.bind_some, ek1, rV, Option.bind_some, c4, n_pred (by omega), Nat.add_sub_cancel, if_pos rfl, ew_2, cv_2]
    have h3 : M1.2.1 ≤ M.2.1 + 50 := q2
    have h4 : M1.2.2.1 ≤ M.2.2.1 + 2001 := q3
    rw [if_pos ⟨by omega, by omega⟩]
  · show M1.2.2.2 ≤ M1.2.1
    have h5 : M1.2.2.2 = M.2.2.2 := q5
    have h6 : M.2.1 ≤ M1.2.1 := q4
    omega
theorem ch_removeMet {c : Nat} (w : WW KK M x r b y u hz n clk E) (hclk : clk + 64 < 2000) (hc : c < 6) (h1 : M.2.1 ≤ n0) (h2 : M.2.2.1 ≤ s0) : goodC KK n0 s0 x r b y u hz n clk
    ((gA M b 14 7).bind fun a76 => (aR M a76 110 (Int32.ofNat c)).bind fun a77 => if a77 = none then (if M.2.1 ≤ n0 + 128 ∧ M.2.2.1 ≤ s0 + 2600 then some (1, M) else none) else (a77.bind fun a79 => (gI M a79 13 6).bind fun v80 => if v80 = 0 then (if M.2.1 ≤ n0 + 128 ∧ M.2.2.1 ≤ s0 + 2600 then some (1, M) else none) else ((gI M a79 13 5).bind fun v82 => if v82 < 0 then (if M.2.1 ≤ n0 + 128 ∧ M.2.2.1 ≤ s0 + 2600 then some (1, M) else none) else ((gA M a79 13 0).bind fun a84 => (gI M a79 13 5).bind fun v85 => if M.2.1 + 0 ≤ n0 + 128 ∧ M.2.2.1 + 0 ≤ s0 + 2600 then (if (M.1 a84).1 = 12 then ((tX10_has a84 v85 M).bind fun z86 => if z86 = 0 then (if M.2.1 ≤ n0 + 128 ∧ M.2.2.1 ≤ s0 + 2600 then some (1, M) else none) else ((gA M a79 13 0).bind fun a88 => (gI M a79 13 5).bind fun v89 => if M.2.1 + 1 ≤ n0 + 128 ∧ M.2.2.1 + 6 ≤ s0 + 2600 then (if (M.1 b).1 = 14 then ((tX12_remove b a88 v89 M).bind fun z90 => if z90.2.2.1 + 50 ≤ n0 + 128 ∧ z90.2.2.2.1 + 2001 ≤ s0 + 2600 then (if (z90.2.1 x).1 = 11 then ((tX9_removeMet Gs x (Int32.ofNat c) z90.2).bind fun z91 => Sum.elim (fun r92 => (gI z91.2 a79 13 5).bind fun v93 => if r92 = v93 then (if z91.2.2.1 ≤ n0 + 128 ∧ z91.2.2.2.1 ≤ s0 + 2600 then some (1, z91.2) else none) else (if z91.2.2.1 ≤ n0 + 128 ∧ z91.2.2.2.1 ≤ s0 + 2600 then some (0, z91.2) else none)) (fun _ => none) z91.1) else none) else none) else none) else none)) else none) else none)))) := by
  have w0 := w
  have gn := good_no w0 h1 h2
  obtain ⟨G, F, a, d, C, k, w1, w2, w3, w4, w5, w6, w7, w8⟩ := w
  have hP := D_p w1
  rcases w3.2.2.1 c hc with e | ⟨q, t, e, ht, e0, e1, e6, e7⟩
  · rw [w4.A7 w5, Option.bind_some, w4.cR w5 hc, Option.bind_some, if_pos (by rw [e]; rfl)]
    exact gn
  have ht5 : t < 5 := by have := hP.1.2.2.1.2; omega
  obtain ⟨r0, r1, r2, r3, r4, r5, r6, r7⟩ := R_c w2 hc
  have u1 : oC F c 0 = 1 := (use_P hP w2 hc).2 (by rw [e]; exact fun g => by cases g)
  rw [w4.A7 w5, Option.bind_some, w4.cR w5 hc, Option.bind_some, e, if_neg (show ¬ vR (Value.ref q) = none from fun g => by cases g), show vR (Value.ref q) = some q from rfl, Option.bind_some, w4.vI w5 hc e, Option.bind_some]
  by_cases c6 : gt E (44 + c) 6 = 0
  · rw [if_pos c6]; exact gn
  rw [if_neg c6, w4.vI w5 hc e, Option.bind_some]
  by_cases c5 : gt E (44 + c) 5 < 0
  · rw [if_pos c5]; exact gn
  obtain ⟨l, hl64, hl⟩ : ∃ l, l < 64 ∧ gt E (44 + c) 5 = Int32.ofNat l := by
    rcases hP.2.2.2.1 c hc with ⟨g, -⟩ | ⟨-, -, -, -, -, -, -, -, -, -, -, -, -, ⟨l, l1, l2⟩⟩
    · rw [g] at u1; exact absurd u1 (by decide)
    · have : gt E (44 + c) 5 = Int32.ofNat l - 1 := by rw [← l2, r7, Int32.add_sub_cancel]
      by_cases l0 : l = 0
      · subst l0
        rw [this] at c5
        exact absurd (by decide) c5
      · exact ⟨l - 1, by omega, by rw [this, n_pred (by omega)]⟩
  have hu := hP.1.1.2.2
  obtain ⟨h5, h6⟩ := e_has (y := l) w5 ht5 w2 (hP.2.2.2.2.2 t ht).2 hu hl64
  rw [w4.eq w5] at h5 h6
  rw [if_neg c5, w4.vA w5 hc e e0, Option.bind_some, Option.bind_some, if_pos ⟨by omega, by omega⟩, if_pos (w4.tB w5 ht5), hl]
  by_cases hM : isM F t l
  · have hlu := isM_lt (hP.2.2.2.2.2 t ht).2 hu hl64 hM
    obtain ⟨W1, M1, G1, C2, E2, clk2, v, wv, t1, t2, t3, t4, t5, t6, t7, t8, t9, t10, t11, t12, t13, t14, t15, t16⟩ := LF (Gs := Gs) (lawf := tX12_remove b (b + (2 + 8 * t)) (Int32.ofNat l)) (cls := tX5_takeOut a (Int32.ofNat t) (Int32.ofNat l)) (rel := fun _ _ E2 => gt E2 (44 + c) 5 = Int32.ofNat l ∧ E2 42 = E 42) (p := 64) (q := 1) (clk := clk) w1 w4 w5 w6 w7 w8 (fun N hC => by
      obtain ⟨C2, E2, M2, clk2, v, c1, c2, c3, c4, c5, c6, c7, c8, c9, c10, c11, c12, -⟩ := remove_P (M := N) (M' := M) hP w2 w3 (by omega) ht hlu hC w5 (fun z hz => (w6.1 z hz).1) w8
      obtain ⟨g1, g2, g3, g4, g5⟩ := c3
      refine ⟨C2, E2, M2, clk2, v, v, c2, c1, ⟨g1, g2, g3, by omega, g5⟩, c4, c5, c6, c7, c8, c9, by omega, c11, bz_4 w7 c12, ?_, c11⟩
      obtain ⟨s0, -, -, -, -, -, -, s7⟩ := R_c (F := gRow F E2) gRow_1 hc
      rw [c11, e, if_neg (show ¬ vR (Value.ref q) = none from fun g => by cases g)] at s0
      have g7 : gt C2 (44 + c) 7 = gt C (44 + c) 7 := by unfold gt; rw [c12 c hc 7 (by omega)]
      rcases c7.2.2.2.1 c hc with ⟨g, -⟩ | ⟨-, -, -, -, -, -, -, -, g9, -⟩
      · rw [g] at s0; exact absurd s0 (by decide)
      rcases hP.2.2.2.1 c hc with ⟨g, -⟩ | ⟨-, -, -, -, -, -, -, -, f9, -⟩
      · rw [g] at u1; exact absurd u1 (by decide)
      rw [s7, Int32.add_sub_cancel] at g9
      rw [r7, Int32.add_sub_cancel, hl] at f9
      rw [← g9, g7, f9])
    have hx := X_removeMet (v := v) t3 t6 hc u1 (by rw [r3]; exact c6) ht (by rw [r1]; exact e1) (by rw [r7, Int32.add_sub_cancel]; exact hl) hl64 hM t7 rfl
    obtain ⟨q1, q2, q3, q4, -⟩ := t6
    have e2 : E2 42 c = .ref q := by rw [t13.2]; exact e
    refine ⟨cv M1 a C2, E2, clk2, ?_, t16, t12, by show M1.2.1 ≤ _; omega, by show M1.2.2.1 ≤ _; omega⟩
    rw [h5 hM, Option.bind_some, if_neg n10, Option.bind_some, Option.bind_some, if_pos ⟨by omega, by omega⟩, if_pos w4.t, t1, Option.bind_some, if_pos (show W1.2.1 + 50 ≤ n0 + 128 ∧ W1.2.2.1 + 2001 ≤ s0 + 2600 from ⟨by omega, by omega⟩), if_pos (T_x t3.1.1), hx, Option.bind_some]
    simp only [Sum.elim_inl]
    rw [t14.vI t15 hc e2, Option.bind_some, t13.1, if_pos rfl, cv_2, if_pos (show M1.2.1 ≤ n0 + 128 ∧ M1.2.2.1 ≤ s0 + 2600 from ⟨by omega, by omega⟩)]
  · rw [h6 hM, Option.bind_some, if_pos rfl]
    exact gn
end
