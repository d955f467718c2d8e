section
variable {M : vMe} {x r a d b : Nat} {G F C E : Nat → Nat → Value} {u hz n k : Nat}
theorem Q_at {j m : Nat} {st : Int32} (h : simD M x r G F a d C u hz n k) (hj : j < n) (m2 : oS F j 3 = Int32.ofNat m) (m1 : m ≤ 60) (q : ¬ (st < oS F j 2 ∨ gt F 1 3 < st)) : tX9_at x (Int32.ofNat j) st M = some (.inl (cAt (evs F j) st m 0 (two (oS F j 5) (oS F j 4))), M) := by
  have hb := D_b h
  have hc := D_c h
  have hj5 : j < 5 := by have := (D_p h).1.2.2.1.2; omega
  rw [tX9_at, if_pos (ok2 M), if_pos (T_x h.1.1), (c_rowsOf h (Int32.ofNat j)).1 j hj rfl, Option.bind_some]
  simp only [Sum.elim_inl]
  rw [B_rA hb hc hj5 (by omega), Option.bind_some, show a + (4 + 8 * j + (3 + 1)) = a + (4 + 8 * j + 4) from rfl, if_pos (ok2 M), if_pos (T_x h.1.1), c_checkStamp h hj, Option.bind_some, if_neg q]
  simp only [Sum.elim_inl]
  rw [if_pos (ok0 M), if_pos (B_tL hb hj5), c_bits_at h hj m2 m1, Option.bind_some, if_pos (ok1 M)]
theorem Q_differs {j m : Nat} {st su came : Int32} (h : simD M x r G F a d C u hz n k) (hj : j < n) (m2 : oS F j 3 = Int32.ofNat m) (m1 : m ≤ 60) (q : ¬ (st < oS F j 2 ∨ gt F 1 3 < st)) (q2 : ¬ (su < oS F j 2 ∨ gt F 1 3 < su)) {A B : Int64} (hA : cAt (evs F j) st m 0 (two (oS F j 5) (oS F j 4)) = A) (hB : cAt (evs F j) su m 0 (two (oS F j 5) (oS F j 4)) = B) :
    tX9_differs x (Int32.ofNat j) st su came M = some (.inl (if came = 0 then Int32.ofNat (pcI (A &&& (B ^^^ (-1)))) else Int32.ofNat (pcI (B &&& (A ^^^ (-1))))), M) := by
  have hb := D_b h
  have hc := D_c h
  have hj5 : j < 5 := by have := (D_p h).1.2.2.1.2; omega
  rw [tX9_differs, if_pos (ok2 M), if_pos (T_x h.1.1), (c_rowsOf h (Int32.ofNat j)).1 j hj rfl, Option.bind_some]
  simp only [Sum.elim_inl]
  rw [B_rA hb hc hj5 (by omega), Option.bind_some, show a + (4 + 8 * j + (3 + 1)) = a + (4 + 8 * j + 4) from rfl, if_pos (ok2 M), if_pos (T_x h.1.1), c_checkStamp h hj, Option.bind_some, if_neg q]
  simp only [Sum.elim_inl]
  rw [if_pos (ok2 M), if_pos (T_x h.1.1), c_checkStamp h hj, Option.bind_some, if_neg q2]
  simp only [Sum.elim_inl]
  rw [if_pos (ok0 M), if_pos (B_tL hb hj5), c_bits_at h hj m2 m1, Option.bind_some, if_pos (ok0 M), c_bits_at h hj m2 m1, Option.bind_some, hA, hB]
  by_cases q3 : came = 0
  · rw [if_pos q3, if_pos q3, tX9_differs_J66, if_pos (ok0 M), bitCount_eq, Option.bind_some, if_pos (ok1 M), if_pos (B_tL hb hj5)]
  · rw [if_neg q3, if_neg q3, tX9_differs_J66, if_pos (ok0 M), bitCount_eq, Option.bind_some, if_pos (ok1 M), if_pos (B_tL hb hj5)]
theorem Q_since {j m l : Nat} (h : simD M x r G F a d C u hz n k) (hj : j < n) (m2 : oS F j 3 = Int32.ofNat m) (m1 : m ≤ 60) (hl : l < u) : tX9_since x (Int32.ofNat j) (Int32.ofNat l) M = some (.inl (snc (evs F j) l m 0 (-1) (two (oS F j 5) (oS F j 4))), M) := by
  have hP := D_p h
  have hb := D_b h
  have hc := D_c h
  have hu := hP.1.1.2
  have hj5 : j < 5 := by have := hP.1.2.2.1.2; omega
  have e := c_since (M := M) hc hj5 (simS_L (hP.2.2.2.2.2 j hj).1) m2 m1 (show l < 64 by omega)
  rw [hb.eq] at e
  rw [tX9_since, if_pos (ok2 M), if_pos (T_x h.1.1), (c_rowsOf h (Int32.ofNat j)).1 j hj rfl, Option.bind_some]
  simp only [Sum.elim_inl]
  rw [B_rA hb hc hj5 (by omega), Option.bind_some, show a + (4 + 8 * j + (3 + 1)) = a + (4 + 8 * j + 4) from rfl, if_pos (ok2 M), if_pos (T_x h.1.1), (c_checkNumber h _).1 l hl rfl, Option.bind_some]
  simp only [Sum.elim_inl]
  rw [if_pos (ok0 M), if_pos (B_tL hb hj5), e, Option.bind_some, if_pos (ok1 M)]
theorem Q_fullest {j m : Nat} (h : simD M x r G F a d C u hz n k) (hj : j < n) (m2 : oS F j 3 = Int32.ofNat m) (m1 : m ≤ 60) : tX9_fullest x (Int32.ofNat j) M = some (.inl (ful (evs F j) m 0 (oS F j 2) (two (oS F j 5) (oS F j 4)) (pcI (two (oS F j 5) (oS F j 4)))), M) := by
  have hP := D_p h
  have hb := D_b h
  have hc := D_c h
  have hj5 : j < 5 := by have := hP.1.2.2.1.2; omega
  have e := c_full (M := M) hc hj5 (simS_L (hP.2.2.2.2.2 j hj).1) m2 m1
  rw [hb.eq] at e
  rw [tX9_fullest, if_pos (ok2 M), if_pos (T_x h.1.1), (c_rowsOf h (Int32.ofNat j)).1 j hj rfl, Option.bind_some]
  simp only [Sum.elim_inl]
  rw [B_rA hb hc hj5 (by omega), Option.bind_some, show a + (4 + 8 * j + (3 + 1)) = a + (4 + 8 * j + 4) from rfl, if_pos (ok0 M), if_pos (B_tL hb hj5), e, Option.bind_some, if_pos (ok1 M)]
theorem Q_common {i j : Nat} {B1 B2 : Int64} (h : simD M x r G F a d C u hz n k) (hi : i < n) (hj : j < n) (b1 : tX7_bits (a + (4 + 8 * i)) M = some B1) (e1 : tX7_bits (a + (4 + 8 * j)) M = some B2) : tX9_common x (Int32.ofNat i) (Int32.ofNat j) M = some (.inl (Int32.ofNat (pcI (B1 &&& B2))), M) := by
  have hb := D_b h
  have hn5 := (D_p h).1.2.2.1.2
  rw [tX9_common, if_pos (ok2 M), if_pos (T_x h.1.1), (c_rowsOf h _).1 i hi rfl, Option.bind_some]
  simp only [Sum.elim_inl]
  rw [if_pos (ok0 M), if_pos (B_tR hb (by omega)), b1, Option.bind_some, if_pos (ok2 M), if_pos (T_x h.1.1), (c_rowsOf h _).1 j hj rfl, Option.bind_some]
  simp only [Sum.elim_inl]
  rw [if_pos (ok0 M), if_pos (B_tR hb (by omega)), e1, Option.bind_some, if_pos (ok0 M), bitCount_eq, Option.bind_some, if_pos (ok1 M)]
theorem Q_isWithin {i j : Nat} {B1 B2 : Int64} (h : simD M x r G F a d C u hz n k) (hi : i < n) (hj : j < n) (b1 : tX7_bits (a + (4 + 8 * i)) M = some B1) (e1 : tX7_bits (a + (4 + 8 * j)) M = some B2) : tX9_isWithin x (Int32.ofNat i) (Int32.ofNat j) M = some (.inl (if pcI (B1 &&& B2) = pcI B1 then 1 else 0), M) := by
  have hb := D_b h
  have hn5 := (D_p h).1.2.2.1.2
  rw [tX9_isWithin, if_pos (ok2 M), if_pos (T_x h.1.1), (c_rowsOf h _).1 i hi rfl, Option.bind_some]
  simp only [Sum.elim_inl]
  rw [if_pos (ok0 M), if_pos (B_tR hb (by omega)), b1, Option.bind_some, if_pos (ok2 M), if_pos (T_x h.1.1), (c_rowsOf h _).1 j hj rfl, Option.bind_some]
  simp only [Sum.elim_inl]
  rw [if_pos (ok0 M), if_pos (B_tR hb (by omega)), e1, Option.bind_some]
  by_cases q : pcI (B1 &&& B2) = pcI B1
  · rw [if_pos q, if_pos (within_P.mpr q), if_pos (ok1 M)]
  · rw [if_neg q, if_neg (fun g => q (within_P.mp g)), if_pos (ok1 M)]
theorem Q_likeness {i j : Nat} {B1 B2 : Int64} (h : simD M x r G F a d C u hz n k) (hi : i < n) (hj : j < n) (b1 : tX7_bits (a + (4 + 8 * i)) M = some B1) (e1 : tX7_bits (a + (4 + 8 * j)) M = some B2) : tX9_likeness x (Int32.ofNat i) (Int32.ofNat j) M = some (.inl (if pcI (B1 ||| B2) = 0 then 0x3FF0000000000000 else FP.ddiv (FP.i2d (Int32.ofNat (pcI (B1 &&& B2)))) (FP.i2d (Int32.ofNat (pcI (B1 ||| B2))))), M) := by
  have hb := D_b h
  have hn5 := (D_p h).1.2.2.1.2
  have hle := pcI_le (B1 &&& B2)
  have hlo := pcI_le (B1 ||| B2)
  rw [tX9_likeness, if_pos (ok2 M), if_pos (T_x h.1.1), (c_rowsOf h _).1 i hi rfl, Option.bind_some]
  simp only [Sum.elim_inl]
  rw [if_pos (ok0 M), if_pos (B_tR hb (by omega)), b1, Option.bind_some, if_pos (ok2 M), if_pos (T_x h.1.1), (c_rowsOf h _).1 j hj rfl, Option.bind_some]
  simp only [Sum.elim_inl]
  rw [if_pos (ok0 M), if_pos (B_tR hb (by omega)), e1, Option.bind_some, if_pos (ok0 M), bitCount_eq, Option.bind_some]
  by_cases q : pcI (B1 ||| B2) = 0
  · rw [if_pos q, if_pos (n_z0 q), if_pos (ok1 M)]
  · rw [if_neg q, if_neg (n_z (Nat.lt_of_le_of_lt hlo (by decide)) q), if_pos (ok0 M), bitCount_eq, Option.bind_some, if_pos (like_ok _ (Nat.lt_succ_of_le hle) _ (Nat.lt_succ_of_le hlo) (Nat.pos_of_ne_zero q)), if_pos (ok1 M)]
theorem like_eq : ∀ x, x < 65 → ∀ y, y < 65 → 0 < y → Op.cmpValue (FP.dcmp (FP.ddiv (FP.i2d (Int32.ofNat x)) (FP.i2d (Int32.ofNat y))) (FP.ddiv (FP.i2d (Int32.ofNat x)) (FP.i2d (Int32.ofNat y)))) .l = 0 := by decide +kernel
theorem like_1 : Op.cmpValue (FP.dcmp 0x3FF0000000000000 0x3FF0000000000000) .l = 0 := by decide +kernel
/-! the law's long row of contents against the class's events -/
variable {N : vMe} {j NE clk : Nat}
/-- the row of contents -/
def tT (E : Nat → Nat → Value) (j i : Nat) : Int64 := vJ (E (2 + 8 * j + (6 + 1)) i)
/-- a stamp -/
def tS (E : Nat → Nat → Value) (j i : Nat) : Int32 := gt E (2 + 8 * j + (3 + 1)) i
theorem ev_T (hF : F 1 = eR E) (hj : j < 5) (hL : okL E F j NE clk) (hNE : NE < 2000) {i : Nat} (hi : i < eK E j) (hK : eK E j ≤ 60) : evs F j i 0 = tS E j (NE - eK E j + i) ∧ tT E j (NE - eK E j + i + 1) = bh (tT E j (NE - eK E j + i)) (evs F j i 1) (evs F j i 2) ∧ NE - eK E j + i < NE ∧ eK E j ≤ NE := by
  have eN1 : eN E j = NE := eN_of hL.1 (by omega)
  have hle : eK E j ≤ NE := by unfold eK; rw [eN1]; split <;> omega
  have e : ∀ w, w < 3 → evs F j i w = gt E (2 + 8 * j + (3 + w + 1)) (NE - eK E j + i) := fun w hw => by
    unfold evs; rw [R_e hF hj (by omega) hw, eN1]
  refine ⟨e 0 (by omega), ?_, by omega, hle⟩
  rw [e 1 (by omega), e 2 (by omega)]
  exact hL.2.2.2.1 _ (by omega)
theorem base_T (hF : F 1 = eR E) (hj : j < 5) (hL : okL E F j NE clk) (hNE : NE < 2000) : two (oS F j 5) (oS F j 4) = tT E j (NE - eK E j) := by
  rw [R_45 hF hj, eN_of hL.1 (by omega)]; rfl
theorem tS_lt (hL : okL E F j NE clk) (hc : clk < 2000) {i i' : Nat} (h : i < i') (h' : i' < NE) : tS E j i < tS E j i' := by
  obtain ⟨-, -, -, -, ⟨t, t1, t2⟩, -⟩ := hL
  obtain ⟨e1, f1, g1⟩ := t1 i (by omega)
  obtain ⟨e2, f2, g2⟩ := t1 i' h'
  unfold tS
  rw [e1, e2]
  exact (n_lt (by omega) (by omega)).mpr (t2 i i' h h')
theorem tS_le (hL : okL E F j NE clk) (hc : clk < 2000) {i i' : Nat} (h : i ≤ i') (h' : i' < NE) : tS E j i ≤ tS E j i' := by
  by_cases e : i = i'
  · rw [e]; exact Int32.le_refl _
  · exact Int32.le_of_lt (tS_lt hL hc (by omega) h')
/-- where the law's walk back ends -/
theorem at_k {st : Int32} (he : hE N b E) (ho : eOk N b E) (hj : j < 5) (hL : okL E F j NE clk) (hc : clk < 2000) (hNE : NE < 2000) {i : Nat} (hi : i ≤ NE) (h1 : i < NE → st < tS E j i) (h2 : 0 < i → tS E j (i - 1) ≤ st) : tX10_at (b + (2 + 8 * j)) st N = some (tT E j i) := by
  obtain ⟨k', k1, k2, k3, k4⟩ := e_at (M := N) (b := b) (st := st) ho hj hL.1 (by omega)
  rw [he.eq ho] at k2
  rw [k2]
  have : k' = i := by
    rcases Nat.lt_trichotomy k' i with g | g | g
    · have a1 : tS E j (i - 1) ≤ st := h2 (by omega)
      have a2 : st < tS E j k' := k3 k' (Nat.le_refl _) (by omega)
      have a3 := tS_le hL hc (i := k') (i' := i - 1) (by omega) (by omega)
      exact absurd (Int32.le_trans a3 a1) (Int32.not_le.mpr a2)
    · exact g
    · have a1 : tS E j (k' - 1) ≤ st := k4 (by omega)
      have a2 : st < tS E j i := h1 (by omega)
      have a3 := tS_le hL hc (i := i) (i' := k' - 1) (by omega) (by omega)
      exact absurd (Int32.le_trans a3 a1) (Int32.not_le.mpr a2)
  rw [this]; rfl
/-- at a stamp of an event -/
theorem at_s (he : hE N b E) (ho : eOk N b E) (hj : j < 5) (hL : okL E F j NE clk) (hc : clk < 2000) (hNE : NE < 2000) {i : Nat} (hi : i < NE) : tX10_at (b + (2 + 8 * j)) (tS E j i) N = some (tT E j (i + 1)) :=
  at_k he ho hj hL hc hNE (by omega) (fun g => tS_lt hL hc (by omega) g) (fun _ => Int32.le_refl _)
/-- the class's walk -/
theorem cAt_T {st : Int32} (hF : F 1 = eR E) (hj : j < 5) (hL : okL E F j NE clk) (hNE : NE < 2000) (hK : eK E j ≤ 60) : ∀ (m i : Nat), i + m = eK E j → (0 < NE - eK E j + i → tS E j (NE - eK E j + i - 1) ≤ st) →
    ∃ k', k' ≤ NE ∧ cAt (evs F j) st m i (tT E j (NE - eK E j + i)) = tT E j k' ∧ (k' < NE → st < tS E j k') ∧ (0 < k' → tS E j (k' - 1) ≤ st) := by
  have eN1 : eN E j = NE := eN_of hL.1 (by omega)
  have hle : eK E j ≤ NE := by unfold eK; rw [eN1]; split <;> omega
  intro m
  induction m with
  | zero =>
    intro i hi h0
    exact ⟨NE - eK E j + i, by omega, rfl, fun g => by omega, h0⟩
  | succ m ih =>
    intro i hi h0
    obtain ⟨e0, e1, e2, -⟩ := ev_T hF hj hL hNE (show i < eK E j by omega) hK
    rw [cAt, e0]
    by_cases q : st < tS E j (NE - eK E j + i)
    · rw [if_pos q]
      exact ⟨NE - eK E j + i, by omega, rfl, fun _ => q, h0⟩
    · rw [if_neg q, ← e1, show NE - eK E j + i + 1 = NE - eK E j + (i + 1) by omega]
      exact ih (i + 1) (by omega) (fun _ => by
        rw [show NE - eK E j + (i + 1) - 1 = NE - eK E j + i by omega]
        exact Int32.not_lt.mp q)
/-- the first stamp that can be asked for -/
theorem first_T (hF : F 1 = eR E) (hj : j < 5) (hL : okL E F j NE clk) (hc : clk < 2000) (hNE : NE < 2000) : (∃ f0, f0 ≤ clk ∧ oS F j 2 = Int32.ofNat f0) ∧ (0 < NE - eK E j → tS E j (NE - eK E j - 1) = oS F j 2) ∧ (NE - eK E j < NE → oS F j 2 < tS E j (NE - eK E j)) := by
  have eN1 : eN E j = NE := eN_of hL.1 (by omega)
  have hL0 := hL
  obtain ⟨-, -, -, -, ⟨t, t1, t2⟩, -⟩ := hL
  by_cases c : NE ≤ eH E
  · have eK1 : eK E j = NE := by unfold eK; rw [eN1, if_pos c]
    have e2 : oS F j 2 = 0 := by rw [R_2 hF hj, eN1, if_pos c]
    rw [e2, eK1]
    refine ⟨⟨0, by omega, rfl⟩, fun g => by omega, fun g => ?_⟩
    obtain ⟨f1, f2, f3⟩ := t1 (NE - NE) (by omega)
    unfold tS
    rw [f1]
    exact (n_lt (a := 0) (by omega) (by omega)).mpr (by omega)
  · have eK1 : eK E j = eH E := by unfold eK; rw [eN1, if_neg c]
    have e2 : oS F j 2 = tS E j (NE - eH E - 1) := by rw [R_2 hF hj, eN1, if_neg c]; rfl
    rw [e2, eK1]
    obtain ⟨f1, f2, f3⟩ := t1 (NE - eH E - 1) (by omega)
    exact ⟨⟨t (NE - eH E - 1), f3, f1⟩, fun _ => rfl, fun g => tS_lt hL0 hc (by omega) g⟩
/-- what a set was at a stamp is the same on both sides -/
theorem at_both {st : Int32} (he : hE N b E) (ho : eOk N b E) (hF : F 1 = eR E) (hj : j < 5) (hL : okL E F j NE clk) (hc : clk < 2000) (hNE : NE < 2000) (hK : eK E j ≤ 60) (h1 : oS F j 2 ≤ st) : tX10_at (b + (2 + 8 * j)) st N = some (cAt (evs F j) st (eK E j) 0 (two (oS F j 5) (oS F j 4))) := by
  obtain ⟨-, f1, f2⟩ := first_T hF hj hL hc hNE
  obtain ⟨k', k1, k2, k3, k4⟩ := cAt_T (st := st) hF hj hL hNE hK (eK E j) 0 (by omega) (fun g => by
    rw [Nat.add_zero] at g ⊢
    rw [f1 g]; exact h1)
  rw [base_T hF hj hL hNE, show NE - eK E j = NE - eK E j + 0 from rfl, k2]
  exact at_k he ho hj hL hc hNE k1 k3 k4
end
