section
variable {M : vMe} {a r : Nat} {C F : Nat → Nat → Value}
/-- a cursor begins -/
def cBeg (C : Nat → Nat → Value) (c : Nat) (s st clk : Int32) : Nat → Nat → Value :=
  pu (pu (pu (pu (pu (pu (pu (pu C (44 + c) 0 (.int 1)) (44 + c) 1 (.int 1)) (44 + c) 2 (.int st)) (44 + c) 3 (.int s)) (44 + c) 4 (.int 0)) (44 + c) 5 (.int clk)) (44 + c) 6 (.int 0)) (44 + c) 7 (.int (-1))
def fBeg (F : Nat → Nat → Value) (c : Nat) (s st clk : Int32) : Nat → Nat → Value := sC (sC (sC (sC (sC (sC (sC (sC F c 0 1) c 1 s) c 2 0) c 3 1) c 4 st) c 5 clk) c 6 0) c 7 0
theorem c_begin {c : Nat} {s st clk : Int32} (h : cOk M a C) (hc : c < 6) (hst : fits .boolean (.int st) = true) : tX0_begin (a + (44 + c)) s st clk (cv M a C) = some ((), cv M a (cBeg C c s st clk)) ∧ cOk M a (cBeg C c s st clk) := by
  have o1 := cOk_u (k := 0) (v := .int 1) h hc
  have o2 := cOk_u (k := 1) (v := .int 1) o1 hc
  have o3 := cOk_u (k := 2) (v := .int st) o2 hc
  have o4 := cOk_u (k := 3) (v := .int s) o3 hc
  have o5 := cOk_u (k := 4) (v := .int 0) o4 hc
  have o6 := cOk_u (k := 5) (v := .int clk) o5 hc
  have o7 := cOk_u (k := 6) (v := .int 0) o6 hc
  have o8 := cOk_u (k := 7) (v := .int (-1)) o7 hc
  refine ⟨?_, o8⟩
  rw [tX0_begin, uV h hc, Option.bind_some, uV o1 hc, Option.bind_some, if_pos hst, uV o2 hc, Option.bind_some, uV o3 hc, Option.bind_some, uV o4 hc, Option.bind_some, uV o5 hc, Option.bind_some, uV o6 hc, Option.bind_some, uV o7 hc, Option.bind_some]
  rfl
theorem fBeg_ok {c : Nat} {s st clk : Int32} (h : rOk M r F) : rOk M r (fBeg F c s st clk) := sC_ok (sC_ok (sC_ok (sC_ok (sC_ok (sC_ok (sC_ok (sC_ok h)))))))
theorem open_P {u hz n k c s : Nat} {st : Int32} (h : simP C F u hz n k) (hc : c < 6) (hs : s < n) (hst : st = 0 ∨ st = 1) : simP (cBeg C c (Int32.ofNat s) st (gt C 0 7)) (fBeg F c (Int32.ofNat s) st (gt F 1 3)) u hz n k := by
  have e : ∀ w, w < 8 → oC (fBeg F c (Int32.ofNat s) st (gt F 1 3)) c w = if w = 0 then 1 else if w = 1 then Int32.ofNat s else if w = 2 then 0 else if w = 3 then 1 else if w = 4 then st else if w = 5 then gt F 1 3 else if w = 6 then 0 else 0 := fun w hw => by
    rcases (show w = 0 ∨ w = 1 ∨ w = 2 ∨ w = 3 ∨ w = 4 ∨ w = 5 ∨ w = 6 ∨ w = 7 by omega) with rfl | rfl | rfl | rfl | rfl | rfl | rfl | rfl <;> simp [fBeg, oC_sC, aC]
  have g : ∀ w, w < 8 → gt (cBeg C c (Int32.ofNat s) st (gt C 0 7)) (44 + c) w = if w = 0 then 1 else if w = 1 then 1 else if w = 2 then st else if w = 3 then Int32.ofNat s else if w = 4 then 0 else if w = 5 then gt C 0 7 else if w = 6 then 0 else -1 := fun w hw => by
    rcases (show w = 0 ∨ w = 1 ∨ w = 2 ∨ w = 3 ∨ w = 4 ∨ w = 5 ∨ w = 6 ∨ w = 7 by omega) with rfl | rfl | rfl | rfl | rfl | rfl | rfl | rfl <;> simp [cBeg, gt_pu]
  have e0 := e 0 (by omega); have e1 := e 1 (by omega); have e2 := e 2 (by omega); have e3 := e 3 (by omega); have e4 := e 4 (by omega); have e5 := e 5 (by omega); have e6 := e 6 (by omega); have e7 := e 7 (by omega)
  have g0 := g 0 (by omega); have g1 := g 1 (by omega); have g2 := g 2 (by omega); have g3 := g 3 (by omega); have g4 := g 4 (by omega); have g5 := g 5 (by omega); have g6 := g 6 (by omega); have g7 := g 7 (by omega)
  simp at e0 e1 e2 e3 e4 e5 e6 e7 g0 g1 g2 g3 g4 g5 g6 g7
  refine simP_cur (c := c) h hc (fun l h1 h2 => ?_) (fun j l h1 h2 => ?_) ?_ ?_ ?_
  · simp only [fBeg, sC]
    rw [gt_ne (by unfold aC at *; omega), gt_ne (by unfold aC at *; omega), gt_ne (by unfold aC at *; omega), gt_ne (by unfold aC at *; omega), gt_ne (by unfold aC at *; omega), gt_ne (by unfold aC at *; omega), gt_ne (by unfold aC at *; omega), gt_ne (by unfold aC at *; omega)]
  · simp only [cBeg]
    rw [pu_ne (by omega), pu_ne (by omega), pu_ne (by omega), pu_ne (by omega), pu_ne (by omega), pu_ne (by omega), pu_ne (by omega), pu_ne (by omega)]
  · simp only [fBeg, sC, cBeg]
    rw [gt_ne (by omega), gt_ne (by omega), gt_ne (by omega), gt_ne (by omega), gt_ne (by omega), gt_ne (by omega), gt_ne (by omega), gt_ne (by omega)]
    rw [gt_ne (by unfold aC; omega), gt_ne (by unfold aC; omega), gt_ne (by unfold aC; omega), gt_ne (by unfold aC; omega), gt_ne (by unfold aC; omega), gt_ne (by unfold aC; omega), gt_ne (by unfold aC; omega), gt_ne (by unfold aC; omega)]
    exact h.2.1.2.2.2.2.2
  · right
    rw [e0, e1, e2, e3, e4, e5, e6, e7, g0, g1, g2, g3, g4, g5, g6, g7]
    exact ⟨rfl, rfl, rfl, rfl, rfl, rfl, h.2.1.2.2.2.2.1, rfl, by decide, .inr rfl, hst, ⟨s, hs, rfl⟩, ⟨0, by omega, rfl⟩, 0, by omega, rfl⟩
  · intro t p m ht hon hp hp64 hm hm64
    rw [e2] at hp
    have := (n_eq (a := 0) (by omega) (by omega)).mp hp
    omega
theorem closeU_P {u hz n k c : Nat} (h : simP C F u hz n k) (hc : c < 6) : simP (pu (pu C (44 + c) 0 (.int 0)) (44 + c) 1 (.int 0)) (sC F c 0 0) u hz n k := by
  refine simP_cur (c := c) h hc (fun l h1 h2 => by rw [sC, gt_ne (by unfold aC at *; omega)]) (fun j l h1 h2 => by rw [pu_ne (by omega), pu_ne (by omega)]) ?_ ?_ ?_
  · rw [gt_ne (by omega), gt_ne (by omega), sC, gt_ne (by unfold aC; omega)]; exact h.2.1.2.2.2.2.2
  · left
    exact ⟨by rw [oC_sC, if_pos rfl], by rw [gt_ne (by omega), gt_eq], by rw [gt_eq]⟩
  · intro t p m ht hon
    have := hon.1
    rw [oC_sC, if_pos rfl] at this
    exact absurd this (by decide)
/-- members that a cursor would still meet -/
def ahU (F : Nat → Nat → Value) (c s : Nat) : Nat → Bool := fun p => decide (mtF F c (oS F s (134 + numP F s p)) = 1)
theorem c_ahead_L {u hz n k c s m : Nat} (hC : cOk M a C) (h : simP C F u hz n k) (hc : c < 6) (h0 : oC F c 0 = 1) (h3 : oC F c 3 = 1) (hs : s < n) (hm : oS F s 0 = Int32.ofNat m) (hm64 : m ≤ 64) : ∀ (j f p v : Nat), p + j = m → j < f →
    tX5_countAhead_L18 (a + (44 + c)) (a + (4 + 8 * s)) (cv M a C) f (Int32.ofNat v) (Int32.ofNat p) = some (Int32.ofNat (v + sumU (ahU F c s) j p)) := by
  have hs5 : s < 5 := by have := h.1.2.2.1.2; omega
  obtain ⟨sS1, sO1⟩ := h.2.2.2.2.2 s hs
  have hcs := h.2.2.2.1 c hc
  rcases hcs with ⟨g1, -⟩ | ⟨g1, g2, g3, g4, g5, g6, g7, -⟩
  · exact absurd h0 (by rw [g1]; decide)
  intro j
  induction j with
  | zero =>
    intro f p v hk hf
    obtain ⟨f, rfl⟩ : ∃ g, f = g + 1 := ⟨f - 1, by omega⟩
    rw [tX5_countAhead_L18, uI hc, Option.bind_some, if_neg (by rw [g3, h3]; decide), c_rF hs5, Option.bind_some, sS1.1, hm, if_pos ((n_le (by omega) (by omega)).mpr (by omega))]; rfl
  | succ j ih =>
    intro f p v hk hf
    obtain ⟨f, rfl⟩ : ∃ g, f = g + 1 := ⟨f - 1, by omega⟩
    rw [tX5_countAhead_L18, uI hc, Option.bind_some, if_neg (by rw [g3, h3]; decide), c_rF hs5, Option.bind_some, sS1.1, hm, if_neg (fun g => by have := (n_le (by omega) (by omega)).mp g; omega), if_pos (c_tagR hs5), c_stampAt hC hs5 sO1 sS1 h.1.1.2.2 hm hm64 (by omega), Option.bind_some, if_pos (uT hc), c_meets hc g4 g7, Option.bind_some, sumU]
    rcases mtF_01 F c (oS F s (134 + numP F s p)) with e | e
    · rw [if_pos e, tX5_countAhead_J53_18, Int32.add_zero, n_succ, ih f (p + 1) v (by omega) (by omega), if_neg (by unfold ahU; rw [e]; decide), Nat.zero_add]
    · rw [if_neg (by rw [e]; decide), tX5_countAhead_J53_18, n_succ, n_succ, ih f (p + 1) (v + 1) (by omega) (by omega), if_pos (by unfold ahU; rw [e]; decide), Nat.add_assoc]
theorem n_m1 {q : Nat} (h : 1 ≤ q) : Int32.ofNat q - 1 + (-1) = Int32.ofNat (q - 1) - 1 := by
  rw [n_pred h, Int32.sub_eq_add_neg (Int32.ofNat (q - 1))]
/-- the same set: nothing comes -/
theorem unite_S {u hz n k s : Nat} (hs : s < n) (hC : cOk M a C) (h : simP C F u hz n k) {m : Nat} (hm : oS F s 0 = Int32.ofNat m) (hm64 : m ≤ 64) : ∀ (j f p : Nat), p + j = m → j < f → tX5_bringAll_L13 a (Int32.ofNat s) (a + (4 + 8 * s)) f 0 (Int32.ofNat p) (cv M a C) = some (0, cv M a C) := by
  have hs5 : s < 5 := by have := h.1.2.2.1.2; omega
  have hu := h.1.1.2.2
  obtain ⟨sS2, sO2⟩ := h.2.2.2.2.2 s hs
  intro j
  induction j with
  | zero =>
    intro f p hp hf
    obtain ⟨f, rfl⟩ : ∃ g, f = g + 1 := ⟨f - 1, by omega⟩
    rw [tX5_bringAll_L13, c_rF hs5, Option.bind_some, sS2.1, hm, if_pos ((n_le (by omega) (by omega)).mpr (by omega))]
  | succ j ih =>
    intro f p hp hf
    obtain ⟨f, rfl⟩ : ∃ g, f = g + 1 := ⟨f - 1, by omega⟩
    obtain ⟨x1, x2, x3, -⟩ := numP_at sO2 hu hm hm64 (show p < m by omega)
    have em : gt C (4 + 8 * s + (0 + 1)) p = Int32.ofNat (numP F s p) := (sS2.2.2.1 p (by omega)).trans x1
    have eb : tX5_bringIn a (a + (4 + 8 * s)) (Int32.ofNat (numP F s p)) (cv M a C) = some (0, cv M a C) := by
      simp only [tX5_bringIn]
      rw [if_pos (c_tagR hs5), (c_has hC hs5 sO2 sS2 hu (by omega)).1 x3, Option.bind_some, if_neg (by decide)]
    rw [tX5_bringAll_L13, c_rF hs5, Option.bind_some, sS2.1, hm, if_neg (fun g => by have := (n_le (by omega) (by omega)).mp g; omega), cA0 hC, Option.bind_some, cS hC hs5, Option.bind_some, c_rA hC hs5 (by omega), Option.bind_some, c_mI hs5 (by omega) (by omega), Option.bind_some, em, if_pos c_tag0, eb, Option.bind_some, if_pos rfl, tX5_bringAll_J45_13, n_succ]
    exact ih f (p + 1) (by omega) (by omega)
end
