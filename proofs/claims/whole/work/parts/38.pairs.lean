section
variable {M : vMe} {a r : Nat} {C F : Nat → Nat → Value}
/-- a cursor begins -/
def cBeg (C : Nat → Nat → Value) (c : Nat) (s st clk : Int32) : Nat → Nat → Value :=
  pu (pu (pu (pu (pu (pu (pu (pu C (44 + c) 0 (.int 1)) (44 + c) 1 (.int 1)) (44 + c) 2 (.int st)) (44 + c) 3 (.int s)) (44 + c) 4 (.int 0)) (44 + c) 5 (.int clk)) (44 + c) 6 (.int 0)) (44 + c) 7 (.int (-1))
def fBeg (F : Nat → Nat → Value) (c : Nat) (s st clk : Int32) : Nat → Nat → Value := sC (sC (sC (sC (sC (sC (sC (sC F c 0 1) c 1 s) c 2 0) c 3 1) c 4 st) c 5 clk) c 6 0) c 7 0
theorem c_begin {c : Nat} {s st clk : Int32} (h : cOk M a C) (hc : c < 6) (hst : fits .boolean (.int st) = true) : tX0_begin (a + (44 + c)) s st clk (cv M a C) = some ((), cv M a (cBeg C c s st clk)) ∧ cOk M a (cBeg C c s st clk) := by
  have o1 := cOk_u (k := 0) (v := .int 1) h hc
  have o2 := cOk_u (k := 1) (v := .int 1) o1 hc
  have o3 := cOk_u (k := 2) (v := .int st) o2 hc
  have o4 := cOk_u (k := 3) (v := .int s) o3 hc
  have o5 := cOk_u (k := 4) (v := .int 0) o4 hc
  have o6 := cOk_u (k := 5) (v := .int clk) o5 hc
  have o7 := cOk_u (k := 6) (v := .int 0) o6 hc
  have o8 := cOk_u (k := 7) (v := .int (-1)) o7 hc
  refine ⟨?_, o8⟩
  rw [tX0_begin, uV h hc, Option.bind_some, uV o1 hc, Option.bind_some, if_pos hst, uV o2 hc, Option.bind_some, uV o3 hc, Option.bind_some, uV o4 hc, Option.bind_some, uV o5 hc, Option.bind_some, uV o6 hc, Option.bind_some, uV o7 hc, Option.bind_some]
  rfl
theorem fBeg_ok {c : Nat} {s st clk : Int32} (h : rOk M r F) : rOk M r (fBeg F c s st clk) := sC_ok (sC_ok (sC_ok (sC_ok (sC_ok (sC_ok (sC_ok (sC_ok h)))))))
theorem open_P {u hz n k c s : Nat} {st : Int32} (h : simP C F u hz n k) (hc : c < 6) (hs : s < n) (hst : st = 0 ∨ st = 1) : simP (cBeg C c (Int32.ofNat s) st (gt C 0 7)) (fBeg F c (Int32.ofNat s) st (gt F 1 3)) u hz n k := by
  have e : ∀ w, w < 8 → oC (fBeg F c (Int32.ofNat s) st (gt F 1 3)) c w = if w = 0 then 1 else if w = 1 then Int32.ofNat s else if w = 2 then 0 else if w = 3 then 1 else if w = 4 then st else if w = 5 then gt F 1 3 else if w = 6 then 0 else 0 := fun w hw => by
    rcases (show w = 0 ∨ w = 1 ∨ w = 2 ∨ w = 3 ∨ w = 4 ∨ w = 5 ∨ w = 6 ∨ w = 7 by omega) with rfl | rfl | rfl | rfl | rfl | rfl | rfl | rfl <;> simp [fBeg, oC_sC, aC]
  have g : ∀ w, w < 8 → gt (cBeg C c (Int32.ofNat s) st (gt C 0 7)) (44 + c) w = if w = 0 then 1 else if w = 1 then 1 else if w = 2 then st else if w = 3 then Int32.ofNat s else if w = 4 then 0 else if w = 5 then gt C 0 7 else if w = 6 then 0 else -1 := fun w hw => by
    rcases (show w = 0 ∨ w = 1 ∨ w = 2 ∨ w = 3 ∨ w = 4 ∨ w = 5 ∨ w = 6 ∨ w = 7 by omega) with rfl | rfl | rfl | rfl | rfl | rfl | rfl | rfl <;> simp [cBeg, gt_pu]
  have e0 := e 0 (by omega); have e1 := e 1 (by omega); have e2 := e 2 (by omega); have e3 := e 3 (by omega); have e4 := e 4 (by omega); have e5 := e 5 (by omega); have e6 := e 6 (by omega); have e7 := e 7 (by omega)
  have g0 := g 0 (by omega); have g1 := g 1 (by omega); have g2 := g 2 (by omega); have g3 := g 3 (by omega); have g4 := g 4 (by omega); have g5 := g 5 (by omega); have g6 := g 6 (by omega); have g7 := g 7 (by omega)
  simp at e0 e1 e2 e3 e4 e5 e6 e7 g0 g1 g2 g3 g4 g5 g6 g7
  refine simP_cur (c := c) h hc (fun l h1 h2 => ?_) (fun j l h1 h2 => ?_) ?_ ?_ ?_
  · simp only [fBeg, sC]
    rw [gt_ne (by unfold aC at *; omega), gt_ne (by unfold aC at *; omega), gt_ne (by unfold aC at *; omega), gt_ne (by unfold aC at *; omega), gt_ne (by unfold aC at *; omega), gt_ne (by unfold aC at *; omega), gt_ne (by unfold aC at *; omega), gt_ne (by unfold aC at *; omega)]
  · simp only [cBeg]
    rw [pu_ne (by omega), pu_ne (by omega), pu_ne (by omega), pu_ne (by omega), pu_ne (by omega), pu_ne (by omega), pu_ne (by omega), pu_ne (by omega)]
  · simp only [fBeg, sC, cBeg]
    rw [gt_ne (by omega), gt_ne (by omega), gt_ne (by omega), gt_ne (by omega), gt_ne (by omega), gt_ne (by omega), gt_ne (by omega), gt_ne (by omega)]
    rw [gt_ne (by unfold aC; omega), gt_ne (by unfold aC; omega), gt_ne (by unfold aC; omega), gt_ne (by unfold aC; omega), gt_ne (by unfold aC; omega), gt_ne (by unfold aC; omega), gt_ne (by unfold aC; omega), gt_ne (by unfold aC; omega)]
    exact h.2.1.2.2.2.2.2
  · right
    rw [e0, e1, e2, e3, e4, e5, e6, e7, g0, g1, g2, g3, g4, g5, g6, g7]
    exact ⟨rfl, rfl, rfl, rfl, rfl, rfl, h.2.1.2.2.2.2.1, rfl, by decide, .inr rfl, hst, ⟨s, hs, rfl⟩, ⟨0, by omega, rfl⟩, 0, by omega, rfl⟩
  · intro t p m ht hon hp hp64 hm hm64
    rw [e2] at hp
    have := (n_eq (a := 0) (by omega) (by omega)).mp hp
    omega
theorem closeU_P {u hz n k c : Nat} (h : simP C F u hz n k) (hc : c < 6) : simP (pu (pu C (44 + c) 0 (.int 0)) (44 + c) 1 (.int 0)) (sC F c 0 0) u hz n k := by
  refine simP_cur (c := c) h hc (fun l h1 h2 => by rw [sC, gt_ne (by unfold aC at *; omega)]) (fun j l h1 h2 => by rw [pu_ne (by omega), pu_ne (by omega)]) ?_ ?_ ?_
  · rw [gt_ne (by omega), gt_ne (by omega), sC, gt_ne (by unfold aC; omega)]; exact h.2.1.2.2.2.2.2
  · left
    exact ⟨by rw [oC_sC, if_pos rfl], by rw [gt_ne (by omega), gt_eq], by rw [gt_eq]⟩
  · intro t p m ht hon
    have := hon.1
    rw [oC_sC, if_pos rfl] at this
    exact absurd this (by decide)
/-- members that a cursor would still meet -/
def ahU (F : Nat → Nat → Value) (c s : Nat) : Nat → Bool := fun p => decide (mtF F c (oS F s (134 + numP F s p)) = 1)
theorem c_ahead_L {u hz n k c s m : Nat} (hC : cOk M a C) (h : simP C F u hz n k) (hc : c < 6) (h0 : oC F c 0 = 1) (h3 : oC F c 3 = 1) (hs : s < n) (hm : oS F s 0 = Int32.ofNat m) (hm64 : m ≤ 64) : ∀ (j f p v : Nat), p + j = m → j < f →
    tX5_countAhead_L18 (a + (44 + c)) (a + (4 + 8 * s)) (cv M a C) f (Int32.ofNat v) (Int32.ofNat p) = some (Int32.ofNat (v + sumU (ahU F c s) j p)) := by
  have hs5 : s < 5 := by have := h.1.2.2.1.2; omega
  obtain ⟨sS1, sO1⟩ := h.2.2.2.2.2 s hs
  have hcs := h.2.2.2.1 c hc
  rcases hcs with ⟨g1, -⟩ | ⟨g1, g2, g3, g4, g5, g6, g7, -⟩
  · exact absurd h0 (by rw [g1]; decide)
  intro j
  induction j with
  | zero =>
    intro f p v hk hf
    obtain ⟨f, rfl⟩ : ∃ g, f = g + 1 := ⟨f - 1, by omega⟩
    rw [tX5_countAhead_L18, uI hc, Option.bind_some, if_neg (by rw [g3, h3]; decide), c_rF hs5, Option.bind_some, sS1.1, hm, if_pos ((n_le (by omega) (by omega)).mpr (by omega))]; rfl
  | succ j ih =>
    intro f p v hk hf
    obtain ⟨f, rfl⟩ : ∃ g, f = g + 1 := ⟨f - 1, by omega⟩
    rw [tX5_countAhead_L18, uI hc, Option.bind_some, if_neg (by rw [g3, h3]; decide), c_rF hs5, Option.bind_some, sS1.1, hm, if_neg (fun g => by have := (n_le (by omega) (by omega)).mp g; omega), if_pos (c_tagR hs5), c_stampAt hC hs5 sO1 sS1 h.1.1.2.2 hm hm64 (by omega), Option.bind_some, if_pos (uT hc), c_meets hc g4 g7, Option.bind_some, sumU]
    rcases mtF_01 F c (oS F s (134 + numP F s p)) with e | e
    · rw [if_pos e, tX5_countAhead_J53_18, Int32.add_zero, n_succ, ih f (p + 1) v (by omega) (by omega), if_neg (by unfold ahU; rw [e]; decide), Nat.zero_add]
    · rw [if_neg (by rw [e]; decide), tX5_countAhead_J53_18, n_succ, n_succ, ih f (p + 1) (v + 1) (by omega) (by omega), if_pos (by unfold ahU; rw [e]; decide), Nat.add_assoc]
theorem r_ahead_L {u hz n k c s m : Nat} (hR : rOk M r F) (h : simP C F u hz n k) (hc : c < 6) (h1 : oC F c 1 = Int32.ofNat s) (hs : s < n) (hm : oS F s 0 = Int32.ofNat m) (hm64 : m ≤ 64) : ∀ (j f p v : Nat), p + j = m → j < f →
    tX10_ahead_L36 r (Int32.ofNat c) (Int32.ofNat s) f (Int32.ofNat v) (Int32.ofNat p) (rv M r F) = some (Int32.ofNat (v + sumU (ahU F c s) j p), rv M r F) := by
  have hs5 : s < 5 := by have := h.1.2.2.1.2; omega
  obtain ⟨sS1, sO1⟩ := h.2.2.2.2.2 s hs
  intro j
  induction j with
  | zero =>
    intro f p v hk hf
    obtain ⟨f, rfl⟩ : ∃ g, f = g + 1 := ⟨f - 1, by omega⟩
    rw [tX10_ahead_L36, if_pos r_tag, l0, r_of hR hs5 (by omega), Option.bind_some, hm, if_pos ((n_le (by omega) (by omega)).mpr (by omega))]; rfl
  | succ j ih =>
    intro f p v hk hf
    obtain ⟨f, rfl⟩ : ∃ g, f = g + 1 := ⟨f - 1, by omega⟩
    obtain ⟨x1, x2, x3, x4⟩ := numP_at sO1 h.1.1.2.2 hm hm64 (show p < m by omega)
    have hu := h.1.1.2.2
    rw [tX10_ahead_L36, if_pos r_tag, l0, r_of hR hs5 (by omega), Option.bind_some, hm, if_neg (fun g => by have := (n_le (by omega) (by omega)).mp g; omega), if_pos r_tag, l6, n_add, r_of hR hs5 (by omega), Option.bind_some, x1, if_pos r_tag, r_meets hR hc hs5 (by omega) h1, Option.bind_some, sumU, ← l0]
    rcases mtF_01 F c (oS F s (134 + numP F s p)) with e | e
    · rw [if_pos e, tX10_ahead_J71_36, Int32.add_zero, n_succ, ih f (p + 1) v (by omega) (by omega), if_neg (by unfold ahU; rw [e]; decide), Nat.zero_add]
    · rw [if_neg (by rw [e]; decide), tX10_ahead_J71_36, n_succ, n_succ, ih f (p + 1) (v + 1) (by omega) (by omega), if_pos (by unfold ahU; rw [e]; decide), Nat.add_assoc]
theorem c_aheadP {u hz n k c : Nat} (hC : cOk M a C) (hR : rOk M r F) {M' : vMe} (hR' : rOk M' r F) (h : simP C F u hz n k) (hc : c < 6) (h0 : oC F c 0 = 1) :
    ∃ v, tX5_countAhead a (a + (44 + c)) (cv M a C) = some v ∧ (if oC F c 3 = 0 then some ((0 : Int32), rv M' r F) else (tX10_ahead_L36 r (Int32.ofNat c) (oC F c 1) vF 0 (oC F c 2) (rv M' r F))) = some (v, rv M' r F) := by
  have hcs := h.2.2.2.1 c hc
  rcases hcs with ⟨g1, -⟩ | ⟨g1, g2, g3, g4, g5, g6, g7, g8, g9, g10, g11, ⟨s, s1, s2⟩, ⟨p, p1, p2⟩, g14⟩
  · exact absurd h0 (by rw [g1]; decide)
  have hs5 : s < 5 := by have := h.1.2.2.1.2; omega
  have st : tX5_countAhead a (a + (44 + c)) (cv M a C) = (tX5_countAhead_L18 (a + (44 + c)) (a + (4 + 8 * s)) (cv M a C) vF 0 (Int32.ofNat p)).bind fun z19 => some z19 := by
    rw [tX5_countAhead, cA0 hC, Option.bind_some, uI hc, Option.bind_some, g5, s2, cS hC hs5, Option.bind_some, uI hc, Option.bind_some, g6, p2]
  rw [st]
  rcases g10 with o | o
  · refine ⟨0, ?_, by rw [if_pos o]⟩
    rw [show vF = 99999 + 1 from rfl, tX5_countAhead_L18, uI hc, Option.bind_some, if_pos (by rw [g3, o])]; rfl
  · obtain ⟨m, m1, m2⟩ := okS_m (h.2.2.2.2.2 s s1).2
    have hu := h.1.1.2.2
    have hpm := h.2.2.2.2.1 c s p m hc s1 ⟨h0, o, s2⟩ p2 p1 m2 (by omega)
    refine ⟨Int32.ofNat (0 + sumU (ahU F c s) (m - p) p), ?_, ?_⟩
    · rw [l0, c_ahead_L hC h hc h0 o s1 m2 (by omega) (m - p) vF p 0 (by omega) (by unfold vF; omega), Option.bind_some]
    · rw [if_neg (by rw [o]; decide), s2, p2, l0, r_ahead_L hR' h hc s2 s1 m2 (by omega) (m - p) vF p 0 (by omega) (by unfold vF; omega)]
theorem r_isM {u hz s x : Nat} (h : rOk M r F) (hs : s < 5) (hx : x < 64) (hO : okS F u hz s) (hu : u ≤ 64) : (isM F s x → tX10_isMember r (Int32.ofNat s) (Int32.ofNat x) (rv M r F) = some 1) ∧ (¬ isM F s x → tX10_isMember r (Int32.ofNat s) (Int32.ofNat x) (rv M r F) = some 0) := by
  obtain ⟨m, m1, m2⟩ := okS_m hO
  obtain ⟨p, p1, p2⟩ := hO.2.1 x hx
  have e := r_isMember (x := x) h hs hx p2 p1 m2 (by omega)
  have key : isM F s x ↔ p < m ∧ oS F s (6 + p) = Int32.ofNat x := by
    constructor
    · rintro ⟨p', m', e1, e2, e3, e4, e5⟩
      rw [p2] at e1; rw [m2] at e2
      have q1 : p = p' := (n_eq (by omega) (by omega)).mp e1
      have q2 : m = m' := (n_eq (by omega) (by omega)).mp e2
      subst q1; subst q2; exact ⟨e3, e5⟩
    · rintro ⟨e1, e2⟩; exact ⟨p, m, p2, m2, e1, by omega, e2⟩
  exact ⟨fun g => by rw [e, if_pos (key.mp g)], fun g => by rw [e, if_neg (fun q => g (key.mpr q))]⟩
theorem n_m1 {q : Nat} (h : 1 ≤ q) : Int32.ofNat q - 1 + (-1) = Int32.ofNat (q - 1) - 1 := by
  rw [n_pred h, Int32.sub_eq_add_neg (Int32.ofNat (q - 1))]
/-- keep's walk, on both sides -/
theorem keep_L {M' : vMe} {u hz n k s o : Nat} (hs : s < n) (ho : o < n) : ∀ (q f f' : Nat) (C F : Nat → Nat → Value) (v : Int32) (m : Nat), cOk M a C → rOk M' r F → simP C F u hz n k → oS F s 0 = Int32.ofNat m → m ≤ 64 → q ≤ m → q < f → q < f' →
    ∃ C2 F2 w, tX5_keepCommon_L18 a (Int32.ofNat s) (Int32.ofNat o) (a + (4 + 8 * s)) f v (Int32.ofNat q - 1) (cv M a C) = some (w, cv M a C2) ∧ tX10_keep_L27 r (Int32.ofNat s) (Int32.ofNat o) f' v (Int32.ofNat q - 1) (rv M' r F) = some (w, rv M' r F2) ∧
      cOk M a C2 ∧ rOk M' r F2 ∧ kF F F2 ∧ kN C C2 ∧ simP C2 F2 u hz n k := by
  intro q
  induction q with
  | zero =>
    intro f f' C F v m hC hR h hm hm64 hq hf hf'
    obtain ⟨f, rfl⟩ : ∃ g, f = g + 1 := ⟨f - 1, by omega⟩
    obtain ⟨f', rfl⟩ : ∃ g, f' = g + 1 := ⟨f' - 1, by omega⟩
    refine ⟨C, F, v, ?_, ?_, hC, hR, kF.rf, kN.rf, h⟩
    · rw [tX5_keepCommon_L18, if_pos (by decide)]
    · rw [tX10_keep_L27, if_pos (by decide)]
  | succ q ih =>
    intro f f' C F v m hC hR h hm hm64 hq hf hf'
    obtain ⟨f, rfl⟩ : ∃ g, f = g + 1 := ⟨f - 1, by omega⟩
    obtain ⟨f', rfl⟩ : ∃ g, f' = g + 1 := ⟨f' - 1, by omega⟩
    have hs5 : s < 5 := by have := h.1.2.2.1.2; omega
    have ho5 : o < 5 := by have := h.1.2.2.1.2; omega
    have hu := h.1.1.2.2
    obtain ⟨sS1, sO1⟩ := h.2.2.2.2.2 s hs
    obtain ⟨sS2, sO2⟩ := h.2.2.2.2.2 o ho
    obtain ⟨x1, x2, x3, x4⟩ := numP_at sO1 hu hm hm64 (show q < m by omega)
    obtain ⟨x, hx⟩ : ∃ x, x = numP F s q := ⟨_, rfl⟩
    rw [← hx] at x1 x2 x3 x4
    have em : gt C (4 + 8 * s + (0 + 1)) q = Int32.ofNat x := (sS1.2.2.1 q (by omega)).trans x1
    have n0 : ¬ (Int32.ofNat (q + 1) - 1 < 0) := by rw [n_pred (by omega)]; exact n_neg (by omega)
    have hd : Int32.ofNat q + (-1) = Int32.ofNat q - 1 := (Int32.sub_eq_add_neg _ _).symm
    have p1 : Int32.ofNat (q + 1) - 1 = Int32.ofNat q := n_pred (by omega)
    have hr := r_isM (x := x) hR ho5 (by omega) sO2 hu
    have hc := c_has (y := x) hC ho5 sO2 sS2 hu (by omega)
    by_cases g : isM F o x
    · have e1 : tX5_keepCommon_L18 a (Int32.ofNat s) (Int32.ofNat o) (a + (4 + 8 * s)) (f + 1) v (Int32.ofNat (q + 1) - 1) (cv M a C) = tX5_keepCommon_L18 a (Int32.ofNat s) (Int32.ofNat o) (a + (4 + 8 * s)) f v (Int32.ofNat q - 1) (cv M a C) := by
        rw [tX5_keepCommon_L18, if_neg n0, c_rA hC hs5 (by omega), Option.bind_some, p1, c_mI hs5 (by omega) (by omega), Option.bind_some, em, cA0 hC, Option.bind_some, cS hC ho5, Option.bind_some, if_pos (c_tagR ho5), hc.1 g, Option.bind_some, if_neg (by decide), tX5_keepCommon_J57_18, hd]
      have e2 : tX10_keep_L27 r (Int32.ofNat s) (Int32.ofNat o) (f' + 1) v (Int32.ofNat (q + 1) - 1) (rv M' r F) = tX10_keep_L27 r (Int32.ofNat s) (Int32.ofNat o) f' v (Int32.ofNat q - 1) (rv M' r F) := by
        rw [tX10_keep_L27, if_neg n0, if_pos r_tag, p1, l6, n_add, r_of hR hs5 (by omega), Option.bind_some, x1, if_pos r_tag, hr.1 g, Option.bind_some, if_neg (by decide), tX10_keep_J64_27, hd]
      rw [e1, e2]
      exact ih f f' C F v m hC hR h hm hm64 (by omega) (by omega) (by omega)
    · obtain ⟨C1, F1, w1, w2, w3, w4, w5, w6, w7, w8, -⟩ := go_P hC hR h hs x2 x3
      have e1 : tX5_keepCommon_L18 a (Int32.ofNat s) (Int32.ofNat o) (a + (4 + 8 * s)) (f + 1) v (Int32.ofNat (q + 1) - 1) (cv M a C) = tX5_keepCommon_L18 a (Int32.ofNat s) (Int32.ofNat o) (a + (4 + 8 * s)) f (v + 1) (Int32.ofNat q - 1) (cv M a C1) := by
        rw [tX5_keepCommon_L18, if_neg n0, c_rA hC hs5 (by omega), Option.bind_some, p1, c_mI hs5 (by omega) (by omega), Option.bind_some, em, cA0 hC, Option.bind_some, cS hC ho5, Option.bind_some, if_pos (c_tagR ho5), hc.2 g, Option.bind_some, if_pos rfl, if_pos c_tag0, w1, Option.bind_some, tX5_keepCommon_J57_18, hd]
      have e2 : tX10_keep_L27 r (Int32.ofNat s) (Int32.ofNat o) (f' + 1) v (Int32.ofNat (q + 1) - 1) (rv M' r F) = tX10_keep_L27 r (Int32.ofNat s) (Int32.ofNat o) f' (v + 1) (Int32.ofNat q - 1) (rv M' r F1) := by
        rw [tX10_keep_L27, if_neg n0, if_pos r_tag, p1, l6, n_add, r_of hR hs5 (by omega), Option.bind_some, x1, if_pos r_tag, hr.2 g, Option.bind_some, if_pos rfl, if_pos r_tag, w2, Option.bind_some, tX10_keep_J64_27, hd]
      obtain ⟨v1, v2⟩ := w8 m hm hm64
      obtain ⟨C2, F2, w, y1, y2, y3, y4, y5, y6, y7⟩ := ih f f' C1 F1 (v + 1) (m - 1) w3 w4 w7 v2 (by omega) (by omega) (by omega) (by omega)
      exact ⟨C2, F2, w, by rw [e1, y1], by rw [e2, y2], y3, y4, kF.tr w5 y5, kN.tr w6 y6, y7⟩
theorem keep_P {M' : vMe} {u hz n k s o : Nat} (hs : s < n) (ho : o < n) (hC : cOk M a C) (hR : rOk M' r F) (h : simP C F u hz n k) :
    ∃ C2 F2 w, tX5_keepCommon a (Int32.ofNat s) (Int32.ofNat o) (cv M a C) = some (w, cv M a C2) ∧ tX10_keep_L27 r (Int32.ofNat s) (Int32.ofNat o) vF 0 (oS F s 0 - 1) (rv M' r F) = some (w, rv M' r F2) ∧
      cOk M a C2 ∧ rOk M' r F2 ∧ kF F F2 ∧ kN C C2 ∧ simP C2 F2 u hz n k := by
  have hs5 : s < 5 := by have := h.1.2.2.1.2; omega
  obtain ⟨sS1, sO1⟩ := h.2.2.2.2.2 s hs
  obtain ⟨m, m1, m2⟩ := okS_m sO1
  have hu := h.1.1.2.2
  obtain ⟨C2, F2, w, y1, y2, y3⟩ := keep_L (M := M) (a := a) (r := r) hs ho m vF vF C F 0 m hC hR h m2 (by omega) (by omega) (by unfold vF; omega) (by unfold vF; omega)
  refine ⟨C2, F2, w, ?_, ?_, y3⟩
  · rw [tX5_keepCommon, cA0 hC, Option.bind_some, cS hC hs5, Option.bind_some, c_rF hs5, Option.bind_some, sS1.1, m2, y1, Option.bind_some]
  · rw [m2, y2]
/-- unite's walk, on both sides; the sets are two -/
theorem unite_L {M' : vMe} {u hz n k s o had : Nat} {x3 : Int32} (hs : s < n) (ho : o < n) (hso : s ≠ o) : ∀ (j f f' p v : Nat) (C F : Nat → Nat → Value) (mo : Nat), cOk M a C → rOk M' r F → simP C F u hz n k → oS F o 0 = Int32.ofNat mo → mo ≤ 64 → p + j = mo → j < f → j < f' → oS F s 0 = Int32.ofNat (had + v) → had + v ≤ 64 →
    ∃ C2 F2 v2, tX5_bringAll_L13 a (Int32.ofNat s) (a + (4 + 8 * o)) f (Int32.ofNat v) (Int32.ofNat p) (cv M a C) = some (Int32.ofNat v2, cv M a C2) ∧ tX10_unite_L25 r (Int32.ofNat s) (Int32.ofNat o) x3 f' (Int32.ofNat p) (rv M' r F) = some ((), rv M' r F2) ∧
      cOk M a C2 ∧ rOk M' r F2 ∧ kF F F2 ∧ kN C C2 ∧ simP C2 F2 u hz n k ∧ oS F2 s 0 = Int32.ofNat (had + v2) := by
  intro j
  induction j with
  | zero =>
    intro f f' p v C F mo hC hR h hm hm64 hp hf hf' hv hv64
    obtain ⟨f, rfl⟩ : ∃ g, f = g + 1 := ⟨f - 1, by omega⟩
    obtain ⟨f', rfl⟩ : ∃ g, f' = g + 1 := ⟨f' - 1, by omega⟩
    have ho5 : o < 5 := by have := h.1.2.2.1.2; omega
    refine ⟨C, F, v, ?_, ?_, hC, hR, kF.rf, kN.rf, h, hv⟩
    · rw [tX5_bringAll_L13, c_rF ho5, Option.bind_some, (h.2.2.2.2.2 o ho).1.1, hm, if_pos ((n_le (by omega) (by omega)).mpr (by omega))]
    · rw [tX10_unite_L25, if_pos r_tag, l0, r_of hR ho5 (by omega), Option.bind_some, hm, if_pos ((n_le (by omega) (by omega)).mpr (by omega))]
  | succ j ih =>
    intro f f' p v C F mo hC hR h hm hm64 hp hf hf' hv hv64
    obtain ⟨f, rfl⟩ : ∃ g, f = g + 1 := ⟨f - 1, by omega⟩
    obtain ⟨f', rfl⟩ : ∃ g, f' = g + 1 := ⟨f' - 1, by omega⟩
    have hs5 : s < 5 := by have := h.1.2.2.1.2; omega
    have ho5 : o < 5 := by have := h.1.2.2.1.2; omega
    have hu := h.1.1.2.2
    obtain ⟨sS2, sO2⟩ := h.2.2.2.2.2 o ho
    obtain ⟨x1, x2, -, -⟩ := numP_at sO2 hu hm hm64 (show p < mo by omega)
    obtain ⟨x, hx⟩ : ∃ x, x = numP F o p := ⟨_, rfl⟩
    rw [← hx] at x1 x2
    have em : gt C (4 + 8 * o + (0 + 1)) p = Int32.ofNat x := (sS2.2.2.1 p (by omega)).trans x1
    obtain ⟨C1, F1, w, w1, w2, w3, w4, w5, w6, w7, w8, w9, w10, -⟩ := come_P hC hR h hs x2
    have e1 : tX5_bringAll_L13 a (Int32.ofNat s) (a + (4 + 8 * o)) (f + 1) (Int32.ofNat v) (Int32.ofNat p) (cv M a C) = if w = 0 then tX5_bringAll_L13 a (Int32.ofNat s) (a + (4 + 8 * o)) f (Int32.ofNat v) (Int32.ofNat (p + 1)) (cv M a C1) else tX5_bringAll_L13 a (Int32.ofNat s) (a + (4 + 8 * o)) f (Int32.ofNat (v + 1)) (Int32.ofNat (p + 1)) (cv M a C1) := by
      rw [tX5_bringAll_L13, c_rF ho5, Option.bind_some, sS2.1, hm, if_neg (fun g => by have := (n_le (by omega) (by omega)).mp g; omega), cA0 hC, Option.bind_some, cS hC hs5, Option.bind_some, c_rA hC ho5 (by omega), Option.bind_some, c_mI ho5 (by omega) (by omega), Option.bind_some, em, if_pos c_tag0, w1, Option.bind_some]
      by_cases q : w = 0
      · rw [if_pos q, if_pos q, tX5_bringAll_J45_13, n_succ]
      · rw [if_neg q, if_neg q, tX5_bringAll_J45_13, n_succ, n_succ]
    have e2 : tX10_unite_L25 r (Int32.ofNat s) (Int32.ofNat o) x3 (f' + 1) (Int32.ofNat p) (rv M' r F) = tX10_unite_L25 r (Int32.ofNat s) (Int32.ofNat o) x3 f' (Int32.ofNat (p + 1)) (rv M' r F1) := by
      rw [tX10_unite_L25, if_pos r_tag, l0, r_of hR ho5 (by omega), Option.bind_some, hm, if_neg (fun g => by have := (n_le (by omega) (by omega)).mp g; omega), if_neg (fun g => hso ((n_eq (by omega) (by omega)).mp g)), if_pos r_tag, l6, n_add, r_of hR ho5 (by omega), Option.bind_some, x1, if_pos r_tag, w2, Option.bind_some, n_succ]
    have hm1 : oS F1 o 0 = Int32.ofNat mo := (w10 o (Ne.symm hso) ho5 0 (by omega)).trans hm
    rw [e1, e2]
    by_cases g : isM F s x
    · obtain ⟨g1, g2, g3⟩ := w8 g
      rw [if_pos g1]
      obtain ⟨C2, F2, v2, y1, y2, y3, y4, y5, y6, y7, y8⟩ := ih f f' (p + 1) v C1 F1 mo w3 w4 w7 hm1 hm64 (by omega) (by omega) (by omega) (by rw [g3]; exact hv) hv64
      exact ⟨C2, F2, v2, y1, y2, y3, y4, kF.tr w5 y5, kN.tr w6 y6, y7, y8⟩
    · obtain ⟨g1, g2⟩ := w9 g
      obtain ⟨g3, g4, -⟩ := g2 _ hv hv64
      rw [if_neg (by rw [g1]; decide)]
      obtain ⟨C2, F2, v2, y1, y2, y3, y4, y5, y6, y7, y8⟩ := ih f f' (p + 1) (v + 1) C1 F1 mo w3 w4 w7 hm1 hm64 (by omega) (by omega) (by omega) (by rw [g4, Nat.add_assoc]) (by omega)
      exact ⟨C2, F2, v2, y1, y2, y3, y4, kF.tr w5 y5, kN.tr w6 y6, y7, y8⟩
/-- the same set: nothing comes -/
theorem unite_S {u hz n k s : Nat} (hs : s < n) (hC : cOk M a C) (h : simP C F u hz n k) {m : Nat} (hm : oS F s 0 = Int32.ofNat m) (hm64 : m ≤ 64) : ∀ (j f p : Nat), p + j = m → j < f → tX5_bringAll_L13 a (Int32.ofNat s) (a + (4 + 8 * s)) f 0 (Int32.ofNat p) (cv M a C) = some (0, cv M a C) := by
  have hs5 : s < 5 := by have := h.1.2.2.1.2; omega
  have hu := h.1.1.2.2
  obtain ⟨sS2, sO2⟩ := h.2.2.2.2.2 s hs
  intro j
  induction j with
  | zero =>
    intro f p hp hf
    obtain ⟨f, rfl⟩ : ∃ g, f = g + 1 := ⟨f - 1, by omega⟩
    rw [tX5_bringAll_L13, c_rF hs5, Option.bind_some, sS2.1, hm, if_pos ((n_le (by omega) (by omega)).mpr (by omega))]
  | succ j ih =>
    intro f p hp hf
    obtain ⟨f, rfl⟩ : ∃ g, f = g + 1 := ⟨f - 1, by omega⟩
    obtain ⟨x1, x2, x3, -⟩ := numP_at sO2 hu hm hm64 (show p < m by omega)
    have em : gt C (4 + 8 * s + (0 + 1)) p = Int32.ofNat (numP F s p) := (sS2.2.2.1 p (by omega)).trans x1
    have eb : tX5_bringIn a (a + (4 + 8 * s)) (Int32.ofNat (numP F s p)) (cv M a C) = some (0, cv M a C) := by
      simp only [tX5_bringIn]
      rw [if_pos (c_tagR hs5), (c_has hC hs5 sO2 sS2 hu (by omega)).1 x3, Option.bind_some, if_neg (by decide)]
    rw [tX5_bringAll_L13, c_rF hs5, Option.bind_some, sS2.1, hm, if_neg (fun g => by have := (n_le (by omega) (by omega)).mp g; omega), cA0 hC, Option.bind_some, cS hC hs5, Option.bind_some, c_rA hC hs5 (by omega), Option.bind_some, c_mI hs5 (by omega) (by omega), Option.bind_some, em, if_pos c_tag0, eb, Option.bind_some, if_pos rfl, tX5_bringAll_J45_13, n_succ]
    exact ih f (p + 1) (by omega) (by omega)
theorem unite_P {M' : vMe} {u hz n k s o : Nat} (hs : s < n) (ho : o < n) (hC : cOk M a C) (hR : rOk M' r F) (h : simP C F u hz n k) :
    ∃ C2 F2 w, tX5_bringAll a (Int32.ofNat s) (Int32.ofNat o) (cv M a C) = some (w, cv M a C2) ∧ ((tX10_unite_L25 r (Int32.ofNat s) (Int32.ofNat o) (oS F s 0) vF 0 (rv M' r F)).bind fun z15 => tX10_unite_J62 r (Int32.ofNat s) (oS F s 0) z15.2) = some (w, rv M' r F2) ∧
      cOk M a C2 ∧ rOk M' r F2 ∧ kF F F2 ∧ kN C C2 ∧ simP C2 F2 u hz n k := by
  have hs5 : s < 5 := by have := h.1.2.2.1.2; omega
  have ho5 : o < 5 := by have := h.1.2.2.1.2; omega
  have hu := h.1.1.2.2
  obtain ⟨m, m1, m2⟩ := okS_m (h.2.2.2.2.2 s hs).2
  obtain ⟨mo, mo1, mo2⟩ := okS_m (h.2.2.2.2.2 o ho).2
  have st : tX5_bringAll a (Int32.ofNat s) (Int32.ofNat o) (cv M a C) = (tX5_bringAll_L13 a (Int32.ofNat s) (a + (4 + 8 * o)) vF 0 0 (cv M a C)).bind fun z19 => some (z19.1, z19.2) := by
    rw [tX5_bringAll, cA0 hC, Option.bind_some, cS hC ho5, Option.bind_some]
  rw [st]
  by_cases e : s = o
  · subst e
    refine ⟨C, F, 0, ?_, ?_, hC, hR, kF.rf, kN.rf, h⟩
    · rw [show tX5_bringAll_L13 a (Int32.ofNat s) (a + (4 + 8 * s)) vF 0 0 (cv M a C) = some (0, cv M a C) from unite_S hs hC h m2 (by omega) m vF 0 (by omega) (by unfold vF; omega), Option.bind_some]
    · have e1 : tX10_unite_L25 r (Int32.ofNat s) (Int32.ofNat s) (oS F s 0) vF 0 (rv M' r F) = some ((), rv M' r F) := by
        rw [show vF = 99999 + 1 from rfl, tX10_unite_L25, if_pos r_tag, l0, r_of hR hs5 (by omega), Option.bind_some]
        by_cases g : oS F s 0 ≤ Int32.ofNat 0
        · rw [if_pos g]
        · rw [if_neg g, if_pos rfl]
      rw [e1, Option.bind_some, tX10_unite_J62, if_pos r_tag, show tX10_of r (Int32.ofNat s) 0 (rv M' r F) = some (oS F s 0) from r_of (w := 0) hR hs5 (by omega), Option.bind_some, Int32.sub_self]
  · obtain ⟨C2, F2, v2, y1, y2, y3, y4, y5, y6, y7, y8⟩ := unite_L (M := M) (a := a) (r := r) (M' := M') (had := m) (x3 := oS F s 0) hs ho e mo vF vF 0 0 C F mo hC hR h mo2 (by omega) (by omega) (by unfold vF; omega) (by unfold vF; omega) m2 (by omega)
    refine ⟨C2, F2, Int32.ofNat v2, ?_, ?_, y3, y4, y5, y6, y7⟩
    · rw [show tX5_bringAll_L13 a (Int32.ofNat s) (a + (4 + 8 * o)) vF 0 0 (cv M a C) = some (Int32.ofNat v2, cv M a C2) from y1, Option.bind_some]
    · rw [show tX10_unite_L25 r (Int32.ofNat s) (Int32.ofNat o) (oS F s 0) vF 0 (rv M' r F) = some ((), rv M' r F2) from y2, Option.bind_some, tX10_unite_J62, if_pos r_tag, show tX10_of r (Int32.ofNat s) 0 (rv M' r F2) = some (oS F2 s 0) from r_of (w := 0) y4 hs5 (by omega), Option.bind_some, y8, m2, n_sub (by omega), Nat.add_sub_cancel_left]
end
