section
variable {M : vMe} {b u hz n k s : Nat} {C C1 C2 E E1 F F2 : Nat → Nat → Value}
/-! an event, in the class's log and in the law's -/
theorem nt_row {N : Nat} {st x kd : Int32} {v : Int64} {i l : Nat} (h : i < 2 + 8 * s ∨ 2 + 8 * s + 8 ≤ i ∨ (1 ≤ i - (2 + 8 * s) ∧ i - (2 + 8 * s) ≤ 3 ∧ 2 + 8 * s ≤ i)) : ntE E s N st x kd v i l = E i l := by
  unfold ntE nt1; rw [pu_ne (by omega), pu_ne (by omega), pu_ne (by omega), pu_ne (by omega), pu_ne (by omega)]
theorem nt_0 {N : Nat} {st x kd : Int32} {v : Int64} {l : Nat} (h : l ≠ 2) : ntE E s N st x kd v (2 + 8 * s) l = E (2 + 8 * s) l := by
  unfold ntE nt1; rw [pu_ne (by omega), pu_ne (by omega), pu_ne (by omega), pu_ne (by omega), pu_ne (by omega)]
theorem nt_2 {N : Nat} {st x kd : Int32} {v : Int64} : gt (ntE E s N st x kd v) (2 + 8 * s) 2 = Int32.ofNat (N + 1) := by
  unfold ntE nt1; rw [gt_ne (by omega), gt_eq]
theorem nt_t {N l : Nat} {st x kd : Int32} {v : Int64} : ntE E s N st x kd v (2 + 8 * s + (6 + 1)) l = if l = N + 1 then .long v else E (2 + 8 * s + (6 + 1)) l := by
  unfold ntE nt1
  by_cases c : l = N + 1
  · rw [if_pos c, c, pu_eq]
  · rw [if_neg c, pu_ne (by omega), pu_ne (by omega), pu_ne (by omega), pu_ne (by omega), pu_ne (by omega)]
theorem nt_e {N w l : Nat} {st x kd : Int32} {v : Int64} (hw : w < 3) : gt (ntE E s N st x kd v) (2 + 8 * s + (3 + w + 1)) l = if l = N then (if w = 0 then st else if w = 1 then x else kd) else gt E (2 + 8 * s + (3 + w + 1)) l := by
  unfold ntE nt1
  have hw3 : w = 0 ∨ w = 1 ∨ w = 2 := by omega
  by_cases c : l = N
  · subst c
    rw [if_pos rfl]
    rcases hw3 with rfl | rfl | rfl
    · rw [gt_ne (by omega), gt_ne (by omega), gt_ne (by omega), gt_ne (by omega), if_pos rfl]; exact gt_eq _ _ _
    · rw [gt_ne (by omega), gt_ne (by omega), gt_ne (by omega), if_neg (by omega), if_pos rfl]; exact gt_eq _ _ _
    · rw [gt_ne (by omega), gt_ne (by omega), if_neg (by omega), if_neg (by omega)]; exact gt_eq _ _ _
  · rw [if_neg c, gt_ne (by omega), gt_ne (by omega), gt_ne (by omega), gt_ne (by omega), gt_ne (by omega)]
theorem cE_row {N' : Nat} {st x kd : Int32} {w l : Nat} (hw : w < 3) : gt (cE C s N' st x kd) (4 + 8 * s + (5 + w)) l = if l = N' then (if w = 0 then st else if w = 1 then x else kd) else gt C (4 + 8 * s + (5 + w)) l := by
  unfold cE
  have hw3 : w = 0 ∨ w = 1 ∨ w = 2 := by omega
  by_cases c : l = N'
  · subst c
    rw [if_pos rfl]
    rcases hw3 with rfl | rfl | rfl
    · rw [gt_ne (by omega), gt_ne (by omega), gt_ne (by omega), gt_eq, if_pos rfl]
    · rw [gt_ne (by omega), gt_ne (by omega), gt_eq, if_neg (by omega), if_pos rfl]
    · rw [gt_ne (by omega), gt_eq, if_neg (by omega), if_neg (by omega)]
  · rw [if_neg c, gt_ne (by omega), gt_ne (by omega), gt_ne (by omega), gt_ne (by omega)]
theorem cE_l {N' : Nat} {st x kd : Int32} {l : Nat} (hl : l ≠ 3) : cE C s N' st x kd (4 + 8 * s + 4) l = C (4 + 8 * s + 4) l := by
  unfold cE; rw [pu_ne (by omega), pu_ne (by omega), pu_ne (by omega), pu_ne (by omega)]
theorem eN_of {N : Nat} (h : gt E (2 + 8 * s) 2 = Int32.ofNat N) (hN : N ≤ 2000) : eN E s = N := by unfold eN; rw [h, n_clamp (by omega)]
theorem eH_of (h : gt E 0 2 = Int32.ofNat hz) (h60 : hz ≤ 60) : eH E = hz := by unfold eH; rw [h, n_clamp (by omega)]
/-- the kept events of both sides -/
theorem simL_hap {F1 : Nat → Nat → Value} {N : Nat} {st x kd : Int32} {v : Int64} (hs : s < 5) (hF1 : F1 1 = eR E1) (hN : gt E1 (2 + 8 * s) 2 = Int32.ofNat N) (hN2 : N < 2000) (hH : gt E1 0 2 = Int32.ofNat hz) (h1 : 1 ≤ hz) (h60 : hz ≤ 60) (hrec : ∀ j, j < N → vJ (E1 (2 + 8 * s + (6 + 1)) (j + 1)) = bh (vJ (E1 (2 + 8 * s + (6 + 1)) j)) (gt E1 (2 + 8 * s + (3 + 1 + 1)) j) (gt E1 (2 + 8 * s + (3 + 2 + 1)) j))
    (hL : simL C1 F1 s) (hap : hapC C1 C2 s (eK E1 s) hz st x kd) (hF2 : F2 1 = eR (ntE E1 s N st x kd v)) : simL C2 F2 s := by
  have n1 : eN E1 s = N := eN_of hN (by omega)
  have h1' : eH E1 = hz := eH_of hH h60
  have n2 : eN (ntE E1 s N st x kd v) s = N + 1 := eN_of nt_2 (by omega)
  have h2' : eH (ntE E1 s N st x kd v) = hz := eH_of (by unfold gt; rw [nt_row (by omega)]; exact hH) h60
  have k1 : eK E1 s = if N ≤ hz then N else hz := by unfold eK; rw [n1, h1']
  have k2 : eK (ntE E1 s N st x kd v) s = if N + 1 ≤ hz then N + 1 else hz := by unfold eK; rw [n2, h2']
  obtain ⟨l1, l2, l3, l4⟩ := hL
  rw [R_3 hF1 hs] at l1
  rw [R_2 hF1 hs, n1, h1'] at l2
  rw [R_45 hF1 hs, n1] at l3
  have l4' : ∀ j, j < eK E1 s → ∀ w, w < 3 → gt C1 (4 + 8 * s + (5 + w)) j = gt E1 (2 + 8 * s + (3 + w + 1)) (N - eK E1 s + j) := fun j hj w hw => by
    rw [l4 j (eK E1 s) (R_3 hF1 hs) hj (by rw [k1]; split <;> omega) w hw, R_e hF1 hs (by rw [k1] at hj; split at hj <;> omega) hw, n1]
  obtain ⟨C', n', h3, rfl⟩ := hap
  rcases h3 with ⟨g1, rfl, rfl⟩ | ⟨g1, rfl, f1, f2, f3, f4, f5⟩
  · have hlt : N < hz := by rw [k1] at g1; split at g1 <;> omega
    have ke : eK E1 s = N := by rw [k1, if_pos (by omega)]
    rw [ke] at l1 l3 l4' ⊢
    rw [if_pos (by omega)] at l2 k2
    refine ⟨?_, ?_, ?_, fun j n' h2 h3 h4 w hw => ?_⟩
    · rw [R_3 hF2 hs, k2]; exact gt_eq _ _ _
    · rw [R_2 hF2 hs, n2, h2', if_pos (by omega)]
      unfold gt; rw [cE_l (by omega)]; exact l2
    · rw [R_45 hF2 hs, n2, k2, cE_l (by omega), l3, nt_t, if_neg (by omega), Nat.sub_self, Nat.sub_self]
    · rw [R_3 hF2 hs, k2] at h2
      have e : N + 1 = n' := (n_eq (by omega) (by omega)).mp h2
      subst e
      rw [R_e hF2 hs (by omega) hw, n2, k2, cE_row hw, nt_e hw, Nat.sub_self, Nat.zero_add]
      by_cases c : j = N
      · rw [if_pos c, if_pos c]
      · rw [if_neg c, if_neg c, l4' j (by omega) w hw, Nat.sub_self, Nat.zero_add]
  · have hle : hz ≤ N := by rw [k1] at g1; split at g1 <;> omega
    have ke : eK E1 s = hz := g1
    rw [ke] at l1 l3 l4' f3 f4 ⊢
    rw [if_neg (by omega)] at k2
    refine ⟨?_, ?_, ?_, fun j n' h2 h3 h4 w hw => ?_⟩
    · rw [R_3 hF2 hs, k2]
      show gt (pu _ _ _ _) _ _ = _
      rw [gt_eq, show hz - 1 + 1 = hz by omega]
    · rw [R_2 hF2 hs, n2, h2', if_neg (by omega)]
      rw [show gt (cE C' s (hz - 1) st x kd) (4 + 8 * s + 4) 4 = gt C' (4 + 8 * s + 4) 4 from by unfold gt; rw [cE_l (by omega)], f1, l4' 0 (by omega) 0 (by omega), show N - hz + 0 = N - hz from rfl]
      have := nt_e (E := E1) (s := s) (N := N) (w := 0) (l := N + 1 - hz - 1) (st := st) (x := x) (kd := kd) (v := v) (by omega)
      rw [if_neg (by omega)] at this
      rw [show N + 1 - hz - 1 = N - hz by omega] at this ⊢
      exact this.symm
    · rw [R_45 hF2 hs, n2, k2, cE_l (by omega), f2, l3, l4' 0 (by omega) 1 (by omega), l4' 0 (by omega) 2 (by omega), show N - hz + 0 = N - hz from rfl, ← hrec (N - hz) (by omega), nt_t, if_neg (by omega), show N + 1 - hz = N - hz + 1 by omega]
    · rw [R_3 hF2 hs, k2] at h2
      have e : hz = n' := (n_eq (by omega) (by omega)).mp h2
      subst e
      rw [R_e hF2 hs (by omega) hw, n2, k2, cE_row hw, nt_e hw]
      by_cases c : j = hz - 1
      · rw [if_pos c, if_pos (show N + 1 - hz + j = N by omega)]
      · rw [if_neg c, if_neg (show ¬ N + 1 - hz + j = N by omega), f4 w hw j (by omega), l4' (j + 1) (by omega) w hw, show N - hz + (j + 1) = N + 1 - hz + j by omega]
/-- what holds of the law's events of box s -/
def okL (E F : Nat → Nat → Value) (s N clk : Nat) : Prop := gt E (2 + 8 * s) 2 = Int32.ofNat N ∧ N ≤ clk ∧ vJ (E (2 + 8 * s + (6 + 1)) 0) = 0 ∧ (∀ j, j < N → vJ (E (2 + 8 * s + (6 + 1)) (j + 1)) = bh (vJ (E (2 + 8 * s + (6 + 1)) j)) (gt E (2 + 8 * s + (3 + 1 + 1)) j) (gt E (2 + 8 * s + (3 + 2 + 1)) j)) ∧
  (∃ t : Nat → Nat, (∀ j, j < N → gt E (2 + 8 * s + (3 + 1)) j = Int32.ofNat (t j) ∧ 1 ≤ t j ∧ t j ≤ clk) ∧ ∀ i j, i < j → j < N → t i < t j) ∧ ∀ y, y < 64 → (bt (vJ (E (2 + 8 * s + (6 + 1)) N)) y = true ↔ isM F s y)
def okE (b : Nat) (E F : Nat → Nat → Value) (n clk : Nat) : Prop := gt E 0 3 = Int32.ofNat clk ∧ clk < 2000 ∧ okU b E n ∧ ∀ s, s < n → ∃ N, okL E F s N clk
theorem okL_oth {N clk : Nat} (h : okL E F s N clk) (hs : s < 5) (hE : ∀ i, i < 8 → E1 (2 + 8 * s + i) = E (2 + 8 * s + i)) (hM : ∀ y, y < 64 → (isM F2 s y ↔ isM F s y)) {clk2 : Nat} (hc : clk ≤ clk2) : okL E1 F2 s N clk2 := by
  obtain ⟨h1, h2, h3, h4, ⟨t, t1, t2⟩, h6⟩ := h
  have g : ∀ i l, i < 8 → gt E1 (2 + 8 * s + i) l = gt E (2 + 8 * s + i) l := fun i l hi => by unfold gt; rw [hE i hi]
  refine ⟨(g 0 2 (by omega)).trans h1, by omega, by rw [hE 7 (by omega)]; exact h3, fun j hj => ?_, ⟨t, fun j hj => ?_, t2⟩, fun y hy => ?_⟩
  · rw [hE (6 + 1) (by omega), g (3 + 1 + 1) _ (by omega), g (3 + 2 + 1) _ (by omega)]; exact h4 j hj
  · obtain ⟨q1, q2, q3⟩ := t1 j hj
    exact ⟨by rw [g (3 + 1) _ (by omega)]; exact q1, q2, by omega⟩
  · rw [hE (6 + 1) (by omega), hM y hy]; exact h6 y hy
/-- an event in the law's box -/
theorem okL_nt {N clk : Nat} {x kd : Int32} {v : Int64} (h : okL E F s N clk) (hE : ∀ i, 4 ≤ i → i < 8 → E1 (2 + 8 * s + i) = E (2 + 8 * s + i)) (hN : gt E1 (2 + 8 * s) 2 = Int32.ofNat N) (hv : ∀ y, y < 64 → bt v y = bt (bh (vJ (E (2 + 8 * s + (6 + 1)) N)) x kd) y) (hM : ∀ y, y < 64 → (bt v y = true ↔ isM F2 s y)) :
    okL (ntE E1 s N (Int32.ofNat (clk + 1)) x kd v) F2 s (N + 1) (clk + 1) := by
  obtain ⟨h1, h2, h3, h4, ⟨t, t1, t2⟩, h6⟩ := h
  have g : ∀ i l, 4 ≤ i → i < 8 → gt E1 (2 + 8 * s + i) l = gt E (2 + 8 * s + i) l := fun i l h4 hi => by unfold gt; rw [hE i h4 hi]
  have hv' : v = bh (vJ (E (2 + 8 * s + (6 + 1)) N)) x kd := bt_ext hv
  refine ⟨nt_2, by omega, ?_, fun j hj => ?_, ⟨fun j => if j = N then clk + 1 else t j, fun j hj => ?_, fun i j hij hj => ?_⟩, fun y hy => ?_⟩
  · rw [nt_t, if_neg (by omega), hE (6 + 1) (by omega) (by omega)]; exact h3
  · rw [nt_t, nt_t, nt_e (w := 1) (by omega), nt_e (w := 2) (by omega), if_neg (show ¬ j = N + 1 by omega), hE (6 + 1) (by omega) (by omega)]
    by_cases c : j = N
    · subst c
      rw [if_pos rfl, if_pos rfl, if_pos rfl, if_neg (by omega), if_pos rfl, if_neg (by omega), if_neg (by omega)]
      exact hv'
    · rw [if_neg (by omega), if_neg c, if_neg c, g (3 + 1 + 1) _ (by omega) (by omega), g (3 + 2 + 1) _ (by omega) (by omega)]
      exact h4 j (by omega)
  · show gt _ _ j = Int32.ofNat (if j = N then clk + 1 else t j) ∧ 1 ≤ (if j = N then clk + 1 else t j) ∧ (if j = N then clk + 1 else t j) ≤ clk + 1
    have e := nt_e (E := E1) (s := s) (N := N) (w := 0) (l := j) (st := Int32.ofNat (clk + 1)) (x := x) (kd := kd) (v := v) (by omega)
    rw [show (3 : Nat) + 0 + 1 = 3 + 1 from rfl] at e
    rw [e]
    by_cases c : j = N
    · rw [if_pos c, if_pos rfl, if_pos c]; exact ⟨rfl, by omega, by omega⟩
    · rw [if_neg c, if_neg c, g (3 + 1) _ (by omega) (by omega)]
      obtain ⟨q1, q2, q3⟩ := t1 j (by omega)
      exact ⟨q1, q2, by omega⟩
  · show (if i = N then clk + 1 else t i) < (if j = N then clk + 1 else t j)
    rw [if_neg (show ¬ i = N by omega)]
    by_cases c : j = N
    · rw [if_pos c]
      have := (t1 i (by omega)).2.2; omega
    · rw [if_neg c]; exact t2 i j hij (by omega)
  · rw [nt_t, if_pos rfl]; exact hM y hy
end
