section
variable {M M' N : vMe} {x y r a d u hz n k : Nat} {G F C D : Nat → Nat → Value} {P : Nat → Value} {T : Nat → Nat} {len : Nat} {Gs : Nat → Nat}
/-- the sets that are still to come are blank -/
def zr (F : Nat → Nat → Value) (n : Nat) : Prop := ∀ s, n ≤ s → s < 5 → ∀ w, w < 378 → oS F s w = 0
theorem zr.fr {F2 : Nat → Nat → Value} {s : Nat} (h : zr F n) (hs : s < n) (g : ∀ t, t ≠ s → t < 5 → ∀ w, w < 378 → oS F2 t w = oS F t w) : zr F2 n := fun t h1 h5 w hw => by rw [g t (by omega) h5 w hw]; exact h t h1 h5 w hw
theorem zr.row {F2 : Nat → Nat → Value} (h : zr F n) (e : F2 1 = F 1) : zr F2 n := fun t h1 h5 w hw => by
  have : oS F2 t w = oS F t w := gt_row e _
  rw [this]; exact h t h1 h5 w hw
/-- no error so far -/
def e8 (P : Nat → Value) (F : Nat → Nat → Value) : Prop := vI (P 7) = 0 ∧ vI (P 8) = -1 ∧ gt F 0 12 = -1
theorem e8.mv {P2 : Nat → Value} {F2 : Nat → Nat → Value} (h : e8 P F) (g : ∀ k, k < 3 ∨ 6 < k → P2 k = P k) (f : F2 0 12 = F 0 12) : e8 P2 F2 := ⟨by rw [g 7 (by omega)]; exact h.1, by rw [g 8 (by omega)]; exact h.2.1, by unfold gt; rw [f]; exact h.2.2⟩
/-- the parse's state at the head of a statement -/
def pJ (x y d r len u hz n k : Nat) (T Gs : Nat → Nat) (G : Nat → Nat → Value) (N M' : vMe) (P : Nat → Value) (D F : Nat → Nat → Value) (c p e : Nat) : Prop :=
  pS x y d r len T G N M' P D F ∧ tk Gs T len P F c p e ∧ simP D F u hz n k ∧ simNm N x r G D F 5 n ∧ gt F 0 11 = 0 ∧ G 0 4 = .ref d ∧ zr F n ∧ e8 P F
/-- what a step leaves alone -/
def fr (y d : Nat) (N N2 : vMe) (P P2 : Nat → Value) (F F2 : Nat → Nat → Value) : Prop :=
  (∀ q, q ≠ y → ¬ (d ≤ q ∧ q < d + 50) → q < N.2.1 → N2.1 q = N.1 q) ∧ N2.2.2.2 = N.2.2.2 ∧ N.2.1 ≤ N2.2.1 ∧ (∀ k, k < 3 → P2 k = P k) ∧ (∀ i, i = 2 ∨ i = 3 ∨ i = 4 ∨ i = 7 ∨ i = 8 ∨ i = 9 → F2 i = F i) ∧ ∀ l, l < 6 ∨ 16 < l → F2 0 l = F 0 l
theorem fr.tr {N1 N2 : vMe} {P1 P2 : Nat → Value} {F1 F2 : Nat → Nat → Value} (h : fr y d N N1 P P1 F F1) (g : fr y d N1 N2 P1 P2 F1 F2) : fr y d N N2 P P2 F F2 := by
  obtain ⟨h1, h2, h3, h4, h5, h6⟩ := h
  obtain ⟨g1, g2, g3, g4, g5, g6⟩ := g
  exact ⟨fun q q1 q2 q3 => by rw [g1 q q1 q2 (by omega), h1 q q1 q2 q3], g2.trans h2, by omega, fun k hk => by rw [g4 k hk, h4 k hk], fun i hi => by rw [g5 i hi, h5 i hi], fun l hl => by rw [g6 l hl, h6 l hl]⟩
theorem fr.rf : fr y d N N P P F F := ⟨fun _ _ _ _ => rfl, rfl, Nat.le_refl _, fun _ _ => rfl, fun _ _ => rfl, fun _ _ => rfl⟩
theorem fr_pv {P2 : Nat → Value} {F2 : Nat → Nat → Value} (h4 : ∀ k, k < 3 → P2 k = P k) (h5 : ∀ i, i ≠ 0 → F2 i = F i) (h6 : ∀ l, l < 6 ∨ 16 < l → F2 0 l = F 0 l) : fr y d N (pv N y P2) P P2 F F2 :=
  ⟨fun q q1 _ _ => pv_out q1, rfl, Nat.le_refl _, h4, fun i hi => h5 i (by omega), h6⟩
theorem pSy (S : pS x y d r len T G N M' P D F) : (N.1 y).1 = 6 := by rw [S.2.1.1]
theorem simNm_pv {i : Nat} {P2 : Nat → Value} (h : simNm N x r G D F i n) (hy : (N.1 y).1 = 6) : simNm (pv N y P2) x r G D F i n := fun s hs => by
  obtain ⟨q, l, q1, ⟨p, p1, p2, p3, p4, p5⟩, q3, q4⟩ := h s hs
  have e1 : q ≠ y := fun e => by
    obtain ⟨S, B, g1, -⟩ := p1
    rw [e] at g1; rw [g1] at hy; exact absurd (show (1 : Nat) = 6 from hy) (by decide)
  have e2 : p ≠ y := fun e => by
    obtain ⟨S, B, -, -, -, g1, -⟩ := p1
    rw [e] at g1; rw [g1] at hy; exact absurd (show (102 : Nat) = 6 from hy) (by decide)
  exact ⟨q, l, q1, ⟨p, p1.same (pv_out e1) (pv_out e2), p2, p3, p4, p5⟩, q3, q4⟩
theorem simNm_row {i : Nat} {F2 : Nat → Nat → Value} (h : simNm N x r G D F i n) (e : F2 i = F i) : simNm N x r G D F2 i n := fun s hs => by
  obtain ⟨q, l, q1, q2, q3, q4⟩ := h s hs
  exact ⟨q, l, q1, q2, q3, by rw [e]; exact q4⟩
theorem simNm_cv {i : Nat} {D2 : Nat → Nat → Value} (h : simNm N x r G D F i n) (hn : n ≤ 5) (hd : G 0 4 = .ref d) (hk : kN D D2) : simNm (cv N d D2) x r G D2 F i n := fun s hs => by
  obtain ⟨q, l, q1, ⟨p, p1, p2, p3, p4, p5⟩, q3, q4⟩ := h s hs
  have e1 : ¬ (d ≤ q ∧ q < d + 50) := fun g => p2 (own_bk (i := 1) (by omega) (bk1 hd) g.1 g.2)
  have e2 : ¬ (d ≤ p ∧ p < d + 50) := fun g => p3 (own_bk (i := 1) (by omega) (bk1 hd) g.1 g.2)
  exact ⟨q, l, by rw [hk s (by omega)]; exact q1, ⟨p, p1.same (cv_out e1) (cv_out e2), p2, p3, p4, p5⟩, q3, q4⟩
theorem f16 : ∀ j, rFld j ≠ 16 := fun j => by unfold rFld; split <;> omega
theorem ne_m1 {s : Nat} (h : s < 2147483648) : ¬ Int32.ofNat s = (-1 : Int32) := fun c => by
  have := congrArg Int32.toInt c
  rw [n_toInt h, show (-1 : Int32).toInt = -1 by decide] at this
  omega
end
