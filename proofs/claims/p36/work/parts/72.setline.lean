section
variable {M N N2 : vMe} {x y d b u hz n k len : Nat} {G D : Nat → Nat → Value} {P : Nat → Value} {T : Nat → Nat} {Gs : Nat → Nat}
/-- what a step leaves alone, but for the parser and the draft -/
def fy (y d : Nat) (N N2 : vMe) : Prop := (∀ q, q ≠ y → ¬ (d ≤ q ∧ q < d + 50) → q < N.2.1 → N2.1 q = N.1 q) ∧ N2.2.2.2 = N.2.2.2 ∧ N.2.1 ≤ N2.2.1
theorem fy.tr {N1 : vMe} (h : fy y d N N1) (g : fy y d N1 N2) : fy y d N N2 := ⟨fun q q1 q2 q3 => by rw [g.1 q q1 q2 (by have := h.2.2; omega), h.1 q q1 q2 q3], g.2.1.trans h.2.1, Nat.le_trans h.2.2 g.2.2⟩
theorem fy.rf : fy y d N N := ⟨fun _ _ _ _ => rfl, rfl, Nat.le_refl _⟩
theorem fy_pv {P2 : Nat → Value} : fy y d N (pv N y P2) := ⟨fun q q1 _ _ => pv_out q1, rfl, Nat.le_refl _⟩
theorem fy_cv {D2 : Nat → Nat → Value} : fy y d N (cv N d D2) := ⟨fun q _ q2 _ => cv_out q2, rfl, Nat.le_refl _⟩
/-- a word of the class -/
def wq (y d : Nat) (N : vMe) (q : Nat) (l : List Nat) : Prop := ∃ o, tAt N q o l ∧ (q < y ∧ ¬ (d ≤ q ∧ q < d + 50)) ∧ o < y ∧ ¬ (d ≤ o ∧ o < d + 50)
theorem wq.mv {q : Nat} {l : List Nat} (h : wq y d N q l) (g : fy y d N N2) (hy : y < N.2.1) : wq y d N2 q l := by
  obtain ⟨o, h1, ⟨h2, h3⟩, h4, h5⟩ := h
  exact ⟨o, h1.same (g.1 q (by omega) h3 (by omega)) (g.1 o (by omega) h5 (by omega)), ⟨h2, h3⟩, h4, h5⟩
/-- the names of the draft: one letter each -/
def nmS (y d : Nat) (N : vMe) (D : Nat → Nat → Value) (n : Nat) : Prop := ∀ s, s < n → ∃ q p : Nat, D (4 + 8 * s) 4 = .ref q ∧ tAt N q p [97 + s] ∧ (y < q ∧ q < N.2.1) ∧ y < p ∧ p < N.2.1
theorem nmS.mv {D2 : Nat → Nat → Value} (h : nmS y d N D n) (g : fy y d N N2) (hd : d + 50 ≤ y) (e : ∀ s, s < n → D2 (4 + 8 * s) 4 = D (4 + 8 * s) 4) : nmS y d N2 D2 n := fun s hs => by
  obtain ⟨q, p, h1, h2, ⟨h3, h4⟩, h5, h6⟩ := h s hs
  exact ⟨q, p, by rw [e s hs]; exact h1, h2.same (g.1 q (by omega) (by omega) h4) (g.1 p (by omega) (by omega) h6), ⟨h3, by have := g.2.2; omega⟩, h5, by have := g.2.2; omega⟩
theorem PI_cv {D2 : Nat → Nat → Value} (S : PI x y d len T G N P D) (o : cOk N d D2) : PI x y d len T G (cv N d D2) P D2 := by
  obtain ⟨⟨a1, a2, a3, a4⟩, ⟨b1, b2, b3, b4⟩, ⟨c1, c2⟩, g1, g2, g3⟩ := S
  refine ⟨⟨a1.cv (.inl g1), a2, a3, a4⟩, ⟨?_, b2, b3, b4⟩, ⟨hB_cv, o⟩, g1, g2, g3⟩
  unfold hY
  rw [cv_out (by omega)]; exact b1
theorem PI_mem (S : PI x y d len T G N P D) (g : ∀ q, q < N.2.1 → N2.1 q = N.1 q) (hb : N2.2.2.2 = N.2.2.2) (hm : N.2.1 ≤ N2.2.1) : PI x y d len T G N2 P D := by
  obtain ⟨⟨a1, a2, a3, a4⟩, ⟨b1, b2, b3, b4⟩, ⟨c1, c2⟩, g1, g2, g3⟩ := S
  refine ⟨⟨fun i hi => by rw [g _ (by omega)]; exact a1 i hi, ⟨by rw [hb]; exact a2.1, a2.2⟩, a3, a4⟩, ⟨?_, b2, b3, by rw [hb]; exact b4⟩, ⟨fun i hi => by rw [g _ (by omega)]; exact c1 i hi, ⟨by rw [hb]; exact c2.1, c2.2⟩⟩, g1, g2, by omega⟩
  unfold hY; rw [g y g3]; exact b1
/-- which set has this letter for a name? -/
theorem nm_C {p s : Nat} {l : List Nat} (S : PI x y d len T G N P D) (hR : Rt T len p ([97 + s] ++ l)) (hn : n ≤ 5) (h5 : gt D 0 5 = Int32.ofNat n) (nm : nmS y d N D n) : tX5_setNamed Gs d (x + 1) (Int32.ofNat p) (Int32.ofNat (p + 1)) N = some (if s < n then Int32.ofNat s else -1, N) := by
  obtain ⟨⟨a1, a2, a3, a4⟩, -, ⟨c1, c2⟩, -⟩ := S
  obtain ⟨r1, r2, r3⟩ := Rt_a hR
  have l1 : ([97 + s] : List Nat).length = 1 := rfl
  obtain ⟨z, z1, z2⟩ := c_named (Gs := Gs) (s0 := p) (e := p + 1) (lf := fun s => [97 + s]) a1 a2 a3 c1 c2 h5 hn (fun s hs => by
    obtain ⟨q, p, h1, h2, -⟩ := nm s hs
    exact ⟨q, p, h1, h2⟩) (by omega) (by omega)
  have tp : T p = 97 + s := r1 0 (by show 0 < 1; omega)
  have key : ∀ t, hN T p (p + 1) [97 + t] ↔ t = s := fun t => by
    unfold hN
    constructor
    · rintro ⟨-, h2⟩
      have := h2 0 (by show 0 < 1; omega)
      have e : T p = 97 + t := this
      omega
    · rintro rfl
      refine ⟨by show p + 1 - p = 1; omega, fun i hi => ?_⟩
      have hi' : i < 1 := hi
      have : i = 0 := by omega
      subst this
      exact tp
  rw [z1]
  by_cases hs : s < n
  · rw [if_pos hs]
    rcases z2 with ⟨t, t1, t2, t3, t4⟩ | ⟨t1, t2⟩
    · rw [t2, (key t).mp t3]
    · exact absurd ((key s).mpr rfl) (t2 s hs)
  · rw [if_neg hs]
    rcases z2 with ⟨t, t1, t2, t3, t4⟩ | ⟨t1, t2⟩
    · exact absurd ((key t).mp t3) (by omega)
    · rw [t1]
theorem PI_tB (S : PI x y d len T G N P D) : (N.1 d).1 = 8 := by rw [← S.2.2.1.1.eq, cv_at0]
theorem PI_D {j : Nat} (S : PI x y d len T G N P D) : gI N d 8 j = some (gt D 0 j) := B_I0 S.2.2.1.1
theorem tk_let {s c : Nat} {l : List Nat} (hs : s < 26) (hc : ¬ isL c) : tk1 1 [97 + s] (c :: l) := .inl ⟨rfl, by show 1 ≤ 1 ∧ 1 ≤ 8; omega, fun z hz => by
  have : z = 97 + s := by simpa using hz
  unfold isL; omega, hc⟩
set_option maxRecDepth 20000 in
/-- a set begins -/
theorem set_P {p j : Nat} {l : List Nat} (S : PI x y d len T G N P D) (t : tkc T Gs P 1 p (p + 3)) (hR : Rt T len p ([115, 101, 116] ++ ([32] ++ ([97 + j] ++ ([59] ++ l))))) (hj : j < 5) (h5 : gt D 0 5 = Int32.ofNat j) (nm : nmS y d N D j) (hb : N.2.2.2 ≤ N.2.1) :
    ∃ N2 P2 D2, tX3_readSet Gs y N = some (1, N2) ∧ PI x y d len T G N2 P2 D2 ∧ tkc T Gs P2 3 (p + 5) (p + 6) ∧ Rt T len (p + 6) l ∧ bgn D D2 j (N.2.1 + 2) ∧ nmS y d N2 D2 (j + 1) ∧ fy y d N N2 ∧ N2.2.1 = N.2.1 + 4 ∧ N2.2.2.1 = N.2.2.1 + 25 ∧ ∀ k, k < 3 ∨ 6 < k → P2 k = P k := by
  have hg := S.2.2.2
  obtain ⟨-, -, R1⟩ := Rt_a hR
  obtain ⟨P1, n1, S1, t1, R2, R3, f1⟩ := nx (c := 1) (bl := [32]) (w := [97 + j]) (l := [59] ++ l) S t.2.2.1 R1 (.inr rfl) (tk_let (by omega) (by unfold isL; omega))
  have nm1 : nmS y d (pv N y P1) D j := nm.mv fy_pv hg.2.1 (fun _ _ => rfl)
  have q1 := nm_C (Gs := Gs) S1 R2 (show j ≤ 5 by omega) h5 nm1
  rw [if_neg (by omega)] at q1
  obtain ⟨Z, w1, w2, w3, w4⟩ := word_N S1 t1 R2 hb ⟨by show 1 ≤ 1; omega, by show 1 ≤ 8; omega⟩ (fun z hz => by
    have : z = 97 + j := by simpa using hz
    unfold isL; omega)
  have wb1 : (pv N y P1).2 = N.2 := rfl
  rw [wb1] at w1 w2 w3 w4
  have e1 : Z.2.1 = N.2.1 + 4 := by rw [w4]
  have e2 : Z.2.2.1 = N.2.2.1 + 25 := by rw [w4]; rfl
  have e3 : Z.2.2.2 = N.2.2.2 := by rw [w4]
  have SZ : PI x y d len T G Z P1 D := PI_mem S1 w3 e3 (by show N.2.1 ≤ _; omega)
  obtain ⟨C2, b1, b2, b3⟩ := c_beginSet (w := N.2.1 + 2) SZ.2.2.1.2 hj h5
  rw [SZ.2.2.1.1.eq] at b1
  have S3 := PI_cv SZ b2
  obtain ⟨P3, n3, S4, t4, R4, R5, f4⟩ := nx (c := 3) (bl := []) (w := [59]) (l := l) S3 t1.2.2.1 R3 (.inl rfl) (.inr (.inr (.inl ⟨rfl, rfl⟩)))
  have fz : fy y d N Z := ⟨fun q q1 _ q3 => by rw [w3 q q3]; exact pv_out q1, e3, by omega⟩
  have f2 : fy y d N (pv (cv Z d C2) y P3) := (fz.tr fy_cv).tr fy_pv
  refine ⟨pv (cv Z d C2) y P3, P3, C2, ?_, S4, t4, R5, b3, fun s hs => ?_, f2, e1, e2, fun k hk => (f4 k hk).trans (f1 k hk)⟩
  · have a2 : gA N y 6 2 = some d := PI_A S S.2.1.2.2.1
    have a3 : gA (pv N y P1) y 6 2 = some d := PI_A S1 S1.2.1.2.2.1
    have a4 : gA (pv N y P1) y 6 0 = some (x + 1) := PI_A S1 S1.2.1.2.1.1
    have a5 : gA (pv N y P1) y 6 3 = some (Gs 100) := PI_A S1 t1.1
    have lt : Int32.ofNat j < (5 : Int32) := (n_lt (b := 5) (by omega) (by omega)).mpr hj
    have g1 : (cv Z d C2).2.1 = N.2.1 + 4 := e1
    have g2 : (cv Z d C2).2.2.1 = N.2.2.1 + 25 := e2
    rw [tX3_readSet, a2, Option.bind_some, PI_D S, Option.bind_some, h5, if_pos lt, if_pos ⟨by omega, by omega⟩, if_pos (PI_t S), n1, Option.bind_some]
    dsimp only
    rw [a5, Option.bind_some, if_pos rfl, a3, Option.bind_some, a4, Option.bind_some, PI_I S1, Option.bind_some, PI_I S1, Option.bind_some, t1.2.1, t1.2.2.1, if_pos ⟨by show N.2.1 + 0 ≤ _; omega, by show N.2.2.1 + 0 ≤ _; omega⟩, if_pos (PI_tB S1), show tX5_setNamed Gs d (x + 1) (Int32.ofNat (p + 3 + [32].length)) (Int32.ofNat (p + 3 + [32].length + [97 + j].length)) (pv N y P1) = _ from q1, Option.bind_some]
    dsimp only
    rw [if_pos rfl, a3, Option.bind_some, if_pos ⟨by show N.2.1 + 5 ≤ _; omega, by show N.2.2.1 + 400 ≤ _; omega⟩, if_pos (PI_t S1), w1, Option.bind_some]
    dsimp only
    rw [if_pos ⟨by omega, by omega⟩, if_pos (PI_tB SZ), b1, Option.bind_some]
    dsimp only
    rw [if_pos ⟨by omega, by omega⟩, if_pos (PI_t S3), n3, Option.bind_some, if_pos ⟨by show (cv Z d C2).2.1 ≤ _; omega, by show (cv Z d C2).2.2.1 ≤ _; omega⟩]
  · by_cases e : s = j
    · subst e
      exact ⟨N.2.1 + 2, N.2.1 + 3, b3.1, w2.same (by rw [pv_out (by omega), cv_out (by omega)]) (by rw [pv_out (by omega), cv_out (by omega)]), ⟨by omega, by show _ < Z.2.1; omega⟩, by omega, by show _ < Z.2.1; omega⟩
    · exact nm.mv f2 hg.2.1 (fun s hs => b3.2.2.2.2.2.2.2.2.2 _ _ (.inl (by omega)) (.inl (by omega))) s (by omega)
end
