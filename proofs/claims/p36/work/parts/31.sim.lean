section
variable {M : vMe} {a r : Nat} {C F : Nat → Nat → Value}
/-! the class's block: sets, cursors, marks -/
theorem n_succ (k : Nat) : Int32.ofNat k + 1 = Int32.ofNat (k + 1) := n_add k 1
theorem n_pred {k : Nat} (h : 1 ≤ k) : Int32.ofNat k - 1 = Int32.ofNat (k - 1) := n_sub h
theorem cA0 (h : cOk M a C) : gA (cv M a C) a 8 0 = some (a + 1) := c_gA0 (h.2.1 0 (by omega))
theorem cA1 (h : cOk M a C) : gA (cv M a C) a 8 1 = some (a + 2) := c_gA0 (h.2.1 1 (by omega))
theorem cA2 (h : cOk M a C) : gA (cv M a C) a 8 2 = some (a + 3) := c_gA0 (h.2.1 2 (by omega))
theorem cS {s : Nat} (h : cOk M a C) (hs : s < 5) : aA (cv M a C) (a + 1) 107 (Int32.ofNat s) = some (a + (4 + 8 * s)) := c_aA (i := 1) (len := 5) (by omega) rfl hs (by omega) (h.2.2.1 s hs)
theorem cU {c : Nat} (h : cOk M a C) (hc : c < 6) : aA (cv M a C) (a + 2) 108 (Int32.ofNat c) = some (a + (44 + c)) := c_aA (i := 2) (len := 6) (by omega) rfl hc (by omega) (h.2.2.2.1 c hc)
theorem cMk {i : Nat} (hi : i < 8) : aI (cv M a C) (a + 3) 101 (Int32.ofNat i) = some (gt C 3 i) := c_aI (i := 3) (len := 8) (by omega) rfl hi (by omega)
theorem cMkS {i : Nat} {v : Value} (h : cOk M a C) (hi : i < 8) : sA (cv M a C) (a + 3) 101 (Int32.ofNat i) v = some (cv M a (pu C 3 i v)) := c_sA (i := 3) (len := 8) h (by omega) rfl hi (by omega)
theorem uI {c k : Nat} (hc : c < 6) : gI (cv M a C) (a + (44 + c)) 3 k = some (gt C (44 + c) k) := c_gI (by omega) (by rw [cT_c hc])
theorem uV {c k : Nat} {v : Value} (h : cOk M a C) (hc : c < 6) : sV (cv M a C) (a + (44 + c)) 3 k v = some (cv M a (pu C (44 + c) k v)) := c_sV h (by omega) (by rw [cT_c hc])
theorem uT {c : Nat} (hc : c < 6) : ((cv M a C).1 (a + (44 + c))).1 = 3 := by rw [cv_at M a _ C (by omega), cT_c hc]
theorem cOk_u {c k : Nat} {v : Value} (h : cOk M a C) (hc : c < 6) : cOk M a (pu C (44 + c) k v) := cOk_pu h ⟨by omega, by omega, by omega, by omega, by omega⟩
theorem cOk_k {k : Nat} {v : Value} (h : cOk M a C) : cOk M a (pu C 3 k v) := cOk_pu h ⟨by omega, by omega, by omega, by omega, by omega⟩
/-- cursor c of the class is open on set s -/
abbrev onC (C : Nat → Nat → Value) (c s : Nat) : Prop := gt C (44 + c) 1 ≠ 0 ∧ gt C (44 + c) 3 = Int32.ofNat s
theorem c_isOpenOn {c s : Nat} (hc : c < 6) : tX0_isOpenOn (a + (44 + c)) (Int32.ofNat s) (cv M a C) = some (if onC C c s then 1 else 0) := by
  simp only [tX0_isOpenOn, uI hc, Option.bind_some]
  by_cases b : gt C (44 + c) 1 = 0
  · rw [if_pos b, if_neg (fun g => g.1 b)]
  · rw [if_neg b]
    by_cases d : gt C (44 + c) 3 = Int32.ofNat s
    · rw [if_pos d, if_pos ⟨b, d⟩]
    · rw [if_neg d, if_neg (fun g => d g.2)]
theorem gt_ne {i k j l : Nat} {x : Value} (h : j ≠ i ∨ l ≠ k) : gt (pu C i k x) j l = gt C j l := by
  unfold gt pu updV
  by_cases c : j = i
  · subst c
    rw [if_pos rfl, if_neg (by omega)]
  · rw [if_neg c]
theorem gt_eq (i k : Nat) (x : Int32) : gt (pu C i k (.int x)) i k = x := by rw [gt_pu, if_pos ⟨rfl, rfl⟩]
theorem pu_ne {i k j l : Nat} {x : Value} (h : j ≠ i ∨ l ≠ k) : pu C i k x j l = C j l := by
  unfold pu updV
  by_cases c : j = i
  · subst c
    rw [if_pos rfl, if_neg (by omega)]
  · rw [if_neg c]
theorem pu_eq (i k : Nat) (x : Value) : pu C i k x i k = x := by simp [pu, updV]
/-! the two states as one -/
def okH (F : Nat → Nat → Value) (u hz n k : Nat) : Prop := (gt F 1 1 = Int32.ofNat u ∧ 1 ≤ u ∧ u ≤ 64) ∧ (gt F 1 2 = Int32.ofNat hz ∧ 1 ≤ hz ∧ hz ≤ 60) ∧ (gt F 1 0 = Int32.ofNat n ∧ n ≤ 5) ∧ (gt F 1 4 = Int32.ofNat k ∧ k ≤ 8)
def simH (C F : Nat → Nat → Value) : Prop := gt C 0 3 = gt F 1 1 ∧ gt C 0 4 = gt F 1 2 ∧ gt C 0 5 = gt F 1 0 ∧ gt C 0 6 = gt F 1 4 ∧ gt C 0 7 = gt F 1 3 ∧ gt C 0 8 = gt F 1 5
def simC (C F : Nat → Nat → Value) (n c : Nat) : Prop :=
  (oC F c 0 = 0 ∧ gt C (44 + c) 0 = 0 ∧ gt C (44 + c) 1 = 0) ∨
  (oC F c 0 = 1 ∧ gt C (44 + c) 0 = 1 ∧ gt C (44 + c) 1 = oC F c 3 ∧ gt C (44 + c) 2 = oC F c 4 ∧ gt C (44 + c) 3 = oC F c 1 ∧ gt C (44 + c) 4 = oC F c 2 ∧ gt C (44 + c) 5 = oC F c 5 ∧ gt C (44 + c) 6 = oC F c 6 ∧
    gt C (44 + c) 7 = oC F c 7 - 1 ∧ (oC F c 3 = 0 ∨ oC F c 3 = 1) ∧ (oC F c 4 = 0 ∨ oC F c 4 = 1) ∧ (∃ s, s < n ∧ oC F c 1 = Int32.ofNat s) ∧ (∃ p, p ≤ 64 ∧ oC F c 2 = Int32.ofNat p) ∧ ∃ t, t ≤ 64 ∧ oC F c 7 = Int32.ofNat t)
/-- an open cursor stands within its set -/
def posB (F : Nat → Nat → Value) (n : Nat) : Prop := ∀ c s p m, c < 6 → s < n → onF F c s → oC F c 2 = Int32.ofNat p → p ≤ 64 → oS F s 0 = Int32.ofNat m → m ≤ 64 → p ≤ m
def simP (C F : Nat → Nat → Value) (u hz n k : Nat) : Prop :=
  okH F u hz n k ∧ simH C F ∧ (∀ i, i < k → gt C 3 i = gt F 1 (6 + i)) ∧ (∀ c, c < 6 → simC C F n c) ∧ posB F n ∧ ∀ s, s < n → simS C F s ∧ okS F u hz s
theorem gt_row {C1 : Nat → Nat → Value} {j : Nat} (h : C1 j = C j) (k : Nat) : gt C1 j k = gt C j k := by unfold gt; rw [h]
theorem isM_congr {F1 : Nat → Nat → Value} {s x : Nat} (hF : ∀ w, w < 198 → oS F1 s w = oS F s w) (hx : x < 64) : isM F1 s x ↔ isM F s x := by
  unfold isM
  constructor
  · rintro ⟨p, m, e1, e2, e3, e4, e5⟩
    exact ⟨p, m, by rw [← hF _ (by omega), e1], by rw [← hF _ (by omega), e2], e3, e4, by rw [← hF _ (by omega), e5]⟩
  · rintro ⟨p, m, e1, e2, e3, e4, e5⟩
    exact ⟨p, m, by rw [hF _ (by omega), e1], by rw [hF _ (by omega), e2], e3, e4, by rw [hF _ (by omega), e5]⟩
theorem simS_congr {C1 F1 : Nat → Nat → Value} {s : Nat} (hF : ∀ w, w < 378 → oS F1 s w = oS F s w) (hC : ∀ j, 4 + 8 * s ≤ j → j < 4 + 8 * s + 8 → C1 j = C j) (h : simS C F s) : simS C1 F1 s := by
  have g : ∀ i k, i < 8 → gt C1 (4 + 8 * s + i) k = gt C (4 + 8 * s + i) k := fun i k hi => gt_row (hC _ (by omega) (by omega)) k
  have g0 : ∀ k, gt C1 (4 + 8 * s) k = gt C (4 + 8 * s) k := fun k => g 0 k (by omega)
  obtain ⟨s1, s2, s3, s4, s5, s6, s7, s8, s9⟩ := h
  refine ⟨by rw [g0, hF _ (by omega), s1], by rw [g0, hF _ (by omega), s2], fun x hx => by rw [g 1 _ (by omega), hF _ (by omega), s3 x hx], fun x hx => by rw [g 2 _ (by omega), hF _ (by omega), s4 x hx], fun x hx hm => ?_,
    by rw [g 4 _ (by omega), hF _ (by omega), s6], by rw [g 4 _ (by omega), hF _ (by omega), s7], by rw [hC _ (by omega) (by omega), hF _ (by omega), hF _ (by omega), s8], fun k n h1 h2 h3 w hw => ?_⟩
  · rw [g 3 _ (by omega), hF _ (by omega), s5 x hx ((isM_congr (fun w hw => hF w (by omega)) hx).mp hm)]
  · rw [g (5 + w) _ (by omega), hF _ (by omega), s9 k n (by rw [← hF _ (by omega), h1]) h2 h3 w hw]
theorem okS_congr {F1 : Nat → Nat → Value} {u hz s : Nat} (hF : ∀ w, w < 198 → oS F1 s w = oS F s w) (hu : u ≤ 64) (h : okS F u hz s) : okS F1 u hz s := by
  obtain ⟨⟨m, m1, m2, m3⟩, hp, hx, n, n1, n2⟩ := h
  refine ⟨⟨m, m1, by rw [hF _ (by omega), m2], fun p hp => ?_⟩, fun x h => by rw [hF _ (by omega)]; exact hp x h, fun x h => by rw [hF _ (by omega)]; exact hx x h, n, n1, by rw [hF _ (by omega), n2]⟩
  obtain ⟨x, x1, x2, x3⟩ := m3 p hp
  exact ⟨x, x1, by rw [hF _ (by omega), x2], by rw [hF _ (by omega), x3]⟩
theorem simC_congr {C1 F1 : Nat → Nat → Value} {n c : Nat} (hF : ∀ w, w < 8 → oC F1 c w = oC F c w) (hC : ∀ k, gt C1 (44 + c) k = gt C (44 + c) k) (h : simC C F n c) : simC C1 F1 n c := by
  unfold simC
  rw [hF 0 (by omega), hF 1 (by omega), hF 2 (by omega), hF 3 (by omega), hF 4 (by omega), hF 5 (by omega), hF 6 (by omega), hF 7 (by omega)]
  simp only [hC]
  exact h
theorem simP_set {C1 F1 : Nat → Nat → Value} {u hz n k s : Nat} (h : simP C F u hz n k) (hs : s < n) (fF : ∀ l, l ≠ 3 → l ≠ 5 → (l < 14 ∨ 62 ≤ l) → (l < aS s 0 ∨ aS s 378 ≤ l) → gt F1 1 l = gt F 1 l)
    (fC : ∀ j l, (j < 4 + 8 * s ∨ (4 + 8 * s + 8 ≤ j ∧ j < 44)) → (j ≠ 0 ∨ l < 7 ∨ 8 < l) → C1 j l = C j l) (e7 : gt C1 0 7 = gt F1 1 3) (e8 : gt C1 0 8 = gt F1 1 5)
    (hc : ∀ c, c < 6 → simC C1 F1 n c) (hp : posB F1 n) (hS : simS C1 F1 s) (hO : okS F1 u hz s) : simP C1 F1 u hz n k := by
  obtain ⟨⟨⟨a1, a2⟩, ⟨b1, b2⟩, ⟨c1, c2⟩, ⟨d1, d2⟩⟩, ⟨g1, g2, g3, g4, g5, g6⟩, hm, -, -, hs2⟩ := h
  have gC : ∀ j l, (j < 4 + 8 * s ∨ (4 + 8 * s + 8 ≤ j ∧ j < 44)) → (j ≠ 0 ∨ l < 7 ∨ 8 < l) → gt C1 j l = gt C j l := fun j l h1 h2 => by unfold gt; rw [fC j l h1 h2]
  have f0 : ∀ l, l < 14 → l ≠ 3 → l ≠ 5 → gt F1 1 l = gt F 1 l := fun l h1 h2 h3 => fF l h2 h3 (.inl h1) (.inl (by unfold aS; omega))
  refine ⟨⟨⟨by rw [f0 _ (by omega) (by omega) (by omega), a1], a2⟩, ⟨by rw [f0 _ (by omega) (by omega) (by omega), b1], b2⟩, ⟨by rw [f0 _ (by omega) (by omega) (by omega), c1], c2⟩, ⟨by rw [f0 _ (by omega) (by omega) (by omega), d1], d2⟩⟩,
    ⟨?_, ?_, ?_, ?_, e7, e8⟩, fun i hi => ?_, hc, hp, fun t ht => ?_⟩
  · rw [gC _ _ (by omega) (by omega), f0 _ (by omega) (by omega) (by omega), g1]
  · rw [gC _ _ (by omega) (by omega), f0 _ (by omega) (by omega) (by omega), g2]
  · rw [gC _ _ (by omega) (by omega), f0 _ (by omega) (by omega) (by omega), g3]
  · rw [gC _ _ (by omega) (by omega), f0 _ (by omega) (by omega) (by omega), g4]
  · rw [gC _ _ (by omega) (by omega), f0 _ (by omega) (by omega) (by omega), hm i hi]
  · by_cases e : t = s
    · subst e; exact ⟨hS, hO⟩
    · have fo : ∀ w, w < 378 → oS F1 t w = oS F t w := fun w hw => fF _ (by unfold aS; omega) (by unfold aS; omega) (.inr (by unfold aS; omega)) (by unfold aS; omega)
      refine ⟨simS_congr fo (fun j h1 h2 => funext fun l => fC j l (by omega) (by omega)) (hs2 t ht).1, okS_congr (fun w hw => fo w (by omega)) a2.2 (hs2 t ht).2⟩
/-- the names' references -/
def kN (C C1 : Nat → Nat → Value) : Prop := ∀ t, t < 5 → C1 (4 + 8 * t) 4 = C (4 + 8 * t) 4
theorem okS_m {u hz s : Nat} (h : okS F u hz s) : ∃ m, m ≤ u ∧ oS F s 0 = Int32.ofNat m := by
  obtain ⟨⟨m, h1, h2, -⟩, -⟩ := h
  exact ⟨m, h1, h2⟩
end
