section
variable {M : vMe} {a b : Nat} {C E : Nat → Nat → Value}
/-! two blocks: a is written, b is read -/
abbrev apart (a b : Nat) : Prop := a + 50 ≤ b ∨ b + 50 ≤ a
theorem e_uI {c k : Nat} (hd : apart a b) (hc : c < 6) : gI (cv (cv M b E) a C) (b + (44 + c)) 3 k = some (gt E (44 + c) k) := by rw [cv_comm (by unfold apart at hd; omega)]; exact uI hc
theorem e_0 {k : Nat} (hd : apart a b) : gI (cv (cv M b E) a C) b 8 k = some (gt E 0 k) := by rw [cv_comm (by unfold apart at hd; omega)]; exact c_gI0
theorem e_rF {s k : Nat} (hd : apart a b) (hs : s < 5) : gI (cv (cv M b E) a C) (b + (4 + 8 * s)) 9 k = some (gt E (4 + 8 * s) k) := by rw [cv_comm (by unfold apart at hd; omega)]; exact c_rF hs
theorem e_lI {s k : Nat} (hd : apart a b) (hs : s < 5) : gI (cv (cv M b E) a C) (b + (4 + 8 * s + 4)) 5 k = some (gt E (4 + 8 * s + 4) k) := by rw [cv_comm (by unfold apart at hd; omega)]; exact c_lI hs
theorem e_lJ {s k : Nat} (hd : apart a b) (hs : s < 5) : gJ (cv (cv M b E) a C) (b + (4 + 8 * s + 4)) 5 k = some (vJ (E (4 + 8 * s + 4) k)) := by rw [cv_comm (by unfold apart at hd; omega)]; exact c_lJ hs
theorem e_rA {s k : Nat} (h : cOk M b E) (hd : apart a b) (hs : s < 5) (hk : k < 4) : gA (cv (cv M b E) a C) (b + (4 + 8 * s)) 9 k = some (b + (4 + 8 * s + (k + 1))) := by rw [cv_comm (by unfold apart at hd; omega)]; exact c_rA h hs hk
theorem e_lA {s k : Nat} (h : cOk M b E) (hd : apart a b) (hs : s < 5) (hk : k < 3) : gA (cv (cv M b E) a C) (b + (4 + 8 * s + 4)) 5 k = some (b + (4 + 8 * s + (5 + k))) := by rw [cv_comm (by unfold apart at hd; omega)]; exact c_lA h hs hk
theorem e_A0 (h : cOk M b E) (hd : apart a b) : gA (cv (cv M b E) a C) b 8 0 = some (b + 1) := by rw [cv_comm (by unfold apart at hd; omega)]; exact cA0 h
theorem e_A1 (h : cOk M b E) (hd : apart a b) : gA (cv (cv M b E) a C) b 8 1 = some (b + 2) := by rw [cv_comm (by unfold apart at hd; omega)]; exact cA1 h
theorem e_A2 (h : cOk M b E) (hd : apart a b) : gA (cv (cv M b E) a C) b 8 2 = some (b + 3) := by rw [cv_comm (by unfold apart at hd; omega)]; exact cA2 h
theorem e_S {s : Nat} (h : cOk M b E) (hd : apart a b) (hs : s < 5) : aA (cv (cv M b E) a C) (b + 1) 107 (Int32.ofNat s) = some (b + (4 + 8 * s)) := by rw [cv_comm (by unfold apart at hd; omega)]; exact cS h hs
theorem e_U {c : Nat} (h : cOk M b E) (hd : apart a b) (hc : c < 6) : aA (cv (cv M b E) a C) (b + 2) 108 (Int32.ofNat c) = some (b + (44 + c)) := by rw [cv_comm (by unfold apart at hd; omega)]; exact cU h hc
theorem e_cp {i len n : Nat} (h : cOk M a C) (hd : apart a b) (hi : i < 50) (ti : cT i = (101, len)) (hl : len < 2147483648) (h1 : n ≤ len) :
    cpA (cv (cv M b E) a C) (b + i) (a + i) 101 0 0 (Int32.ofNat n) = some (cv (cv M b E) a (puA C i (va_cpy (E i) (C i) 0 0 n))) := by
  have hb : (cv (cv M b E) a C).2.2.2 ≤ a + i := by rw [cv_2, cv_2]; have := h.1; omega
  have hp := cv_pt (cv M b E) a i C (va_cpy (E i) (C i) 0 0 n) hi
  rw [ti] at hp
  have hs : (cv (cv M b E) a C).1 (b + i) = ((cT i).1, (cT i).2, E i) := by rw [cv_comm (by unfold apart at hd; omega)]; exact cv_at _ b i E hi
  unfold cpA
  simp only [hs, cv_at _ a i C hi, ti, n_clamp (show n < 2147483648 by omega), n_neg (show n < 2147483648 by omega), hp, hb]
  simp [h1]
  exact hp
theorem cpy_at (f g : Nat → Value) (n x : Nat) : va_cpy f g 0 0 n x = if x < n then f x else g x := by
  unfold va_cpy
  by_cases h : x < n
  · rw [if_pos ⟨by omega, by omega⟩, if_pos h]; congr 1; omega
  · rw [if_neg (by omega), if_neg h]
theorem cOk2 (h : cOk M a C) : cOk (cv M b E) a C := h
/-- a cursor copied -/
def cpU (C E : Nat → Nat → Value) (c : Nat) : Nat → Nat → Value :=
  pu (pu (pu (pu (pu (pu (pu (pu C (44 + c) 0 (.int (gt E (44 + c) 0))) (44 + c) 1 (.int (gt E (44 + c) 1))) (44 + c) 2 (.int (gt E (44 + c) 2))) (44 + c) 3 (.int (gt E (44 + c) 3))) (44 + c) 4 (.int (gt E (44 + c) 4))) (44 + c) 5 (.int (gt E (44 + c) 5))) (44 + c) 6 (.int (gt E (44 + c) 6))) (44 + c) 7 (.int (gt E (44 + c) 7))
theorem cpU_at {c k : Nat} (hk : k < 8) : gt (cpU C E c) (44 + c) k = gt E (44 + c) k := by
  rcases (show k = 0 ∨ k = 1 ∨ k = 2 ∨ k = 3 ∨ k = 4 ∨ k = 5 ∨ k = 6 ∨ k = 7 by omega) with rfl | rfl | rfl | rfl | rfl | rfl | rfl | rfl <;> simp [cpU, gt_pu]
theorem cpU_out {c j l : Nat} (h : j ≠ 44 + c) : cpU C E c j l = C j l := by
  unfold cpU
  rw [pu_ne (.inl h), pu_ne (.inl h), pu_ne (.inl h), pu_ne (.inl h), pu_ne (.inl h), pu_ne (.inl h), pu_ne (.inl h), pu_ne (.inl h)]
def bz (E : Nat → Nat → Value) : Prop := ∀ c, c < 6 → ∀ k, k < 3 → fits .boolean (.int (gt E (44 + c) k)) = true
theorem c_cpU {c : Nat} (hC : cOk M a C) (hd : apart a b) (hc : c < 6) (hz : bz E) : tX0_copyFrom (a + (44 + c)) (b + (44 + c)) (cv (cv M b E) a C) = some ((), cv (cv M b E) a (cpU C E c)) ∧ cOk M a (cpU C E c) := by
  have z0 := hz c hc 0 (by omega)
  have z1 := hz c hc 1 (by omega)
  have z2 := hz c hc 2 (by omega)
  have o1 := cOk_u (k := 0) (v := .int (gt E (44 + c) 0)) hC hc
  have o2 := cOk_u (k := 1) (v := .int (gt E (44 + c) 1)) o1 hc
  have o3 := cOk_u (k := 2) (v := .int (gt E (44 + c) 2)) o2 hc
  have o4 := cOk_u (k := 3) (v := .int (gt E (44 + c) 3)) o3 hc
  have o5 := cOk_u (k := 4) (v := .int (gt E (44 + c) 4)) o4 hc
  have o6 := cOk_u (k := 5) (v := .int (gt E (44 + c) 5)) o5 hc
  have o7 := cOk_u (k := 6) (v := .int (gt E (44 + c) 6)) o6 hc
  have o8 := cOk_u (k := 7) (v := .int (gt E (44 + c) 7)) o7 hc
  refine ⟨?_, o8⟩
  rw [tX0_copyFrom, e_uI hd hc, Option.bind_some, if_pos z0, uV (cOk2 hC) hc, Option.bind_some, e_uI hd hc, Option.bind_some, if_pos z1, uV (cOk2 o1) hc, Option.bind_some, e_uI hd hc, Option.bind_some, if_pos z2, uV (cOk2 o2) hc, Option.bind_some,
    e_uI hd hc, Option.bind_some, uV (cOk2 o3) hc, Option.bind_some, e_uI hd hc, Option.bind_some, uV (cOk2 o4) hc, Option.bind_some, e_uI hd hc, Option.bind_some, uV (cOk2 o5) hc, Option.bind_some, e_uI hd hc, Option.bind_some, uV (cOk2 o6) hc, Option.bind_some, e_uI hd hc, Option.bind_some, uV (cOk2 o7) hc, Option.bind_some]
  rfl
theorem c_cpU_L (hE : cOk M b E) (hd : apart a b) (hz : bz E) : ∀ (j f k : Nat) (C : Nat → Nat → Value), cOk M a C → k + j = 6 → j < f →
    ∃ C1, tX5_copyFrom_L96 a b f (Int32.ofNat k) (cv (cv M b E) a C) = some ((), cv (cv M b E) a C1) ∧ cOk M a C1 ∧ (∀ c, c < 6 → ∀ l, l < 8 → gt C1 (44 + c) l = if k ≤ c then gt E (44 + c) l else gt C (44 + c) l) ∧ ∀ j, j < 44 → C1 j = C j := by
  intro j
  induction j with
  | zero =>
    intro f k C hC hk hf
    obtain ⟨f, rfl⟩ : ∃ g, f = g + 1 := ⟨f - 1, by omega⟩
    refine ⟨C, ?_, hC, fun c hc l hl => by rw [if_neg (by omega)], fun _ _ => rfl⟩
    rw [tX5_copyFrom_L96, if_pos (by rw [l6]; exact (n_le (by omega) (by omega)).mpr (by omega))]
  | succ j ih =>
    intro f k C hC hk hf
    obtain ⟨f, rfl⟩ : ∃ g, f = g + 1 := ⟨f - 1, by omega⟩
    have hk6 : k < 6 := by omega
    obtain ⟨p1, p2⟩ := c_cpU (E := E) hC hd hk6 hz
    obtain ⟨C1, e1, e2, e3, e4⟩ := ih f (k + 1) (cpU C E k) p2 (by omega) (by omega)
    refine ⟨C1, ?_, e2, fun c hc l hl => ?_, fun i hi => ?_⟩
    · rw [tX5_copyFrom_L96, if_neg (by rw [l6]; exact fun g => by have := (n_le (by omega) (by omega)).mp g; omega), cA1 (cOk2 hC), Option.bind_some, cU (cOk2 hC) hk6, Option.bind_some, e_A1 hE hd, Option.bind_some, e_U hE hd hk6, Option.bind_some, if_pos (uT hk6), p1, Option.bind_some, n_succ]
      exact e1
    · rw [e3 c hc l hl]
      by_cases g : k + 1 ≤ c
      · rw [if_pos g, if_pos (by omega)]
      · rw [if_neg g]
        by_cases q : c = k
        · subst q; rw [if_pos (Nat.le_refl _), cpU_at hl]
        · rw [if_neg (by omega)]; unfold gt; rw [cpU_out (by omega)]
    · rw [e4 i hi]; exact funext fun l => cpU_out (by omega)
/-- what a set's rows are after they were copied -/
def cpS (C1 E : Nat → Nat → Value) (s n : Nat) : Prop :=
  C1 (4 + 8 * s) 4 = E (4 + 8 * s) 4 ∧ gt C1 (4 + 8 * s) 5 = gt E (4 + 8 * s) 5 ∧ gt C1 (4 + 8 * s) 6 = gt E (4 + 8 * s) 6 ∧ (∀ i, 1 ≤ i → i ≤ 3 → ∀ x, x < 64 → gt C1 (4 + 8 * s + i) x = gt E (4 + 8 * s + i) x) ∧
  gt C1 (4 + 8 * s + 4) 3 = gt E (4 + 8 * s + 4) 3 ∧ gt C1 (4 + 8 * s + 4) 4 = gt E (4 + 8 * s + 4) 4 ∧ vJ (C1 (4 + 8 * s + 4) 5) = vJ (E (4 + 8 * s + 4) 5) ∧ ∀ w, w < 3 → ∀ k, k < n → gt C1 (4 + 8 * s + (5 + w)) k = gt E (4 + 8 * s + (5 + w)) k
theorem gt_cp {i j n k : Nat} : gt (puA C i (va_cpy (E i) (C i) 0 0 n)) j k = if j = i ∧ k < n then gt E i k else gt C j k := by
  rw [gt_puA, cpy_at]
  by_cases h : j = i
  · subst h
    by_cases g : k < n
    · rw [if_pos rfl, if_pos g, if_pos ⟨rfl, g⟩]; rfl
    · rw [if_pos rfl, if_neg g, if_neg (fun q => g q.2)]; rfl
  · rw [if_neg h, if_neg (fun q => h q.1)]
theorem puA_o {i j : Nat} {f : Nat → Value} (h : j ≠ i) : puA C i f j = C j := by unfold puA; rw [if_neg h]
theorem c_cpL {s n : Nat} (hC : cOk M a C) (hE : cOk M b E) (hd : apart a b) (hs : s < 5) (hn : gt E (4 + 8 * s + 4) 3 = Int32.ofNat n) (hn60 : n ≤ 60) :
    ∃ C1, tX2_copyFrom (a + (4 + 8 * s + 4)) (b + (4 + 8 * s + 4)) (cv (cv M b E) a C) = some ((), cv (cv M b E) a C1) ∧ cOk M a C1 ∧ gt C1 (4 + 8 * s + 4) 3 = gt E (4 + 8 * s + 4) 3 ∧ gt C1 (4 + 8 * s + 4) 4 = gt E (4 + 8 * s + 4) 4 ∧ vJ (C1 (4 + 8 * s + 4) 5) = vJ (E (4 + 8 * s + 4) 5) ∧
      (∀ w, w < 3 → ∀ k, k < n → gt C1 (4 + 8 * s + (5 + w)) k = gt E (4 + 8 * s + (5 + w)) k) ∧ ∀ j, (j < 4 + 8 * s + 4 ∨ 4 + 8 * s + 8 ≤ j) → C1 j = C j := by
  have o1 := cOk_l (k := 3) (v := .int (gt E (4 + 8 * s + 4) 3)) hC hs (by omega)
  have o2 := cOk_l (k := 4) (v := .int (gt E (4 + 8 * s + 4) 4)) o1 hs (by omega)
  have o3 := cOk_l (k := 5) (v := .long (vJ (E (4 + 8 * s + 4) 5))) o2 hs (by omega)
  obtain ⟨D0, hD0⟩ : ∃ D0, D0 = pu (pu (pu C (4 + 8 * s + 4) 3 (.int (gt E (4 + 8 * s + 4) 3))) (4 + 8 * s + 4) 4 (.int (gt E (4 + 8 * s + 4) 4))) (4 + 8 * s + 4) 5 (.long (vJ (E (4 + 8 * s + 4) 5))) := ⟨_, rfl⟩
  rw [← hD0] at o3
  obtain ⟨D1, hD1⟩ : ∃ D1, D1 = puA D0 (4 + 8 * s + (5 + 0)) (va_cpy (E (4 + 8 * s + (5 + 0))) (D0 (4 + 8 * s + (5 + 0))) 0 0 n) := ⟨_, rfl⟩
  have p1 : cOk M a D1 := hD1 ▸ cOk_puA o3 ⟨by omega, by omega, by omega, by omega⟩
  obtain ⟨D2, hD2⟩ : ∃ D2, D2 = puA D1 (4 + 8 * s + (5 + 1)) (va_cpy (E (4 + 8 * s + (5 + 1))) (D1 (4 + 8 * s + (5 + 1))) 0 0 n) := ⟨_, rfl⟩
  have p2 : cOk M a D2 := hD2 ▸ cOk_puA p1 ⟨by omega, by omega, by omega, by omega⟩
  obtain ⟨D3, hD3⟩ : ∃ D3, D3 = puA D2 (4 + 8 * s + (5 + 2)) (va_cpy (E (4 + 8 * s + (5 + 2))) (D2 (4 + 8 * s + (5 + 2))) 0 0 n) := ⟨_, rfl⟩
  have p3 : cOk M a D3 := hD3 ▸ cOk_puA p2 ⟨by omega, by omega, by omega, by omega⟩
  have q0 : gt D0 (4 + 8 * s + 4) 3 = Int32.ofNat n := by rw [hD0, gt_ne (by omega), gt_ne (by omega), gt_eq, hn]
  have q1 : gt D1 (4 + 8 * s + 4) 3 = Int32.ofNat n := by rw [hD1, gt_row (puA_o (by omega)), q0]
  have q2 : gt D2 (4 + 8 * s + 4) 3 = Int32.ofNat n := by rw [hD2, gt_row (puA_o (by omega)), q1]
  have g0 : ∀ j, j < 4 + 8 * s + 5 → D3 j = D0 j := fun j hj => by rw [hD3, puA_o (by omega), hD2, puA_o (by omega), hD1, puA_o (by omega)]
  refine ⟨D3, ?_, p3, ?_, ?_, ?_, fun w hw k hk => ?_, fun j hj => ?_⟩
  · rw [tX2_copyFrom, e_lI hd hs, Option.bind_some, c_lV (cOk2 hC) hs, Option.bind_some, e_lI hd hs, Option.bind_some, c_lV (cOk2 o1) hs, Option.bind_some, e_lJ hd hs, Option.bind_some, c_lV (cOk2 o2) hs, Option.bind_some, ← hD0]
    rw [e_lA hE hd hs (by omega), Option.bind_some, c_lA (cOk2 o3) hs (by omega), Option.bind_some, c_lI hs, Option.bind_some, q0, e_cp o3 hd (by omega) (cT_e hs (by omega) (by omega)) (by omega) hn60, Option.bind_some, ← hD1]
    rw [e_lA hE hd hs (by omega), Option.bind_some, c_lA (cOk2 p1) hs (by omega), Option.bind_some, c_lI hs, Option.bind_some, q1, e_cp p1 hd (by omega) (cT_e hs (by omega) (by omega)) (by omega) hn60, Option.bind_some, ← hD2]
    rw [e_lA hE hd hs (by omega), Option.bind_some, c_lA (cOk2 p2) hs (by omega), Option.bind_some, c_lI hs, Option.bind_some, q2, e_cp p2 hd (by omega) (cT_e hs (by omega) (by omega)) (by omega) hn60, Option.bind_some, ← hD3]
  · rw [gt_row (g0 _ (by omega)), q0, hn]
  · rw [gt_row (g0 _ (by omega)), hD0, gt_ne (by omega), gt_eq]
  · rw [g0 _ (by omega), hD0, pu_eq]; rfl
  · rw [hD3, gt_cp, hD2, gt_cp, hD1, gt_cp]
    rcases (show w = 0 ∨ w = 1 ∨ w = 2 by omega) with rfl | rfl | rfl
    · rw [if_neg (by omega), if_neg (by omega), if_pos ⟨rfl, hk⟩]
    · rw [if_neg (by omega), if_pos ⟨rfl, hk⟩]
    · rw [if_pos ⟨rfl, hk⟩]
  · rw [hD3, puA_o (by omega), hD2, puA_o (by omega), hD1, puA_o (by omega), hD0]
    exact funext fun l => by rw [pu_ne (by omega), pu_ne (by omega), pu_ne (by omega)]
theorem e_gAn {s q : Nat} (hd : apart a b) (hs : s < 5) (hv : E (4 + 8 * s) 4 = .ref q) : gA (cv (cv M b E) a C) (b + (4 + 8 * s)) 9 4 = some q := by
  rw [cv_comm (by unfold apart at hd; omega)]; exact c_gA (by omega) (by rw [cT_r hs]) hv
theorem c_cpR {s n q : Nat} (hC : cOk M a C) (hE : cOk M b E) (hd : apart a b) (hs : s < 5) (hn : gt E (4 + 8 * s + 4) 3 = Int32.ofNat n) (hn60 : n ≤ 60) (hq : E (4 + 8 * s) 4 = .ref q) :
    ∃ C1, tX7_copyFrom (a + (4 + 8 * s)) (b + (4 + 8 * s)) (cv (cv M b E) a C) = some ((), cv (cv M b E) a C1) ∧ cOk M a C1 ∧ cpS C1 E s n ∧ ∀ j, (j < 4 + 8 * s ∨ 4 + 8 * s + 8 ≤ j) → C1 j = C j := by
  have o1 := cOk_r (k := 4) (v := .ref q) hC hs (by omega)
  have o2 := cOk_r (k := 5) (v := .int (gt E (4 + 8 * s) 5)) o1 hs (by omega)
  have o3 := cOk_r (k := 6) (v := .int (gt E (4 + 8 * s) 6)) o2 hs (by omega)
  obtain ⟨D0, hD0⟩ : ∃ D0, D0 = pu (pu (pu C (4 + 8 * s) 4 (.ref q)) (4 + 8 * s) 5 (.int (gt E (4 + 8 * s) 5))) (4 + 8 * s) 6 (.int (gt E (4 + 8 * s) 6)) := ⟨_, rfl⟩
  rw [← hD0] at o3
  obtain ⟨D1, hD1⟩ : ∃ D1, D1 = puA D0 (4 + 8 * s + (0 + 1)) (va_cpy (E (4 + 8 * s + (0 + 1))) (D0 (4 + 8 * s + (0 + 1))) 0 0 64) := ⟨_, rfl⟩
  have p1 : cOk M a D1 := hD1 ▸ cOk_puA o3 ⟨by omega, by omega, by omega, by omega⟩
  obtain ⟨D2, hD2⟩ : ∃ D2, D2 = puA D1 (4 + 8 * s + (1 + 1)) (va_cpy (E (4 + 8 * s + (1 + 1))) (D1 (4 + 8 * s + (1 + 1))) 0 0 64) := ⟨_, rfl⟩
  have p2 : cOk M a D2 := hD2 ▸ cOk_puA p1 ⟨by omega, by omega, by omega, by omega⟩
  obtain ⟨D3, hD3⟩ : ∃ D3, D3 = puA D2 (4 + 8 * s + (2 + 1)) (va_cpy (E (4 + 8 * s + (2 + 1))) (D2 (4 + 8 * s + (2 + 1))) 0 0 64) := ⟨_, rfl⟩
  have p3 : cOk M a D3 := hD3 ▸ cOk_puA p2 ⟨by omega, by omega, by omega, by omega⟩
  obtain ⟨C1, k1, k2, k3, k4, k5, k6, k7⟩ := c_cpL (M := M) (n := n) p3 hE hd hs hn hn60
  have g0 : C1 (4 + 8 * s) = D0 (4 + 8 * s) := by rw [k7 _ (by omega), hD3, puA_o (by omega), hD2, puA_o (by omega), hD1, puA_o (by omega)]
  refine ⟨C1, ?_, k2, ⟨?_, ?_, ?_, fun i i1 i3 x hx => ?_, k3, k4, k5, k6⟩, fun j hj => ?_⟩
  · rw [tX7_copyFrom, e_gAn hd hs hq, Option.bind_some, c_rV (cOk2 hC) hs, Option.bind_some, e_rF hd hs, Option.bind_some, c_rV (cOk2 o1) hs, Option.bind_some, e_rF hd hs, Option.bind_some, c_rV (cOk2 o2) hs, Option.bind_some, ← hD0]
    rw [e_rA hE hd hs (by omega), Option.bind_some, c_rA (cOk2 o3) hs (by omega), Option.bind_some, show (64 : Int32) = Int32.ofNat 64 from rfl, e_cp o3 hd (by omega) (cT_m hs (by omega) (by omega)) (by omega) (by omega), Option.bind_some, ← hD1]
    rw [e_rA hE hd hs (by omega), Option.bind_some, c_rA (cOk2 p1) hs (by omega), Option.bind_some, e_cp p1 hd (by omega) (cT_m hs (by omega) (by omega)) (by omega) (by omega), Option.bind_some, ← hD2]
    rw [e_rA hE hd hs (by omega), Option.bind_some, c_rA (cOk2 p2) hs (by omega), Option.bind_some, e_cp p2 hd (by omega) (cT_m hs (by omega) (by omega)) (by omega) (by omega), Option.bind_some, ← hD3]
    rw [c_rA (cOk2 p3) hs (by omega), Option.bind_some, e_rA hE hd hs (by omega), Option.bind_some, show a + (4 + 8 * s + (3 + 1)) = a + (4 + 8 * s + 4) from rfl, if_pos (c_tagL hs), show b + (4 + 8 * s + (3 + 1)) = b + (4 + 8 * s + 4) from rfl, k1, Option.bind_some]
  · rw [g0, hD0, pu_ne (by omega), pu_ne (by omega), pu_eq, hq]
  · rw [gt_row g0, hD0, gt_ne (by omega), gt_eq]
  · rw [gt_row g0, hD0, gt_eq]
  · rw [gt_row (k7 _ (by omega)), hD3, gt_cp, hD2, gt_cp, hD1, gt_cp]
    rcases (show i = 1 ∨ i = 2 ∨ i = 3 by omega) with rfl | rfl | rfl
    · rw [if_neg (by omega), if_neg (by omega), if_pos ⟨rfl, hx⟩]
    · rw [if_neg (by omega), if_pos ⟨rfl, hx⟩]
    · rw [if_pos ⟨rfl, hx⟩]
  · rw [k7 _ (by omega), hD3, puA_o (by omega), hD2, puA_o (by omega), hD1, puA_o (by omega), hD0]
    exact funext fun l => by rw [pu_ne (by omega), pu_ne (by omega), pu_ne (by omega)]
theorem cpS_congr {C1 C2 : Nat → Nat → Value} {s n : Nat} (h : cpS C1 E s n) (g : ∀ j, 4 + 8 * s ≤ j → j < 4 + 8 * s + 8 → C2 j = C1 j) : cpS C2 E s n := by
  obtain ⟨h1, h2, h3, h4, h5, h6, h7, h8⟩ := h
  exact ⟨by rw [g _ (by omega) (by omega)]; exact h1, by rw [gt_row (g _ (by omega) (by omega))]; exact h2, by rw [gt_row (g _ (by omega) (by omega))]; exact h3, fun i i1 i2 x hx => by rw [gt_row (g _ (by omega) (by omega))]; exact h4 i i1 i2 x hx,
    by rw [gt_row (g _ (by omega) (by omega))]; exact h5, by rw [gt_row (g _ (by omega) (by omega))]; exact h6, by rw [g _ (by omega) (by omega)]; exact h7, fun w hw k hk => by rw [gt_row (g _ (by omega) (by omega))]; exact h8 w hw k hk⟩
theorem c_cpR_L {n : Nat} (hE : cOk M b E) (hd : apart a b) (hn5 : n ≤ 5) (hcnt : ∀ s, s < n → ∃ m, m ≤ 60 ∧ gt E (4 + 8 * s + 4) 3 = Int32.ofNat m) (hq : ∀ s, s < n → ∃ q, E (4 + 8 * s) 4 = .ref q) : ∀ (j f k : Nat) (C : Nat → Nat → Value), cOk M a C → gt C 0 5 = Int32.ofNat n → k + j = n → j < f →
    ∃ C1, tX5_copyFrom_L65 a b f (Int32.ofNat k) (cv (cv M b E) a C) = some ((), cv (cv M b E) a C1) ∧ cOk M a C1 ∧ (∀ s, k ≤ s → s < n → ∀ m, gt E (4 + 8 * s + 4) 3 = Int32.ofNat m → m ≤ 60 → cpS C1 E s m) ∧ ∀ j, (j < 4 + 8 * k ∨ 44 ≤ j) → C1 j = C j := by
  intro j
  induction j with
  | zero =>
    intro f k C hC h5 hk hf
    obtain ⟨f, rfl⟩ : ∃ g, f = g + 1 := ⟨f - 1, by omega⟩
    refine ⟨C, ?_, hC, fun s h1 h2 => by omega, fun _ _ => rfl⟩
    rw [tX5_copyFrom_L65, c_gI0, Option.bind_some, h5, if_pos ((n_le (by omega) (by omega)).mpr (by omega))]
  | succ j ih =>
    intro f k C hC h5 hk hf
    obtain ⟨f, rfl⟩ : ∃ g, f = g + 1 := ⟨f - 1, by omega⟩
    have hk5 : k < 5 := by omega
    obtain ⟨m, m1, m2⟩ := hcnt k (by omega)
    obtain ⟨q, q1⟩ := hq k (by omega)
    obtain ⟨C0, p1, p2, p3, p4⟩ := c_cpR (E := E) hC hE hd hk5 m2 m1 q1
    obtain ⟨C1, e1, e2, e3, e4⟩ := ih f (k + 1) C0 p2 (by rw [gt_row (p4 _ (by omega))]; exact h5) (by omega) (by omega)
    refine ⟨C1, ?_, e2, fun s h1 h2 m' h3 h4 => ?_, fun i hi => by rw [e4 i (by omega), p4 i (by omega)]⟩
    · rw [tX5_copyFrom_L65, c_gI0, Option.bind_some, h5, if_neg (fun g => by have := (n_le (by omega) (by omega)).mp g; omega), cA0 (cOk2 hC), Option.bind_some, cS (cOk2 hC) hk5, Option.bind_some, e_A0 hE hd, Option.bind_some, e_S hE hd hk5, Option.bind_some, if_pos (c_tagR hk5), p1, Option.bind_some, n_succ]
      exact e1
    · by_cases e : s = k
      · subst e
        have : m = m' := (n_eq (by omega) (by omega)).mp (m2.symm.trans h3)
        subst this
        exact cpS_congr p3 (fun j j1 j2 => e4 j (by omega))
      · exact e3 s (by omega) h2 m' h3 h4
/-- a State copied -/
theorem c_copy {n : Nat} (hC : cOk M a C) (hE : cOk M b E) (hd : apart a b) (hz : bz E) (hn : gt E 0 5 = Int32.ofNat n) (hn5 : n ≤ 5) (hcnt : ∀ s, s < n → ∃ m, m ≤ 60 ∧ gt E (4 + 8 * s + 4) 3 = Int32.ofNat m) (hq : ∀ s, s < n → ∃ q, E (4 + 8 * s) 4 = .ref q) :
    ∃ C1, tX5_copyFrom a b (cv (cv M b E) a C) = some ((), cv (cv M b E) a C1) ∧ cOk M a C1 ∧ (∀ k, 3 ≤ k → k < 9 → gt C1 0 k = gt E 0 k) ∧ (∀ i, i < 8 → gt C1 3 i = gt E 3 i) ∧ (∀ c, c < 6 → ∀ k, k < 8 → gt C1 (44 + c) k = gt E (44 + c) k) ∧
      ∀ s, s < n → ∀ m, gt E (4 + 8 * s + 4) 3 = Int32.ofNat m → m ≤ 60 → cpS C1 E s m := by
  have o1 := cOk_0 (k := 3) (v := .int (gt E 0 3)) hC (by omega)
  have o2 := cOk_0 (k := 4) (v := .int (gt E 0 4)) o1 (by omega)
  have o3 := cOk_0 (k := 5) (v := .int (gt E 0 5)) o2 (by omega)
  have o4 := cOk_0 (k := 6) (v := .int (gt E 0 6)) o3 (by omega)
  have o5 := cOk_0 (k := 7) (v := .int (gt E 0 7)) o4 (by omega)
  have o6 := cOk_0 (k := 8) (v := .int (gt E 0 8)) o5 (by omega)
  obtain ⟨D0, hD0⟩ : ∃ D0, D0 = pu (pu (pu (pu (pu (pu C 0 3 (.int (gt E 0 3))) 0 4 (.int (gt E 0 4))) 0 5 (.int (gt E 0 5))) 0 6 (.int (gt E 0 6))) 0 7 (.int (gt E 0 7))) 0 8 (.int (gt E 0 8)) := ⟨_, rfl⟩
  rw [← hD0] at o6
  have gD : ∀ k, 3 ≤ k → k < 9 → gt D0 0 k = gt E 0 k := fun k k1 k2 => by
    rcases (show k = 3 ∨ k = 4 ∨ k = 5 ∨ k = 6 ∨ k = 7 ∨ k = 8 by omega) with rfl | rfl | rfl | rfl | rfl | rfl <;> simp [hD0, gt_pu]
  obtain ⟨D1, hD1⟩ : ∃ D1, D1 = puA D0 3 (va_cpy (E 3) (D0 3) 0 0 8) := ⟨_, rfl⟩
  have p1 : cOk M a D1 := hD1 ▸ cOk_puA o6 ⟨by omega, by omega, by omega, by omega⟩
  have g5 : gt D1 0 5 = Int32.ofNat n := by rw [hD1, gt_row (puA_o (by omega)), gD 5 (by omega) (by omega), hn]
  obtain ⟨D2, r1, r2, r3, r4⟩ := c_cpR_L (M := M) (a := a) hE hd hn5 hcnt hq n vF 0 D1 p1 g5 (by omega) (by unfold vF; omega)
  obtain ⟨D3, s1, s2, s3, s4⟩ := c_cpU_L (M := M) (a := a) hE hd hz 6 vF 0 D2 r2 (by omega) (by unfold vF; omega)
  refine ⟨D3, ?_, s2, fun k k1 k2 => ?_, fun i hi => ?_, fun c hc k hk => by rw [s3 c hc k hk, if_pos (by omega)], fun s hs m h1 h2 => cpS_congr (r3 s (by omega) hs m h1 h2) (fun j j1 j2 => s4 j (by omega))⟩
  · rw [tX5_copyFrom, e_0 hd, Option.bind_some, c_sV0 (cOk2 hC), Option.bind_some, e_0 hd, Option.bind_some, c_sV0 (cOk2 o1), Option.bind_some, e_0 hd, Option.bind_some, c_sV0 (cOk2 o2), Option.bind_some, e_0 hd, Option.bind_some, c_sV0 (cOk2 o3), Option.bind_some, e_0 hd, Option.bind_some, c_sV0 (cOk2 o4), Option.bind_some, e_0 hd, Option.bind_some, c_sV0 (cOk2 o5), Option.bind_some, ← hD0]
    rw [e_A2 hE hd, Option.bind_some, cA2 (cOk2 o6), Option.bind_some, l8, e_cp (i := 3) (len := 8) o6 hd (by omega) rfl (by omega) (by omega), Option.bind_some, ← hD1, show tX5_copyFrom_L65 a b vF 0 (cv (cv M b E) a D1) = some ((), cv (cv M b E) a D2) from r1, Option.bind_some]
    rw [show tX5_copyFrom_L96 a b vF 0 (cv (cv M b E) a D2) = some ((), cv (cv M b E) a D3) from s1, Option.bind_some]
  · rw [gt_row (s4 _ (by omega)), gt_row (r4 _ (by omega)), hD1, gt_row (puA_o (by omega)), gD k k1 k2]
  · rw [gt_row (s4 _ (by omega)), gt_row (r4 _ (by omega)), hD1, gt_cp, if_pos ⟨rfl, hi⟩]
/-- what a copy of a State is against the reference's row -/
theorem simP_copy {C1 F : Nat → Nat → Value} {u hz n k : Nat} (h : simP E F u hz n k) (c1 : ∀ k, 3 ≤ k → k < 9 → gt C1 0 k = gt E 0 k) (c2 : ∀ i, i < 8 → gt C1 3 i = gt E 3 i) (c3 : ∀ c, c < 6 → ∀ k, k < 8 → gt C1 (44 + c) k = gt E (44 + c) k)
    (c4 : ∀ s, s < n → ∀ m, gt E (4 + 8 * s + 4) 3 = Int32.ofNat m → m ≤ 60 → cpS C1 E s m) : simP C1 F u hz n k := by
  obtain ⟨hH, hh, hmk, hcu, hpos, hst⟩ := h
  refine ⟨hH, ⟨by rw [c1 _ (by omega) (by omega)]; exact hh.1, by rw [c1 _ (by omega) (by omega)]; exact hh.2.1, by rw [c1 _ (by omega) (by omega)]; exact hh.2.2.1, by rw [c1 _ (by omega) (by omega)]; exact hh.2.2.2.1, by rw [c1 _ (by omega) (by omega)]; exact hh.2.2.2.2.1, by rw [c1 _ (by omega) (by omega)]; exact hh.2.2.2.2.2⟩,
    fun i hi => by rw [c2 i (by have := hH.2.2.2.2; omega)]; exact hmk i hi, fun c hc => ?_, hpos, fun s hs => ⟨?_, (hst s hs).2⟩⟩
  · unfold simC
    rw [c3 c hc 0 (by omega), c3 c hc 1 (by omega), c3 c hc 2 (by omega), c3 c hc 3 (by omega), c3 c hc 4 (by omega), c3 c hc 5 (by omega), c3 c hc 6 (by omega), c3 c hc 7 (by omega)]
    exact hcu c hc
  · obtain ⟨s1, s2, s3, s4, s5, s6, s7, s8, s9⟩ := (hst s hs).1
    obtain ⟨nn, n1, n2⟩ := (hst s hs).2.2.2.2
    have hz60 := hH.2.1.2.2
    obtain ⟨p1, p2, p3, p4, p5, p6, p7, p8⟩ := c4 s hs nn (by rw [s6, n2]) (by omega)
    refine ⟨by rw [p2, s1], by rw [p3, s2], fun x hx => by rw [p4 1 (by omega) (by omega) x hx, s3 x hx], fun x hx => by rw [p4 2 (by omega) (by omega) x hx, s4 x hx], fun x hx hm => by rw [p4 3 (by omega) (by omega) x hx, s5 x hx hm], by rw [p5, s6], by rw [p6, s7], by rw [p7, s8], fun k' n' h1 h2 h3 w hw => ?_⟩
    have : nn = n' := (n_eq (by omega) (by omega)).mp (n2.symm.trans h1)
    subst this
    rw [p8 w hw k' h2, s9 k' nn h1 h2 h3 w hw]
end
