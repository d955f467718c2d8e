section
variable {M B N : vMe} {x r a d b y u hz n k clk n0 s0 : Nat} {G F C E : Nat → Nat → Value}
/-- a memory that is larger -/
def ext (B N : vMe) : Prop := (∀ z, z < B.2.1 → N.1 z = B.1 z) ∧ B.2.1 ≤ N.2.1 ∧ N.2.2.2 = B.2.2.2
theorem ext.rf : ext B B := ⟨fun _ _ => rfl, Nat.le_refl _, rfl⟩
theorem ext.tr {N2 : vMe} (h : ext B N) (g : ext N N2) : ext B N2 := ⟨fun z hz => (g.1 z (by have := h.2.1; omega)).trans (h.1 z hz), Nat.le_trans h.2.1 g.2.1, g.2.2.trans h.2.2⟩
/-- what is read of a memory -/
def RD (M : vMe) (x r b u hz n k a d : Nat) (G F C E : Nat → Nat → Value) : Prop := simD M x r G F a d C u hz n k ∧ hE M b E ∧ eOk M b E
theorem RD.up (h : RD M x r b u hz n k a d G F C E) (hA : ∀ q, eA b E q → q < M.2.1) (e : ext M N) : RD N x r b u hz n k a d G F C E :=
  ⟨simD_law h.1 (fun q hq _ => e.1 q hq) e.2.1 e.2.2, h.2.1.mv (fun q hq => e.1 q (hA q hq)), ⟨by rw [e.2.2]; exact h.2.2.1, h.2.2.2⟩⟩
/-! arrays of the law's own -/
theorem a_aI {t L i : Nat} {V : Nat → Value} (h : N.1 t = (101, L, V)) (hi : i < L) (hL : L < 2147483648) : aI N t 101 (Int32.ofNat i) = some (vI (V i)) := by
  simp only [aI, h, n_clamp (show i < 2147483648 by omega), n_neg (show i < 2147483648 by omega)]; simp [hi]
theorem a_sA {t L i : Nat} {V : Nat → Value} {v : Value} (h : N.1 t = (101, L, V)) (hi : i < L) (hL : L < 2147483648) (hb : N.2.2.2 ≤ t) : ∃ N2, sA N t 101 (Int32.ofNat i) v = some N2 ∧ N2.1 t = (101, L, updV V i v) ∧ N2.2 = N.2 ∧ ∀ z, z ≠ t → N2.1 z = N.1 z := by
  refine ⟨wr N t i v, ?_, by simp [wr, pt, h], rfl, fun z hz => by simp [wr, pt, hz]⟩
  simp only [sA, h, n_clamp (show i < 2147483648 by omega), n_neg (show i < 2147483648 by omega), hb]; simp [hi]
theorem a_nw {len mc ms : Nat} (h1 : N.2.1 + 1 ≤ n0 + mc) (h2 : N.2.2.1 + len ≤ s0 + ms) (h3 : len ≤ ms) : ∃ N2, nwO N 101 len len (fun _ => .int 0) n0 s0 mc ms = some N2 ∧ N2.1 N.2.1 = (101, len, fun _ => .int 0) ∧ ext N N2 ∧ N2.2 = (N.2.1 + 1, N.2.2.1 + len, N.2.2.2) := by
  refine ⟨nw N 101 len len (fun _ => .int 0), if_pos ⟨h1, h2, h3⟩, if_pos rfl, ⟨fun z hz => if_neg (by omega), by show N.2.1 ≤ N.2.1 + 1; omega, rfl⟩, rfl⟩
theorem ext_wr {N2 : vMe} {t : Nat} (h : ext B N) (ht : B.2.1 ≤ t) (e2 : N2.2 = N.2) (eo : ∀ z, z ≠ t → N2.1 z = N.1 z) : ext B N2 := ⟨fun z hz => (eo z (by omega)).trans (h.1 z hz), by rw [e2]; exact h.2.1, by rw [e2]; exact h.2.2⟩
/-! a set -/
theorem s_open_L {j x2 : Nat} (hR : RD N x r b u hz n k a d G F C E) (hF : F 1 = eR E) (hK : okE b E F n clk) (hj : j < n) : ∀ (i f p v : Nat), p + i = 6 → i < f → tL_state_L23 n0 s0 x b (Int32.ofNat x2) (b + (2 + 8 * j)) f (Int32.ofNat v) (Int32.ofNat p) N = some (Int32.ofNat (v + sumU (onU F j) i p), N) := by
  have hP := D_p hR.1
  have hn5 := hP.1.2.2.1.2
  obtain ⟨-, he, ho⟩ := hR
  intro i
  induction i with
  | zero =>
    intro f p v hp hf
    obtain ⟨f, rfl⟩ : ∃ g, f = g + 1 := ⟨f - 1, by omega⟩
    rw [tL_state_L23, if_pos (by rw [l6]; exact (n_le (by omega) (by omega)).mpr (by omega))]; rfl
  | succ i ih =>
    intro f p v hp hf
    obtain ⟨f, rfl⟩ : ∃ g, f = g + 1 := ⟨f - 1, by omega⟩
    have hon := on_E hK.2.2.1 hF (c := p) (by omega) hn5 (show j < 5 by omega)
    have no : (¬ onF F p j) → tL_state_J73_23 (tL_state_L23 n0 s0 x b (Int32.ofNat x2) (b + (2 + 8 * j)) f) n0 s0 x b (Int32.ofNat x2) (b + (2 + 8 * j)) (Int32.ofNat p) (Int32.ofNat v) N = some (Int32.ofNat (v + sumU (onU F j) (i + 1) p), N) := fun g => by
      rw [tL_state_J73_23, tL_state_J74_23, Int32.add_zero, n_succ, ih f (p + 1) v (by omega) (by omega), sumU, if_neg (by unfold onU; simpa using g), Nat.zero_add]
    rw [tL_state_L23, if_neg (by rw [l6]; exact fun g => by have := (n_le (by omega) (by omega)).mp g; omega), he.A7 ho, Option.bind_some, he.cR ho (by omega), Option.bind_some]
    rcases hK.2.2.1 p (by omega) with g | ⟨q, s', g1, g2, g3, g4, g5, g6⟩
    · rw [if_pos (by rw [g]; rfl)]
      exact no (fun w => by
        obtain ⟨q, w1, -⟩ := hon.mp w
        rw [g] at w1; cases w1)
    · rw [if_neg (by rw [g1]; exact fun g => by cases g), Option.bind_some, he.cA ho (by omega) g1, Option.bind_some, he.vA ho (by omega) g1 g3, Option.bind_some]
      by_cases e : b + (2 + 8 * s') = b + (2 + 8 * j)
      · rw [if_pos e, Option.bind_some, he.cA ho (by omega) g1, Option.bind_some, he.vI ho (by omega) g1, Option.bind_some]
        by_cases e6 : gt E (44 + p) 6 = 0
        · rw [if_pos e6]
          exact no (fun w => by
            obtain ⟨q', -, w2, -⟩ := hon.mp w
            exact w2 e6)
        · have : onF F p j := hon.mpr ⟨q, g1, e6, by rw [g3, e]⟩
          rw [if_neg e6, tL_state_J74_23, n_succ, n_succ, ih f (p + 1) (v + 1) (by omega) (by omega), sumU, if_pos (by unfold onU; simpa using this), Nat.add_assoc]
      · rw [if_neg e]
        exact no (fun w => by
          obtain ⟨q', w1, -, w3⟩ := hon.mp w
          rw [g3] at w3
          have h9 : b + (2 + 8 * s') = b + (2 + 8 * j) := Value.ref.inj w3
          exact e h9)
theorem s_set_L {j t x5 : Nat} {V : Nat → Value} (hR : RD N x r b u hz n k a d G F C E) (hj : j < n) (ht : N.1 t = (101, 5, V)) (hV : ∀ l, l < 5 → vI (V l) = if l = 4 then Int32.ofNat (sumU (onU F j) 6 0) else oS F j l) (h1 : N.2.1 + 1 ≤ n0 + 16) (h2 : N.2.2.1 + 6 ≤ s0 + 100) : ∀ (i f p : Nat), p + i = 5 → i < f → tL_state_L136 n0 s0 x b (Int32.ofNat j) (b + (2 + 8 * j)) (Int32.ofNat x5) t f (Int32.ofNat p) N = some (.inr (), N) := by
  intro i
  induction i with
  | zero =>
    intro f p hp hf
    obtain ⟨f, rfl⟩ : ∃ g, f = g + 1 := ⟨f - 1, by omega⟩
    rw [tL_state_L136, if_pos (show (5 : Int32) ≤ Int32.ofNat p from (n_le (a := 5) (by omega) (by omega)).mpr (by omega))]
  | succ i ih =>
    intro f p hp hf
    obtain ⟨f, rfl⟩ : ∃ g, f = g + 1 := ⟨f - 1, by omega⟩
    rw [tL_state_L136, if_neg (show ¬ (5 : Int32) ≤ Int32.ofNat p from fun g => by have := (n_le (a := 5) (by omega) (by omega)).mp g; omega), if_pos ⟨h1, h2⟩, if_pos (T_x hR.1.1.1), Q_set hR.1 hj (show p < 5 by omega), Option.bind_some]
    simp only [Sum.elim_inl]
    rw [a_aI ht (by omega) (by omega), Option.bind_some, hV p (by omega), if_pos rfl, n_succ]
    exact ih f (p + 1) (by omega) (by omega)
theorem s_cell_L {j x5 : Nat} (hR : RD N x r b u hz n k a d G F C E) (hF : F 1 = eR E) (hj : j < n) (h1 : N.2.1 + 1 ≤ n0 + 16) (h2 : N.2.2.1 + 6 ≤ s0 + 100) : ∀ (i f p : Nat), p + i = u → i < f → tL_state_L168 n0 s0 x b (Int32.ofNat j) (b + (2 + 8 * j)) (Int32.ofNat x5) f (Int32.ofNat p) N = some (.inr (), N) := by
  have hP := D_p hR.1
  have hn5 := hP.1.2.2.1.2
  have hj5 : j < 5 := by omega
  have hu := hP.1.1.2.2
  obtain ⟨hD, he, ho⟩ := hR
  obtain ⟨R0, R1, -⟩ := R_h hF
  have eu : gt E 0 1 = Int32.ofNat u := R1.symm.trans hP.1.1.1
  have g1 : N.2.1 ≤ n0 + 16 ∧ N.2.2.1 ≤ s0 + 100 := ⟨by omega, by omega⟩
  have g0 : N.2.1 + 0 ≤ n0 + 16 ∧ N.2.2.1 + 0 ≤ s0 + 100 := ⟨by omega, by omega⟩
  intro i
  induction i with
  | zero =>
    intro f p hp hf
    obtain ⟨f, rfl⟩ : ∃ g, f = g + 1 := ⟨f - 1, by omega⟩
    rw [tL_state_L168, he.I0 ho, Option.bind_some, eu, if_pos ((n_le (by omega) (by omega)).mpr (by omega))]
  | succ i ih =>
    intro f p hp hf
    obtain ⟨f, rfl⟩ : ∃ g, f = g + 1 := ⟨f - 1, by omega⟩
    have hp64 : p < 64 := by omega
    obtain ⟨k1, k2⟩ := e_has (M := N) (y := p) ho hj5 hF (hP.2.2.2.2.2 j hj).2 hu hp64
    rw [he.eq ho] at k1 k2
    obtain ⟨vp, p1, p2, p3⟩ := Q_place hD hj hp64
    obtain ⟨vs, t1, t2, t3⟩ := Q_stampOf hD hj hp64
    rw [tL_state_L168, he.I0 ho, Option.bind_some, eu, if_neg (fun g => by have := (n_le (by omega) (by omega)).mp g; omega), if_pos ⟨h1, h2⟩, if_pos (T_x hD.1.1), Q_cell hD hj (show p < u by omega), Option.bind_some]
    simp only [Sum.elim_inl]
    rw [if_pos trivial, he.bA (j := 0) ho hj5 (by omega), Option.bind_some, he.mI ho hj5 (by omega) hp64, Option.bind_some, if_pos (R_m hF hj5 hp64), if_pos ⟨h1, h2⟩, if_pos (T_x hD.1.1), Q_cell hD hj (show p < u by omega), Option.bind_some]
    simp only [Sum.elim_inl]
    rw [if_neg (show ¬ (1 : Int32) = 0 by decide), he.bA (j := 1) ho hj5 (by omega), Option.bind_some, he.mI ho hj5 (by omega) hp64, Option.bind_some, if_pos (R_p hF hj5 hp64), if_pos ⟨h1, h2⟩, if_pos (T_x hD.1.1), p1, Option.bind_some]
    simp only [Sum.elim_inl]
    rw [if_pos g0, if_pos (he.tB ho hj5)]
    by_cases hM : isM F j p
    · rw [k1 hM, Option.bind_some, if_neg n10, he.bA (j := 1) ho hj5 (by omega), Option.bind_some, he.mI ho hj5 (by omega) hp64, Option.bind_some, tL_state_J240_168, if_pos ((p2 hM).trans (R_p hF hj5 hp64)), if_pos ⟨h1, h2⟩, if_pos (T_x hD.1.1), t1, Option.bind_some]
      simp only [Sum.elim_inl]
      rw [if_pos g0, if_pos (he.tB ho hj5), k1 hM, Option.bind_some, if_neg n10, he.bA (j := 2) ho hj5 (by omega), Option.bind_some, he.mI ho hj5 (by omega) hp64, Option.bind_some, tL_state_J270_168, if_pos ((t2 hM).trans (R_t hF hj5 hp64)), n_succ]
      exact ih f (p + 1) (by omega) (by omega)
    · rw [k2 hM, Option.bind_some, if_pos rfl, tL_state_J240_168, if_pos (p3 hM), if_pos ⟨h1, h2⟩, if_pos (T_x hD.1.1), t1, Option.bind_some]
      simp only [Sum.elim_inl]
      rw [if_pos g0, if_pos (he.tB ho hj5), k2 hM, Option.bind_some, if_pos rfl, tL_state_J270_168, if_pos (t3 hM), n_succ]
      exact ih f (p + 1) (by omega) (by omega)
theorem s_event_L {j m NE : Nat} (hR : RD N x r b u hz n k a d G F C E) (hF : F 1 = eR E) (hj : j < n) (hm : oS F j 3 = Int32.ofNat m) (hm60 : m ≤ 60) (hN : gt E (2 + 8 * j) 2 = Int32.ofNat NE) (hN2 : NE < 2000) (hmk : m = eK E j) (h1 : N.2.1 + 1 ≤ n0 + 16) (h2 : N.2.2.1 + 6 ≤ s0 + 100) : ∀ (i f p : Nat), p + i = m + 1 → i < f → tL_state_L284 n0 s0 x b (Int32.ofNat j) (b + (2 + 8 * j)) (Int32.ofNat m) f (Int32.ofNat p) N = some (.inr (), N) := by
  have hP := D_p hR.1
  have hj5 : j < 5 := by have := hP.1.2.2.1.2; omega
  obtain ⟨hD, he, ho⟩ := hR
  have eN1 : eN E j = NE := eN_of hN (by omega)
  have hle : m ≤ NE := by rw [hmk]; unfold eK; rw [eN1]; split <;> omega
  have gg : N.2.1 + 1 ≤ n0 + 16 ∧ N.2.2.1 + 6 ≤ s0 + 100 := ⟨h1, h2⟩
  intro i
  induction i with
  | zero =>
    intro f p hp hf
    obtain ⟨f, rfl⟩ : ∃ g, f = g + 1 := ⟨f - 1, by omega⟩
    rw [tL_state_L284, if_pos ((n_lt (by omega) (by omega)).mpr (by omega))]
  | succ i ih =>
    intro f p hp hf
    obtain ⟨f, rfl⟩ : ∃ g, f = g + 1 := ⟨f - 1, by omega⟩
    have q := fun l (hl : l < 3) => Q_event (i := p) hD hj hl hm hm60 (by omega)
    have x8 : Int32.ofNat NE - Int32.ofNat m + Int32.ofNat p = Int32.ofNat (NE - m + p) := by rw [n_sub hle, n_add]
    have nx : Int32.ofNat p + 1 = Int32.ofNat (p + 1) := n_succ p
    have ihn := ih f (p + 1) (by omega) (by omega)
    rw [tL_state_L284, if_neg (fun g => by have := (n_lt (by omega) (by omega)).mp g; omega), he.bI ho hj5, Option.bind_some, hN, x8]
    by_cases e : p = m
    · rw [if_pos ((n_le (by omega) (by omega)).mpr (by omega)), tL_state_J315_284, if_pos gg, if_pos (T_x hD.1.1)]
      rw [show tX9_event x (Int32.ofNat j) (Int32.ofNat p) 0 N = _ from q 0 (by omega), Option.bind_some]
      simp only [Sum.elim_inl, if_pos e]
      rw [if_pos trivial, tL_state_J341_284, if_pos rfl, if_pos gg, if_pos (T_x hD.1.1)]
      rw [show tX9_event x (Int32.ofNat j) (Int32.ofNat p) 1 N = _ from q 1 (by omega), Option.bind_some]
      simp only [Sum.elim_inl, if_pos e]
      rw [if_pos trivial, tL_state_J368_284, if_pos rfl, if_pos gg, if_pos (T_x hD.1.1)]
      rw [show tX9_event x (Int32.ofNat j) (Int32.ofNat p) 2 N = _ from q 2 (by omega), Option.bind_some]
      simp only [Sum.elim_inl, if_pos e]
      rw [if_pos trivial, tL_state_J395_284, if_pos rfl, nx]
      exact ihn
    · have er : ∀ w, w < 3 → aI N (b + (2 + 8 * j + (3 + w + 1))) 101 (Int32.ofNat (NE - m + p)) = some (oS F j (198 + 3 * p + w)) := fun w hw => by
        rw [he.eI ho hj5 (by omega) (by omega) (by omega), R_e hF hj5 (by omega) hw, eN1, ← hmk]
      have eA' : ∀ w, w < 3 → gA N (b + (2 + 8 * j)) 12 (3 + w + 3) = some (b + (2 + 8 * j + (3 + w + 1))) := fun w hw => he.bA (j := 3 + w) ho hj5 (by omega)
      rw [if_neg (fun g => by have := (n_le (by omega) (by omega)).mp g; omega), tL_state_J315_284, if_pos gg, if_pos (T_x hD.1.1)]
      rw [show tX9_event x (Int32.ofNat j) (Int32.ofNat p) 0 N = _ from q 0 (by omega), Option.bind_some]
      simp only [Sum.elim_inl, if_neg e]
      rw [if_neg (show ¬ (1 : Int32) = 0 by decide), show gA N (b + (2 + 8 * j)) 12 6 = _ from eA' 0 (by omega), Option.bind_some, er 0 (by omega), Option.bind_some, tL_state_J341_284, if_pos rfl, if_pos gg, if_pos (T_x hD.1.1)]
      rw [show tX9_event x (Int32.ofNat j) (Int32.ofNat p) 1 N = _ from q 1 (by omega), Option.bind_some]
      simp only [Sum.elim_inl, if_neg e]
      rw [if_neg (show ¬ (1 : Int32) = 0 by decide), show gA N (b + (2 + 8 * j)) 12 7 = _ from eA' 1 (by omega), Option.bind_some, er 1 (by omega), Option.bind_some, tL_state_J368_284, if_pos rfl, if_pos gg, if_pos (T_x hD.1.1)]
      rw [show tX9_event x (Int32.ofNat j) (Int32.ofNat p) 2 N = _ from q 2 (by omega), Option.bind_some]
      simp only [Sum.elim_inl, if_neg e]
      rw [if_neg (show ¬ (1 : Int32) = 0 by decide), show gA N (b + (2 + 8 * j)) 12 8 = _ from eA' 2 (by omega), Option.bind_some, er 2 (by omega), Option.bind_some, tL_state_J395_284, if_pos rfl, nx]
      exact ihn
end
