section
variable {M : vMe} {b u hz s : Nat} {E F : Nat → Nat → Value}
/-! the methods of a box -/
theorem e_has {y : Nat} (h : eOk M b E) (hs : s < 5) (hF : F 1 = eR E) (hO : okS F u hz s) (hu : u ≤ 64) (hy : y < 64) :
    (isM F s y → tX10_has (b + (2 + 8 * s)) (Int32.ofNat y) (ew M b E) = some 1) ∧ (¬ isM F s y → tX10_has (b + (2 + 8 * s)) (Int32.ofNat y) (ew M b E) = some 0) := by
  obtain ⟨⟨m, hm1, hm2, hm3⟩, hp, hx, -⟩ := hO
  obtain ⟨p, hp1, hp2⟩ := hp y hy
  have key : isM F s y ↔ p < m ∧ oS F s (6 + p) = Int32.ofNat y := by
    constructor
    · rintro ⟨p', m', e1, e2, e3, e4, e5⟩
      have q1 : p = p' := (n_eq (by omega) (by omega)).mp (hp2.symm.trans e1)
      have q2 : m = m' := (n_eq (by omega) (by omega)).mp (hm2.symm.trans e2)
      subst q1; subst q2; exact ⟨e3, e5⟩
    · rintro ⟨e1, e2⟩; exact ⟨p, m, hp2, hm2, e1, by omega, e2⟩
  have g1 : gt E (2 + 8 * s + (1 + 1)) y = Int32.ofNat p := (R_p hF hs hy).symm.trans hp2
  have g0 : gt E (2 + 8 * s) 0 = Int32.ofNat m := (R_0 hF hs).symm.trans hm2
  have st : tX10_has (b + (2 + 8 * s)) (Int32.ofNat y) (ew M b E) = if m ≤ p then some 0 else if oS F s (6 + p) = Int32.ofNat y then some 1 else some 0 := by
    rw [tX10_has, e_bA h hs (by omega), Option.bind_some, e_mI hs (by omega) hy, Option.bind_some, e_bI hs, Option.bind_some, g1, g0]
    by_cases c2 : m ≤ p
    · rw [if_pos ((n_le (by omega) (by omega)).mpr c2), if_pos c2]
    · rw [if_neg (fun g => c2 ((n_le (by omega) (by omega)).mp g)), if_neg c2, e_bA h hs (by omega), Option.bind_some, Option.bind_some, e_mI hs (by omega) hy, Option.bind_some, g1, e_mI hs (by omega) hp1, Option.bind_some, R_m hF hs hp1]
  constructor
  · intro g
    obtain ⟨k1, k2⟩ := key.mp g
    rw [st, if_neg (by omega), if_pos k2]
  · intro g
    rw [st]
    by_cases c2 : m ≤ p
    · rw [if_pos c2]
    · rw [if_neg c2, if_neg (fun c3 => g (key.mpr ⟨by omega, c3⟩))]
/-- the bits of the numbers f p .. -/
def bfl (f : Nat → Int32) : Nat → Nat → Int64 → Int64
  | 0, _, acc => acc
  | j + 1, p, acc => bfl f j (p + 1) (acc ||| (1 <<< ((f p).toInt64 &&& 63)))
def bvE (E : Nat → Nat → Value) (s m : Nat) : Int64 := bfl (fun p => gt E (2 + 8 * s + (0 + 1)) p) m 0 0
theorem e_bits_L {m : Nat} (h : eOk M b E) (hs : s < 5) (hm : gt E (2 + 8 * s) 0 = Int32.ofNat m) (hm64 : m ≤ 64) : ∀ (j f p : Nat) (acc : Int64), p + j = m → j < f →
    tX10_bits_L4 (b + (2 + 8 * s)) (ew M b E) f acc (Int32.ofNat p) = some (bfl (fun p => gt E (2 + 8 * s + (0 + 1)) p) j p acc) := by
  intro j
  induction j with
  | zero =>
    intro f p acc hp hf
    obtain ⟨f, rfl⟩ : ∃ g, f = g + 1 := ⟨f - 1, by omega⟩
    rw [tX10_bits_L4, e_bI hs, Option.bind_some, hm, if_pos ((n_le (by omega) (by omega)).mpr (by omega))]; rfl
  | succ j ih =>
    intro f p acc hp hf
    obtain ⟨f, rfl⟩ : ∃ g, f = g + 1 := ⟨f - 1, by omega⟩
    rw [tX10_bits_L4, e_bI hs, Option.bind_some, hm, if_neg (fun g => by have := (n_le (by omega) (by omega)).mp g; omega), e_bA h hs (by omega), Option.bind_some, e_mI hs (by omega) (by omega), Option.bind_some, n_succ]
    exact ih f (p + 1) _ (by omega) (by omega)
theorem e_bits {m : Nat} (h : eOk M b E) (hs : s < 5) (hm : gt E (2 + 8 * s) 0 = Int32.ofNat m) (hm64 : m ≤ 64) : tX10_bits (b + (2 + 8 * s)) (ew M b E) = some (bvE E s m) := by
  rw [tX10_bits, show tX10_bits_L4 (b + (2 + 8 * s)) (ew M b E) vF 0 0 = _ from e_bits_L (M := M) (b := b) h hs hm hm64 m vF 0 0 (by omega) (by unfold vF; omega), Option.bind_some]; rfl
theorem bfl_bt {f : Nat → Int32} {g : Nat → Nat} : ∀ (j p : Nat) (acc : Int64), (∀ q, p ≤ q → q < p + j → f q = Int32.ofNat (g q) ∧ g q < 64) → ∀ y, y < 64 → (bt (bfl f j p acc) y = true ↔ bt acc y = true ∨ ∃ q, p ≤ q ∧ q < p + j ∧ g q = y) := by
  intro j
  induction j with
  | zero =>
    intro p acc _ y hy
    exact ⟨fun g => .inl g, fun g => g.elim id (fun ⟨q, h1, h2, _⟩ => by omega)⟩
  | succ j ih =>
    intro p acc hf y hy
    rw [bfl, ih (p + 1) _ (fun q h1 h2 => hf q (by omega) (by omega)) y hy, (hf p (Nat.le_refl _) (by omega)).1, bt_or, bt_one _ (hf p (Nat.le_refl _) (by omega)).2 y hy, Bool.or_eq_true, decide_eq_true_iff]
    constructor
    · rintro ((h1 | h1) | ⟨q, h1, h2, h3⟩)
      · exact .inl h1
      · exact .inr ⟨p, Nat.le_refl _, by omega, h1.symm⟩
      · exact .inr ⟨q, by omega, by omega, h3⟩
    · rintro (h1 | ⟨q, h1, h2, h3⟩)
      · exact .inl (.inl h1)
      · by_cases e : q = p
        · exact .inl (.inr (by rw [← h3, e]))
        · exact .inr ⟨q, by omega, by omega, h3⟩
/-- the bits are the members -/
theorem bvE_bt {m : Nat} (hF : F 1 = eR E) (hs : s < 5) (hO : okS F u hz s) (hu : u ≤ 64) (hm : oS F s 0 = Int32.ofNat m) (hm64 : m ≤ 64) {y : Nat} (hy : y < 64) : bt (bvE E s m) y = true ↔ isM F s y := by
  unfold bvE
  rw [bfl_bt (g := numP F s) m 0 0 (fun q _ h2 => by
    obtain ⟨x1, x2, -⟩ := numP_at hO hu hm hm64 (show q < m by omega)
    exact ⟨(R_m hF hs (by omega)).symm.trans x1, by omega⟩) y hy, bt_zero]
  constructor
  · rintro (g | ⟨q, -, h2, h3⟩)
    · cases g
    · rw [← h3]; exact (numP_at hO hu hm hm64 (show q < m by omega)).2.2.1
  · rintro ⟨p, m', e1, e2, e3, e4, e5⟩
    have : m = m' := (n_eq (by omega) (by omega)).mp (hm.symm.trans e2)
    subst this
    exact .inr ⟨p, Nat.zero_le _, by omega, by unfold numP; rw [e5, n_clamp (by omega)]⟩
/-- an event written, and what the set is behind it -/
def nt1 (E : Nat → Nat → Value) (s N : Nat) (st x k : Int32) : Nat → Nat → Value := pu (pu (pu (pu E (2 + 8 * s + (3 + 1)) N (.int st)) (2 + 8 * s + (4 + 1)) N (.int x)) (2 + 8 * s + (5 + 1)) N (.int k)) (2 + 8 * s) 2 (.int (Int32.ofNat (N + 1)))
def ntE (E : Nat → Nat → Value) (s N : Nat) (st x k : Int32) (v : Int64) : Nat → Nat → Value := pu (nt1 E s N st x k) (2 + 8 * s + (6 + 1)) (N + 1) (.long v)
theorem nt1_ok {N : Nat} {st x k : Int32} (h : eOk M b E) (hs : s < 5) : eOk M b (nt1 E s N st x k) := eOk_pu (eOk_pu (eOk_pu (eOk_pu h (eFrR hs (by omega))) (eFrR hs (by omega))) (eFrR hs (by omega))) (eFrB hs (by omega))
theorem ntE_ok {N : Nat} {st x k : Int32} {v : Int64} (h : eOk M b E) (hs : s < 5) : eOk M b (ntE E s N st x k v) := eOk_pu (nt1_ok h hs) (eFrR hs (by omega))
theorem e_note {N : Nat} {st x k : Int32} {v : Int64} (h : eOk M b E) (hs : s < 5) (hN : gt E (2 + 8 * s) 2 = Int32.ofNat N) (hN2 : N < 2000) (hv : tX10_bits (b + (2 + 8 * s)) (ew M b (nt1 E s N st x k)) = some v) :
    tX10_note (b + (2 + 8 * s)) st x k (ew M b E) = some ((), ew M b (ntE E s N st x k v)) := by
  have o1 := eOk_pu (k := N) (v := .int st) h (eFrR (j := 3) hs (by omega))
  have o2 := eOk_pu (k := N) (v := .int x) o1 (eFrR (j := 4) hs (by omega))
  have o3 := eOk_pu (k := N) (v := .int k) o2 (eFrR (j := 5) hs (by omega))
  have o4 : eOk M b (nt1 E s N st x k) := nt1_ok h hs
  have n1 : gt (pu E (2 + 8 * s + (3 + 1)) N (.int st)) (2 + 8 * s) 2 = Int32.ofNat N := by rw [gt_ne (by omega), hN]
  have n2 : gt (pu (pu E (2 + 8 * s + (3 + 1)) N (.int st)) (2 + 8 * s + (4 + 1)) N (.int x)) (2 + 8 * s) 2 = Int32.ofNat N := by rw [gt_ne (by omega), n1]
  have n3 : gt (pu (pu (pu E (2 + 8 * s + (3 + 1)) N (.int st)) (2 + 8 * s + (4 + 1)) N (.int x)) (2 + 8 * s + (5 + 1)) N (.int k)) (2 + 8 * s) 2 = Int32.ofNat N := by rw [gt_ne (by omega), n2]
  rw [tX10_note, e_bA h hs (by omega), Option.bind_some, e_bI hs, Option.bind_some, hN, e_eS h hs (by omega) (by omega) hN2, Option.bind_some,
    e_bA o1 hs (by omega), Option.bind_some, e_bI hs, Option.bind_some, n1, e_eS o1 hs (by omega) (by omega) hN2, Option.bind_some,
    e_bA o2 hs (by omega), Option.bind_some, e_bI hs, Option.bind_some, n2, e_eS o2 hs (by omega) (by omega) hN2, Option.bind_some,
    e_bI hs, Option.bind_some, n3, n_succ, e_bV o3 hs, Option.bind_some]
  rw [show pu (pu (pu (pu E (2 + 8 * s + (3 + 1)) N (.int st)) (2 + 8 * s + (4 + 1)) N (.int x)) (2 + 8 * s + (5 + 1)) N (.int k)) (2 + 8 * s) 2 (.int (Int32.ofNat (N + 1))) = nt1 E s N st x k from rfl]
  rw [e_bA o4 hs (by omega), Option.bind_some, e_bI hs, Option.bind_some, if_pos (e_tB hs), hv, Option.bind_some, show gt (nt1 E s N st x k) (2 + 8 * s) 2 = Int32.ofNat (N + 1) from gt_eq _ _ _, e_tS o4 hs (by omega), Option.bind_some]
  rfl
theorem e_kept {N : Nat} (hs : s < 5) (hN : gt E (2 + 8 * s) 2 = Int32.ofNat N) (hN2 : N ≤ 2000) (hz60 : hz ≤ 60) (hh : gt E 0 2 = Int32.ofNat hz) : tX10_kept (b + (2 + 8 * s)) (Int32.ofNat hz) (ew M b E) = some (Int32.ofNat (eK E s)) := by
  have e1 : eN E s = N := by unfold eN; rw [hN, n_clamp (by omega)]
  have e2 : eH E = hz := by unfold eH; rw [hh, n_clamp (by omega)]
  rw [tX10_kept, e_bI hs, Option.bind_some, hN, eK, e1, e2]
  by_cases c : N ≤ hz
  · rw [if_pos c, if_neg (fun g => by have := (n_lt (by omega) (by omega)).mp g; omega)]
  · rw [if_neg c, if_pos ((n_lt (by omega) (by omega)).mpr (by omega))]
theorem e_first {N : Nat} (h : eOk M b E) (hs : s < 5) (hF : F 1 = eR E) (hN : gt E (2 + 8 * s) 2 = Int32.ofNat N) (hN2 : N ≤ 2000) (hz60 : hz ≤ 60) (hh : gt E 0 2 = Int32.ofNat hz) : tX10_first (b + (2 + 8 * s)) (Int32.ofNat hz) (ew M b E) = some (oS F s 2) := by
  have e1 : eN E s = N := by unfold eN; rw [hN, n_clamp (by omega)]
  have e2 : eH E = hz := by unfold eH; rw [hh, n_clamp (by omega)]
  rw [tX10_first, e_bI hs, Option.bind_some, hN, R_2 hF hs, e1, e2]
  by_cases c : N ≤ hz
  · rw [if_pos c, if_pos ((n_le (by omega) (by omega)).mpr c)]
  · rw [if_neg c, if_neg (fun g => c ((n_le (by omega) (by omega)).mp g)), e_bA h hs (by omega), Option.bind_some, Option.bind_some, n_sub (by omega), n_pred (by omega), e_eI hs (by omega) (by omega) (by omega), Option.bind_some]
/-- where the walk back over the events ends: behind the last event that isn't later -/
theorem e_at_L {N : Nat} {st : Int32} (h : eOk M b E) (hs : s < 5) (hN2 : N ≤ 2000) : ∀ (j f : Nat), j ≤ N → j < f → ∃ k, k ≤ j ∧ tX10_at_L5 (b + (2 + 8 * s)) st (ew M b E) f (Int32.ofNat j) = some (Int32.ofNat k) ∧ (∀ i, k ≤ i → i < j → st < gt E (2 + 8 * s + (3 + 1)) i) ∧ (0 < k → gt E (2 + 8 * s + (3 + 1)) (k - 1) ≤ st) := by
  intro j
  induction j with
  | zero =>
    intro f hj hf
    obtain ⟨f, rfl⟩ : ∃ g, f = g + 1 := ⟨f - 1, by omega⟩
    refine ⟨0, Nat.le_refl _, ?_, fun i h1 h2 => by omega, fun g => by omega⟩
    rw [tX10_at_L5, if_pos (by decide)]
  | succ j ih =>
    intro f hj hf
    obtain ⟨f, rfl⟩ : ∃ g, f = g + 1 := ⟨f - 1, by omega⟩
    have st' : tX10_at_L5 (b + (2 + 8 * s)) st (ew M b E) (f + 1) (Int32.ofNat (j + 1)) = if gt E (2 + 8 * s + (3 + 1)) j ≤ st then some (Int32.ofNat (j + 1)) else tX10_at_L5 (b + (2 + 8 * s)) st (ew M b E) f (Int32.ofNat j) := by
      rw [tX10_at_L5, if_neg (fun g => by have := (n_le (b := 0) (by omega) (by omega)).mp g; omega), e_bA h hs (by omega), Option.bind_some, n_pred (by omega), show j + 1 - 1 = j by omega, e_eI hs (by omega) (by omega) (by omega), Option.bind_some, n_dec (by omega), show j + 1 - 1 = j by omega]
    rw [st']
    by_cases c : gt E (2 + 8 * s + (3 + 1)) j ≤ st
    · rw [if_pos c]
      exact ⟨j + 1, Nat.le_refl _, rfl, fun i h1 h2 => by omega, fun _ => c⟩
    · rw [if_neg c]
      obtain ⟨k, k1, k2, k3, k4⟩ := ih f (by omega) (by omega)
      refine ⟨k, by omega, k2, fun i h1 h2 => ?_, k4⟩
      by_cases e : i = j
      · rw [e]; exact Int32.not_le.mp c
      · exact k3 i h1 (by omega)
theorem e_at {N : Nat} {st : Int32} (h : eOk M b E) (hs : s < 5) (hN : gt E (2 + 8 * s) 2 = Int32.ofNat N) (hN2 : N ≤ 2000) : ∃ k, k ≤ N ∧ tX10_at (b + (2 + 8 * s)) st (ew M b E) = some (vJ (E (2 + 8 * s + (6 + 1)) k)) ∧ (∀ i, k ≤ i → i < N → st < gt E (2 + 8 * s + (3 + 1)) i) ∧ (0 < k → gt E (2 + 8 * s + (3 + 1)) (k - 1) ≤ st) := by
  obtain ⟨k, k1, k2, k3, k4⟩ := e_at_L (M := M) (b := b) (st := st) h hs hN2 N vF (Nat.le_refl _) (by unfold vF; omega)
  refine ⟨k, k1, ?_, k3, k4⟩
  rw [tX10_at, e_bI hs, Option.bind_some, hN, k2, Option.bind_some, tX10_at_J27, e_bA h hs (by omega), Option.bind_some, e_tJ hs (by omega), Option.bind_some]
end
