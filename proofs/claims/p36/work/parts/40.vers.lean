section
/-! bits -/
def bt (v : Int64) (y : Nat) : Bool := v.toBitVec.getLsbD y
theorem bt_and (a b : Int64) (y : Nat) : bt (a &&& b) y = (bt a y && bt b y) := by unfold bt; rw [Int64.toBitVec_and, BitVec.getLsbD_and]
theorem bt_or (a b : Int64) (y : Nat) : bt (a ||| b) y = (bt a y || bt b y) := by unfold bt; rw [Int64.toBitVec_or, BitVec.getLsbD_or]
theorem bt_not (a : Int64) {y : Nat} (hy : y < 64) : bt (a ^^^ (-1)) y = !bt a y := by
  unfold bt
  rw [Int64.toBitVec_xor, BitVec.getLsbD_xor, show (-1 : Int64).toBitVec = BitVec.allOnes 64 from by decide +kernel, BitVec.getLsbD_allOnes, decide_eq_true hy, Bool.xor_true]
theorem bt_ext {a b : Int64} (h : ∀ i, i < 64 → bt a i = bt b i) : a = b := by
  apply Int64.toBitVec_inj.mp
  exact BitVec.eq_of_getLsbD_eq (fun i hi => h i hi)
theorem bt_zero (i : Nat) : bt 0 i = false := by
  unfold bt
  rw [show (0 : Int64).toBitVec = 0#64 from rfl, BitVec.getLsbD_zero]
theorem bt_z {v : Int64} : v = 0 ↔ ∀ i, i < 64 → bt v i = false :=
  ⟨fun h i _ => by rw [h, bt_zero], fun h => bt_ext (fun i hi => by rw [h i hi, bt_zero])⟩
theorem bt_one : ∀ x, x < 64 → ∀ y, y < 64 → bt (1 <<< ((Int32.ofNat x).toInt64 &&& 63)) y = decide (y = x) := by decide +kernel
theorem bt_amt : ∀ y, y < 64 → ((Int32.ofNat y).toInt64 &&& 63).toBitVec.smod 64 = BitVec.ofNat 64 y := by decide +kernel
theorem bt_tc {v : Int64} {y : Nat} (hy : y < 64) : (lg_cmp (v &&& (1 <<< ((Int32.ofNat y).toInt64 &&& 63))) 0 = 0) ↔ bt v y = false := by
  rw [lg_cmp_eq, bt_z]
  constructor
  · intro h
    have := h y hy
    rw [bt_and, bt_one y hy y hy, decide_eq_true rfl, Bool.and_true] at this
    exact this
  · intro h i hi
    rw [bt_and, bt_one y hy i hi]
    by_cases e : i = y
    · rw [e, h]; rfl
    · rw [decide_eq_false e, Bool.and_false]
theorem bt_tr {v : Int64} {y : Nat} (hy : y < 64) : (lg_cmp ((v >>> ((Int32.ofNat y).toInt64 &&& 63)) &&& 1) 1 = 0) ↔ bt v y = true := by
  have key : ∀ i, i < 64 → bt ((v >>> ((Int32.ofNat y).toInt64 &&& 63)) &&& 1) i = (decide (i = 0) && bt v y) := fun i hi => by
    have b1 : bt 1 i = decide (i = 0) := by
      unfold bt
      rw [show (1 : Int64).toBitVec = 1#64 from rfl, BitVec.getLsbD_one]
      simp
    rw [bt_and, b1]
    by_cases e : i = 0
    · subst e
      rw [decide_eq_true rfl, Bool.and_true, Bool.true_and]
      unfold bt
      rw [Int64.toBitVec_shiftRight, bt_amt y hy]
      show (v.toBitVec.sshiftRight (BitVec.ofNat 64 y).toNat).getLsbD 0 = _
      rw [BitVec.toNat_ofNat, Nat.mod_eq_of_lt (by omega), BitVec.getLsbD_sshiftRight]
      simp [hy]
    · rw [decide_eq_false e, Bool.and_false, Bool.false_and]
  have b1 : ∀ i, bt 1 i = decide (i = 0) := fun i => by
    unfold bt
    rw [show (1 : Int64).toBitVec = 1#64 from rfl, BitVec.getLsbD_one]
    simp
  rw [lg_cmp_eq]
  constructor
  · intro h
    have := key 0 (by omega)
    rw [h, b1] at this
    simpa using this.symm
  · intro h
    refine bt_ext (fun i hi => ?_)
    rw [key i hi, b1, h, Bool.and_true]
theorem sumU_congr {f g : Nat → Bool} : ∀ j k, (∀ i, k ≤ i → i < k + j → f i = g i) → sumU f j k = sumU g j k := by
  intro j
  induction j with
  | zero => intro k _; rfl
  | succ j ih => intro k h; rw [sumU, sumU, h k (by omega) (by omega), ih (k + 1) (fun i h1 h2 => h i (by omega) (by omega))]
theorem sumU_app {f : Nat → Bool} (j : Nat) : ∀ i k, sumU f (i + j) k = sumU f i k + sumU f j (k + i) := by
  intro i
  induction i with
  | zero => intro k; rw [Nat.zero_add, sumU, Nat.zero_add, Nat.add_zero]
  | succ i ih => intro k; rw [show i + 1 + j = (i + j) + 1 by omega, sumU, sumU, ih (k + 1), show k + (i + 1) = k + 1 + i by omega]; omega
theorem sumU_none {f : Nat → Bool} : ∀ j k, (∀ i, k ≤ i → i < k + j → f i = false) → sumU f j k = 0 := by
  intro j
  induction j with
  | zero => intro k _; rfl
  | succ j ih => intro k h; rw [sumU, h k (by omega) (by omega), ih (k + 1) (fun i h1 h2 => h i (by omega) (by omega))]; rfl
theorem sumU_ins {f g : Nat → Bool} {x : Nat} : ∀ j k, k ≤ x → x < k + j → f x = false → g x = true → (∀ i, i < 64 → i ≠ x → g i = f i) → k + j ≤ 64 → sumU g j k = sumU f j k + 1 := by
  intro j
  induction j with
  | zero => intro k h1 h2; omega
  | succ j ih =>
    intro k h1 h2 h3 h4 h5 h6
    rw [sumU, sumU]
    by_cases e : k = x
    · subst e
      rw [if_pos h4, if_neg (by rw [h3]; decide), sumU_congr (f := g) (g := f) j (k + 1) (fun i g1 g2 => h5 i (by omega) (by omega))]; omega
    · rw [h5 k (by omega) e, ih (k + 1) (by omega) (by omega) h3 h4 h5 (by omega)]; omega
theorem sumU_sub {f g : Nat → Bool} : ∀ j k, (∀ i, k ≤ i → i < k + j → f i = true → g i = true) → sumU f j k ≤ sumU g j k ∧ (sumU f j k = sumU g j k → ∀ i, k ≤ i → i < k + j → g i = true → f i = true) := by
  intro j
  induction j with
  | zero => intro k _; exact ⟨Nat.le_refl _, fun _ i h1 h2 => by omega⟩
  | succ j ih =>
    intro k h
    obtain ⟨i1, i2⟩ := ih (k + 1) (fun i h1 h2 => h i (by omega) (by omega))
    have hk := h k (by omega) (by omega)
    rw [sumU, sumU]
    by_cases a : f k = true
    · rw [if_pos a, if_pos (hk a)]
      refine ⟨by omega, fun e i h1 h2 hg => ?_⟩
      by_cases q : i = k
      · rw [q]; exact a
      · exact i2 (by omega) i (by omega) (by omega) hg
    · by_cases b : g k = true
      · rw [if_neg a, if_pos b]
        exact ⟨by omega, fun e => by omega⟩
      · rw [if_neg a, if_neg b]
        refine ⟨by omega, fun e i h1 h2 hg => ?_⟩
        by_cases q : i = k
        · rw [q] at hg; exact absurd hg b
        · exact i2 (by omega) i (by omega) (by omega) hg
theorem sumU_or {f g : Nat → Bool} : ∀ j k, sumU (fun i => f i || g i) j k + sumU (fun i => f i && g i) j k = sumU f j k + sumU g j k := by
  intro j
  induction j with
  | zero => intro k; rfl
  | succ j ih =>
    intro k
    have := ih (k + 1)
    rw [sumU, sumU, sumU, sumU]
    cases f k <;> cases g k <;> simp <;> omega
theorem ds_sum (x : Nat) : ∀ j k, dsN 2 j (x / 2 ^ k) = sumU (fun i => x.testBit i) j k := by
  intro j
  induction j with
  | zero => intro k; rfl
  | succ j ih =>
    intro k
    rw [dsN, sumU, Nat.div_div_eq_div_mul, ← Nat.pow_succ, ih (k + 1), Nat.testBit_eq_decide_div_mod_eq]
    have : x / 2 ^ k % 2 < 2 := Nat.mod_lt _ (by omega)
    by_cases e : x / 2 ^ k % 2 = 1
    · rw [e]; simp
    · rw [if_neg (by simpa using e), show x / 2 ^ k % 2 = 0 by omega]
theorem pcI_sum (v : Int64) : pcI v = sumU (bt v) 64 0 := by
  have := ds_sum (nN v) 64 0
  rw [Nat.pow_zero, Nat.div_one] at this
  exact this
end
section
variable {M : vMe} {a r : Nat} {C F : Nat → Nat → Value}
/-! versions -/
theorem c_lJ {s k : Nat} (hs : s < 5) : gJ (cv M a C) (a + (4 + 8 * s + 4)) 5 k = some (vJ (C (4 + 8 * s + 4) k)) := by
  simp [gJ, cv_at M a _ C (show 4 + 8 * s + 4 < 50 by omega), cT_l hs]
theorem c_lI3 {s : Nat} (hs : s < 5) (hL : simL C F s) : gI (cv M a C) (a + (4 + 8 * s + 4)) 5 3 = some (oS F s 3) := by rw [c_lI hs, hL.1]
theorem c_bh {s n k : Nat} {c : Int64} (h : cOk M a C) (hs : s < 5) (hL : simL C F s) (hn : oS F s 3 = Int32.ofNat n) (hn60 : n ≤ 60) (hk : k < n) :
    tX2_bitsBehind (a + (4 + 8 * s + 4)) c (Int32.ofNat k) (cv M a C) = some (bh c (evs F s k 1) (evs F s k 2)) := by
  rw [c_bitsBehind h hs (by omega), hL.2.2.2 k n hn hk hn60 1 (by omega), hL.2.2.2 k n hn hk hn60 2 (by omega)]; rfl
theorem c_st {s n k : Nat} (h : cOk M a C) (hs : s < 5) (hL : simL C F s) (hn : oS F s 3 = Int32.ofNat n) (hn60 : n ≤ 60) (hk : k < n) :
    ((gA (cv M a C) (a + (4 + 8 * s + 4)) 5 0).bind fun a10 => aI (cv M a C) a10 101 (Int32.ofNat k)) = some (evs F s k 0) := by
  rw [c_lA h hs (by omega), Option.bind_some, c_eI hs (by omega) (by omega), hL.2.2.2 k n hn hk hn60 0 (by omega)]; rfl
theorem c_bitsAt_L {s n : Nat} {st : Int32} (h : cOk M a C) (hs : s < 5) (hL : simL C F s) (hn : oS F s 3 = Int32.ofNat n) (hn60 : n ≤ 60) : ∀ (j f k : Nat) (c : Int64), k + j = n → j < f →
    tX2_bitsAt_L8 (a + (4 + 8 * s + 4)) st (cv M a C) f c (Int32.ofNat k) = some (cAt (evs F s) st j k c) := by
  intro j
  induction j with
  | zero =>
    intro f k c hk hf
    obtain ⟨f, rfl⟩ : ∃ g, f = g + 1 := ⟨f - 1, by omega⟩
    rw [tX2_bitsAt_L8, c_lI3 hs hL, Option.bind_some, hn, if_pos ((n_le (by omega) (by omega)).mpr (by omega))]; rfl
  | succ j ih =>
    intro f k c hk hf
    obtain ⟨f, rfl⟩ : ∃ g, f = g + 1 := ⟨f - 1, by omega⟩
    have e0 : gt C (4 + 8 * s + (5 + 0)) k = evs F s k 0 := hL.2.2.2 k n hn (by omega) hn60 0 (by omega)
    rw [tX2_bitsAt_L8, c_lI3 hs hL, Option.bind_some, hn, if_neg (fun g => by have := (n_le (by omega) (by omega)).mp g; omega), c_lA h hs (by omega), Option.bind_some, c_eI hs (by omega) (by omega), Option.bind_some, e0, cAt]
    by_cases g : st < evs F s k 0
    · rw [if_pos g, if_pos g]
    · rw [if_neg g, if_neg g, if_pos (c_tagL hs), c_bh h hs hL hn hn60 (by omega), Option.bind_some, n_succ]
      exact ih f (k + 1) _ (by omega) (by omega)
theorem c_bitsAt {s n : Nat} {st : Int32} (h : cOk M a C) (hs : s < 5) (hL : simL C F s) (hn : oS F s 3 = Int32.ofNat n) (hn60 : n ≤ 60) :
    tX2_bitsAt (a + (4 + 8 * s + 4)) st (cv M a C) = some (cAt (evs F s) st n 0 (two (oS F s 5) (oS F s 4))) := by
  rw [tX2_bitsAt, c_lJ hs, Option.bind_some, hL.2.2.1, l0, c_bitsAt_L h hs hL hn hn60 n vF 0 _ (by omega) (by unfold vF; omega), Option.bind_some]
/-- since when a number is so -/
def snc (E : Nat → Nat → Int32) (y : Nat) : Nat → Nat → Int32 → Int64 → Int32
  | 0, _, fd, _ => fd
  | j + 1, k, fd, c => snc E y j (k + 1) (if bt (c ^^^ bh c (E k 1) (E k 2)) y = true then E k 0 else fd) (bh c (E k 1) (E k 2))
theorem c_since_L {s n y : Nat} (h : cOk M a C) (hs : s < 5) (hL : simL C F s) (hn : oS F s 3 = Int32.ofNat n) (hn60 : n ≤ 60) (hy : y < 64) : ∀ (j f k : Nat) (fd : Int32) (c : Int64), k + j = n → j < f →
    tX2_latestChangeOf_L10 (a + (4 + 8 * s + 4)) (Int32.ofNat y) (cv M a C) f fd c (Int32.ofNat k) = some (snc (evs F s) y j k fd c) := by
  intro j
  induction j with
  | zero =>
    intro f k fd c hk hf
    obtain ⟨f, rfl⟩ : ∃ g, f = g + 1 := ⟨f - 1, by omega⟩
    rw [tX2_latestChangeOf_L10, c_lI3 hs hL, Option.bind_some, hn, if_pos ((n_le (by omega) (by omega)).mpr (by omega))]; rfl
  | succ j ih =>
    intro f k fd c hk hf
    obtain ⟨f, rfl⟩ : ∃ g, f = g + 1 := ⟨f - 1, by omega⟩
    have e0 : gt C (4 + 8 * s + (5 + 0)) k = evs F s k 0 := hL.2.2.2 k n hn (by omega) hn60 0 (by omega)
    rw [tX2_latestChangeOf_L10, c_lI3 hs hL, Option.bind_some, hn, if_neg (fun g => by have := (n_le (by omega) (by omega)).mp g; omega), if_pos (c_tagL hs), c_bh h hs hL hn hn60 (by omega), Option.bind_some, snc]
    by_cases g : bt (c ^^^ bh c (evs F s k 1) (evs F s k 2)) y = true
    · rw [if_neg (fun q => by have := (bt_tc hy).mp q; rw [g] at this; cases this), if_pos g, c_lA h hs (by omega), Option.bind_some, c_eI hs (by omega) (by omega), Option.bind_some, e0, tX2_latestChangeOf_J49_10, n_succ]
      exact ih f (k + 1) _ _ (by omega) (by omega)
    · rw [if_pos ((bt_tc hy).mpr (Bool.eq_false_iff.mpr g)), if_neg g, tX2_latestChangeOf_J49_10, n_succ]
      exact ih f (k + 1) _ _ (by omega) (by omega)
theorem c_since {s n y : Nat} (h : cOk M a C) (hs : s < 5) (hL : simL C F s) (hn : oS F s 3 = Int32.ofNat n) (hn60 : n ≤ 60) (hy : y < 64) :
    tX2_latestChangeOf (a + (4 + 8 * s + 4)) (Int32.ofNat y) (cv M a C) = some (snc (evs F s) y n 0 (-1) (two (oS F s 5) (oS F s 4))) := by
  rw [tX2_latestChangeOf, c_lJ hs, Option.bind_some, hL.2.2.1, l0, c_since_L h hs hL hn hn60 hy n vF 0 _ _ (by omega) (by unfold vF; omega), Option.bind_some]
/-- the fullest stamp -/
def ful (E : Nat → Nat → Int32) : Nat → Nat → Int32 → Int64 → Nat → Int32
  | 0, _, best, _, _ => best
  | j + 1, k, best, c, most => if pcI (bh c (E k 1) (E k 2)) ≤ most then ful E j (k + 1) best (bh c (E k 1) (E k 2)) most else ful E j (k + 1) (E k 0) (bh c (E k 1) (E k 2)) (pcI (bh c (E k 1) (E k 2)))
theorem c_full_L {s n : Nat} (h : cOk M a C) (hs : s < 5) (hL : simL C F s) (hn : oS F s 3 = Int32.ofNat n) (hn60 : n ≤ 60) : ∀ (j f k : Nat) (b : Int32) (c : Int64) (most : Nat), most ≤ 64 → k + j = n → j < f →
    tX2_stampOfMostMembers_L19 (a + (4 + 8 * s + 4)) (cv M a C) f b c (Int32.ofNat most) (Int32.ofNat k) = some (ful (evs F s) j k b c most) := by
  intro j
  induction j with
  | zero =>
    intro f k b c most hmo hk hf
    obtain ⟨f, rfl⟩ : ∃ g, f = g + 1 := ⟨f - 1, by omega⟩
    rw [tX2_stampOfMostMembers_L19, c_lI3 hs hL, Option.bind_some, hn, if_pos ((n_le (by omega) (by omega)).mpr (by omega))]; rfl
  | succ j ih =>
    intro f k b c most hmo hk hf
    obtain ⟨f, rfl⟩ : ∃ g, f = g + 1 := ⟨f - 1, by omega⟩
    have e0 : gt C (4 + 8 * s + (5 + 0)) k = evs F s k 0 := hL.2.2.2 k n hn (by omega) hn60 0 (by omega)
    have hp := pcI_le (bh c (evs F s k 1) (evs F s k 2))
    rw [tX2_stampOfMostMembers_L19, c_lI3 hs hL, Option.bind_some, hn, if_neg (fun g => by have := (n_le (by omega) (by omega)).mp g; omega), if_pos (c_tagL hs), c_bh h hs hL hn hn60 (by omega), Option.bind_some, bitCount_eq, Option.bind_some, ful]
    by_cases g : pcI (bh c (evs F s k 1) (evs F s k 2)) ≤ most
    · rw [if_pos ((n_le (by omega) (by omega)).mpr g), if_pos g, tX2_stampOfMostMembers_J59_19, n_succ]
      exact ih f (k + 1) _ _ _ hmo (by omega) (by omega)
    · rw [if_neg (fun q => g ((n_le (by omega) (by omega)).mp q)), if_neg g, Option.bind_some, c_lA h hs (by omega), Option.bind_some, c_eI hs (by omega) (by omega), Option.bind_some, e0, tX2_stampOfMostMembers_J59_19, n_succ]
      exact ih f (k + 1) _ _ _ hp (by omega) (by omega)
theorem c_full {s n : Nat} (h : cOk M a C) (hs : s < 5) (hL : simL C F s) (hn : oS F s 3 = Int32.ofNat n) (hn60 : n ≤ 60) :
    tX2_stampOfMostMembers (a + (4 + 8 * s + 4)) (cv M a C) = some (ful (evs F s) n 0 (oS F s 2) (two (oS F s 5) (oS F s 4)) (pcI (two (oS F s 5) (oS F s 4)))) := by
  rw [tX2_stampOfMostMembers, c_lI hs, Option.bind_some, hL.2.1, c_lJ hs, Option.bind_some, hL.2.2.1, bitCount_eq, Option.bind_some, l0, c_full_L h hs hL hn hn60 n vF 0 _ _ _ (pcI_le _) (by omega) (by unfold vF; omega), Option.bind_some]
/-! sets as bits -/
theorem c_bits_L {u hz s m : Nat} (hC : cOk M a C) (hs : s < 5) (hO : okS F u hz s) (hS : simS C F s) (hu : u ≤ 64) (hm : oS F s 0 = Int32.ofNat m) (hm64 : m ≤ 64) : ∀ (j f p : Nat) (acc : Int64), p + j = m → j < f →
    (∀ y, y < 64 → (bt acc y = true ↔ ∃ q, q < p ∧ numP F s q = y)) → pcI acc = p →
    ∃ B, tX7_bits_L4 (a + (4 + 8 * s)) (cv M a C) f acc (Int32.ofNat p) = some B ∧ (∀ y, y < 64 → (bt B y = true ↔ ∃ q, q < m ∧ numP F s q = y)) ∧ pcI B = m := by
  intro j
  induction j with
  | zero =>
    intro f p acc hp hf h1 h2
    obtain ⟨f, rfl⟩ : ∃ g, f = g + 1 := ⟨f - 1, by omega⟩
    obtain rfl : p = m := by omega
    refine ⟨acc, ?_, h1, h2⟩
    rw [tX7_bits_L4, c_rF hs, Option.bind_some, hS.1, hm, if_pos ((n_le (by omega) (by omega)).mpr (by omega))]
  | succ j ih =>
    intro f p acc hp hf h1 h2
    obtain ⟨f, rfl⟩ : ∃ g, f = g + 1 := ⟨f - 1, by omega⟩
    obtain ⟨x1, x2, x3, x4⟩ := numP_at hO hu hm hm64 (show p < m by omega)
    have em : gt C (4 + 8 * s + (0 + 1)) p = Int32.ofNat (numP F s p) := (hS.2.2.1 p (by omega)).trans x1
    have hx : bt acc (numP F s p) = false := by
      refine Bool.eq_false_iff.mpr (fun g => ?_)
      obtain ⟨q, q1, q2⟩ := (h1 _ (by omega)).mp g
      obtain ⟨-, -, -, y4⟩ := numP_at hO hu hm hm64 (show q < m by omega)
      rw [q2, x4] at y4
      have := (n_eq (by omega) (by omega)).mp y4
      omega
    have hor : ∀ y, y < 64 → bt (acc ||| (1 <<< ((Int32.ofNat (numP F s p)).toInt64 &&& 63))) y = (bt acc y || decide (y = numP F s p)) := fun y hy => by
      rw [bt_or, bt_one _ (by omega) y hy]
    rw [tX7_bits_L4, c_rF hs, Option.bind_some, hS.1, hm, if_neg (fun g => by have := (n_le (by omega) (by omega)).mp g; omega), c_rA hC hs (by omega), Option.bind_some, c_mI hs (by omega) (by omega), Option.bind_some, em, n_succ]
    refine ih f (p + 1) _ (by omega) (by omega) (fun y hy => ?_) ?_
    · rw [hor y hy, Bool.or_eq_true, h1 y hy, decide_eq_true_iff]
      constructor
      · rintro (⟨q, q1, q2⟩ | e)
        · exact ⟨q, by omega, q2⟩
        · exact ⟨p, by omega, e.symm⟩
      · rintro ⟨q, q1, q2⟩
        by_cases e : q = p
        · right; rw [← q2, e]
        · left; exact ⟨q, by omega, q2⟩
    · rw [pcI_sum, sumU_ins (f := bt acc) (x := numP F s p) 64 0 (by omega) (by omega) hx (by rw [hor _ (by omega), decide_eq_true rfl, Bool.or_true]) (fun i hi hne => by rw [hor i hi, decide_eq_false hne, Bool.or_false]) (by omega), ← pcI_sum, h2]
theorem c_bits {u hz s m : Nat} (hC : cOk M a C) (hs : s < 5) (hO : okS F u hz s) (hS : simS C F s) (hu : u ≤ 64) (hm : oS F s 0 = Int32.ofNat m) (hm64 : m ≤ 64) :
    ∃ B, tX7_bits (a + (4 + 8 * s)) (cv M a C) = some B ∧ (∀ y, y < 64 → (bt B y = true ↔ isM F s y)) ∧ pcI B = m := by
  obtain ⟨B, b1, b2, b3⟩ := c_bits_L (M := M) (a := a) hC hs hO hS hu hm hm64 m vF 0 0 (by omega) (by unfold vF; omega) (fun y hy => ⟨fun g => (by rw [bt_zero] at g; cases g), fun ⟨q, q1, _⟩ => by omega⟩) (by decide +kernel)
  refine ⟨B, ?_, fun y hy => ?_, b3⟩
  · rw [tX7_bits, show tX7_bits_L4 (a + (4 + 8 * s)) (cv M a C) vF 0 0 = some B from b1, Option.bind_some]
  · rw [b2 y hy]
    constructor
    · rintro ⟨q, q1, q2⟩
      rw [← q2]; exact (numP_at hO hu hm hm64 q1).2.2.1
    · rintro ⟨p, m', e1, e2, e3, e4, e5⟩
      have : m = m' := (n_eq (by omega) (by omega)).mp (hm.symm.trans e2)
      subst this
      exact ⟨p, e3, by unfold numP; rw [e5, n_clamp (by omega)]⟩
theorem isM_lt {u hz s y : Nat} (hO : okS F u hz s) (hu : u ≤ 64) (hy : y < 64) (h : isM F s y) : y < u := by
  obtain ⟨p, m, e1, e2, e3, e4, e5⟩ := h
  obtain ⟨x1, x2, -, -⟩ := numP_at hO hu e2 e4 e3
  rw [e5] at x1
  have := (n_eq (by omega) (by omega)).mp x1
  omega
theorem within_P {B1 B2 : Int64} : (lg_cmp (B1 &&& (B2 ^^^ (-1))) 0 = 0) ↔ pcI (B1 &&& B2) = pcI B1 := by
  rw [lg_cmp_eq, bt_z, pcI_sum, pcI_sum]
  obtain ⟨s1, s2⟩ := sumU_sub (f := bt (B1 &&& B2)) (g := bt B1) 64 0 (fun i _ _ h => by rw [bt_and, Bool.and_eq_true] at h; exact h.1)
  constructor
  · intro h
    refine sumU_congr 64 0 (fun i _ hi => ?_)
    have := h i (by omega)
    rw [bt_and, bt_not _ (by omega)] at this
    rw [bt_and]
    cases e1 : bt B1 i <;> cases e2 : bt B2 i <;> simp_all
  · intro h i hi
    rw [bt_and, bt_not _ hi]
    cases e1 : bt B1 i
    · rfl
    · have := s2 h i (by omega) (by omega) e1
      rw [bt_and, e1, Bool.true_and] at this
      rw [this]; rfl
theorem union_P {B1 B2 : Int64} : pcI (B1 ||| B2) + pcI (B1 &&& B2) = pcI B1 + pcI B2 := by
  rw [pcI_sum, pcI_sum, pcI_sum, pcI_sum, sumU_congr (f := bt (B1 ||| B2)) (g := fun i => bt B1 i || bt B2 i) 64 0 (fun i _ _ => bt_or B1 B2 i), sumU_congr (f := bt (B1 &&& B2)) (g := fun i => bt B1 i && bt B2 i) 64 0 (fun i _ _ => bt_and B1 B2 i), sumU_or]
end
section
/-- a quotient of two counts is a number -/
theorem like_ok : ∀ x, x < 65 → ∀ y, y < 65 → 0 < y → (FP.ddiv (FP.i2d (Int32.ofNat x)) (FP.i2d (Int32.ofNat y))) &&& 0x7fffffffffffffff ≤ 0x7ff0000000000000 := by decide +kernel
end
