section
/-! numbers -/
theorem n_add (a b : Nat) : Int32.ofNat a + Int32.ofNat b = Int32.ofNat (a + b) := (Int32.ofNat_add a b).symm
theorem n_mul (a b : Nat) : Int32.ofNat a * Int32.ofNat b = Int32.ofNat (a * b) := (Int32.ofNat_mul a b).symm
theorem n_toInt {a : Nat} (h : a < 2147483648) : (Int32.ofNat a).toInt = a := Int32.toInt_ofNat_of_lt h
theorem n_clamp {a : Nat} (h : a < 2147483648) : (Int32.ofNat a).toNatClampNeg = a := by
  rw [← Int32.toNat_toInt, n_toInt h]; rfl
theorem n_sub {a b : Nat} (h : b ≤ a) : Int32.ofNat a - Int32.ofNat b = Int32.ofNat (a - b) := by
  have h1 : Int32.ofNat a = Int32.ofNat (a - b) + Int32.ofNat b := by rw [n_add, Nat.sub_add_cancel h]
  rw [h1, Int32.add_sub_cancel]
theorem n_lt {a b : Nat} (ha : a < 2147483648) (hb : b < 2147483648) : (Int32.ofNat a < Int32.ofNat b) ↔ a < b := by
  rw [Int32.lt_iff_toInt_lt, n_toInt ha, n_toInt hb]; omega
theorem n_le {a b : Nat} (ha : a < 2147483648) (hb : b < 2147483648) : (Int32.ofNat a ≤ Int32.ofNat b) ↔ a ≤ b := by
  rw [Int32.le_iff_toInt_le, n_toInt ha, n_toInt hb]; omega
theorem n_eq {a b : Nat} (ha : a < 2147483648) (hb : b < 2147483648) : (Int32.ofNat a = Int32.ofNat b) ↔ a = b := by
  constructor
  · intro h
    have := congrArg Int32.toInt h
    rw [n_toInt ha, n_toInt hb] at this; omega
  · rintro rfl; rfl
theorem n_neg {a : Nat} (ha : a < 2147483648) : ¬ Int32.ofNat a < 0 := by
  rw [show (0 : Int32) = Int32.ofNat 0 from rfl, n_lt ha (by omega)]; omega
/-- a number that is not negative -/
theorem n_of {x : Int32} {n : Nat} (h0 : ¬ x < 0) (h1 : x < Int32.ofNat n) (hn : n < 2147483648) : ∃ k, k < n ∧ x = Int32.ofNat k := by
  have g0 : 0 ≤ x.toInt := by
    rw [Int32.lt_iff_toInt_lt] at h0
    have : (0 : Int32).toInt = 0 := rfl
    omega
  have g1 : x.toInt < n := by
    rw [Int32.lt_iff_toInt_lt, n_toInt hn] at h1; omega
  refine ⟨x.toInt.toNat, by omega, ?_⟩
  apply Int32.toInt_inj.mp
  rw [n_toInt (by omega)]; omega
/-! the reference's cells as one overlay: object r, and its nine rows behind it -/
def rTag (i : Nat) : Nat := match i with
  | 0 => 12
  | 2 => 104
  | 3 => 102
  | 5 => 104
  | 9 => 103
  | _ => 101
def rLen (i : Nat) : Nat := match i with
  | 0 => 0
  | 1 => 1952
  | 2 => 5
  | 3 => 600
  | 4 => 1952
  | 5 => 5
  | 6 => 6
  | 7 => 19520
  | 8 => 3904
  | _ => 2
/-- the field that names row i -/
def rFld (i : Nat) : Nat := match i with
  | 1 => 1
  | 2 => 2
  | 3 => 3
  | 4 => 14
  | 5 => 15
  | 6 => 17
  | 7 => 19
  | 8 => 20
  | _ => 21
def rv (M : vMe) (r : Nat) (F : Nat → Nat → Value) : vMe := (fun q => if r ≤ q ∧ q < r + 10 then (rTag (q - r), rLen (q - r), F (q - r)) else M.1 q, M.2)
def rOk (M : vMe) (r : Nat) (F : Nat → Nat → Value) : Prop := M.2.2.2 ≤ r ∧ ∀ i, 0 < i → i < 10 → F 0 (rFld i) = .ref (r + i)
def gt (F : Nat → Nat → Value) (i k : Nat) : Int32 := vI (F i k)
def pu (F : Nat → Nat → Value) (i k : Nat) (v : Value) : Nat → Nat → Value := fun j => if j = i then updV (F i) k v else F j
theorem rv_at (M : vMe) (r i : Nat) (F : Nat → Nat → Value) (hi : i < 10) : (rv M r F).1 (r + i) = (rTag i, rLen i, F i) := by
  simp [rv, hi]
theorem rv_at0 (M : vMe) (r : Nat) (F : Nat → Nat → Value) : (rv M r F).1 r = (12, 0, F 0) := rv_at M r 0 F (by omega)
theorem rv_out {M : vMe} {r q : Nat} {F : Nat → Nat → Value} (h : ¬ (r ≤ q ∧ q < r + 10)) : (rv M r F).1 q = M.1 q := by
  simp [rv, h]
theorem rv_wr (M : vMe) (r i k : Nat) (F : Nat → Nat → Value) (v : Value) (hi : i < 10) : wr (rv M r F) (r + i) k v = rv M r (pu F i k v) := by
  unfold wr pt
  rw [rv_at M r i F hi]
  refine Prod.ext (funext fun q => ?_) rfl
  dsimp only
  by_cases hq : q = r + i
  · subst hq
    simp [rv, pu, hi]
  · rw [if_neg hq]
    by_cases hb : r ≤ q ∧ q < r + 10
    · have : ¬ q - r = i := by omega
      simp [rv, hb, pu, this]
    · simp [rv, hb]
theorem rv_2 (M : vMe) (r : Nat) (F : Nat → Nat → Value) : (rv M r F).2 = M.2 := rfl
theorem pu_ok {M : vMe} {r i k : Nat} {F : Nat → Nat → Value} {v : Value} (h : rOk M r F) (hi : i ≠ 0 ∨ ∀ j, rFld j ≠ k) : rOk M r (pu F i k v) := by
  refine ⟨h.1, fun j h1 h2 => ?_⟩
  rcases hi with hi | hi
  · rw [← h.2 j h1 h2]; simp [pu, Ne.symm hi]
  · rw [← h.2 j h1 h2]
    by_cases h0 : 0 = i
    · subst h0; simp [pu, updV, hi j]
    · simp [pu, h0]
theorem gt_pu (F : Nat → Nat → Value) (i k j l : Nat) (x : Int32) : gt (pu F i k (.int x)) j l = if j = i ∧ l = k then x else gt F j l := by
  unfold gt pu updV
  by_cases h : j = i <;> by_cases g : l = k <;> simp [h, g, vI]
theorem r_gA {M : vMe} {r i : Nat} {F : Nat → Nat → Value} (h : rOk M r F) (h0 : 0 < i) (h1 : i < 10) : gA (rv M r F) r 12 (rFld i) = some (r + i) := by
  simp [gA, rv_at0, h.2 i h0 h1, vR]
theorem r_gI (M : vMe) (r k : Nat) (F : Nat → Nat → Value) : gI (rv M r F) r 12 k = some (gt F 0 k) := by
  simp [gI, rv_at0, gt]
theorem r_sV {M : vMe} {r k : Nat} {F : Nat → Nat → Value} (v : Value) (h : rOk M r F) : sV (rv M r F) r 12 k v = some (rv M r (pu F 0 k v)) := by
  have := rv_wr M r 0 k F v (by omega)
  rw [Nat.add_zero] at this
  simp [sV, rv_at0, rv_2, h.1, this]
theorem r_aI {M : vMe} {r i n : Nat} {F : Nat → Nat → Value} (hi : i < 10) (ht : rTag i = 101 := by rfl) (hn : n < rLen i) : aI (rv M r F) (r + i) 101 (Int32.ofNat n) = some (gt F i n) := by
  have hl : rLen i < 2147483648 := by unfold rLen; split <;> omega
  simp only [aI, rv_at M r i F hi, ht, n_clamp (show n < 2147483648 by omega), n_neg (show n < 2147483648 by omega), gt]
  simp [hn]
theorem r_sA {M : vMe} {r i n : Nat} {F : Nat → Nat → Value} (v : Value) (h : rOk M r F) (hi : i < 10) {t : Nat} (ht : rTag i = t) (hn : n < rLen i) : sA (rv M r F) (r + i) t (Int32.ofNat n) v = some (rv M r (pu F i n v)) := by
  have hl : rLen i < 2147483648 := by unfold rLen; split <;> omega
  have hb : (rv M r F).2.2.2 ≤ r + i := by rw [rv_2]; have := h.1; omega
  simp only [sA, rv_at M r i F hi, ht, n_clamp (show n < 2147483648 by omega), n_neg (show n < 2147483648 by omega), rv_wr M r i n F v hi, hb]
  simp [hn]
end
section
theorem l0 : (0 : Int32) = Int32.ofNat 0 := rfl
theorem l1 : (1 : Int32) = Int32.ofNat 1 := rfl
theorem l2 : (2 : Int32) = Int32.ofNat 2 := rfl
theorem l3 : (3 : Int32) = Int32.ofNat 3 := rfl
theorem l4 : (4 : Int32) = Int32.ofNat 4 := rfl
theorem l5 : (5 : Int32) = Int32.ofNat 5 := rfl
theorem l6 : (6 : Int32) = Int32.ofNat 6 := rfl
theorem l7 : (7 : Int32) = Int32.ofNat 7 := rfl
theorem l8 : (8 : Int32) = Int32.ofNat 8 := rfl
theorem l14 : (14 : Int32) = Int32.ofNat 14 := rfl
theorem l62 : (62 : Int32) = Int32.ofNat 62 := rfl
theorem l70 : (70 : Int32) = Int32.ofNat 70 := rfl
theorem l134 : (134 : Int32) = Int32.ofNat 134 := rfl
theorem l198 : (198 : Int32) = Int32.ofNat 198 := rfl
theorem l378 : (378 : Int32) = Int32.ofNat 378 := rfl
variable {M : vMe} {r : Nat} {F : Nat → Nat → Value}
def aS (s w : Nat) : Nat := 62 + 378 * s + w
def aC (c w : Nat) : Nat := 14 + 8 * c + w
/-- fields and cells of the reference's state -/
def oS (F : Nat → Nat → Value) (s w : Nat) : Int32 := gt F 1 (aS s w)
def oC (F : Nat → Nat → Value) (c w : Nat) : Int32 := gt F 1 (aC c w)
def sS (F : Nat → Nat → Value) (s w : Nat) (v : Int32) : Nat → Nat → Value := pu F 1 (aS s w) (.int v)
def sC (F : Nat → Nat → Value) (c w : Nat) (v : Int32) : Nat → Nat → Value := pu F 1 (aC c w) (.int v)
theorem sS_ok {s w : Nat} {v : Int32} (h : rOk M r F) : rOk M r (sS F s w v) := pu_ok h (.inl (by decide))
theorem sC_ok {s w : Nat} {v : Int32} (h : rOk M r F) : rOk M r (sC F s w v) := pu_ok h (.inl (by decide))
theorem r_tag : ((rv M r F).1 r).1 = 12 := by rw [rv_at0]
theorem rA1 (h : rOk M r F) : gA (rv M r F) r 12 1 = some (r + 1) := r_gA (i := 1) h (by decide) (by decide)
theorem rA2 (h : rOk M r F) : gA (rv M r F) r 12 2 = some (r + 2) := r_gA (i := 2) h (by decide) (by decide)
theorem rA3 (h : rOk M r F) : gA (rv M r F) r 12 3 = some (r + 3) := r_gA (i := 3) h (by decide) (by decide)
theorem rA14 (h : rOk M r F) : gA (rv M r F) r 12 14 = some (r + 4) := r_gA (i := 4) h (by decide) (by decide)
theorem rA15 (h : rOk M r F) : gA (rv M r F) r 12 15 = some (r + 5) := r_gA (i := 5) h (by decide) (by decide)
theorem rA17 (h : rOk M r F) : gA (rv M r F) r 12 17 = some (r + 6) := r_gA (i := 6) h (by decide) (by decide)
theorem rA19 (h : rOk M r F) : gA (rv M r F) r 12 19 = some (r + 7) := r_gA (i := 7) h (by decide) (by decide)
theorem rA20 (h : rOk M r F) : gA (rv M r F) r 12 20 = some (r + 8) := r_gA (i := 8) h (by decide) (by decide)
theorem rA21 (h : rOk M r F) : gA (rv M r F) r 12 21 = some (r + 9) := r_gA (i := 9) h (by decide) (by decide)
theorem r_now {n : Nat} (hn : n < 1952) : aI (rv M r F) (r + 1) 101 (Int32.ofNat n) = some (gt F 1 n) := r_aI (i := 1) (by decide) rfl hn
theorem r_nowS {n : Nat} {v : Int32} (h : rOk M r F) (hn : n < 1952) : sA (rv M r F) (r + 1) 101 (Int32.ofNat n) (.int v) = some (rv M r (pu F 1 n (.int v))) := r_sA (i := 1) _ h (by decide) rfl hn
theorem r_of {s w : Nat} (h : rOk M r F) (hs : s < 5) (hw : w < 378) : tX10_of r (Int32.ofNat s) (Int32.ofNat w) (rv M r F) = some (oS F s w) := by
  simp only [tX10_of, rA1 h, Option.bind_some, l62, l378, n_mul, n_add]
  rw [r_now (by omega)]; rfl
theorem r_sets {s w : Nat} {v : Int32} (h : rOk M r F) (hs : s < 5) (hw : w < 378) : tX10_sets r (Int32.ofNat s) (Int32.ofNat w) v (rv M r F) = some ((), rv M r (sS F s w v)) := by
  simp only [tX10_sets, rA1 h, Option.bind_some, l62, l378, n_mul, n_add]
  rw [r_nowS h (by omega)]; rfl
theorem r_ofCursor {s w : Nat} (h : rOk M r F) (hs : s < 6) (hw : w < 8) : tX10_ofCursor r (Int32.ofNat s) (Int32.ofNat w) (rv M r F) = some (oC F s w) := by
  simp only [tX10_ofCursor, rA1 h, Option.bind_some, l14, l8, n_mul, n_add]
  rw [r_now (by omega)]; rfl
theorem r_setsCursor {s w : Nat} {v : Int32} (h : rOk M r F) (hs : s < 6) (hw : w < 8) : tX10_setsCursor r (Int32.ofNat s) (Int32.ofNat w) v (rv M r F) = some ((), rv M r (sC F s w v)) := by
  simp only [tX10_setsCursor, rA1 h, Option.bind_some, l14, l8, n_mul, n_add]
  rw [r_nowS h (by omega)]; rfl
theorem r_ofEvent {s k w : Nat} (h : rOk M r F) (hs : s < 5) (hk : k < 60) (hw : w < 3) : tX10_ofEvent r (Int32.ofNat s) (Int32.ofNat k) (Int32.ofNat w) (rv M r F) = some (oS F s (198 + 3 * k + w)) := by
  simp only [tX10_ofEvent, r_tag, if_true, l198, l3, n_mul, n_add]
  rw [r_of h hs (by omega)]; rfl
/-- the event k of set s, and the row with it written -/
def sE (F : Nat → Nat → Value) (s k : Nat) (a b c : Int32) : Nat → Nat → Value := sS (sS (sS F s (198 + 3 * k) a) s (198 + 3 * k + 1) b) s (198 + 3 * k + 2) c
theorem r_setsEvent {s k : Nat} {a b c : Int32} (h : rOk M r F) (hs : s < 5) (hk : k < 60) : tX10_setsEvent r (Int32.ofNat s) (Int32.ofNat k) a b c (rv M r F) = some ((), rv M r (sE F s k a b c)) := by
  simp only [tX10_setsEvent, r_tag, if_true, l198, l3, l1, l2, n_mul, n_add]
  rw [r_sets h hs (by omega)]
  simp only [Option.bind_some, r_tag, if_true]
  rw [r_sets (sS_ok h) hs (by omega)]
  simp only [Option.bind_some, r_tag, if_true]
  rw [r_sets (sS_ok (sS_ok h)) hs (by omega)]
  rfl
/-- whether x is a member of s, by the two rows -/
def isM (F : Nat → Nat → Value) (s x : Nat) : Prop := ∃ p m, oS F s (70 + x) = Int32.ofNat p ∧ oS F s 0 = Int32.ofNat m ∧ p < m ∧ m ≤ 64 ∧ oS F s (6 + p) = Int32.ofNat x
theorem r_isMember {s x p m : Nat} (h : rOk M r F) (hs : s < 5) (hx : x < 64) (hp : oS F s (70 + x) = Int32.ofNat p) (hp64 : p < 64) (hm : oS F s 0 = Int32.ofNat m) (hm64 : m ≤ 64) :
    tX10_isMember r (Int32.ofNat s) (Int32.ofNat x) (rv M r F) = some (if p < m ∧ oS F s (6 + p) = Int32.ofNat x then 1 else 0) := by
  simp only [tX10_isMember, r_tag, if_true, l70, n_add, l0]
  rw [r_of h hs (by omega), r_of h hs (by omega)]
  simp only [Option.bind_some, hp, hm, l6, n_add]
  rw [r_of h hs (by omega)]
  simp only [Option.bind_some, n_le (show m < 2147483648 by omega) (show p < 2147483648 by omega)]
  by_cases c : m ≤ p
  · rw [if_pos c, if_neg (by omega)]
  · rw [if_neg c]
    by_cases d : oS F s (6 + p) = Int32.ofNat x
    · rw [if_pos d, if_pos ⟨by omega, d⟩]
    · rw [if_neg d, if_neg (fun g => d g.2)]
/-- a number written into a place: two cells and the cost -/
def sL (F : Nat → Nat → Value) (s x p : Nat) : Nat → Nat → Value := pu (sS (sS F s (6 + p) (Int32.ofNat x)) s (70 + x) (Int32.ofNat p)) 1 5 (.int (gt F 1 5 + 2))
theorem r_lay {s x p : Nat} (h : rOk M r F) (hs : s < 5) (hx : x < 64) (hp : p < 64) : tX10_lay r (Int32.ofNat s) (Int32.ofNat x) (Int32.ofNat p) (rv M r F) = some ((), rv M r (sL F s x p)) := by
  simp only [tX10_lay, r_tag, if_true, l70, l6, n_add]
  rw [r_sets h hs (by omega)]
  simp only [Option.bind_some, r_tag, if_true]
  rw [r_sets (sS_ok h) hs (by omega)]
  simp only [Option.bind_some, r_tag, if_true, rA1 (sS_ok (sS_ok h)), l5]
  rw [r_now (by omega), Option.bind_some, r_nowS (sS_ok (sS_ok h)) (by omega)]
  simp only [Option.bind_some, sL, sS, gt_pu, aS]
  rw [if_neg (by omega), if_neg (by omega)]
theorem r_fills {s hole fr y : Nat} (h : rOk M r F) (hs : s < 5) (hh : hole < 64) (hf : fr < 64) (hy : oS F s (6 + fr) = Int32.ofNat y) (hy64 : y < 64) : tX10_fills r (Int32.ofNat s) (Int32.ofNat hole) (Int32.ofNat fr) (rv M r F) = some ((), rv M r (if fr = hole then F else sL F s y hole)) := by
  unfold tX10_fills
  by_cases c : fr = hole
  · subst c; simp
  · simp only [n_eq (show fr < 2147483648 by omega) (show hole < 2147483648 by omega), c, if_false, r_tag, if_true, l6, n_add]
    rw [r_of h hs (by omega), Option.bind_some, hy, r_lay h hs hy64 hh]
    simp [Option.bind_some]
end
section
variable {M : vMe} {r : Nat} {F : Nat → Nat → Value}
/-- content out of its two halves -/
def two (hi lo : Int32) : Int64 := (hi.toInt64 <<< ((32 : Int32).toInt64 &&& 63)) ||| (lo.toInt64 &&& 4294967295)
/-- content behind an event -/
def bh (c : Int64) (x k : Int32) : Int64 := if k = 2 then 0 else if k = 0 then c ||| (1 <<< (x.toInt64 &&& 63)) else c &&& ((1 <<< (x.toInt64 &&& 63)) ^^^ ((-1)))
theorem r_base {s : Nat} (h : rOk M r F) (hs : s < 5) : tX10_base r (Int32.ofNat s) (rv M r F) = some (two (oS F s 5) (oS F s 4)) := by
  simp only [tX10_base, r_tag, if_true, l5, l4]
  rw [r_of h hs (by omega), r_of h hs (by omega)]; rfl
theorem r_behind {s k : Nat} {c : Int64} (h : rOk M r F) (hs : s < 5) (hk : k < 60) : tX10_behind r c (Int32.ofNat s) (Int32.ofNat k) (rv M r F) = some (bh c (oS F s (198 + 3 * k + 1)) (oS F s (198 + 3 * k + 2))) := by
  simp only [tX10_behind, r_tag, if_true]
  rw [l2, r_ofEvent h hs hk (by omega), l1, r_ofEvent h hs hk (by omega)]
  simp only [Option.bind_some, bh, l2]
  split
  · rfl
  · split <;> rfl
/-- the content at a stamp: from content c over the events k, k + 1, .. (j of them) -/
def cAt (E : Nat → Nat → Int32) (st : Int32) : Nat → Nat → Int64 → Int64
  | 0, _, c => c
  | j + 1, k, c => if st < E k 0 then c else cAt E st j (k + 1) (bh c (E k 1) (E k 2))
/-- the events of set s -/
def evs (F : Nat → Nat → Value) (s : Nat) : Nat → Nat → Int32 := fun k w => oS F s (198 + 3 * k + w)
theorem r_contentAt_L {s n : Nat} {st : Int32} (h : rOk M r F) (hs : s < 5) (hn : oS F s 3 = Int32.ofNat n) (hn60 : n ≤ 60) : ∀ (j f k : Nat) (c : Int64), k + j = n → j < f →
    tX10_contentAt_L9 r (Int32.ofNat s) st (rv M r F) f c (Int32.ofNat k) = some (cAt (evs F s) st j k c) := by
  intro j
  induction j with
  | zero =>
    intro f k c hk hf
    obtain ⟨f, rfl⟩ : ∃ g, f = g + 1 := ⟨f - 1, by omega⟩
    simp only [tX10_contentAt_L9, r_tag, if_true]
    rw [l3, r_of h hs (by omega), Option.bind_some, hn, if_pos ((n_le (by omega) (by omega)).mpr (by omega))]
    rfl
  | succ j ih =>
    intro f k c hk hf
    obtain ⟨f, rfl⟩ : ∃ g, f = g + 1 := ⟨f - 1, by omega⟩
    simp only [tX10_contentAt_L9, r_tag, if_true]
    rw [l3, r_of h hs (by omega), Option.bind_some, hn, if_neg (fun g => by have := (n_le (by omega) (by omega)).mp g; omega)]
    rw [l0, r_ofEvent h hs (by omega) (by omega), Option.bind_some, r_behind h hs (by omega), Option.bind_some, l1, n_add]
    simp only [cAt]
    by_cases c2 : st < oS F s (198 + 3 * k + 0)
    · rw [if_pos c2, if_pos (show st < evs F s k 0 from c2)]
    · rw [if_neg c2, if_neg (show ¬ st < evs F s k 0 from c2)]
      exact ih f (k + 1) _ (by omega) (by omega)
theorem r_contentAt {s n : Nat} {st : Int32} (h : rOk M r F) (hs : s < 5) (hn : oS F s 3 = Int32.ofNat n) (hn60 : n ≤ 60) :
    tX10_contentAt r (Int32.ofNat s) st (rv M r F) = some (cAt (evs F s) st n 0 (two (oS F s 5) (oS F s 4))) := by
  simp only [tX10_contentAt, r_tag, if_true]
  rw [r_base h hs, Option.bind_some, l0, r_contentAt_L h hs hn hn60 n vF 0 _ (by omega) (by unfold vF; omega)]
  rfl
/-- event 0 forgotten: the events k, k + 1, .. (j of them) take over what stands behind each -/
theorem r_forgets_L {s n : Nat} (hs : s < 5) (hn60 : n < 60) : ∀ (j f k : Nat) (F : Nat → Nat → Value), rOk M r F → k + j = n → j < f →
    ∃ F1, tX10_forgets_L65 r (Int32.ofNat s) (Int32.ofNat n) f (Int32.ofNat k) (rv M r F) = some ((), rv M r F1) ∧ rOk M r F1 ∧
      ∀ i l, gt F1 i l = if i = 1 ∧ aS s (198 + 3 * k) ≤ l ∧ l < aS s (198 + 3 * n) then gt F 1 (l + 3) else gt F i l := by
  intro j
  induction j with
  | zero =>
    intro f k F h hk hf
    obtain ⟨f, rfl⟩ : ∃ g, f = g + 1 := ⟨f - 1, by omega⟩
    refine ⟨F, ?_, h, fun i l => ?_⟩
    · simp only [tX10_forgets_L65]
      rw [if_pos ((n_le (by omega) (by omega)).mpr (by omega))]
    · rw [if_neg (by unfold aS; omega)]
  | succ j ih =>
    intro f k F h hk hf
    obtain ⟨f, rfl⟩ : ∃ g, f = g + 1 := ⟨f - 1, by omega⟩
    obtain ⟨F1, e1, e2, e3⟩ := ih f (k + 1) (sE F s k (oS F s (198 + 3 * (k + 1) + 0)) (oS F s (198 + 3 * (k + 1) + 1)) (oS F s (198 + 3 * (k + 1) + 2))) (sS_ok (sS_ok (sS_ok h))) (by omega) (by omega)
    refine ⟨F1, ?_, e2, fun i l => ?_⟩
    · simp only [tX10_forgets_L65, r_tag, if_true]
      rw [if_neg (fun g => by have := (n_le (by omega) (by omega)).mp g; omega), l1, n_add, l0, r_ofEvent h hs (by omega) (by omega), l2]
      rw [r_ofEvent h hs (by omega) (by omega), r_ofEvent h hs (by omega) (by omega)]
      simp only [Option.bind_some]
      rw [r_setsEvent h hs (by omega)]
      simp only [Option.bind_some]
      exact e1
    · rw [e3 i l]
      simp only [sE, sS, gt_pu, oS, aS]
      by_cases hi : i = 1
      · subst hi
        simp only [true_and]
        by_cases c : 62 + 378 * s + (198 + 3 * (k + 1)) ≤ l ∧ l < 62 + 378 * s + (198 + 3 * n)
        · rw [if_pos c, if_neg (by omega), if_neg (by omega), if_neg (by omega), if_pos (by omega)]
        · rw [if_neg c]
          by_cases c2 : l = 62 + 378 * s + (198 + 3 * k + 2)
          · rw [if_pos c2, if_pos (by omega), c2]; congr 1
          · rw [if_neg c2]
            by_cases c1 : l = 62 + 378 * s + (198 + 3 * k + 1)
            · rw [if_pos c1, if_pos (by omega), c1]; congr 1
            · rw [if_neg c1]
              by_cases c0 : l = 62 + 378 * s + (198 + 3 * k)
              · rw [if_pos c0, if_pos (by omega), c0]; congr 1
              · rw [if_neg c0, if_neg (by omega)]
      · simp [hi]
end
section
variable {M : vMe} {r : Nat} {F : Nat → Nat → Value}
theorem two_split (c : Int64) : two ((c >>> ((32 : Int32).toInt64 &&& 63)).toInt32) c.toInt32 = c := by
  unfold two
  rw [show ((32 : Int32).toInt64 &&& 63) = 32 from rfl]
  apply Int64.toBitVec_inj.mp
  simp only [Int64.toBitVec_or, Int64.toBitVec_and, Int64.toBitVec_shiftLeft, Int64.toBitVec_shiftRight, Int32.toBitVec_toInt64, Int64.toBitVec_toInt32]
  rw [show ((32 : Int64).toBitVec.smod 64) = 32#64 from by decide, show (4294967295 : Int64).toBitVec = 4294967295#64 from rfl]
  apply BitVec.eq_of_getLsbD_eq
  intro i hi
  have hm : (4294967295#64).getLsbD i = decide (i < 32) := by
    rw [show (4294967295#64) = BitVec.setWidth 64 (BitVec.allOnes 32) from by decide]
    rw [BitVec.getLsbD_setWidth, BitVec.getLsbD_allOnes]
    simp; omega
  have hs : ∀ y : BitVec 64, y.signExtend 32 = y.setWidth 32 := fun y => BitVec.signExtend_eq_setWidth_of_le y (by decide)
  simp only [BitVec.getLsbD_or, BitVec.getLsbD_and, hm, hs]
  rw [BitVec.getLsbD_signExtend]
  by_cases c1 : i < 32
  · rw [if_pos c1, BitVec.getLsbD_setWidth]
    simp only [hi, c1, decide_true, Bool.true_and, Bool.and_true]
    rw [show ∀ y : BitVec 64, (y <<< (32#64)).getLsbD i = false from fun y => by
      rw [BitVec.shiftLeft_eq', BitVec.getLsbD_shiftLeft]; simp [c1]]
    rfl
  · have h32 : i - 32 < 32 := by omega
    have g : 32 + (i - 32) = i := by omega
    rw [if_neg c1, BitVec.shiftLeft_eq', BitVec.getLsbD_shiftLeft, show (32#64).toNat = 32 from rfl, BitVec.getLsbD_signExtend, if_pos h32, BitVec.getLsbD_setWidth]
    rw [show ∀ y : BitVec 64, (y.sshiftRight' (32#64)).getLsbD (i - 32) = y.getLsbD i from fun y => by
      show (y.sshiftRight 32).getLsbD (i - 32) = y.getLsbD i
      rw [BitVec.getLsbD_sshiftRight]; simp [g, hi]; omega]
    simp [c1, hi, h32]
    omega
/-- what forgetting the first of n events leaves -/
def fgF (F F1 : Nat → Nat → Value) (s n : Nat) : Prop :=
  ∀ i l, gt F1 i l = if i = 1 ∧ l = aS s 4 then (bh (two (oS F s 5) (oS F s 4)) (oS F s 199) (oS F s 200)).toInt32
    else if i = 1 ∧ l = aS s 5 then ((bh (two (oS F s 5) (oS F s 4)) (oS F s 199) (oS F s 200)) >>> ((32 : Int32).toInt64 &&& 63)).toInt32
    else if i = 1 ∧ l = aS s 2 then oS F s 198
    else if i = 1 ∧ l = aS s 3 then Int32.ofNat (n - 1)
    else if i = 1 ∧ aS s 198 ≤ l ∧ l < aS s (198 + 3 * (n - 1)) then gt F 1 (l + 3) else gt F i l
theorem oS_sS (F : Nat → Nat → Value) (s w s' w' : Nat) (v : Int32) : oS (sS F s w v) s' w' = if aS s' w' = aS s w then v else oS F s' w' := by
  simp [oS, sS, gt_pu]
theorem r_forgets {s n : Nat} (h : rOk M r F) (hs : s < 5) (hn : oS F s 3 = Int32.ofNat n) (hn60 : n ≤ 60) (h1 : 1 ≤ n) :
    ∃ F1, tX10_forgets r (Int32.ofNat s) (rv M r F) = some ((), rv M r F1) ∧ rOk M r F1 ∧ fgF F F1 s n := by
  obtain ⟨c, hc⟩ : ∃ c, c = bh (two (oS F s 5) (oS F s 4)) (oS F s (198 + 3 * 0 + 1)) (oS F s (198 + 3 * 0 + 2)) := ⟨_, rfl⟩
  obtain ⟨G, hG⟩ : ∃ G, G = sS (sS (sS (sS F s 4 c.toInt32) s 5 (c >>> ((32 : Int32).toInt64 &&& 63)).toInt32) s 2 (oS F s 198)) s 3 (Int32.ofNat (n - 1)) := ⟨_, rfl⟩
  have hGo : rOk M r G := hG ▸ sS_ok (sS_ok (sS_ok (sS_ok h)))
  obtain ⟨F1, e1, e2, e3⟩ := r_forgets_L (M := M) (r := r) (n := n - 1) hs (by omega) (n - 1) vF 0 G hGo (by omega) (by unfold vF; omega)
  refine ⟨F1, ?_, e2, ?_⟩
  · have a1 : oS (sS (sS F s 4 c.toInt32) s 5 (c >>> ((32 : Int32).toInt64 &&& 63)).toInt32) s (198 + 3 * 0 + 0) = oS F s 198 := by
      rw [oS_sS, if_neg (by unfold aS; omega), oS_sS, if_neg (by unfold aS; omega)]
    have a2 : oS (sS (sS (sS F s 4 c.toInt32) s 5 (c >>> ((32 : Int32).toInt64 &&& 63)).toInt32) s 2 (oS F s 198)) s 3 = Int32.ofNat n := by
      rw [oS_sS, if_neg (by unfold aS; omega), oS_sS, if_neg (by unfold aS; omega), oS_sS, if_neg (by unfold aS; omega), hn]
    simp only [tX10_forgets, r_tag, if_true]
    rw [r_base h hs, Option.bind_some]
    rw [l0, r_behind h hs (by omega), Option.bind_some, ← hc, l4, r_sets h hs (by omega)]
    simp only [Option.bind_some, r_tag, if_true]
    rw [l5, r_sets (sS_ok h) hs (by omega)]
    simp only [Option.bind_some, r_tag, if_true]
    rw [r_ofEvent (sS_ok (sS_ok h)) hs (by omega) (by omega), Option.bind_some, a1, l2, r_sets (sS_ok (sS_ok h)) hs (by omega)]
    simp only [Option.bind_some, r_tag, if_true]
    rw [l3, r_of (sS_ok (sS_ok (sS_ok h))) hs (by omega), Option.bind_some, a2, l1, n_sub h1, r_sets (sS_ok (sS_ok (sS_ok h))) hs (by omega)]
    simp only [Option.bind_some]
    rw [← hG, e1]; rfl
  · intro i l
    rw [e3 i l, hG]
    have hc' : c = bh (two (oS F s 5) (oS F s 4)) (oS F s 199) (oS F s 200) := hc
    rw [← hc']
    simp only [sS, gt_pu, aS]
    by_cases hi : i = 1
    · subst hi
      simp only [true_and]
      by_cases b : 62 + 378 * s + (198 + 3 * 0) ≤ l ∧ l < 62 + 378 * s + (198 + 3 * (n - 1))
      · rw [if_pos b, if_neg (by omega), if_neg (by omega), if_neg (by omega), if_neg (by omega), if_neg (by omega), if_neg (by omega), if_neg (by omega), if_neg (by omega), if_pos (by omega)]
      · rw [if_neg b]
        by_cases b3 : l = 62 + 378 * s + 3
        · rw [if_pos b3, if_neg (by omega), if_neg (by omega), if_neg (by omega), if_pos b3]
        · rw [if_neg b3]
          by_cases b2 : l = 62 + 378 * s + 2
          · rw [if_pos b2, if_neg (by omega), if_neg (by omega), if_pos b2]
          · rw [if_neg b2]
            by_cases b5 : l = 62 + 378 * s + 5
            · rw [if_pos b5, if_neg (by omega), if_pos b5]
            · rw [if_neg b5]
              by_cases b4 : l = 62 + 378 * s + 4
              · rw [if_pos b4, if_pos b4]
              · rw [if_neg b4, if_neg b4, if_neg b5, if_neg b2, if_neg b3, if_neg (by omega)]
    · simp [hi]
end
section
variable {M : vMe} {r : Nat} {F : Nat → Nat → Value}
/-- an event (x, kind) noted in set s, which has n events of at most hz -/
def hapF (F F1 : Nat → Nat → Value) (s n hz : Nat) (x kind : Int32) : Prop :=
  ∃ G n', ((n < hz ∧ n' = n ∧ G = pu F 1 3 (.int (gt F 1 3 + 1))) ∨ (n = hz ∧ n' = n - 1 ∧ fgF (pu F 1 3 (.int (gt F 1 3 + 1))) G s n)) ∧
    F1 = sS (sE G s n' (gt F 1 3 + 1) x kind) s 3 (Int32.ofNat (n' + 1))
theorem sE_ok {s k : Nat} {a b c : Int32} (h : rOk M r F) : rOk M r (sE F s k a b c) := sS_ok (sS_ok (sS_ok h))
theorem gt_S (F : Nat → Nat → Value) (s w i l : Nat) (v : Int32) : gt (sS F s w v) i l = if i = 1 ∧ l = aS s w then v else gt F i l := gt_pu _ _ _ _ _ _
theorem r_happens_J {G : Nat → Nat → Value} {s n : Nat} {x kind : Int32} (hG : rOk M r G) (hs : s < 5) (hn : oS G s 3 = Int32.ofNat n) (hn60 : n < 60) :
    tX10_happens_J30 r (Int32.ofNat s) x kind (rv M r G) = some ((), rv M r (sS (sE G s n (gt G 1 3) x kind) s 3 (Int32.ofNat (n + 1)))) := by
  simp only [tX10_happens_J30, r_tag, if_true]
  rw [l3, r_of hG hs (by omega), Option.bind_some, hn, rA1 hG, Option.bind_some, r_now (by omega), Option.bind_some, r_setsEvent hG hs hn60]
  simp only [Option.bind_some, r_tag, if_true]
  rw [l1, n_add, r_sets (sE_ok hG) hs (by omega)]
  rfl
theorem r_happens {s n hz : Nat} {x kind : Int32} (h : rOk M r F) (hs : s < 5) (hn : oS F s 3 = Int32.ofNat n) (hh : gt F 1 2 = Int32.ofNat hz) (hnh : n ≤ hz) (hz60 : hz ≤ 60) (hz1 : 1 ≤ hz) :
    ∃ F1, tX10_happens r (Int32.ofNat s) x kind (rv M r F) = some ((), rv M r F1) ∧ rOk M r F1 ∧ hapF F F1 s n hz x kind := by
  obtain ⟨G0, hG0⟩ : ∃ G0, G0 = pu F 1 3 (.int (gt F 1 3 + 1)) := ⟨_, rfl⟩
  have h0 : rOk M r G0 := hG0 ▸ pu_ok h (.inl (by decide))
  have e1 : oS G0 s 3 = Int32.ofNat n := by
    rw [hG0, oS, gt_pu, if_neg (by unfold aS; omega)]; exact hn
  have e2 : gt G0 1 2 = Int32.ofNat hz := by rw [hG0, gt_pu, if_neg (by omega), hh]
  have e3 : gt G0 1 3 = gt F 1 3 + 1 := by rw [hG0, gt_pu, if_pos ⟨rfl, rfl⟩]
  have st : tX10_happens r (Int32.ofNat s) x kind (rv M r F) = (if Int32.ofNat n = Int32.ofNat hz then ((tX10_forgets r (Int32.ofNat s) (rv M r G0)).bind fun z8 => tX10_happens_J30 r (Int32.ofNat s) x kind z8.2) else tX10_happens_J30 r (Int32.ofNat s) x kind (rv M r G0)) := by
    simp only [tX10_happens, r_tag, if_true]
    rw [rA1 h, Option.bind_some, l3, r_now (by omega), Option.bind_some, r_nowS h (by omega), Option.bind_some, ← hG0]
    simp only [r_tag, if_true]
    rw [r_of h0 hs (by omega), Option.bind_some, e1, rA1 h0, Option.bind_some, l2, r_now (by omega), Option.bind_some, e2]
  by_cases c : n = hz
  · obtain ⟨G, g1, g2, g3⟩ := r_forgets h0 hs e1 (by omega) (by omega)
    have k1 : oS G s 3 = Int32.ofNat (n - 1) := by
      rw [oS, g3, if_neg (by unfold aS; omega), if_neg (by unfold aS; omega), if_neg (by unfold aS; omega), if_pos ⟨rfl, rfl⟩]
    have k2 : gt G 1 3 = gt F 1 3 + 1 := by
      rw [g3, if_neg (by unfold aS; omega), if_neg (by unfold aS; omega), if_neg (by unfold aS; omega), if_neg (by unfold aS; omega), if_neg (by unfold aS; omega), e3]
    refine ⟨_, ?_, sS_ok (sE_ok g2), G, n - 1, .inr ⟨c, rfl, hG0 ▸ g3⟩, rfl⟩
    rw [st, if_pos ((n_eq (by omega) (by omega)).mpr c), g1, Option.bind_some, r_happens_J g2 hs k1 (by omega), k2]
  · refine ⟨_, ?_, sS_ok (sE_ok h0), G0, n, .inl ⟨by omega, rfl, hG0⟩, rfl⟩
    rw [st, if_neg (fun g => c ((n_eq (by omega) (by omega)).mp g)), r_happens_J h0 hs e1 (by omega), e3]
end
section
variable {M : vMe} {r : Nat} {F : Nat → Nat → Value}
/-- cursor c is open on set s -/
abbrev onF (F : Nat → Nat → Value) (c s : Nat) : Prop := oC F c 0 = 1 ∧ oC F c 3 = 1 ∧ oC F c 1 = Int32.ofNat s
theorem oC_sS (F : Nat → Nat → Value) (s w c w' : Nat) (v : Int32) (h : aC c w' < 62) : oC (sS F s w v) c w' = oC F c w' := by
  rw [oC, gt_S, if_neg (by unfold aS; omega)]; rfl
theorem oC_sC (F : Nat → Nat → Value) (s w c w' : Nat) (v : Int32) : oC (sC F s w v) c w' = if aC c w' = aC s w then v else oC F c w' := by
  simp [oC, sC, gt_pu]
theorem r_isOn {c s : Nat} (h : rOk M r F) (hc : c < 6) : tX10_isOn r (Int32.ofNat c) (Int32.ofNat s) (rv M r F) = some (if onF F c s then 1 else 0) := by
  simp only [tX10_isOn, r_tag, if_true]
  rw [l0, l3, r_ofCursor h hc (by omega), r_ofCursor h hc (by omega), Option.bind_some, Option.bind_some]
  rw [show tX10_ofCursor r (Int32.ofNat c) 1 (rv M r F) = some (oC F c 1) from r_ofCursor (w := 1) h hc (by omega), Option.bind_some]
  by_cases a : oC F c 0 = 1
  · rw [if_pos a]
    by_cases b : oC F c 3 = 1
    · rw [if_pos b]
      by_cases d : oC F c 1 = Int32.ofNat s
      · rw [if_pos d, if_pos ⟨a, b, d⟩]
      · rw [if_neg d, if_neg (fun g => d g.2.2)]
    · rw [if_neg b, if_neg (fun g => b g.2.1)]
  · rw [if_neg a, if_neg (fun g => a g.1)]
theorem r_clears_L {s : Nat} : ∀ (j f k : Nat) (F : Nat → Nat → Value), rOk M r F → k + j = 6 → j < f →
    ∃ F1, tX10_clears_L49 r (Int32.ofNat s) f (Int32.ofNat k) (rv M r F) = some ((), rv M r F1) ∧ rOk M r F1 ∧
      (∀ c, c < 6 → oC F1 c 3 = if k ≤ c ∧ onF F c s then 0 else oC F c 3) ∧ ∀ i l, (i ≠ 1 ∨ ∀ c, c < 6 → l ≠ aC c 3) → gt F1 i l = gt F i l := by
  intro j
  induction j with
  | zero =>
    intro f k F h hk hf
    obtain ⟨f, rfl⟩ : ∃ g, f = g + 1 := ⟨f - 1, by omega⟩
    refine ⟨F, ?_, h, fun c hc => ?_, fun _ _ _ => rfl⟩
    · simp only [tX10_clears_L49]
      rw [l6, if_pos ((n_le (by omega) (by omega)).mpr (by omega))]
    · rw [if_neg (by omega)]
  | succ j ih =>
    intro f k F h hk hf
    obtain ⟨f, rfl⟩ : ∃ g, f = g + 1 := ⟨f - 1, by omega⟩
    have st : tX10_clears_L49 r (Int32.ofNat s) (f + 1) (Int32.ofNat k) (rv M r F) = tX10_clears_L49 r (Int32.ofNat s) f (Int32.ofNat (k + 1)) (rv M r (if onF F k s then sC F k 3 0 else F)) := by
      simp only [tX10_clears_L49, r_tag, if_true]
      rw [if_neg (fun g => by rw [l6] at g; have := (n_le (by omega) (by omega)).mp g; omega), r_isOn h (by omega), Option.bind_some]
      by_cases c : onF F k s
      · rw [if_pos c, if_pos c, if_neg (by decide)]
        rw [l3, l0, r_setsCursor h (by omega) (by omega), Option.bind_some]
        simp only [tX10_clears_J71_49, l1, n_add]
      · rw [if_neg c, if_neg c, if_pos rfl]
        simp only [tX10_clears_J71_49, l1, n_add]
    by_cases c : onF F k s
    · rw [if_pos c] at st
      obtain ⟨F1, e1, e2, e3, e4⟩ := ih f (k + 1) (sC F k 3 0) (sC_ok h) (by omega) (by omega)
      refine ⟨F1, by rw [st, e1], e2, fun d hd => ?_, fun i l hl => ?_⟩
      · rw [e3 d hd]
        by_cases hd2 : d = k
        · subst hd2
          rw [if_neg (by omega), if_pos ⟨Nat.le_refl _, c⟩, oC_sC, if_pos rfl]
        · have hon : onF (sC F k 3 0) d s ↔ onF F d s := by
            unfold onF
            rw [oC_sC, if_neg (by unfold aC; omega), oC_sC, if_neg (by unfold aC; omega), oC_sC, if_neg (by unfold aC; omega)]
          have hv : oC (sC F k 3 0) d 3 = oC F d 3 := by rw [oC_sC, if_neg (by unfold aC; omega)]
          by_cases g : k + 1 ≤ d ∧ onF F d s
          · rw [if_pos ⟨g.1, hon.mpr g.2⟩, if_pos ⟨by omega, g.2⟩]
          · rw [if_neg (fun q => g ⟨q.1, hon.mp q.2⟩), if_neg (fun q => g ⟨by omega, q.2⟩), hv]
      · rw [e4 i l hl, sC, gt_pu, if_neg]
        rintro ⟨q1, q2⟩
        rcases hl with hl | hl
        · exact hl q1
        · exact hl k (by omega) q2
    · rw [if_neg c] at st
      obtain ⟨F1, e1, e2, e3, e4⟩ := ih f (k + 1) F h (by omega) (by omega)
      refine ⟨F1, by rw [st, e1], e2, fun d hd => ?_, e4⟩
      rw [e3 d hd]
      by_cases hd2 : d = k
      · subst hd2
        rw [if_neg (by omega), if_neg (fun g => c g.2)]
      · by_cases g : k + 1 ≤ d ∧ onF F d s
        · rw [if_pos g, if_pos ⟨by omega, g.2⟩]
        · rw [if_neg g, if_neg (fun q => g ⟨by omega, q.2⟩)]
end
