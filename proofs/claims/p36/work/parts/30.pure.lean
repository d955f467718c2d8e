section
/-! the ghost of a reference: a pure record of what the class's state holds; no cell of it is anywhere -/
def rv (M : vMe) (_ : Nat) (_ : Nat → Nat → Value) : vMe := M
theorem rv_out {M : vMe} {r q : Nat} {F : Nat → Nat → Value} (_ : ¬ (r ≤ q ∧ q < r + 0)) : (rv M r F).1 q = M.1 q := rfl
theorem rv_2 (M : vMe) (r : Nat) (F : Nat → Nat → Value) : (rv M r F).2 = M.2 := rfl
end
section
/-! numbers -/
theorem n_add (a b : Nat) : Int32.ofNat a + Int32.ofNat b = Int32.ofNat (a + b) := (Int32.ofNat_add a b).symm
theorem n_mul (a b : Nat) : Int32.ofNat a * Int32.ofNat b = Int32.ofNat (a * b) := (Int32.ofNat_mul a b).symm
theorem n_toInt {a : Nat} (h : a < 2147483648) : (Int32.ofNat a).toInt = a := Int32.toInt_ofNat_of_lt h
theorem n_clamp {a : Nat} (h : a < 2147483648) : (Int32.ofNat a).toNatClampNeg = a := by
  rw [← Int32.toNat_toInt, n_toInt h]; rfl
theorem n_sub {a b : Nat} (h : b ≤ a) : Int32.ofNat a - Int32.ofNat b = Int32.ofNat (a - b) := by
  have h1 : Int32.ofNat a = Int32.ofNat (a - b) + Int32.ofNat b := by rw [n_add, Nat.sub_add_cancel h]
  rw [h1, Int32.add_sub_cancel]
theorem n_lt {a b : Nat} (ha : a < 2147483648) (hb : b < 2147483648) : (Int32.ofNat a < Int32.ofNat b) ↔ a < b := by
  rw [Int32.lt_iff_toInt_lt, n_toInt ha, n_toInt hb]; omega
theorem n_le {a b : Nat} (ha : a < 2147483648) (hb : b < 2147483648) : (Int32.ofNat a ≤ Int32.ofNat b) ↔ a ≤ b := by
  rw [Int32.le_iff_toInt_le, n_toInt ha, n_toInt hb]; omega
theorem n_eq {a b : Nat} (ha : a < 2147483648) (hb : b < 2147483648) : (Int32.ofNat a = Int32.ofNat b) ↔ a = b := by
  constructor
  · intro h
    have := congrArg Int32.toInt h
    rw [n_toInt ha, n_toInt hb] at this; omega
  · rintro rfl; rfl
theorem n_neg {a : Nat} (ha : a < 2147483648) : ¬ Int32.ofNat a < 0 := by
  rw [show (0 : Int32) = Int32.ofNat 0 from rfl, n_lt ha (by omega)]; omega
/-- a number that is not negative -/
theorem n_of {x : Int32} {n : Nat} (h0 : ¬ x < 0) (h1 : x < Int32.ofNat n) (hn : n < 2147483648) : ∃ k, k < n ∧ x = Int32.ofNat k := by
  have g0 : 0 ≤ x.toInt := by
    rw [Int32.lt_iff_toInt_lt] at h0
    have : (0 : Int32).toInt = 0 := rfl
    omega
  have g1 : x.toInt < n := by
    rw [Int32.lt_iff_toInt_lt, n_toInt hn] at h1; omega
  refine ⟨x.toInt.toNat, by omega, ?_⟩
  apply Int32.toInt_inj.mp
  rw [n_toInt (by omega)]; omega
/-! the reference's cells as one overlay: object r, and its nine rows behind it -/
def rTag (i : Nat) : Nat := match i with
  | 0 => 12
  | 2 => 104
  | 3 => 102
  | 5 => 104
  | 9 => 103
  | _ => 101
def rLen (i : Nat) : Nat := match i with
  | 0 => 0
  | 1 => 1952
  | 2 => 5
  | 3 => 600
  | 4 => 1952
  | 5 => 5
  | 6 => 6
  | 7 => 19520
  | 8 => 3904
  | _ => 2
/-- the field that names row i -/
def rFld (i : Nat) : Nat := match i with
  | 1 => 1
  | 2 => 2
  | 3 => 3
  | 4 => 14
  | 5 => 15
  | 6 => 17
  | 7 => 19
  | 8 => 20
  | _ => 21
def rOk (M : vMe) (r : Nat) (F : Nat → Nat → Value) : Prop := M.2.2.2 ≤ r ∧ ∀ i, 0 < i → i < 10 → F 0 (rFld i) = .ref (r + i)
def gt (F : Nat → Nat → Value) (i k : Nat) : Int32 := vI (F i k)
def pu (F : Nat → Nat → Value) (i k : Nat) (v : Value) : Nat → Nat → Value := fun j => if j = i then updV (F i) k v else F j
theorem pu_ok {M : vMe} {r i k : Nat} {F : Nat → Nat → Value} {v : Value} (h : rOk M r F) (hi : i ≠ 0 ∨ ∀ j, rFld j ≠ k) : rOk M r (pu F i k v) := by
  refine ⟨h.1, fun j h1 h2 => ?_⟩
  rcases hi with hi | hi
  · rw [← h.2 j h1 h2]; simp [pu, Ne.symm hi]
  · rw [← h.2 j h1 h2]
    by_cases h0 : 0 = i
    · subst h0; simp [pu, updV, hi j]
    · simp [pu, h0]
theorem gt_pu (F : Nat → Nat → Value) (i k j l : Nat) (x : Int32) : gt (pu F i k (.int x)) j l = if j = i ∧ l = k then x else gt F j l := by
  unfold gt pu updV
  by_cases h : j = i <;> by_cases g : l = k <;> simp [h, g, vI]
end
section
theorem l0 : (0 : Int32) = Int32.ofNat 0 := rfl
theorem l1 : (1 : Int32) = Int32.ofNat 1 := rfl
theorem l2 : (2 : Int32) = Int32.ofNat 2 := rfl
theorem l3 : (3 : Int32) = Int32.ofNat 3 := rfl
theorem l4 : (4 : Int32) = Int32.ofNat 4 := rfl
theorem l5 : (5 : Int32) = Int32.ofNat 5 := rfl
theorem l6 : (6 : Int32) = Int32.ofNat 6 := rfl
theorem l7 : (7 : Int32) = Int32.ofNat 7 := rfl
theorem l8 : (8 : Int32) = Int32.ofNat 8 := rfl
theorem l14 : (14 : Int32) = Int32.ofNat 14 := rfl
theorem l62 : (62 : Int32) = Int32.ofNat 62 := rfl
theorem l70 : (70 : Int32) = Int32.ofNat 70 := rfl
theorem l134 : (134 : Int32) = Int32.ofNat 134 := rfl
theorem l198 : (198 : Int32) = Int32.ofNat 198 := rfl
theorem l378 : (378 : Int32) = Int32.ofNat 378 := rfl
variable {M : vMe} {r : Nat} {F : Nat → Nat → Value}
def aS (s w : Nat) : Nat := 62 + 378 * s + w
def aC (c w : Nat) : Nat := 14 + 8 * c + w
/-- fields and cells of the reference's state -/
def oS (F : Nat → Nat → Value) (s w : Nat) : Int32 := gt F 1 (aS s w)
def oC (F : Nat → Nat → Value) (c w : Nat) : Int32 := gt F 1 (aC c w)
def sS (F : Nat → Nat → Value) (s w : Nat) (v : Int32) : Nat → Nat → Value := pu F 1 (aS s w) (.int v)
def sC (F : Nat → Nat → Value) (c w : Nat) (v : Int32) : Nat → Nat → Value := pu F 1 (aC c w) (.int v)
theorem sS_ok {s w : Nat} {v : Int32} (h : rOk M r F) : rOk M r (sS F s w v) := pu_ok h (.inl (by decide))
theorem sC_ok {s w : Nat} {v : Int32} (h : rOk M r F) : rOk M r (sC F s w v) := pu_ok h (.inl (by decide))
/-- the event k of set s, and the row with it written -/
def sE (F : Nat → Nat → Value) (s k : Nat) (a b c : Int32) : Nat → Nat → Value := sS (sS (sS F s (198 + 3 * k) a) s (198 + 3 * k + 1) b) s (198 + 3 * k + 2) c
/-- whether x is a member of s, by the two rows -/
def isM (F : Nat → Nat → Value) (s x : Nat) : Prop := ∃ p m, oS F s (70 + x) = Int32.ofNat p ∧ oS F s 0 = Int32.ofNat m ∧ p < m ∧ m ≤ 64 ∧ oS F s (6 + p) = Int32.ofNat x
/-- a number written into a place: two cells and the cost -/
def sL (F : Nat → Nat → Value) (s x p : Nat) : Nat → Nat → Value := pu (sS (sS F s (6 + p) (Int32.ofNat x)) s (70 + x) (Int32.ofNat p)) 1 5 (.int (gt F 1 5 + 2))
/-- rows other than the state and the order are the same -/
def kF (F F1 : Nat → Nat → Value) : Prop := ∀ i, i ≠ 1 → i ≠ 6 → F1 i = F i
theorem kF.rf : kF F F := fun _ _ _ => rfl
theorem kF.tr {F1 F2 : Nat → Nat → Value} (h : kF F F1) (g : kF F1 F2) : kF F F2 := fun i h1 h2 => (g i h1 h2).trans (h i h1 h2)
theorem kF.pu1 {F1 : Nat → Nat → Value} {k : Nat} {v : Value} (h : kF F F1) : kF F (pu F1 1 k v) := fun i h1 h2 => by
  rw [← h i h1 h2]; simp [pu, h1]
theorem kF.pu6 {F1 : Nat → Nat → Value} {k : Nat} {v : Value} (h : kF F F1) : kF F (pu F1 6 k v) := fun i h1 h2 => by
  rw [← h i h1 h2]; simp [pu, h2]
theorem kF.S {F1 : Nat → Nat → Value} {s w : Nat} {v : Int32} (h : kF F F1) : kF F (sS F1 s w v) := h.pu1
theorem kF.C {F1 : Nat → Nat → Value} {s w : Nat} {v : Int32} (h : kF F F1) : kF F (sC F1 s w v) := h.pu1
theorem kF.L {F1 : Nat → Nat → Value} {s x p : Nat} (h : kF F F1) : kF F (sL F1 s x p) := h.S.S.pu1
theorem kF.E {F1 : Nat → Nat → Value} {s k : Nat} {a b c : Int32} (h : kF F F1) : kF F (sE F1 s k a b c) := h.S.S.S
end
section
variable {M : vMe} {r : Nat} {F : Nat → Nat → Value}
/-- content out of its two halves -/
def two (hi lo : Int32) : Int64 := (hi.toInt64 <<< ((32 : Int32).toInt64 &&& 63)) ||| (lo.toInt64 &&& 4294967295)
/-- content behind an event -/
def bh (c : Int64) (x k : Int32) : Int64 := if k = 2 then 0 else if k = 0 then c ||| (1 <<< (x.toInt64 &&& 63)) else c &&& ((1 <<< (x.toInt64 &&& 63)) ^^^ ((-1)))
/-- the content at a stamp: from content c over the events k, k + 1, .. (j of them) -/
def cAt (E : Nat → Nat → Int32) (st : Int32) : Nat → Nat → Int64 → Int64
  | 0, _, c => c
  | j + 1, k, c => if st < E k 0 then c else cAt E st j (k + 1) (bh c (E k 1) (E k 2))
/-- the events of set s -/
def evs (F : Nat → Nat → Value) (s : Nat) : Nat → Nat → Int32 := fun k w => oS F s (198 + 3 * k + w)
end
section
variable {M : vMe} {r : Nat} {F : Nat → Nat → Value}
theorem two_split (c : Int64) : two ((c >>> ((32 : Int32).toInt64 &&& 63)).toInt32) c.toInt32 = c := by
  unfold two
  rw [show ((32 : Int32).toInt64 &&& 63) = 32 from rfl]
  apply Int64.toBitVec_inj.mp
  simp only [Int64.toBitVec_or, Int64.toBitVec_and, Int64.toBitVec_shiftLeft, Int64.toBitVec_shiftRight, Int32.toBitVec_toInt64, Int64.toBitVec_toInt32]
  rw [show ((32 : Int64).toBitVec.smod 64) = 32#64 from by decide, show (4294967295 : Int64).toBitVec = 4294967295#64 from rfl]
  apply BitVec.eq_of_getLsbD_eq
  intro i hi
  have hm : (4294967295#64).getLsbD i = decide (i < 32) := by
    rw [show (4294967295#64) = BitVec.setWidth 64 (BitVec.allOnes 32) from by decide]
    rw [BitVec.getLsbD_setWidth, BitVec.getLsbD_allOnes]
    simp; omega
  have hs : ∀ y : BitVec 64, y.signExtend 32 = y.setWidth 32 := fun y => BitVec.signExtend_eq_setWidth_of_le y (by decide)
  simp only [BitVec.getLsbD_or, BitVec.getLsbD_and, hm, hs]
  rw [BitVec.getLsbD_signExtend]
  by_cases c1 : i < 32
  · rw [if_pos c1, BitVec.getLsbD_setWidth]
    simp only [hi, c1, decide_true, Bool.true_and, Bool.and_true]
    rw [show ∀ y : BitVec 64, (y <<< (32#64)).getLsbD i = false from fun y => by
      rw [BitVec.shiftLeft_eq', BitVec.getLsbD_shiftLeft]; simp [c1]]
    rfl
  · have h32 : i - 32 < 32 := by omega
    have g : 32 + (i - 32) = i := by omega
    rw [if_neg c1, BitVec.shiftLeft_eq', BitVec.getLsbD_shiftLeft, show (32#64).toNat = 32 from rfl, BitVec.getLsbD_signExtend, if_pos h32, BitVec.getLsbD_setWidth]
    rw [show ∀ y : BitVec 64, (y.sshiftRight' (32#64)).getLsbD (i - 32) = y.getLsbD i from fun y => by
      show (y.sshiftRight 32).getLsbD (i - 32) = y.getLsbD i
      rw [BitVec.getLsbD_sshiftRight]; simp [g, hi]; omega]
    simp [c1, hi, h32]
    omega
/-- what forgetting the first of n events leaves -/
def fgF (F F1 : Nat → Nat → Value) (s n : Nat) : Prop :=
  ∀ i l, gt F1 i l = if i = 1 ∧ l = aS s 4 then (bh (two (oS F s 5) (oS F s 4)) (oS F s 199) (oS F s 200)).toInt32
    else if i = 1 ∧ l = aS s 5 then ((bh (two (oS F s 5) (oS F s 4)) (oS F s 199) (oS F s 200)) >>> ((32 : Int32).toInt64 &&& 63)).toInt32
    else if i = 1 ∧ l = aS s 2 then oS F s 198
    else if i = 1 ∧ l = aS s 3 then Int32.ofNat (n - 1)
    else if i = 1 ∧ aS s 198 ≤ l ∧ l < aS s (198 + 3 * (n - 1)) then gt F 1 (l + 3) else gt F i l
theorem oS_sS (F : Nat → Nat → Value) (s w s' w' : Nat) (v : Int32) : oS (sS F s w v) s' w' = if aS s' w' = aS s w then v else oS F s' w' := by
  simp [oS, sS, gt_pu]
end
section
variable {M : vMe} {r : Nat} {F : Nat → Nat → Value}
/-- an event (x, kind) noted in set s, which has n events of at most hz -/
def hapF (F F1 : Nat → Nat → Value) (s n hz : Nat) (x kind : Int32) : Prop :=
  ∃ G n', ((n < hz ∧ n' = n ∧ G = pu F 1 3 (.int (gt F 1 3 + 1))) ∨ (n = hz ∧ n' = n - 1 ∧ fgF (pu F 1 3 (.int (gt F 1 3 + 1))) G s n)) ∧
    F1 = sS (sE G s n' (gt F 1 3 + 1) x kind) s 3 (Int32.ofNat (n' + 1))
theorem sE_ok {s k : Nat} {a b c : Int32} (h : rOk M r F) : rOk M r (sE F s k a b c) := sS_ok (sS_ok (sS_ok h))
theorem gt_S (F : Nat → Nat → Value) (s w i l : Nat) (v : Int32) : gt (sS F s w v) i l = if i = 1 ∧ l = aS s w then v else gt F i l := gt_pu _ _ _ _ _ _
end
section
variable {M : vMe} {r : Nat} {F : Nat → Nat → Value}
/-- cursor c is open on set s -/
abbrev onF (F : Nat → Nat → Value) (c s : Nat) : Prop := oC F c 0 = 1 ∧ oC F c 3 = 1 ∧ oC F c 1 = Int32.ofNat s
theorem oC_sS (F : Nat → Nat → Value) (s w c w' : Nat) (v : Int32) (h : aC c w' < 62) : oC (sS F s w v) c w' = oC F c w' := by
  rw [oC, gt_S, if_neg (by unfold aS; omega)]; rfl
theorem oC_sC (F : Nat → Nat → Value) (s w c w' : Nat) (v : Int32) : oC (sC F s w v) c w' = if aC c w' = aC s w then v else oC F c w' := by
  simp [oC, sC, gt_pu]
end
section
/-! a State's fifty cells as one overlay: State a, sets, cursors, marks; the rows of set i from 4 + 8 i (TwinRows, members, places, stamps, Log, stamps, numbers, kinds); cursor i at 44 + i -/
def cT (i : Nat) : Nat × Nat := if i = 0 then (8, 0) else if i = 1 then (107, 5) else if i = 2 then (108, 6) else if i = 3 then (101, 8) else if 44 ≤ i then (3, 0) else
  if i % 8 = 4 then (9, 0) else if i % 8 = 0 then (5, 0) else if i % 8 = 5 ∨ i % 8 = 6 ∨ i % 8 = 7 then (101, 64) else (101, 60)
def cv (M : vMe) (a : Nat) (C : Nat → Nat → Value) : vMe := (fun q => if a ≤ q ∧ q < a + 50 then ((cT (q - a)).1, (cT (q - a)).2, C (q - a)) else M.1 q, M.2)
def cOk (M : vMe) (a : Nat) (C : Nat → Nat → Value) : Prop := M.2.2.2 ≤ a ∧ (∀ k, k < 3 → C 0 k = .ref (a + (k + 1))) ∧ (∀ i, i < 5 → C 1 i = .ref (a + (4 + 8 * i))) ∧ (∀ i, i < 6 → C 2 i = .ref (a + (44 + i))) ∧
  (∀ i k, i < 5 → k < 4 → C (4 + 8 * i) k = .ref (a + (4 + 8 * i + (k + 1)))) ∧ ∀ i k, i < 5 → k < 3 → C (4 + 8 * i + 4) k = .ref (a + (4 + 8 * i + (5 + k)))
variable {M : vMe} {a : Nat} {C : Nat → Nat → Value}
theorem cv_at (M : vMe) (a i : Nat) (C : Nat → Nat → Value) (hi : i < 50) : (cv M a C).1 (a + i) = ((cT i).1, (cT i).2, C i) := by
  simp [cv, hi]
theorem cv_at0 (M : vMe) (a : Nat) (C : Nat → Nat → Value) : (cv M a C).1 a = (8, 0, C 0) := cv_at M a 0 C (by omega)
theorem cv_out {q : Nat} (h : ¬ (a ≤ q ∧ q < a + 50)) : (cv M a C).1 q = M.1 q := by
  simp [cv, h]
theorem cv_2 (M : vMe) (a : Nat) (C : Nat → Nat → Value) : (cv M a C).2 = M.2 := rfl
theorem cv_wr (M : vMe) (a i k : Nat) (C : Nat → Nat → Value) (v : Value) (hi : i < 50) : wr (cv M a C) (a + i) k v = cv M a (pu C i k v) := by
  unfold wr pt
  rw [cv_at M a i C hi]
  refine Prod.ext (funext fun q => ?_) rfl
  dsimp only
  by_cases hq : q = a + i
  · subst hq
    simp [cv, pu, hi]
  · rw [if_neg hq]
    by_cases hb : a ≤ q ∧ q < a + 50
    · have : ¬ q - a = i := by omega
      simp [cv, hb, pu, this]
    · simp [cv, hb]
/-- two blocks apart -/
theorem cv_comm {b : Nat} {E : Nat → Nat → Value} (h : a + 50 ≤ b ∨ b + 50 ≤ a) : cv (cv M a C) b E = cv (cv M b E) a C := by
  refine Prod.ext (funext fun q => ?_) rfl
  by_cases h1 : a ≤ q ∧ q < a + 50
  · rw [cv_out (a := b) (by omega)]; simp [cv, h1]
  · by_cases h2 : b ≤ q ∧ q < b + 50
    · rw [cv_out (a := a) (C := C) h1]; simp [cv, h2]
    · rw [cv_out h2, cv_out h1, cv_out h1, cv_out h2]
/-- fields and cells -/
theorem c_tag0 : ((cv M a C).1 a).1 = 8 := by rw [cv_at0]
theorem cT_r {i : Nat} (hi : i < 5) : cT (4 + 8 * i) = (9, 0) := by
  have : (4 + 8 * i) % 8 = 4 := by omega
  unfold cT
  rw [if_neg (by omega), if_neg (by omega), if_neg (by omega), if_neg (by omega), if_neg (by omega), if_pos (by omega)]
theorem cT_l {i : Nat} (hi : i < 5) : cT (4 + 8 * i + 4) = (5, 0) := by
  have : (4 + 8 * i + 4) % 8 = 0 := by omega
  unfold cT
  rw [if_neg (by omega), if_neg (by omega), if_neg (by omega), if_neg (by omega), if_neg (by omega), if_neg (by omega), if_pos (by omega)]
theorem cT_m {i k : Nat} (hi : i < 5) (h1 : 1 ≤ k) (h3 : k ≤ 3) : cT (4 + 8 * i + k) = (101, 64) := by
  have : (4 + 8 * i + k) % 8 = 4 + k := by omega
  unfold cT
  rw [if_neg (by omega), if_neg (by omega), if_neg (by omega), if_neg (by omega), if_neg (by omega), if_neg (by omega), if_neg (by omega), if_pos (by omega)]
theorem cT_e {i k : Nat} (hi : i < 5) (h1 : 5 ≤ k) (h3 : k ≤ 7) : cT (4 + 8 * i + k) = (101, 60) := by
  have : (4 + 8 * i + k) % 8 = k - 4 := by omega
  unfold cT
  rw [if_neg (by omega), if_neg (by omega), if_neg (by omega), if_neg (by omega), if_neg (by omega), if_neg (by omega), if_neg (by omega), if_neg (by omega)]
theorem cT_c {i : Nat} (hi : i < 6) : cT (44 + i) = (3, 0) := by
  unfold cT
  rw [if_neg (by omega), if_neg (by omega), if_neg (by omega), if_neg (by omega), if_pos (by omega)]
theorem c_gI {i k t : Nat} (hi : i < 50) (ht : (cT i).1 = t) : gI (cv M a C) (a + i) t k = some (gt C i k) := by
  simp [gI, cv_at M a i C hi, ht, gt]
theorem c_gI0 {k : Nat} : gI (cv M a C) a 8 k = some (gt C 0 k) := c_gI (i := 0) (by omega) rfl
theorem c_aI {i n len : Nat} (hi : i < 50) (ht : cT i = (101, len)) (hn : n < len) (hl : len < 2147483648) : aI (cv M a C) (a + i) 101 (Int32.ofNat n) = some (gt C i n) := by
  simp only [aI, cv_at M a i C hi, ht, n_clamp (show n < 2147483648 by omega), n_neg (show n < 2147483648 by omega), gt]
  simp [hn]
theorem c_sA {i n len : Nat} {v : Value} (h : cOk M a C) (hi : i < 50) (ht : cT i = (101, len)) (hn : n < len) (hl : len < 2147483648) : sA (cv M a C) (a + i) 101 (Int32.ofNat n) v = some (cv M a (pu C i n v)) := by
  have hb : (cv M a C).2.2.2 ≤ a + i := by rw [cv_2]; have := h.1; omega
  simp only [sA, cv_at M a i C hi, ht, n_clamp (show n < 2147483648 by omega), n_neg (show n < 2147483648 by omega), cv_wr M a i n C v hi, hb]
  simp [hn]
theorem c_sV {i k t : Nat} {v : Value} (h : cOk M a C) (hi : i < 50) (ht : (cT i).1 = t) : sV (cv M a C) (a + i) t k v = some (cv M a (pu C i k v)) := by
  have hb : (cv M a C).2.2.2 ≤ a + i := by rw [cv_2]; have := h.1; omega
  simp only [sV, cv_at M a i C hi, ht, hb, cv_wr M a i k C v hi]
  simp
theorem c_sV0 {k : Nat} {v : Value} (h : cOk M a C) : sV (cv M a C) a 8 k v = some (cv M a (pu C 0 k v)) := c_sV (i := 0) h (by omega) rfl
theorem c_gA {i k t b : Nat} (hi : i < 50) (ht : (cT i).1 = t) (hv : C i k = .ref b) : gA (cv M a C) (a + i) t k = some b := by
  simp [gA, cv_at M a i C hi, ht, hv, vR]
theorem c_gA0 {k b : Nat} (hv : C 0 k = .ref b) : gA (cv M a C) a 8 k = some b := c_gA (i := 0) (by omega) rfl hv
theorem c_aA {i n len t b : Nat} (hi : i < 50) (ht : cT i = (t, len)) (hn : n < len) (hl : len < 2147483648) (hv : C i n = .ref b) : aA (cv M a C) (a + i) t (Int32.ofNat n) = some b := by
  simp only [aA, cv_at M a i C hi, ht, n_clamp (show n < 2147483648 by omega), n_neg (show n < 2147483648 by omega), hv, vR]
  simp [hn]
/-- where no reference of the block's shape stands -/
def cFree (i k : Nat) : Prop := i ≠ 1 ∧ i ≠ 2 ∧ (i = 0 → 3 ≤ k) ∧ (i < 44 → i % 8 = 4 → 4 ≤ k) ∧ (i < 44 → i ≠ 0 → i % 8 = 0 → 3 ≤ k)
theorem cOk_pu {i k : Nat} {v : Value} (h : cOk M a C) (hf : cFree i k) : cOk M a (pu C i k v) := by
  have g : ∀ j l : Nat, ¬ (j = i ∧ l = k) → pu C i k v j l = C j l := fun j l e => by
    unfold pu updV
    by_cases c : j = i
    · subst c
      rw [if_pos rfl, if_neg (fun q => e ⟨rfl, q⟩)]
    · rw [if_neg c]
  obtain ⟨f1, f2, f3, f4, f5⟩ := hf
  refine ⟨h.1, fun j hj => ?_, fun j hj => ?_, fun j hj => ?_, fun j l hj hl => ?_, fun j l hj hl => ?_⟩
  · rw [g _ _ (by omega)]; exact h.2.1 j hj
  · rw [g _ _ (by omega)]; exact h.2.2.1 j hj
  · rw [g _ _ (by omega)]; exact h.2.2.2.1 j hj
  · rw [g _ _ (by omega)]; exact h.2.2.2.2.1 j l hj hl
  · rw [g _ _ (by omega)]; exact h.2.2.2.2.2 j l hj hl
end
section
/-! THE TWO STATES AS ONE: a State's cells C against the reference's row F 1 -/
/-- what holds of the reference's set s -/
def okS (F : Nat → Nat → Value) (u hz s : Nat) : Prop :=
  (∃ m, m ≤ u ∧ oS F s 0 = Int32.ofNat m ∧
    (∀ p, p < m → ∃ x, x < u ∧ oS F s (6 + p) = Int32.ofNat x ∧ oS F s (70 + x) = Int32.ofNat p)) ∧
  (∀ x, x < 64 → ∃ p, p < 64 ∧ oS F s (70 + x) = Int32.ofNat p) ∧ (∀ x, x < 64 → ∃ p, p < 64 ∧ oS F s (6 + x) = Int32.ofNat p) ∧
  ∃ n, n ≤ hz ∧ oS F s 3 = Int32.ofNat n
/-- a set's rows: the class's and the reference's -/
def simS (C F : Nat → Nat → Value) (s : Nat) : Prop :=
  gt C (4 + 8 * s) 5 = oS F s 0 ∧ gt C (4 + 8 * s) 6 = oS F s 1 ∧
  (∀ x, x < 64 → gt C (4 + 8 * s + 1) x = oS F s (6 + x)) ∧ (∀ x, x < 64 → gt C (4 + 8 * s + 2) x = oS F s (70 + x)) ∧
  (∀ x, x < 64 → isM F s x → gt C (4 + 8 * s + 3) x = oS F s (134 + x)) ∧
  gt C (4 + 8 * s + 4) 3 = oS F s 3 ∧ gt C (4 + 8 * s + 4) 4 = oS F s 2 ∧ vJ (C (4 + 8 * s + 4) 5) = two (oS F s 5) (oS F s 4) ∧
  ∀ k n, oS F s 3 = Int32.ofNat n → k < n → n ≤ 60 → ∀ w, w < 3 → gt C (4 + 8 * s + (5 + w)) k = oS F s (198 + 3 * k + w)
variable {M : vMe} {a : Nat} {C F : Nat → Nat → Value}
theorem c_rF {s k : Nat} (hs : s < 5) : gI (cv M a C) (a + (4 + 8 * s)) 9 k = some (gt C (4 + 8 * s) k) := c_gI (by omega) (by rw [cT_r hs])
theorem c_rA {s k : Nat} (h : cOk M a C) (hs : s < 5) (hk : k < 4) : gA (cv M a C) (a + (4 + 8 * s)) 9 k = some (a + (4 + 8 * s + (k + 1))) := c_gA (by omega) (by rw [cT_r hs]) (h.2.2.2.2.1 s k hs hk)
/-- where the class finds a number -/
theorem c_placeOf {u hz s : Nat} {x : Int32} (h : cOk M a C) (hs : s < 5) (hF : okS F u hz s) (hS : simS C F s) (hu : u ≤ 64) :
    ∃ v, tX7_placeOf (a + (4 + 8 * s)) x (cv M a C) = some v ∧
      ((v = -1 ∧ ∀ y, y < 64 → x = Int32.ofNat y → ¬ isM F s y) ∨ (∃ y, y < 64 ∧ x = Int32.ofNat y ∧ isM F s y ∧ v = oS F s (70 + y))) := by
  unfold tX7_placeOf
  by_cases c0 : x < 0
  · exact ⟨-1, by rw [if_pos c0], .inl ⟨rfl, fun y hy e => absurd (e ▸ c0) (n_neg (by omega))⟩⟩
  · rw [if_neg c0]
    by_cases c1 : x < (64 : Int32)
    · rw [if_pos c1]
      obtain ⟨y, hy, rfl⟩ := n_of (n := 64) c0 c1 (by omega)
      obtain ⟨⟨m, hm1, hm2, hm3⟩, hp, hx, -⟩ := hF
      obtain ⟨p, hp1, hp2⟩ := hp y hy
      rw [c_rA h hs (by omega), Option.bind_some, c_aI (by omega) (cT_m hs (by omega) (by omega)) hy (by omega), Option.bind_some, c_rF hs, Option.bind_some]
      rw [hS.2.2.2.1 y hy, hS.1, hp2, hm2]
      simp only [n_le (show m < 2147483648 by omega) (show p < 2147483648 by omega)]
      have key : isM F s y ↔ p < m ∧ oS F s (6 + p) = Int32.ofNat y := by
        constructor
        · rintro ⟨p', m', e1, e2, e3, e4, e5⟩
          rw [hp2] at e1; rw [hm2] at e2
          have q1 : p = p' := (n_eq (by omega) (by omega)).mp e1
          have q2 : m = m' := (n_eq (by omega) (by omega)).mp e2
          subst q1; subst q2; exact ⟨e3, e5⟩
        · rintro ⟨e1, e2⟩; exact ⟨p, m, hp2, hm2, e1, by omega, e2⟩
      by_cases c2 : m ≤ p
      · refine ⟨-1, by rw [if_pos c2], .inl ⟨rfl, fun z hz e g => ?_⟩⟩
        have q : y = z := (n_eq (by omega) (by omega)).mp e
        subst q
        have := (key.mp g).1
        omega
      · rw [if_neg c2, c_rA h hs (by omega), Option.bind_some, c_aI (by omega) (cT_m hs (by omega) (by omega)) hp1 (by omega), Option.bind_some, hS.2.2.1 p hp1]
        by_cases c3 : oS F s (6 + p) = Int32.ofNat y
        · exact ⟨Int32.ofNat p, by rw [if_pos c3], .inr ⟨y, hy, rfl, key.mpr ⟨by omega, c3⟩, hp2.symm⟩⟩
        · refine ⟨-1, by rw [if_neg c3], .inl ⟨rfl, fun z hz e g => ?_⟩⟩
          have q : y = z := (n_eq (by omega) (by omega)).mp e
          subst q
          exact c3 (key.mp g).2
    · refine ⟨-1, by rw [if_neg c1], .inl ⟨rfl, fun y hy e => ?_⟩⟩
      exact absurd ((show (64 : Int32) = Int32.ofNat 64 from rfl) ▸ e ▸ (n_lt (by omega) (by omega)).mpr hy) c1
end
section
variable {M : vMe} {a : Nat} {C F : Nat → Nat → Value}
/-- a whole row written -/
def puA (C : Nat → Nat → Value) (i : Nat) (f : Nat → Value) : Nat → Nat → Value := fun j => if j = i then f else C j
theorem gt_puA (C : Nat → Nat → Value) (i j l : Nat) (f : Nat → Value) : gt (puA C i f) j l = if j = i then vI (f l) else gt C j l := by
  unfold gt puA
  by_cases h : j = i <;> simp [h]
theorem cv_pt (M : vMe) (a i : Nat) (C : Nat → Nat → Value) (f : Nat → Value) (hi : i < 50) : pt (cv M a C) (a + i) ((cT i).1, (cT i).2, f) = cv M a (puA C i f) := by
  unfold pt
  refine Prod.ext (funext fun q => ?_) rfl
  dsimp only
  by_cases hq : q = a + i
  · subst hq
    simp [cv, puA, hi]
  · rw [if_neg hq]
    by_cases hb : a ≤ q ∧ q < a + 50
    · have : ¬ q - a = i := by omega
      simp [cv, hb, puA, this]
    · simp [cv, hb]
theorem c_cpA {i j len sp dp n : Nat} (h : cOk M a C) (hi : i < 50) (hj : j < 50) (ti : cT i = (101, len)) (tj : cT j = (101, len)) (hl : len < 2147483648) (h1 : sp + n ≤ len) (h2 : dp + n ≤ len) :
    cpA (cv M a C) (a + i) (a + j) 101 (Int32.ofNat sp) (Int32.ofNat dp) (Int32.ofNat n) = some (cv M a (puA C j (va_cpy (C i) (C j) sp dp n))) := by
  have hb : (cv M a C).2.2.2 ≤ a + j := by rw [cv_2]; have := h.1; omega
  have hp := cv_pt M a j C (va_cpy (C i) (C j) sp dp n) hj
  rw [tj] at hp
  simp only [cpA, cv_at M a i C hi, cv_at M a j C hj, ti, tj, n_clamp (show n < 2147483648 by omega), n_clamp (show sp < 2147483648 by omega), n_clamp (show dp < 2147483648 by omega),
    n_neg (show n < 2147483648 by omega), n_neg (show sp < 2147483648 by omega), n_neg (show dp < 2147483648 by omega), hp, hb]
  simp [h1, h2]
theorem cOk_puA {i : Nat} {f : Nat → Value} (h : cOk M a C) (hf : i ≠ 0 ∧ i ≠ 1 ∧ i ≠ 2 ∧ (i < 44 → i % 8 ≠ 4 ∧ i % 8 ≠ 0)) : cOk M a (puA C i f) := by
  have g : ∀ j l : Nat, j ≠ i → puA C i f j l = C j l := fun j l e => by unfold puA; rw [if_neg e]
  obtain ⟨f1, f2, f3, f4⟩ := hf
  refine ⟨h.1, fun j hj => ?_, fun j hj => ?_, fun j hj => ?_, fun j l hj hl => ?_, fun j l hj hl => ?_⟩
  · rw [g _ _ (by omega)]; exact h.2.1 j hj
  · rw [g _ _ (by omega)]; exact h.2.2.1 j hj
  · rw [g _ _ (by omega)]; exact h.2.2.2.1 j hj
  · rw [g _ _ (by omega)]; exact h.2.2.2.2.1 j l hj hl
  · rw [g _ _ (by omega)]; exact h.2.2.2.2.2 j l hj hl
theorem c_lI {s k : Nat} (hs : s < 5) : gI (cv M a C) (a + (4 + 8 * s + 4)) 5 k = some (gt C (4 + 8 * s + 4) k) := c_gI (by omega) (by rw [cT_l hs])
theorem c_lA {s k : Nat} (h : cOk M a C) (hs : s < 5) (hk : k < 3) : gA (cv M a C) (a + (4 + 8 * s + 4)) 5 k = some (a + (4 + 8 * s + (5 + k))) := c_gA (by omega) (by rw [cT_l hs]) (h.2.2.2.2.2 s k hs hk)
theorem c_lV {s k : Nat} {v : Value} (h : cOk M a C) (hs : s < 5) : sV (cv M a C) (a + (4 + 8 * s + 4)) 5 k v = some (cv M a (pu C (4 + 8 * s + 4) k v)) := c_sV h (by omega) (by rw [cT_l hs])
theorem c_eI {s w n : Nat} (hs : s < 5) (hw : w < 3) (hn : n < 60) : aI (cv M a C) (a + (4 + 8 * s + (5 + w))) 101 (Int32.ofNat n) = some (gt C (4 + 8 * s + (5 + w)) n) := c_aI (by omega) (cT_e hs (by omega) (by omega)) hn (by omega)
theorem c_eS {s w n : Nat} {v : Value} (h : cOk M a C) (hs : s < 5) (hw : w < 3) (hn : n < 60) : sA (cv M a C) (a + (4 + 8 * s + (5 + w))) 101 (Int32.ofNat n) v = some (cv M a (pu C (4 + 8 * s + (5 + w)) n v)) := c_sA h (by omega) (cT_e hs (by omega) (by omega)) hn (by omega)
theorem cOk_e {s w n : Nat} {v : Value} (h : cOk M a C) (hs : s < 5) (hw : w < 3) : cOk M a (pu C (4 + 8 * s + (5 + w)) n v) := cOk_pu h ⟨by omega, by omega, by omega, by omega, by omega⟩
theorem cOk_l {s k : Nat} {v : Value} (h : cOk M a C) (hs : s < 5) (hk : 3 ≤ k) : cOk M a (pu C (4 + 8 * s + 4) k v) := cOk_pu h ⟨by omega, by omega, by omega, by omega, by omega⟩
/-- the event n of the class's log -/
def cE (C : Nat → Nat → Value) (s n : Nat) (st x k : Int32) : Nat → Nat → Value :=
  pu (pu (pu (pu C (4 + 8 * s + (5 + 0)) n (.int st)) (4 + 8 * s + (5 + 1)) n (.int x)) (4 + 8 * s + (5 + 2)) n (.int k)) (4 + 8 * s + 4) 3 (.int (Int32.ofNat (n + 1)))
theorem c_note_J {s n : Nat} {st x k : Int32} (h : cOk M a C) (hs : s < 5) (hn : gt C (4 + 8 * s + 4) 3 = Int32.ofNat n) (hn60 : n < 60) :
    tX2_note_J93 (a + (4 + 8 * s + 4)) st x k (cv M a C) = some ((), cv M a (cE C s n st x k)) := by
  have g1 : gt (pu C (4 + 8 * s + (5 + 0)) n (.int st)) (4 + 8 * s + 4) 3 = Int32.ofNat n := by rw [gt_pu, if_neg (by omega), hn]
  have g2 : gt (pu (pu C (4 + 8 * s + (5 + 0)) n (.int st)) (4 + 8 * s + (5 + 1)) n (.int x)) (4 + 8 * s + 4) 3 = Int32.ofNat n := by rw [gt_pu, if_neg (by omega), g1]
  have g3 : gt (pu (pu (pu C (4 + 8 * s + (5 + 0)) n (.int st)) (4 + 8 * s + (5 + 1)) n (.int x)) (4 + 8 * s + (5 + 2)) n (.int k)) (4 + 8 * s + 4) 3 = Int32.ofNat n := by rw [gt_pu, if_neg (by omega), g2]
  have o1 : cOk M a (pu C (4 + 8 * s + (5 + 0)) n (.int st)) := cOk_e h hs (by omega)
  have o2 := cOk_e (w := 1) (n := n) (v := .int x) o1 hs (by omega)
  have o3 := cOk_e (w := 2) (n := n) (v := .int k) o2 hs (by omega)
  simp only [tX2_note_J93]
  rw [c_lA h hs (by omega), Option.bind_some, c_lI hs, Option.bind_some, hn, c_eS h hs (by omega) hn60, Option.bind_some]
  rw [c_lA o1 hs (by omega), Option.bind_some, c_lI hs, Option.bind_some, g1, c_eS o1 hs (by omega) hn60, Option.bind_some]
  rw [c_lA o2 hs (by omega), Option.bind_some, c_lI hs, Option.bind_some, g2, c_eS o2 hs (by omega) hn60, Option.bind_some]
  rw [c_lI hs, Option.bind_some, g3, l1, n_add, c_lV o3 hs, Option.bind_some]
  rfl
end
section
variable {M : vMe} {a : Nat} {C F : Nat → Nat → Value}
theorem c_bitsBehind {s k : Nat} {c : Int64} (h : cOk M a C) (hs : s < 5) (hk : k < 60) :
    tX2_bitsBehind (a + (4 + 8 * s + 4)) c (Int32.ofNat k) (cv M a C) = some (bh c (gt C (4 + 8 * s + (5 + 1)) k) (gt C (4 + 8 * s + (5 + 2)) k)) := by
  simp only [tX2_bitsBehind, c_lA (k := 1) h hs (by omega), c_lA (k := 2) h hs (by omega), Option.bind_some]
  simp only [c_eI (w := 1) hs (by omega) hk, c_eI (w := 2) hs (by omega) hk, Option.bind_some]
  unfold bh
  split
  · rfl
  · split <;> rfl
theorem puA_cpy (D : Nat → Nat → Value) (i m j l : Nat) : puA D i (va_cpy (D i) (D i) 1 0 m) j l = if j = i ∧ l < m then D i (l + 1) else D j l := by
  unfold puA va_cpy
  by_cases c : j = i
  · subst c
    by_cases d : l < m
    · simp only [if_true, true_and, d]
      rw [if_pos (by omega)]
      congr 1; omega
    · simp only [if_true, true_and, d, if_false]
      rw [if_neg (by omega)]
  · rw [if_neg c, if_neg (fun g => c g.1)]
/-- the class's log of set s without its first of n events -/
def fgC (C C1 : Nat → Nat → Value) (s n : Nat) : Prop :=
  gt C1 (4 + 8 * s + 4) 4 = gt C (4 + 8 * s + (5 + 0)) 0 ∧ vJ (C1 (4 + 8 * s + 4) 5) = bh (vJ (C (4 + 8 * s + 4) 5)) (gt C (4 + 8 * s + (5 + 1)) 0) (gt C (4 + 8 * s + (5 + 2)) 0) ∧
  gt C1 (4 + 8 * s + 4) 3 = Int32.ofNat (n - 1) ∧ (∀ w, w < 3 → ∀ l, l < n - 1 → gt C1 (4 + 8 * s + (5 + w)) l = gt C (4 + 8 * s + (5 + w)) (l + 1)) ∧
  ∀ j, (j < 4 + 8 * s + 4 ∨ 4 + 8 * s + 8 ≤ j) → C1 j = C j
/-- an event noted: C1 is C, its first event forgotten if there are hz of them, and the event written -/
def hapC (C C2 : Nat → Nat → Value) (s n hz : Nat) (st x k : Int32) : Prop :=
  ∃ C1 n', ((n < hz ∧ n' = n ∧ C1 = C) ∨ (n = hz ∧ n' = n - 1 ∧ fgC C C1 s n)) ∧ C2 = cE C1 s n' st x k
theorem c_note {s n hz : Nat} {st x k : Int32} (h : cOk M a C) (hs : s < 5) (hn : gt C (4 + 8 * s + 4) 3 = Int32.ofNat n) (hnh : n ≤ hz) (hz60 : hz ≤ 60) (hz1 : 1 ≤ hz) :
    ∃ C2, tX2_note (a + (4 + 8 * s + 4)) st x k (Int32.ofNat hz) (cv M a C) = some ((), cv M a C2) ∧ cOk M a C2 ∧ hapC C C2 s n hz st x k := by
  have ok : ∀ (C1 : Nat → Nat → Value) (n' : Nat), cOk M a C1 → cOk M a (cE C1 s n' st x k) := fun C1 n' o1 =>
    cOk_l (cOk_e (w := 2) (cOk_e (w := 1) (cOk_e (w := 0) o1 hs (by omega)) hs (by omega)) hs (by omega)) hs (by omega)
  simp only [tX2_note]
  rw [c_lI hs, Option.bind_some, hn]
  by_cases c : n < hz
  · refine ⟨cE C s n st x k, ?_, ok _ _ h, C, n, .inl ⟨c, rfl, rfl⟩, rfl⟩
    rw [if_pos ((n_lt (by omega) (by omega)).mpr c), c_note_J h hs hn (by omega)]
  · rw [if_neg (fun g => c ((n_lt (by omega) (by omega)).mp g))]
    obtain ⟨A, hA⟩ : ∃ A, A = pu C (4 + 8 * s + 4) 4 (.int (gt C (4 + 8 * s + (5 + 0)) 0)) := ⟨_, rfl⟩
    have oA : cOk M a A := hA ▸ cOk_l h hs (by omega)
    obtain ⟨v, hv⟩ : ∃ v, v = bh (vJ (C (4 + 8 * s + 4) 5)) (gt C (4 + 8 * s + (5 + 1)) 0) (gt C (4 + 8 * s + (5 + 2)) 0) := ⟨_, rfl⟩
    obtain ⟨B, hB⟩ : ∃ B, B = pu A (4 + 8 * s + 4) 5 (.long v) := ⟨_, rfl⟩
    have oB : cOk M a B := hB ▸ cOk_l oA hs (by omega)
    obtain ⟨D0, hD0⟩ : ∃ D0, D0 = pu B (4 + 8 * s + 4) 3 (.int (Int32.ofNat (n - 1))) := ⟨_, rfl⟩
    have o0 : cOk M a D0 := hD0 ▸ cOk_l oB hs (by omega)
    obtain ⟨D1, hD1⟩ : ∃ D1, D1 = puA D0 (4 + 8 * s + (5 + 0)) (va_cpy (D0 (4 + 8 * s + (5 + 0))) (D0 (4 + 8 * s + (5 + 0))) 1 0 (n - 1)) := ⟨_, rfl⟩
    have o1 : cOk M a D1 := hD1 ▸ cOk_puA o0 ⟨by omega, by omega, by omega, by omega⟩
    obtain ⟨D2, hD2⟩ : ∃ D2, D2 = puA D1 (4 + 8 * s + (5 + 1)) (va_cpy (D1 (4 + 8 * s + (5 + 1))) (D1 (4 + 8 * s + (5 + 1))) 1 0 (n - 1)) := ⟨_, rfl⟩
    have o2 : cOk M a D2 := hD2 ▸ cOk_puA o1 ⟨by omega, by omega, by omega, by omega⟩
    obtain ⟨D3, hD3⟩ : ∃ D3, D3 = puA D2 (4 + 8 * s + (5 + 2)) (va_cpy (D2 (4 + 8 * s + (5 + 2))) (D2 (4 + 8 * s + (5 + 2))) 1 0 (n - 1)) := ⟨_, rfl⟩
    have o3 : cOk M a D3 := hD3 ▸ cOk_puA o2 ⟨by omega, by omega, by omega, by omega⟩
    have p0 : ∀ j l : Nat, j ≠ 4 + 8 * s + 4 → D0 j l = C j l := fun j l hj => by rw [hD0, hB, hA]; simp [pu, hj]
    have q0 : gt D0 (4 + 8 * s + 4) 3 = Int32.ofNat (n - 1) := by rw [hD0, gt_pu, if_pos ⟨rfl, rfl⟩]
    have q1 : gt D1 (4 + 8 * s + 4) 3 = Int32.ofNat (n - 1) := by rw [hD1, gt_puA, if_neg (by omega), q0]
    have q2 : gt D2 (4 + 8 * s + 4) 3 = Int32.ofNat (n - 1) := by rw [hD2, gt_puA, if_neg (by omega), q1]
    have q3 : gt D3 (4 + 8 * s + 4) 3 = Int32.ofNat (n - 1) := by rw [hD3, gt_puA, if_neg (by omega), q2]
    have b3 : gt B (4 + 8 * s + 4) 3 = Int32.ofNat n := by rw [hB, hA]; simp [gt, pu, updV]; exact hn
    have a5 : vJ (A (4 + 8 * s + 4) 5) = vJ (C (4 + 8 * s + 4) 5) := by rw [hA]; simp [pu, updV]
    have aE : ∀ w, w < 3 → gt A (4 + 8 * s + (5 + w)) 0 = gt C (4 + 8 * s + (5 + w)) 0 := fun w hw => by rw [hA, gt_pu, if_neg (by omega)]
    have tg : ((cv M a A).1 (a + (4 + 8 * s + 4))).1 = 5 := by rw [cv_at M a _ A (by omega), cT_l hs]
    refine ⟨cE D3 s (n - 1) st x k, ?_, ok _ _ o3, D3, n - 1, .inr ⟨by omega, rfl, ?_⟩, rfl⟩
    · rw [c_lA h hs (by omega), Option.bind_some, l0, c_eI hs (by omega) (by omega), Option.bind_some, c_lV h hs, Option.bind_some, ← hA]
      rw [show gJ (cv M a A) (a + (4 + 8 * s + 4)) 5 5 = some (vJ (A (4 + 8 * s + 4) 5)) from by simp [gJ, cv_at M a _ A (show 4 + 8 * s + 4 < 50 by omega), cT_l hs]]
      rw [Option.bind_some, if_pos tg, c_bitsBehind oA hs (by omega), Option.bind_some, a5, aE 1 (by omega), aE 2 (by omega), ← hv, c_lV oA hs, Option.bind_some, ← hB]
      rw [c_lI hs, Option.bind_some, b3, l1, n_sub (by omega), c_lV oB hs, Option.bind_some, ← hD0]
      rw [c_lA o0 hs (by omega), Option.bind_some, Option.bind_some, c_lI hs, Option.bind_some, q0]
      rw [c_cpA o0 (by omega) (by omega) (cT_e hs (by omega) (by omega)) (cT_e hs (by omega) (by omega)) (by omega) (by omega) (by omega), Option.bind_some, ← hD1]
      rw [c_lA o1 hs (by omega), Option.bind_some, Option.bind_some, c_lI hs, Option.bind_some, q1]
      rw [c_cpA o1 (by omega) (by omega) (cT_e hs (by omega) (by omega)) (cT_e hs (by omega) (by omega)) (by omega) (by omega) (by omega), Option.bind_some, ← hD2]
      rw [c_lA o2 hs (by omega), Option.bind_some, Option.bind_some, c_lI hs, Option.bind_some, q2]
      rw [c_cpA o2 (by omega) (by omega) (cT_e hs (by omega) (by omega)) (cT_e hs (by omega) (by omega)) (by omega) (by omega) (by omega), Option.bind_some, ← hD3]
      exact c_note_J o3 hs q3 (by omega)
    · have e3 : ∀ j l : Nat, D3 j l = if 4 + 8 * s + 5 ≤ j ∧ j < 4 + 8 * s + 8 ∧ l < n - 1 then D0 j (l + 1) else D0 j l := fun j l => by
        rw [hD3, puA_cpy, hD2, puA_cpy, puA_cpy, hD1, puA_cpy, puA_cpy, puA_cpy, puA_cpy]
        by_cases cl : l < n - 1
        · by_cases c2 : j = 4 + 8 * s + (5 + 2)
          · subst c2
            rw [if_pos ⟨rfl, cl⟩, if_neg (by omega), if_neg (by omega), if_pos (by omega)]
          · rw [if_neg (by omega)]
            by_cases c1 : j = 4 + 8 * s + (5 + 1)
            · subst c1
              rw [if_pos ⟨rfl, cl⟩, if_neg (by omega), if_pos (by omega)]
            · rw [if_neg (by omega)]
              by_cases c0 : j = 4 + 8 * s + (5 + 0)
              · subst c0
                rw [if_pos ⟨rfl, cl⟩, if_pos (by omega)]
              · rw [if_neg (by omega), if_neg (by omega)]
        · rw [if_neg (by omega), if_neg (by omega), if_neg (by omega), if_neg (by omega)]
      have g3 : ∀ l, D3 (4 + 8 * s + 4) l = D0 (4 + 8 * s + 4) l := fun l => by rw [e3, if_neg (by omega)]
      refine ⟨?_, ?_, ?_, fun w hw l hl => ?_, fun j hj => funext fun l => ?_⟩
      · unfold gt; rw [g3, hD0, hB, hA]; simp [pu, updV, vI, gt]
      · rw [g3, hD0, hB]; simp [pu, updV, vJ, hv]
      · unfold gt; rw [g3]; exact q0
      · unfold gt; rw [e3, if_pos (by omega), p0 _ _ (by omega)]
      · rw [e3, if_neg (by omega), p0 _ _ (by omega)]
end
section
variable {M : vMe} {a : Nat} {C F : Nat → Nat → Value}
/-- the log of set s: the class's and the reference's -/
def simL (C F : Nat → Nat → Value) (s : Nat) : Prop :=
  gt C (4 + 8 * s + 4) 3 = oS F s 3 ∧ gt C (4 + 8 * s + 4) 4 = oS F s 2 ∧ vJ (C (4 + 8 * s + 4) 5) = two (oS F s 5) (oS F s 4) ∧
  ∀ k n, oS F s 3 = Int32.ofNat n → k < n → n ≤ 60 → ∀ w, w < 3 → gt C (4 + 8 * s + (5 + w)) k = oS F s (198 + 3 * k + w)
theorem hapC_out {C2 : Nat → Nat → Value} {s n hz : Nat} {st x k : Int32} (h : hapC C C2 s n hz st x k) : ∀ j, (j < 4 + 8 * s + 4 ∨ 4 + 8 * s + 8 ≤ j) → C2 j = C j := by
  intro j hj
  obtain ⟨C1, n', h1, rfl⟩ := h
  have e : C1 j = C j := by
    rcases h1 with ⟨-, -, rfl⟩ | ⟨-, -, g⟩
    · rfl
    · exact g.2.2.2.2 j hj
  rw [← e]
  have : j ≠ 4 + 8 * s + (5 + 0) ∧ j ≠ 4 + 8 * s + (5 + 1) ∧ j ≠ 4 + 8 * s + (5 + 2) ∧ j ≠ 4 + 8 * s + 4 := by omega
  simp only [cE, pu, this.1, this.2.1, this.2.2.1, this.2.2.2, if_false]
theorem hapF_out {F2 : Nat → Nat → Value} {s n hz : Nat} {x k : Int32} (h : hapF F F2 s n hz x k) (hz60 : hz ≤ 60) (hnh : n ≤ hz) (h1 : 1 ≤ hz) : ∀ i l, (i ≠ 1 ∨ (l ≠ 3 ∧ (l < aS s 2 ∨ (aS s 6 ≤ l ∧ l < aS s 198) ∨ aS s 378 ≤ l))) → gt F2 i l = gt F i l := by
  intro i l hl
  obtain ⟨G, n', hG, rfl⟩ := h
  have hn' : n' < 60 := by omega
  have e : gt G i l = gt F i l := by
    rcases hG with ⟨-, -, rfl⟩ | ⟨-, -, g⟩
    · rw [gt_pu, if_neg (by omega)]
    · rw [g, if_neg (by unfold aS at *; omega), if_neg (by unfold aS at *; omega), if_neg (by unfold aS at *; omega), if_neg (by unfold aS at *; omega), if_neg (by unfold aS at *; omega), gt_pu, if_neg (by omega)]
  rw [sE, gt_S, if_neg (by unfold aS at *; omega), gt_S, if_neg (by unfold aS at *; omega), gt_S, if_neg (by unfold aS at *; omega), gt_S, if_neg (by unfold aS at *; omega), e]
theorem hapF_clock {F2 : Nat → Nat → Value} {s n hz : Nat} {x k : Int32} (h : hapF F F2 s n hz x k) : gt F2 1 3 = gt F 1 3 + 1 := by
  obtain ⟨G, n', hG, rfl⟩ := h
  have e : gt G 1 3 = gt F 1 3 + 1 := by
    rcases hG with ⟨-, -, rfl⟩ | ⟨-, -, g⟩
    · rw [gt_pu, if_pos ⟨rfl, rfl⟩]
    · rw [g, if_neg (by unfold aS; omega), if_neg (by unfold aS; omega), if_neg (by unfold aS; omega), if_neg (by unfold aS; omega), if_neg (by unfold aS; omega), gt_pu, if_pos ⟨rfl, rfl⟩]
  rw [sE, gt_S, if_neg (by unfold aS; omega), gt_S, if_neg (by unfold aS; omega), gt_S, if_neg (by unfold aS; omega), gt_S, if_neg (by unfold aS; omega), e]
/-- both logs after the same event -/
theorem sim_hap {C2 F2 : Nat → Nat → Value} {s n hz : Nat} {st x k : Int32} (hs : simL C F s) (hn : oS F s 3 = Int32.ofNat n) (hst : st = gt F 1 3 + 1) (hC : hapC C C2 s n hz st x k) (hF : hapF F F2 s n hz x k) (hz60 : hz ≤ 60) (hnh : n ≤ hz) (h1 : 1 ≤ hz) :
    simL C2 F2 s ∧ ∃ n2, n2 ≤ hz ∧ oS F2 s 3 = Int32.ofNat n2 := by
  obtain ⟨C1, n1, c1, rfl⟩ := hC
  obtain ⟨G, n2, c2, rfl⟩ := hF
  obtain ⟨s1, s2, s3, s4⟩ := hs
  have key : n1 = n2 ∧ n1 < hz ∧ gt C1 (4 + 8 * s + 4) 4 = oS G s 2 ∧ vJ (C1 (4 + 8 * s + 4) 5) = two (oS G s 5) (oS G s 4) ∧ ∀ l, l < n1 → ∀ w, w < 3 → gt C1 (4 + 8 * s + (5 + w)) l = oS G s (198 + 3 * l + w) := by
    rcases c1 with ⟨d1, rfl, rfl⟩ | ⟨d1, rfl, g1⟩
    · rcases c2 with ⟨-, rfl, rfl⟩ | ⟨d2, -, -⟩
      · refine ⟨rfl, d1, ?_, ?_, fun l hl w hw => ?_⟩
        · rw [s2, oS, oS, gt_pu, if_neg (by unfold aS; omega)]
        · rw [s3]; simp only [oS, gt_pu]; rw [if_neg (by unfold aS; omega), if_neg (by unfold aS; omega)]
        · rw [s4 l _ hn hl (by omega) w hw, oS, oS, gt_pu, if_neg (by unfold aS; omega)]
      · omega
    · rcases c2 with ⟨d2, -, -⟩ | ⟨-, rfl, g2⟩
      · omega
      · obtain ⟨t1, t2, t3, t4, -⟩ := g1
        have z : ∀ w, w < 3 → gt C (4 + 8 * s + (5 + w)) 0 = oS F s (198 + w) := fun w hw => by
          rw [s4 0 n hn (by omega) (by omega) w hw]
        have pf : ∀ w, oS (pu F 1 3 (.int (gt F 1 3 + 1))) s w = oS F s w := fun w => by rw [oS, oS, gt_pu, if_neg (by unfold aS; omega)]
        refine ⟨rfl, by omega, ?_, ?_, fun l hl w hw => ?_⟩
        · rw [t1, z 0 (by omega)]
          show oS F s 198 = gt G 1 (aS s 2)
          rw [g2, if_neg (by unfold aS; omega), if_neg (by unfold aS; omega), if_pos ⟨rfl, rfl⟩, pf]
        · rw [t2, s3, z 1 (by omega), z 2 (by omega)]
          have e4 : oS G s 4 = (bh (two (oS F s 5) (oS F s 4)) (oS F s 199) (oS F s 200)).toInt32 := by
            rw [oS, g2, if_pos ⟨rfl, rfl⟩, pf, pf, pf, pf]
          have e5 : oS G s 5 = ((bh (two (oS F s 5) (oS F s 4)) (oS F s 199) (oS F s 200)) >>> ((32 : Int32).toInt64 &&& 63)).toInt32 := by
            rw [oS, g2, if_neg (by unfold aS; omega), if_pos ⟨rfl, rfl⟩, pf, pf, pf, pf]
          rw [e4, e5, two_split]
        · rw [t4 w hw l hl, s4 (l + 1) n hn (by omega) (by omega) w hw, oS, oS, g2, if_neg (by unfold aS; omega), if_neg (by unfold aS; omega), if_neg (by unfold aS; omega), if_neg (by unfold aS; omega), if_pos (by unfold aS; omega), gt_pu, if_neg (by unfold aS; omega)]
          congr 1; unfold aS; omega
  obtain ⟨rfl, k1, k2, k3, k4⟩ := key
  have f3 : oS (sS (sE G s n1 (gt F 1 3 + 1) x k) s 3 (Int32.ofNat (n1 + 1))) s 3 = Int32.ofNat (n1 + 1) := by rw [oS_sS, if_pos rfl]
  refine ⟨⟨?_, ?_, ?_, fun l n' hn' hl hn60 w hw => ?_⟩, n1 + 1, by omega, f3⟩
  · rw [f3, cE, gt_pu, if_pos ⟨rfl, rfl⟩]
  · rw [oS_sS, if_neg (by unfold aS; omega), sE, oS_sS, if_neg (by unfold aS; omega), oS_sS, if_neg (by unfold aS; omega), oS_sS, if_neg (by unfold aS; omega), ← k2]
    simp only [cE, gt_pu]
    rw [if_neg (by omega), if_neg (by omega), if_neg (by omega), if_neg (by omega)]
  · have e : ∀ v, v = 4 ∨ v = 5 → oS (sS (sE G s n1 (gt F 1 3 + 1) x k) s 3 (Int32.ofNat (n1 + 1))) s v = oS G s v := fun v hv => by
      rw [oS_sS, if_neg (by unfold aS; omega), sE, oS_sS, if_neg (by unfold aS; omega), oS_sS, if_neg (by unfold aS; omega), oS_sS, if_neg (by unfold aS; omega)]
    rw [e 4 (.inl rfl), e 5 (.inr rfl), ← k3]
    simp [cE, pu, updV]
  · have hn2 : n' = n1 + 1 := by
      rw [f3] at hn'; exact ((n_eq (by omega) (by omega)).mp hn').symm
    subst hn2
    rw [oS_sS, if_neg (by unfold aS; omega), sE, oS_sS, oS_sS, oS_sS]
    simp only [cE, gt_pu]
    rw [if_neg (by omega)]
    by_cases c : l = n1
    · subst c
      rcases (show w = 0 ∨ w = 1 ∨ w = 2 by omega) with rfl | rfl | rfl
      · rw [if_neg (by omega), if_neg (by omega), if_pos (by omega), if_neg (by unfold aS; omega), if_neg (by unfold aS; omega), if_pos (by rw [Nat.add_zero]), hst]
      · rw [if_neg (by omega), if_pos (by omega), if_neg (by unfold aS; omega), if_pos rfl]
      · rw [if_pos (by omega), if_pos rfl]
    · rw [if_neg (by omega), if_neg (by omega), if_neg (by omega), if_neg (by unfold aS; omega), if_neg (by unfold aS; omega), if_neg (by unfold aS; omega)]
      exact k4 l (by omega) w hw
end
section
variable {M : vMe} {a r : Nat} {C F : Nat → Nat → Value}
/-- m places with different numbers below u: m is at most u -/
theorem php : ∀ (u m : Nat) (f : Nat → Nat), (∀ p, p < m → f p < u) → (∀ p q, p < m → q < m → f p = f q → p = q) → m ≤ u := by
  intro u
  induction u with
  | zero =>
    intro m f h _
    rcases Nat.eq_zero_or_pos m with rfl | g
    · omega
    · exact absurd (h 0 g) (by omega)
  | succ u ih =>
    intro m f h inj
    by_cases c : ∃ p, p < m ∧ f p = u
    · obtain ⟨p0, h0, e0⟩ := c
      have := ih (m - 1) (fun p => if p = p0 then f (m - 1) else f p) (fun p hp => ?_) (fun p q hp hq e => ?_)
      · omega
      · by_cases d : p = p0
        · rw [if_pos d]
          have g1 := h (m - 1) (by omega)
          have g2 : f (m - 1) ≠ u := fun e => by have := inj (m - 1) p0 (by omega) h0 (e.trans e0.symm); omega
          omega
        · rw [if_neg d]
          have g1 := h p (by omega)
          have g2 : f p ≠ u := fun e => d (inj p p0 (by omega) h0 (e.trans e0.symm))
          omega
      · try dsimp only at e
        by_cases d1 : p = p0 <;> by_cases d2 : q = p0
        · rw [d1, d2]
        · rw [if_pos d1, if_neg d2] at e
          have := inj (m - 1) q (by omega) (by omega) e; omega
        · rw [if_neg d1, if_pos d2] at e
          have := inj p (m - 1) (by omega) (by omega) e; omega
        · rw [if_neg d1, if_neg d2] at e
          exact inj p q (by omega) (by omega) e
    · have := ih m f (fun p hp => ?_) inj
      · omega
      · have g1 := h p hp
        have g2 : f p ≠ u := fun e => c ⟨p, hp, e⟩
        omega
/-- a number of the universe that is no member finds room -/
theorem okS_room {u hz s m x : Nat} (hF : okS F u hz s) (hm : oS F s 0 = Int32.ofNat m) (hmu : m ≤ u) (hu : u ≤ 64) (hx : x < u) (hn : ¬ isM F s x) : m < u := by
  obtain ⟨⟨m', e1, e2, e3⟩, hp, -, -⟩ := hF
  have q : m = m' := (n_eq (by omega) (by omega)).mp (hm.symm.trans e2)
  subst q
  have ch : ∀ p, p < m → ∃ y, y < u ∧ oS F s (6 + p) = Int32.ofNat y ∧ oS F s (70 + y) = Int32.ofNat p := e3
  have := php u (m + 1) (fun p => if p = m then x else (oS F s (6 + p)).toNatClampNeg) (fun p hp => ?_) (fun p q hp hq e => ?_)
  · omega
  · try dsimp only
    by_cases c : p = m
    · rw [if_pos c]; exact hx
    · rw [if_neg c]
      obtain ⟨y, y1, y2, -⟩ := ch p (by omega)
      rw [y2, n_clamp (by omega)]; exact y1
  · try dsimp only at e
    by_cases c1 : p = m <;> by_cases c2 : q = m
    · omega
    · rw [if_pos c1, if_neg c2] at e
      obtain ⟨y, y1, y2, y3⟩ := ch q (by omega)
      rw [y2, n_clamp (by omega)] at e
      subst e
      exact absurd ⟨q, m, y3, hm, by omega, by omega, y2⟩ hn
    · rw [if_neg c1, if_pos c2] at e
      obtain ⟨y, y1, y2, y3⟩ := ch p (by omega)
      rw [y2, n_clamp (by omega)] at e
      subst e
      exact absurd ⟨p, m, y3, hm, by omega, by omega, y2⟩ hn
    · rw [if_neg c1, if_neg c2] at e
      obtain ⟨y, y1, y2, y3⟩ := ch p (by omega)
      obtain ⟨z, z1, z2, z3⟩ := ch q (by omega)
      rw [y2, z2, n_clamp (by omega), n_clamp (by omega)] at e
      subst e
      exact (n_eq (by omega) (by omega)).mp (y3.symm.trans z3)
/-- whether the class has a number -/
theorem c_has {u hz s y : Nat} (h : cOk M a C) (hs : s < 5) (hF : okS F u hz s) (hS : simS C F s) (hu : u ≤ 64) (hy : y < 64) :
    (isM F s y → tX7_has (a + (4 + 8 * s)) (Int32.ofNat y) (cv M a C) = some 1) ∧ (¬ isM F s y → tX7_has (a + (4 + 8 * s)) (Int32.ofNat y) (cv M a C) = some 0) := by
  obtain ⟨v, h1, h2⟩ := c_placeOf (x := Int32.ofNat y) h hs hF hS hu
  have tg : ((cv M a C).1 (a + (4 + 8 * s))).1 = 9 := by rw [cv_at M a _ C (by omega), cT_r hs]
  have st : tX7_has (a + (4 + 8 * s)) (Int32.ofNat y) (cv M a C) = if v = -1 then some 0 else some 1 := by
    simp only [tX7_has]
    rw [if_pos tg, h1, Option.bind_some]
  constructor
  · intro g
    rcases h2 with ⟨-, h2⟩ | ⟨z, z1, z2, z3, z4⟩
    · exact absurd g (h2 y hy rfl)
    · obtain ⟨p, m, p1, -, p2, p3, -⟩ := z3
      rw [st, if_neg]
      intro e
      rw [z4, p1] at e
      have := n_neg (a := p) (by omega)
      rw [e] at this
      exact this (by decide)
  · intro g
    rcases h2 with ⟨h2, -⟩ | ⟨z, z1, z2, z3, z4⟩
    · rw [st, if_pos h2]
    · have : y = z := (n_eq (by omega) (by omega)).mp z2
      subst this; exact absurd z3 g
end
section
variable {M : vMe} {a r : Nat} {C F : Nat → Nat → Value}
theorem sL_ok {s x p : Nat} (h : rOk M r F) : rOk M r (sL F s x p) := pu_ok (sS_ok (sS_ok h)) (.inl (by decide))
theorem gt_L (F : Nat → Nat → Value) (s x p i l : Nat) : gt (sL F s x p) i l = if i = 1 ∧ l = 5 then gt F 1 5 + 2 else if i = 1 ∧ l = aS s (70 + x) then Int32.ofNat p else if i = 1 ∧ l = aS s (6 + p) then Int32.ofNat x else gt F i l := by
  rw [sL, gt_pu, gt_S, gt_S]
end
section
variable {M : vMe} {a r : Nat} {C F : Nat → Nat → Value}
theorem c_tagR {s : Nat} (hs : s < 5) : ((cv M a C).1 (a + (4 + 8 * s))).1 = 9 := by rw [cv_at M a _ C (by omega), cT_r hs]
theorem c_tagL {s : Nat} (hs : s < 5) : ((cv M a C).1 (a + (4 + 8 * s + 4))).1 = 5 := by rw [cv_at M a _ C (by omega), cT_l hs]
/-- the class's row k + 1 of set s (members, places, stamps) -/
theorem c_mI {s k n : Nat} (hs : s < 5) (hk : k < 3) (hn : n < 64) : aI (cv M a C) (a + (4 + 8 * s + (k + 1))) 101 (Int32.ofNat n) = some (gt C (4 + 8 * s + (k + 1)) n) := c_aI (by omega) (cT_m hs (by omega) (by omega)) hn (by omega)
theorem c_mS {s k n : Nat} {v : Value} (h : cOk M a C) (hs : s < 5) (hk : k < 3) (hn : n < 64) : sA (cv M a C) (a + (4 + 8 * s + (k + 1))) 101 (Int32.ofNat n) v = some (cv M a (pu C (4 + 8 * s + (k + 1)) n v)) := c_sA h (by omega) (cT_m hs (by omega) (by omega)) hn (by omega)
theorem cOk_m {s k n : Nat} {v : Value} (h : cOk M a C) (hs : s < 5) (hk : k < 3) : cOk M a (pu C (4 + 8 * s + (k + 1)) n v) := cOk_pu h ⟨by omega, by omega, by omega, by omega, by omega⟩
theorem cOk_0 {k : Nat} {v : Value} (h : cOk M a C) (hk : 3 ≤ k) : cOk M a (pu C 0 k v) := cOk_pu h ⟨by omega, by omega, by omega, by omega, by omega⟩
theorem cOk_r {s k : Nat} {v : Value} (h : cOk M a C) (hs : s < 5) (hk : 4 ≤ k) : cOk M a (pu C (4 + 8 * s) k v) := cOk_pu h ⟨by omega, by omega, by omega, by omega, by omega⟩
theorem c_rV {s k : Nat} {v : Value} (h : cOk M a C) (hs : s < 5) : sV (cv M a C) (a + (4 + 8 * s)) 9 k v = some (cv M a (pu C (4 + 8 * s) k v)) := c_sV h (by omega) (by rw [cT_r hs])
/-- the class's number x in place p of set s -/
def cL (C : Nat → Nat → Value) (s x p : Nat) : Nat → Nat → Value :=
  pu (pu (pu C (4 + 8 * s + (0 + 1)) p (.int (Int32.ofNat x))) (4 + 8 * s + (1 + 1)) x (.int (Int32.ofNat p))) 0 8 (.int (gt C 0 8 + 2))
theorem cL_ok {s x p : Nat} (h : cOk M a C) (hs : s < 5) : cOk M a (cL C s x p) := cOk_0 (cOk_m (k := 1) (cOk_m (k := 0) h hs (by omega)) hs (by omega)) (by omega)
theorem c_writeMember {s x p : Nat} (h : cOk M a C) (hs : s < 5) (hx : x < 64) (hp : p < 64) :
    tX5_writeMember a (a + (4 + 8 * s)) (Int32.ofNat p) (Int32.ofNat x) (cv M a C) = some ((), cv M a (cL C s x p)) := by
  have o1 : cOk M a (pu C (4 + 8 * s + (0 + 1)) p (.int (Int32.ofNat x))) := cOk_m (k := 0) h hs (by omega)
  have o2 := cOk_m (k := 1) (n := x) (v := .int (Int32.ofNat p)) o1 hs (by omega)
  simp only [tX5_writeMember]
  rw [c_rA h hs (by omega), Option.bind_some, c_mS h hs (by omega) hp, Option.bind_some, c_rA o1 hs (by omega), Option.bind_some, c_mS o1 hs (by omega) hx, Option.bind_some]
  rw [c_gI0, Option.bind_some, c_sV0 o2, Option.bind_some, gt_pu, if_neg (by omega), gt_pu, if_neg (by omega)]
  rfl
/-- what stands before the event of a number that comes -/
def cB (C : Nat → Nat → Value) (s x m : Nat) : Nat → Nat → Value :=
  pu (pu (pu (cL C s x m) (4 + 8 * s) 5 (.int (Int32.ofNat (m + 1)))) 0 7 (.int (gt C 0 7 + 1))) (4 + 8 * s + (2 + 1)) x (.int (gt C 0 7 + 1))
theorem c_bringIn {u s x m n hz : Nat} (h : cOk M a C) (hs : s < 5) (hx : x < 64) (hF : okS F u hz s) (hS : simS C F s) (hu : u ≤ 64) (hm : oS F s 0 = Int32.ofNat m) (hm64 : m < 64) (hn : oS F s 3 = Int32.ofNat n) (hh : gt C 0 4 = Int32.ofNat hz) (hnh : n ≤ hz) (hz60 : hz ≤ 60) (hz1 : 1 ≤ hz) (hnm : ¬ isM F s x) :
    ∃ C2, tX5_bringIn a (a + (4 + 8 * s)) (Int32.ofNat x) (cv M a C) = some (1, cv M a C2) ∧ cOk M a C2 ∧ hapC (cB C s x m) C2 s n hz (gt C 0 7 + 1) (Int32.ofNat x) 0 := by
  have o1 : cOk M a (cL C s x m) := cL_ok h hs
  have o2 : cOk M a (pu (cL C s x m) (4 + 8 * s) 5 (.int (Int32.ofNat (m + 1)))) := cOk_r o1 hs (by omega)
  have o3 : cOk M a (pu (pu (cL C s x m) (4 + 8 * s) 5 (.int (Int32.ofNat (m + 1)))) 0 7 (.int (gt C 0 7 + 1))) := cOk_0 o2 (by omega)
  have o4 : cOk M a (cB C s x m) := cOk_m (k := 2) o3 hs (by omega)
  have g5 : gt (cL C s x m) (4 + 8 * s) 5 = Int32.ofNat m := by
    simp only [cL, gt_pu]; rw [if_neg (by omega), if_neg (by omega), if_neg (by omega), hS.1, hm]
  have g7 : gt (pu (cL C s x m) (4 + 8 * s) 5 (.int (Int32.ofNat (m + 1)))) 0 7 = gt C 0 7 := by
    simp only [cL, gt_pu]; rw [if_neg (by omega), if_neg (by omega), if_neg (by omega), if_neg (by omega)]
  have g8 : gt (pu (pu (cL C s x m) (4 + 8 * s) 5 (.int (Int32.ofNat (m + 1)))) 0 7 (.int (gt C 0 7 + 1))) 0 7 = gt C 0 7 + 1 := by rw [gt_pu, if_pos ⟨rfl, rfl⟩]
  have g9 : gt (cB C s x m) 0 7 = gt C 0 7 + 1 := by rw [cB, gt_pu, if_neg (by omega), g8]
  have g4 : gt (cB C s x m) 0 4 = Int32.ofNat hz := by
    simp only [cB, cL, gt_pu]; rw [if_neg (by omega), if_neg (by omega), if_neg (by omega), if_neg (by omega), if_neg (by omega), if_neg (by omega), hh]
  have g3 : gt (cB C s x m) (4 + 8 * s + 4) 3 = Int32.ofNat n := by
    simp only [cB, cL, gt_pu]; rw [if_neg (by omega), if_neg (by omega), if_neg (by omega), if_neg (by omega), if_neg (by omega), if_neg (by omega), hS.2.2.2.2.2.1, hn]
  obtain ⟨C2, c1, c2, c3⟩ := c_note (st := gt C 0 7 + 1) (x := Int32.ofNat x) (k := 0) o4 hs g3 hnh hz60 hz1
  refine ⟨C2, ?_, c2, c3⟩
  simp only [tX5_bringIn]
  rw [if_pos (c_tagR hs), (c_has h hs hF hS hu hx).2 hnm, Option.bind_some, if_pos rfl, c_rF hs, Option.bind_some, if_pos c_tag0, hS.1, hm, c_writeMember h hs hx hm64, Option.bind_some]
  rw [c_rF hs, Option.bind_some, g5, l1, n_add, c_rV o1 hs, Option.bind_some, c_gI0, Option.bind_some, g7, ← l1, c_sV0 o2, Option.bind_some]
  rw [c_rA o3 hs (by omega), Option.bind_some, c_gI0, Option.bind_some, g8, c_mS o3 hs (by omega) hx, Option.bind_some]
  have o4' : cOk M a (pu (pu (pu (cL C s x m) (4 + 8 * s) 5 (.int (Int32.ofNat (m + 1)))) 0 7 (.int (gt C 0 7 + 1))) (4 + 8 * s + (2 + 1)) x (.int (gt C 0 7 + 1))) := o4
  rw [c_rA o4' hs (by omega), Option.bind_some, c_gI0, Option.bind_some, c_gI0, Option.bind_some]
  rw [show pu (pu (pu (cL C s x m) (4 + 8 * s) 5 (.int (Int32.ofNat (m + 1)))) 0 7 (.int (gt C 0 7 + 1))) (4 + 8 * s + (2 + 1)) x (.int (gt C 0 7 + 1)) = cB C s x m from rfl, g9, g4]
  rw [show a + (4 + 8 * s + (3 + 1)) = a + (4 + 8 * s + 4) from rfl, if_pos (c_tagL hs), c1]
  rfl
end
section
variable {M : vMe} {a r : Nat} {C F : Nat → Nat → Value}
theorem simS_L {s : Nat} (h : simS C F s) : simL C F s := h.2.2.2.2.2
/-- the cells of set s outside its log after a number came -/
theorem come_F {F3 : Nat → Nat → Value} {s x m n hz : Nat} (hF : hapF (sS (sL F s x m) s 0 (Int32.ofNat (m + 1))) F3 s n hz (Int32.ofNat x) 0) (hz60 : hz ≤ 60) (hnh : n ≤ hz) (h1 : 1 ≤ hz) (hx : x < 64) (hm : m < 64) :
    ∀ w, (w < 2 ∨ (6 ≤ w ∧ w < 198)) → oS (sS F3 s (134 + x) (gt F3 1 3)) s w = if w = 134 + x then gt F3 1 3 else if w = 0 then Int32.ofNat (m + 1) else if w = 70 + x then Int32.ofNat m else if w = 6 + m then Int32.ofNat x else oS F s w := by
  intro w hw
  rw [oS_sS]
  by_cases c : w = 134 + x
  · rw [if_pos (by rw [c]), if_pos c]
  · rw [if_neg (by unfold aS; omega), if_neg c, oS, hapF_out hF hz60 hnh h1 1 (aS s w) (.inr ⟨by unfold aS; omega, by unfold aS; omega⟩), gt_S, gt_L]
    by_cases c0 : w = 0
    · rw [if_pos (by rw [c0]; exact ⟨rfl, rfl⟩), if_pos c0]
    · rw [if_neg (by unfold aS; omega), if_neg c0, if_neg (by unfold aS; omega)]
      by_cases c1 : w = 70 + x
      · rw [if_pos (by rw [c1]; exact ⟨rfl, rfl⟩), if_pos c1]
      · rw [if_neg (by unfold aS; omega), if_neg c1]
        by_cases c2 : w = 6 + m
        · rw [if_pos (by rw [c2]; exact ⟨rfl, rfl⟩), if_pos c2]
        · rw [if_neg (by unfold aS; omega), if_neg c2]; rfl
theorem come_L {F3 : Nat → Nat → Value} {s x : Nat} {v : Int32} (hx : x < 64) : ∀ w, (w < 134 ∨ 198 ≤ w) → oS (sS F3 s (134 + x) v) s w = oS F3 s w := by
  intro w hw
  rw [oS_sS, if_neg (by unfold aS; omega)]
/-- both sets after a number came -/
theorem sim_come {C2 F3 : Nat → Nat → Value} {u s x m n hz : Nat} (hu : u ≤ 64) (hO : okS F u hz s) (hS : simS C F s) (hx : x < u) (hm : oS F s 0 = Int32.ofNat m) (hmu : m < u) (hn : oS F s 3 = Int32.ofNat n) (hclk : gt C 0 7 = gt F 1 3)
    (hnm : ¬ isM F s x) (hz60 : hz ≤ 60) (hnh : n ≤ hz) (h1 : 1 ≤ hz) (hC : hapC (cB C s x m) C2 s n hz (gt C 0 7 + 1) (Int32.ofNat x) 0) (hF : hapF (sS (sL F s x m) s 0 (Int32.ofNat (m + 1))) F3 s n hz (Int32.ofNat x) 0) :
    simS C2 (sS F3 s (134 + x) (gt F3 1 3)) s ∧ okS (sS F3 s (134 + x) (gt F3 1 3)) u hz s := by
  have cF := come_F hF hz60 hnh h1 (by omega) (by omega)
  have clk : gt F3 1 3 = gt F 1 3 + 1 := by
    rw [hapF_clock hF, gt_S, if_neg (by unfold aS; omega), gt_L, if_neg (by omega), if_neg (by unfold aS; omega), if_neg (by unfold aS; omega)]
  have pre : ∀ w, ((2 ≤ w ∧ w < 6) ∨ 198 ≤ w) → oS (sS (sL F s x m) s 0 (Int32.ofNat (m + 1))) s w = oS F s w := fun w hw => by
    rw [oS_sS, if_neg (by unfold aS; omega), oS, gt_L, if_neg (by unfold aS; omega), if_neg (by unfold aS; omega), if_neg (by unfold aS; omega)]; rfl
  have preC : ∀ j l : Nat, j ≠ 0 → (j < 4 + 8 * s ∨ 4 + 8 * s + 4 ≤ j) → cB C s x m j l = C j l := fun j l h0 hj => by
    have : j ≠ 4 + 8 * s + (2 + 1) ∧ j ≠ 4 + 8 * s ∧ j ≠ 4 + 8 * s + (1 + 1) ∧ j ≠ 4 + 8 * s + (0 + 1) := by omega
    simp only [cB, cL, pu, this.1, this.2.1, this.2.2.1, this.2.2.2, h0, if_false]
  have pc : ∀ j l : Nat, j ≠ 0 → (j < 4 + 8 * s ∨ 4 + 8 * s + 4 ≤ j) → gt (cB C s x m) j l = gt C j l := fun j l h0 hj => by unfold gt; rw [preC j l h0 hj]
  have hL := simS_L hS
  have hL2 : simL (cB C s x m) (sS (sL F s x m) s 0 (Int32.ofNat (m + 1))) s := by
    refine ⟨?_, ?_, ?_, fun k n' h2 h3 h4 w hw => ?_⟩
    · rw [pc _ _ (by omega) (by omega), pre 3 (by omega)]; exact hL.1
    · rw [pc _ _ (by omega) (by omega), pre 2 (by omega)]; exact hL.2.1
    · rw [preC _ _ (by omega) (by omega), pre 4 (by omega), pre 5 (by omega)]; exact hL.2.2.1
    · rw [pre 3 (by omega)] at h2
      rw [pc _ _ (by omega) (by omega), pre _ (by omega)]; exact hL.2.2.2 k n' h2 h3 h4 w hw
  have clk2 : gt C 0 7 + 1 = gt (sS (sL F s x m) s 0 (Int32.ofNat (m + 1))) 1 3 + 1 := by
    rw [gt_S, if_neg (by unfold aS; omega), gt_L, if_neg (by omega), if_neg (by unfold aS; omega), if_neg (by unfold aS; omega), hclk]
  obtain ⟨hL3, n2, hn2, hn3⟩ := sim_hap hL2 (by rw [pre 3 (by omega)]; exact hn) clk2 hC hF hz60 hnh h1
  have cO : ∀ j, (j < 4 + 8 * s + 4 ∨ 4 + 8 * s + 8 ≤ j) → C2 j = cB C s x m j := hapC_out hC
  have cr : ∀ j l, j < 4 + 8 * s + 4 → gt C2 j l = gt (cB C s x m) j l := fun j l hj => by unfold gt; rw [cO j (by omega)]
  obtain ⟨s1, s2, s3, s4, s5, -⟩ := hS
  have fm : ∀ y, y < 64 → oS (sS F3 s (134 + x) (gt F3 1 3)) s (6 + y) = if y = m then Int32.ofNat x else oS F s (6 + y) := fun y hy => by
    rw [cF _ (by omega), if_neg (by omega), if_neg (by omega), if_neg (by omega)]
    by_cases c : y = m
    · rw [if_pos (by omega), if_pos c]
    · rw [if_neg (by omega), if_neg c]
  have fp : ∀ y, y < 64 → oS (sS F3 s (134 + x) (gt F3 1 3)) s (70 + y) = if y = x then Int32.ofNat m else oS F s (70 + y) := fun y hy => by
    rw [cF _ (by omega), if_neg (by omega), if_neg (by omega)]
    by_cases c : y = x
    · rw [if_pos (by omega), if_pos c]
    · rw [if_neg (by omega), if_neg c, if_neg (by omega)]
  have f0 : oS (sS F3 s (134 + x) (gt F3 1 3)) s 0 = Int32.ofNat (m + 1) := by rw [cF 0 (by omega), if_neg (by omega), if_pos rfl]
  have isM2 : ∀ y, y < 64 → y ≠ x → isM (sS F3 s (134 + x) (gt F3 1 3)) s y → isM F s y := by
    rintro y hy hyx ⟨p, m', e1, e2, e3, e4, e5⟩
    rw [f0] at e2
    have q : m' = m + 1 := ((n_eq (by omega) (by omega)).mp e2).symm
    subst q
    rw [fp y hy, if_neg hyx] at e1
    rw [fm p (by omega)] at e5
    by_cases c : p = m
    · rw [if_pos c] at e5
      exact absurd ((n_eq (by omega) (by omega)).mp e5).symm hyx
    · rw [if_neg c] at e5
      exact ⟨p, m, e1, hm, by omega, by omega, e5⟩
  refine ⟨⟨?_, ?_, fun y hy => ?_, fun y hy => ?_, fun y hy hM => ?_, ?_⟩, ⟨m + 1, by omega, f0, fun p hp => ?_⟩, fun y hy => ?_, fun y hy => ?_, n2, hn2, ?_⟩
  · rw [cr _ _ (by omega), f0]
    rw [cB, gt_pu, gt_pu, gt_pu, cL, gt_pu, gt_pu, gt_pu]
    rw [if_neg (by omega), if_neg (by omega), if_pos ⟨rfl, rfl⟩]
  · rw [cr _ _ (by omega), cF 1 (by omega), if_neg (by omega), if_neg (by omega), if_neg (by omega), if_neg (by omega), ← s2]
    rw [cB, gt_pu, gt_pu, gt_pu, cL, gt_pu, gt_pu, gt_pu]
    rw [if_neg (by omega), if_neg (by omega), if_neg (by omega), if_neg (by omega), if_neg (by omega), if_neg (by omega)]
  · rw [cr _ _ (by omega), fm y hy, ← s3 y hy]
    rw [cB, gt_pu, gt_pu, gt_pu, cL, gt_pu, gt_pu, gt_pu]
    rw [if_neg (by omega), if_neg (by omega), if_neg (by omega), if_neg (by omega), if_neg (by omega)]
    by_cases c : y = m
    · rw [if_pos ⟨by omega, c⟩, if_pos c]
    · rw [if_neg (fun g => c g.2), if_neg c]
  · rw [cr _ _ (by omega), fp y hy, ← s4 y hy]
    rw [cB, gt_pu, gt_pu, gt_pu, cL, gt_pu, gt_pu, gt_pu]
    rw [if_neg (by omega), if_neg (by omega), if_neg (by omega), if_neg (by omega)]
    by_cases c : y = x
    · rw [if_pos ⟨by omega, c⟩, if_pos c]
    · rw [if_neg (fun g => c g.2), if_neg (by omega), if_neg c]
  · rw [cr _ _ (by omega), cF (134 + y) (by omega)]
    rw [cB, gt_pu, gt_pu, gt_pu, cL, gt_pu, gt_pu, gt_pu]
    by_cases c : y = x
    · rw [if_pos ⟨by omega, c⟩, if_pos (by omega), clk, hclk]
    · rw [if_neg (fun g => c g.2), if_neg (by omega), if_neg (by omega), if_neg (by omega), if_neg (by omega), if_neg (by omega), if_neg (by omega), if_neg (by omega), if_neg (by omega), if_neg (by omega)]
      exact s5 y hy (isM2 y hy c hM)
  · refine ⟨?_, ?_, ?_, fun k n' h2 h3 h4 w hw => ?_⟩
    · rw [come_L (by omega) 3 (by omega)]; exact hL3.1
    · rw [come_L (by omega) 2 (by omega)]; exact hL3.2.1
    · rw [come_L (by omega) 4 (by omega), come_L (by omega) 5 (by omega)]; exact hL3.2.2.1
    · rw [come_L (by omega) 3 (by omega)] at h2
      rw [come_L (by omega) _ (by omega)]; exact hL3.2.2.2 k n' h2 h3 h4 w hw
  · obtain ⟨⟨m', e1, e2, e3⟩, -⟩ := hO
    have q : m = m' := (n_eq (by omega) (by omega)).mp (hm.symm.trans e2)
    subst q
    by_cases c : p = m
    · refine ⟨x, hx, ?_, ?_⟩
      · rw [fm p (by omega), if_pos c]
      · rw [fp x (by omega), if_pos rfl, c]
    · obtain ⟨y, y1, y2, y3⟩ := e3 p (by omega)
      have hyx : y ≠ x := fun e => hnm ⟨p, m, e ▸ y3, hm, by omega, by omega, e ▸ y2⟩
      exact ⟨y, y1, by rw [fm p (by omega), if_neg c, y2], by rw [fp y (by omega), if_neg hyx, y3]⟩
  · rw [fp y hy]
    by_cases c : y = x
    · rw [if_pos c]; exact ⟨m, by omega, rfl⟩
    · rw [if_neg c]; exact hO.2.1 y hy
  · rw [fm y hy]
    by_cases c : y = m
    · rw [if_pos c]; exact ⟨x, by omega, rfl⟩
    · rw [if_neg c]; exact hO.2.2.1 y hy
  · rw [come_L (by omega) 3 (by omega)]; exact hn3
end
