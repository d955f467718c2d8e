section
variable {M : vMe} {x r a d : Nat} {G F C : Nat → Nat → Value} {u hz n k : Nat}
/-- the code of a byte -/
def cd (v : Int32) : Nat := (v &&& 255).toNatClampNeg
theorem cd_all : ∀ m, m < 256 → cd (Int32.ofNat m - 128) < 256 ∧ (Int32.ofNat m - 128) &&& 255 = Int32.ofNat (cd (Int32.ofNat m - 128)) ∧ ((cd (Int32.ofNat m - 128) < 128 ∧ Int32.ofNat m - 128 = Int32.ofNat (cd (Int32.ofNat m - 128))) ∨ (128 ≤ cd (Int32.ofNat m - 128) ∧ Int32.ofNat m - 128 < 0)) := by decide +kernel
theorem byt {v : Int32} (h : fits .byte (.int v) = true) : ∃ m, m < 256 ∧ v = Int32.ofNat m - 128 := by
  have h2 : (decide (-128 ≤ v) && decide (v ≤ 127)) = true := h
  rw [Bool.and_eq_true, decide_eq_true_eq, decide_eq_true_eq, Int32.le_iff_toInt_le, Int32.le_iff_toInt_le] at h2
  have e1 : (-128 : Int32).toInt = -128 := by decide
  have e2 : (127 : Int32).toInt = 127 := by decide
  have e3 : (128 : Int32).toInt = 128 := by decide
  rw [e1, e2] at h2
  refine ⟨(v.toInt + 128).toNat, by omega, Int32.toInt_inj.mp ?_⟩
  rw [Int32.toInt_sub, n_toInt (by omega), e3, show (((v.toInt + 128).toNat : Nat) : Int) - 128 = v.toInt by omega, Int.bmod_eq_of_le (by omega) (by omega)]
theorem cd_lt {v : Int32} (h : fits .byte (.int v) = true) : cd v < 256 := by obtain ⟨m, hm, rfl⟩ := byt h; exact (cd_all m hm).1
theorem cd_and {v : Int32} (h : fits .byte (.int v) = true) : v &&& 255 = Int32.ofNat (cd v) := by obtain ⟨m, hm, rfl⟩ := byt h; exact (cd_all m hm).2.1
theorem cd_cs {v : Int32} (h : fits .byte (.int v) = true) : (cd v < 128 ∧ v = Int32.ofNat (cd v)) ∨ (128 ≤ cd v ∧ v < 0) := by obtain ⟨m, hm, rfl⟩ := byt h; exact (cd_all m hm).2.2
theorem neg_i {v : Int32} : v < 0 ↔ v.toInt < 0 := by rw [Int32.lt_iff_toInt_lt]; rfl
theorem cd_lo {v : Int32} {j : Nat} (hj : j < 128) (h : fits .byte (.int v) = true) : v < Int32.ofNat j ↔ (cd v < j ∨ 128 ≤ cd v) := by
  rcases cd_cs h with ⟨g, e⟩ | ⟨g, e⟩
  · have e2 : (v < Int32.ofNat j) ↔ cd v < j := by
      conv => lhs; rw [e]
      exact n_lt (by omega) (by omega)
    rw [e2]; omega
  · rw [neg_i] at e
    rw [Int32.lt_iff_toInt_lt, n_toInt (by omega)]; omega
theorem cd_hi {v : Int32} {j : Nat} (hj : j < 128) (h : fits .byte (.int v) = true) : Int32.ofNat j < v ↔ (j < cd v ∧ cd v < 128) := by
  rcases cd_cs h with ⟨g, e⟩ | ⟨g, e⟩
  · have e2 : (Int32.ofNat j < v) ↔ j < cd v := by
      conv => lhs; rw [e]
      exact n_lt (by omega) (by omega)
    rw [e2]; omega
  · rw [neg_i] at e
    rw [Int32.lt_iff_toInt_lt, n_toInt (by omega)]; omega
theorem cd_eq {v : Int32} {j : Nat} (hj : j < 128) (h : fits .byte (.int v) = true) : v = Int32.ofNat j ↔ cd v = j := by
  rcases cd_cs h with ⟨g, e⟩ | ⟨g, e⟩
  · have e2 : (v = Int32.ofNat j) ↔ cd v = j := by
      conv => lhs; rw [e]
      exact n_eq (by omega) (by omega)
    exact e2
  · rw [neg_i] at e
    exact ⟨fun q => by rw [q, n_toInt (by omega)] at e; omega, fun q => by omega⟩
/-! letters packed -/
def pk (B : Nat → Nat) : Nat → Int64
  | 0 => 0
  | n + 1 => (pk B n <<< ((8 : Int32).toInt64 &&& 63)) ||| (Int32.ofNat (B n)).toInt64
def pkN (B : Nat → Nat) : Nat → Nat
  | 0 => 0
  | n + 1 => 256 * pkN B n + B n
theorem pkN_lt {B : Nat → Nat} : ∀ n, (∀ i, i < n → B i < 256) → pkN B n < 256 ^ n := by
  intro n
  induction n with
  | zero => intro _; simp [pkN]
  | succ n ih =>
    intro h
    have h1 := ih (fun i hi => h i (by omega))
    have h2 := h n (by omega)
    rw [pkN, Nat.pow_succ]; omega
theorem b64 : ∀ b, b < 256 → (Int32.ofNat b).toInt64 = Int64.ofNat b := by decide +kernel
theorem pk_st {c b : Nat} (hc : c < 72057594037927936) (hb : b < 256) : (Int64.ofNat c <<< ((8 : Int32).toInt64 &&& 63)) ||| (Int32.ofNat b).toInt64 = Int64.ofNat (256 * c + b) := by
  rw [b64 b hb]
  apply Int64.toBitVec_inj.mp
  have am : ((8 : Int32).toInt64 &&& 63).toBitVec.smod 64 = BitVec.ofNat 64 8 := bt_amt 8 (by omega)
  rw [Int64.toBitVec_or, Int64.toBitVec_shiftLeft, am]
  have t : ∀ m, (Int64.ofNat m).toBitVec = BitVec.ofNat 64 m := fun m => rfl
  rw [t, t, t]
  apply BitVec.eq_of_toNat_eq
  show ((BitVec.ofNat 64 c <<< (BitVec.ofNat 64 8).toNat) ||| BitVec.ofNat 64 b).toNat = _
  rw [BitVec.toNat_or, BitVec.toNat_shiftLeft, BitVec.toNat_ofNat, BitVec.toNat_ofNat, BitVec.toNat_ofNat, BitVec.toNat_ofNat, Nat.mod_eq_of_lt (a := c) (by omega), Nat.mod_eq_of_lt (a := b) (by omega), Nat.mod_eq_of_lt (a := 256 * c + b) (by omega), show 8 % 2 ^ 64 = 8 from rfl]
  have e : c <<< 8 = 256 * c := by rw [Nat.shiftLeft_eq]; omega
  rw [Nat.mod_eq_of_lt (by rw [e]; omega), ← Nat.shiftLeft_add_eq_or_of_lt (show b < 2 ^ 8 by omega), e]
theorem pkN_eq {B : Nat → Nat} : ∀ n, n ≤ 8 → (∀ i, i < n → B i < 256) → pk B n = Int64.ofNat (pkN B n) := by
  intro n
  induction n with
  | zero => intro _ _; rfl
  | succ n ih =>
    intro hn h
    have h1 := pkN_lt n (fun i hi => h i (by omega))
    have h2 : 256 ^ n ≤ 256 ^ 7 := Nat.pow_le_pow_right (by omega) (by omega)
    have h3 : 256 ^ 7 = 72057594037927936 := by decide
    rw [pk, ih (by omega) (fun i hi => h i (by omega)), pk_st (by omega) (h n (by omega)), pkN]
theorem pkN_inj {B B' : Nat → Nat} : ∀ n m, (∀ i, i < n → 0 < B i ∧ B i < 256) → (∀ i, i < m → 0 < B' i ∧ B' i < 256) → pkN B n = pkN B' m → n = m ∧ ∀ i, i < n → B i = B' i := by
  intro n
  induction n with
  | zero =>
    intro m _ h2 e
    cases m with
    | zero => exact ⟨rfl, fun i hi => absurd hi (by omega)⟩
    | succ m => have := h2 m (by omega); rw [pkN, pkN] at e; omega
  | succ n ih =>
    intro m h1 h2 e
    have p1 := h1 n (by omega)
    cases m with
    | zero => rw [pkN, pkN] at e; omega
    | succ m =>
      have p2 := h2 m (by omega)
      rw [pkN, pkN] at e
      obtain ⟨q1, q2⟩ := ih m (fun i hi => h1 i (by omega)) (fun i hi => h2 i (by omega)) (by omega)
      subst q1
      refine ⟨rfl, fun i hi => ?_⟩
      by_cases g : i = n
      · rw [g]; omega
      · exact q2 i (by omega)
theorem pk_inj {B B' : Nat → Nat} {n m : Nat} (hn : n ≤ 8) (hm : m ≤ 8) (h1 : ∀ i, i < n → 0 < B i ∧ B i < 128) (h2 : ∀ i, i < m → 0 < B' i ∧ B' i < 128) (e : pk B n = pk B' m) : n = m ∧ ∀ i, i < n → B i = B' i := by
  rw [pkN_eq n hn (fun i hi => by have := h1 i hi; omega), pkN_eq m hm (fun i hi => by have := h2 i hi; omega)] at e
  have l1 := pkN_lt (B := B) n (fun i hi => by have := h1 i hi; omega)
  have l2 := pkN_lt (B := B') m (fun i hi => by have := h2 i hi; omega)
  have g1 : 256 ^ n ≤ 256 ^ 8 := Nat.pow_le_pow_right (by omega) hn
  have g2 : 256 ^ m ≤ 256 ^ 8 := Nat.pow_le_pow_right (by omega) hm
  have g3 : 256 ^ 8 = 2 ^ 64 := by decide
  have e2 := congrArg (fun v : Int64 => v.toBitVec.toNat) e
  have e3 : pkN B n % 2 ^ 64 = pkN B' m % 2 ^ 64 := e2
  rw [Nat.mod_eq_of_lt (by omega), Nat.mod_eq_of_lt (by omega)] at e3
  exact pkN_inj n m (fun i hi => by have := h1 i hi; omega) (fun i hi => by have := h2 i hi; omega) e3
theorem pk_congr {B B' : Nat → Nat} : ∀ n, (∀ i, i < n → B i = B' i) → pk B n = pk B' n := by
  intro n
  induction n with
  | zero => intro _; rfl
  | succ n ih => intro h; rw [pk, pk, ih (fun i hi => h i (by omega)), h n (by omega)]
theorem pkL_pk (l : List Nat) : pkL l = pk (fun i => l.getD i 0) l.length := by
  have key : ∀ m, m ≤ l.length → (l.take m).foldl (fun (c : Int64) b => (c <<< ((8 : Int32).toInt64 &&& 63)) ||| (Int32.ofNat b).toInt64) 0 = pk (fun i => l.getD i 0) m := by
    intro m
    induction m with
    | zero => intro _; rfl
    | succ m ih =>
      intro hm
      have eg : l.getD m 0 = l[m]'(by omega) := by rw [List.getD_eq_getElem?_getD, List.getElem?_eq_getElem (by omega)]; rfl
      rw [List.take_succ_eq_append_getElem (by omega), List.foldl_append, ih (by omega), pk, List.foldl_cons, List.foldl_nil]
      simp only [eg]
  have := key l.length (Nat.le_refl _)
  rw [List.take_length] at this
  exact this
theorem wd_B {l : List Nat} (h : isWd l) : ∀ i, i < l.length → 0 < l.getD i 0 ∧ l.getD i 0 < 128 := fun i hi => by have := h.2.2 i hi; omega
end
