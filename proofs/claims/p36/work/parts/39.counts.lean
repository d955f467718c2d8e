section
/-! how many bits are set: the class's way and the reference's -/
def dsN (B : Nat) : Nat → Nat → Nat
  | 0, _ => 0
  | n + 1, x => x % B + dsN B n (x / B)
def dgN (B d : Nat) : Nat → Nat → Prop
  | 0, _ => True
  | n + 1, x => x % B ≤ d ∧ dgN B d n (x / B)
theorem and_sp {k q r q' r' : Nat} (h : r < 2 ^ k) (h' : r' < 2 ^ k) : (2 ^ k * q + r) &&& (2 ^ k * q' + r') = 2 ^ k * (q &&& q') + (r &&& r') := by
  have hp : 0 < 2 ^ k := Nat.two_pow_pos k
  have d1 : (2 ^ k * q + r) / 2 ^ k = q := by rw [Nat.mul_add_div hp, Nat.div_eq_of_lt h, Nat.add_zero]
  have d2 : (2 ^ k * q' + r') / 2 ^ k = q' := by rw [Nat.mul_add_div hp, Nat.div_eq_of_lt h', Nat.add_zero]
  have m1 : (2 ^ k * q + r) % 2 ^ k = r := by rw [Nat.mul_add_mod, Nat.mod_eq_of_lt h]
  have m2 : (2 ^ k * q' + r') % 2 ^ k = r' := by rw [Nat.mul_add_mod, Nat.mod_eq_of_lt h']
  have e := Nat.div_add_mod ((2 ^ k * q + r) &&& (2 ^ k * q' + r')) (2 ^ k)
  rw [Nat.and_div_two_pow, Nat.and_mod_two_pow, d1, d2, m1, m2] at e
  exact e.symm
def k1N : Nat → Nat
  | 0 => 0
  | n + 1 => 4 * k1N n + 1
def k2N : Nat → Nat
  | 0 => 0
  | n + 1 => 16 * k2N n + 3
def k3N : Nat → Nat
  | 0 => 0
  | n + 1 => 256 * k3N n + 15
theorem st1N : ∀ n x, x < 4 ^ n → (x / 2 &&& k1N n) ≤ x ∧ x - (x / 2 &&& k1N n) < 4 ^ n ∧ dsN 4 n (x - (x / 2 &&& k1N n)) = dsN 2 (2 * n) x ∧ dgN 4 2 n (x - (x / 2 &&& k1N n)) := by
  intro n
  induction n with
  | zero =>
    intro x hx
    have : x = 0 := by simp at hx; exact hx
    subst this
    exact ⟨by simp, by simp, rfl, trivial⟩
  | succ n ih =>
    intro x hx
    have hq : x / 4 < 4 ^ n := by rw [Nat.pow_succ] at hx; omega
    obtain ⟨i1, i2, i3, i4⟩ := ih (x / 4) hq
    have e : (x / 2 &&& k1N (n + 1)) = 4 * (x / 4 / 2 &&& k1N n) + x % 4 / 2 := by
      have s := and_sp (k := 2) (q := x / 4 / 2) (r := 2 * (x / 4 % 2) + x % 4 / 2) (q' := k1N n) (r' := 1) (by omega) (by omega)
      rw [show (2 : Nat) ^ 2 = 4 from rfl] at s
      rw [k1N, show x / 2 = 4 * (x / 4 / 2) + (2 * (x / 4 % 2) + x % 4 / 2) by omega, s]
      rw [show (2 * (x / 4 % 2) + x % 4 / 2) &&& 1 = x % 4 / 2 by rw [show (1 : Nat) = 2 ^ 1 - 1 from rfl, Nat.and_two_pow_sub_one_eq_mod]; omega]
    obtain ⟨A, hA⟩ : ∃ A, A = (x / 4 / 2 &&& k1N n) := ⟨_, rfl⟩
    rw [← hA] at i1 i2 i3 i4 e
    rw [e]
    have y1 : (x - (4 * A + x % 4 / 2)) % 4 = x % 4 - x % 4 / 2 := by omega
    have y2 : (x - (4 * A + x % 4 / 2)) / 4 = x / 4 - A := by omega
    refine ⟨by omega, by rw [Nat.pow_succ]; omega, ?_, ?_⟩
    · rw [dsN, y1, y2, i3, show 2 * (n + 1) = (2 * n + 1) + 1 by omega, dsN, dsN, show x / 2 / 2 = x / 4 by omega]
      omega
    · rw [dgN, y1, y2]
      exact ⟨by omega, i4⟩
theorem st2N : ∀ n y, y < 16 ^ n → dgN 4 2 (2 * n) y → (y &&& k2N n) + (y / 4 &&& k2N n) < 16 ^ n ∧ dsN 16 n ((y &&& k2N n) + (y / 4 &&& k2N n)) = dsN 4 (2 * n) y ∧ dgN 16 4 n ((y &&& k2N n) + (y / 4 &&& k2N n)) := by
  intro n
  induction n with
  | zero =>
    intro x hx _
    have : x = 0 := by simp at hx; exact hx
    subst this
    exact ⟨by simp, rfl, trivial⟩
  | succ n ih =>
    intro x hx hd
    rw [show 2 * (n + 1) = (2 * n + 1) + 1 by omega, dgN, dgN, show x / 4 / 4 = x / 16 by omega] at hd
    obtain ⟨d1, d2, d3⟩ := hd
    have hq : x / 16 < 16 ^ n := by rw [Nat.pow_succ] at hx; omega
    obtain ⟨i2, i3, i4⟩ := ih (x / 16) hq d3
    have e1 : (x &&& k2N (n + 1)) = 16 * (x / 16 &&& k2N n) + x % 4 := by
      have s := and_sp (k := 4) (q := x / 16) (r := x % 16) (q' := k2N n) (r' := 3) (by omega) (by omega)
      rw [show (2 : Nat) ^ 4 = 16 from rfl, show 16 * (x / 16) + x % 16 = x by omega] at s
      rw [k2N, s, show x % 16 &&& 3 = x % 4 by rw [show (3 : Nat) = 2 ^ 2 - 1 from rfl, Nat.and_two_pow_sub_one_eq_mod]; omega]
    have e2 : (x / 4 &&& k2N (n + 1)) = 16 * (x / 16 / 4 &&& k2N n) + x / 4 % 4 := by
      have s := and_sp (k := 4) (q := x / 16 / 4) (r := x / 4 % 16) (q' := k2N n) (r' := 3) (by omega) (by omega)
      rw [show (2 : Nat) ^ 4 = 16 from rfl, show 16 * (x / 16 / 4) + x / 4 % 16 = x / 4 by omega] at s
      rw [k2N, s, show x / 4 % 16 &&& 3 = x / 4 % 4 by rw [show (3 : Nat) = 2 ^ 2 - 1 from rfl, Nat.and_two_pow_sub_one_eq_mod]; omega]
    obtain ⟨A, hA⟩ : ∃ A, A = (x / 16 &&& k2N n) := ⟨_, rfl⟩
    obtain ⟨B, hB⟩ : ∃ B, B = (x / 16 / 4 &&& k2N n) := ⟨_, rfl⟩
    rw [← hA, ← hB] at i2 i3 i4
    rw [← hA] at e1
    rw [← hB] at e2
    rw [e1, e2]
    have y1 : (16 * A + x % 4 + (16 * B + x / 4 % 4)) % 16 = x % 4 + x / 4 % 4 := by omega
    have y2 : (16 * A + x % 4 + (16 * B + x / 4 % 4)) / 16 = A + B := by omega
    refine ⟨by rw [Nat.pow_succ]; omega, ?_, ?_⟩
    · rw [dsN, y1, y2, i3, show 2 * (n + 1) = (2 * n + 1) + 1 by omega, dsN, dsN, show x / 4 / 4 = x / 16 by omega]
      omega
    · rw [dgN, y1, y2]
      exact ⟨by omega, i4⟩
theorem st3N : ∀ n y, y < 256 ^ n → dgN 16 4 (2 * n) y → ((y + y / 16) &&& k3N n) < 256 ^ n ∧ dsN 256 n ((y + y / 16) &&& k3N n) = dsN 16 (2 * n) y ∧ dgN 256 8 n ((y + y / 16) &&& k3N n) := by
  intro n
  induction n with
  | zero =>
    intro x hx _
    have : x = 0 := by simp at hx; exact hx
    subst this
    exact ⟨by simp, rfl, trivial⟩
  | succ n ih =>
    intro x hx hd
    rw [show 2 * (n + 1) = (2 * n + 1) + 1 by omega, dgN, dgN, show x / 16 / 16 = x / 256 by omega] at hd
    obtain ⟨d1, d2, d3⟩ := hd
    have hq : x / 256 < 256 ^ n := by rw [Nat.pow_succ] at hx; omega
    have d4 : x / 256 % 16 ≤ 4 := by
      cases n with
      | zero => simp at hq; omega
      | succ n => rw [show 2 * (n + 1) = (2 * n + 1) + 1 by omega, dgN] at d3; exact d3.1
    obtain ⟨i2, i3, i4⟩ := ih (x / 256) hq d3
    have e1 : ((x + x / 16) &&& k3N (n + 1)) = 256 * ((x / 256 + x / 256 / 16) &&& k3N n) + (x % 16 + x / 16 % 16) := by
      have s := and_sp (k := 8) (q := x / 256 + x / 256 / 16) (r := 16 * (x / 16 % 16 + x / 256 % 16) + (x % 16 + x / 16 % 16)) (q' := k3N n) (r' := 15) (by omega) (by omega)
      rw [show (2 : Nat) ^ 8 = 256 from rfl, show 256 * (x / 256 + x / 256 / 16) + (16 * (x / 16 % 16 + x / 256 % 16) + (x % 16 + x / 16 % 16)) = x + x / 16 by omega] at s
      rw [k3N, s, show (16 * (x / 16 % 16 + x / 256 % 16) + (x % 16 + x / 16 % 16)) &&& 15 = x % 16 + x / 16 % 16 by rw [show (15 : Nat) = 2 ^ 4 - 1 from rfl, Nat.and_two_pow_sub_one_eq_mod]; omega]
    obtain ⟨A, hA⟩ : ∃ A, A = ((x / 256 + x / 256 / 16) &&& k3N n) := ⟨_, rfl⟩
    rw [← hA] at i2 i3 i4 e1
    rw [e1]
    have y1 : (256 * A + (x % 16 + x / 16 % 16)) % 256 = x % 16 + x / 16 % 16 := by omega
    have y2 : (256 * A + (x % 16 + x / 16 % 16)) / 256 = A := by omega
    refine ⟨by rw [Nat.pow_succ]; omega, ?_, ?_⟩
    · rw [dsN, y1, y2, i3, show 2 * (n + 1) = (2 * n + 1) + 1 by omega, dsN, dsN, show x / 16 / 16 = x / 256 by omega]
      omega
    · rw [dgN, y1, y2]
      exact ⟨by omega, i4⟩
theorem st4L {y q1 q2 q3 q4 q5 q6 q7 p0 p1 p2 p3 p4 p5 p6 : Nat} (e0 : y = 256 * q1 + p0) (e1 : q1 = 256 * q2 + p1) (e2 : q2 = 256 * q3 + p2) (e3 : q3 = 256 * q4 + p3) (e4 : q4 = 256 * q5 + p4) (e5 : q5 = 256 * q6 + p5) (e6 : q6 = 256 * q7 + p6)
    (h0 : p0 ≤ 8) (h1 : p1 ≤ 8) (h2 : p2 ≤ 8) (h3 : p3 ≤ 8) (h4 : p4 ≤ 8) (h5 : p5 ≤ 8) (h6 : p6 ≤ 8) (h7 : q7 ≤ 8) :
    y / 256 = q1 ∧ (y + q1) / 65536 = q2 + q3 ∧ (y + q1 + (q2 + q3)) / 4294967296 = q4 + q5 + q6 + q7 ∧ y ≤ 578721382704613384 ∧ (y + q1 + (q2 + q3) + (q4 + q5 + q6 + q7)) % 128 = p0 + p1 + p2 + p3 + p4 + p5 + p6 + q7 := by
  refine ⟨by omega, ?_, ?_, by omega, ?_⟩
  · have : y + q1 = 65536 * (q2 + q3) + (256 * (p1 + p2) + p0 + p1) := by omega
    omega
  · have a1 : y = 4294967296 * q4 + (16777216 * p3 + 65536 * p2 + 256 * p1 + p0) := by omega
    have a2 : q1 = 4294967296 * q5 + (16777216 * p4 + 65536 * p3 + 256 * p2 + p1) := by omega
    have a3 : q2 = 4294967296 * q6 + (16777216 * p5 + 65536 * p4 + 256 * p3 + p2) := by omega
    have a4 : q3 = 4294967296 * q7 + (16777216 * p6 + 65536 * p5 + 256 * p4 + p3) := by omega
    clear e0 e1 e2 e3 e4 e5 e6
    omega
  · have : y + q1 + (q2 + q3) + (q4 + q5 + q6 + q7) = 256 * (q1 + q2 + q3 + q4 + q5 + q6 + q7) + (p0 + p1 + p2 + p3 + p4 + p5 + p6 + q7) := by omega
    clear e0 e1 e2 e3 e4 e5 e6
    omega
theorem st4N {y : Nat} (hy : y < 256 ^ 8) (hd : dgN 256 8 8 y) : y + y / 256 < 2 ^ 60 ∧ (y + y / 256) + (y + y / 256) / 65536 < 2 ^ 61 ∧ ((y + y / 256) + (y + y / 256) / 65536) + ((y + y / 256) + (y + y / 256) / 65536) / 4294967296 < 2 ^ 62 ∧
    (((y + y / 256) + (y + y / 256) / 65536) + ((y + y / 256) + (y + y / 256) / 65536) / 4294967296) % 128 = dsN 256 8 y := by
  simp only [dgN, dsN] at hd ⊢
  obtain ⟨q1, g1⟩ : ∃ q, q = y / 256 := ⟨_, rfl⟩
  obtain ⟨q2, g2⟩ : ∃ q, q = q1 / 256 := ⟨_, rfl⟩
  obtain ⟨q3, g3⟩ : ∃ q, q = q2 / 256 := ⟨_, rfl⟩
  obtain ⟨q4, g4⟩ : ∃ q, q = q3 / 256 := ⟨_, rfl⟩
  obtain ⟨q5, g5⟩ : ∃ q, q = q4 / 256 := ⟨_, rfl⟩
  obtain ⟨q6, g6⟩ : ∃ q, q = q5 / 256 := ⟨_, rfl⟩
  obtain ⟨q7, g7⟩ : ∃ q, q = q6 / 256 := ⟨_, rfl⟩
  rw [← g1, ← g2, ← g3, ← g4, ← g5, ← g6, ← g7] at hd ⊢
  obtain ⟨d0, d1, d2, d3, d4, d5, d6, d7, -⟩ := hd
  have hy' : y < 18446744073709551616 := hy
  have b1 : q1 < 72057594037927936 := by omega
  have b2 : q2 < 281474976710656 := by omega
  have b3 : q3 < 1099511627776 := by omega
  have b4 : q4 < 4294967296 := by omega
  have b5 : q5 < 16777216 := by omega
  have b6 : q6 < 65536 := by omega
  have b7 : q7 < 256 := by omega
  have c7 : q7 % 256 = q7 := by omega
  rw [c7] at d7 ⊢
  obtain ⟨r1, r2, r3, r4, r5⟩ := st4L (y := y) (q1 := q1) (q2 := q2) (q3 := q3) (q4 := q4) (q5 := q5) (q6 := q6) (q7 := q7) (p0 := y % 256) (p1 := q1 % 256) (p2 := q2 % 256) (p3 := q3 % 256) (p4 := q4 % 256) (p5 := q5 % 256) (p6 := q6 % 256)
    (by omega) (by omega) (by omega) (by omega) (by omega) (by omega) (by omega) d0 d1 d2 d3 d4 d5 d6 d7
  rw [r2, r3, r5]
  clear r2 r3 r5 d0 d1 d2 d3 d4 d5 d6
  refine ⟨by omega, by omega, by omega, by omega⟩
end
section
def nN (x : Int64) : Nat := x.toBitVec.toNat
theorem nN_lt (x : Int64) : nN x < 18446744073709551616 := x.toBitVec.isLt
theorem nN_and (x y : Int64) : nN (x &&& y) = nN x &&& nN y := by unfold nN; rw [Int64.toBitVec_and, BitVec.toNat_and]
theorem nN_add {x y : Int64} (h : nN x + nN y < 18446744073709551616) : nN (x + y) = nN x + nN y := by
  unfold nN at *; rw [Int64.toBitVec_add, BitVec.toNat_add, Nat.mod_eq_of_lt h]
theorem nN_sub {x y : Int64} (h : nN y ≤ nN x) : nN (x - y) = nN x - nN y := by
  unfold nN at *; rw [Int64.toBitVec_sub, BitVec.toNat_sub_of_le h]
/-- the shift to the right that fills with nothing -/
def shU (k : Int32) (x : Int64) : Int64 := (x.toUInt64 >>> (k.toInt64.toUInt64 &&& Int64.toUInt64 63)).toInt64
theorem nN_sh (x : Int64) (k : Int32) (u : UInt64) (h : (k.toInt64.toUInt64 &&& Int64.toUInt64 63) = u) : nN (shU k x) = nN x / 2 ^ (u.toNat % 64) := by
  unfold shU
  rw [h]
  show (x.toUInt64 >>> u).toNat = _
  rw [UInt64.toNat_shiftRight, Nat.shiftRight_eq_div_pow]
  rfl
def pcI (x : Int64) : Nat := dsN 2 64 (nN x)
def sw1 (x : Int64) : Int64 := x - (shU 1 x &&& 6148914691236517205)
def sw2 (x : Int64) : Int64 := (x &&& 3689348814741910323) + (shU 2 x &&& 3689348814741910323)
def sw3 (x : Int64) : Int64 := (x + shU 4 x) &&& 1085102592571150095
def sw4 (x : Int64) : Int64 := x + shU 8 x
def sw5 (x : Int64) : Int64 := x + shU 16 x
def sw6 (x : Int64) : Int64 := x + shU 32 x
theorem dsN_le (n : Nat) : ∀ x, dsN 2 n x ≤ n := by
  induction n with
  | zero => intro x; exact Nat.le_refl _
  | succ n ih => intro x; rw [dsN]; have := ih (x / 2); omega
theorem pcI_le (x : Int64) : pcI x ≤ 64 := dsN_le 64 _
theorem sw_1 (x : Int64) : dsN 4 32 (nN (sw1 x)) = dsN 2 64 (nN x) ∧ dgN 4 2 32 (nN (sw1 x)) := by
  have k1 : nN (6148914691236517205 : Int64) = k1N 32 := by decide +kernel
  have p4 : (4 : Nat) ^ 32 = 18446744073709551616 := by decide +kernel
  obtain ⟨a1, -, a3, a4⟩ := st1N 32 (nN x) (by rw [p4]; exact nN_lt x)
  have s : nN (shU 1 x &&& 6148914691236517205) = (nN x / 2 &&& k1N 32) := by rw [nN_and, k1, nN_sh x 1 1 (by decide +kernel)]; rfl
  have e1 : nN (sw1 x) = nN x - (nN x / 2 &&& k1N 32) := by rw [sw1, nN_sub (by rw [s]; exact a1), s]
  rw [e1]
  exact ⟨a3, a4⟩
theorem sw_2 (x : Int64) (hd : dgN 4 2 32 (nN x)) : dsN 16 16 (nN (sw2 x)) = dsN 4 32 (nN x) ∧ dgN 16 4 16 (nN (sw2 x)) := by
  have k2 : nN (3689348814741910323 : Int64) = k2N 16 := by decide +kernel
  have p16 : (16 : Nat) ^ 16 = 18446744073709551616 := by decide +kernel
  obtain ⟨b2, b3, b4⟩ := st2N 16 (nN x) (by rw [p16]; exact nN_lt _) hd
  have s1 : nN (x &&& 3689348814741910323) = (nN x &&& k2N 16) := by rw [nN_and, k2]
  have s2 : nN (shU 2 x &&& 3689348814741910323) = (nN x / 4 &&& k2N 16) := by rw [nN_and, k2, nN_sh _ 2 2 (by decide +kernel)]; rfl
  have e2 : nN (sw2 x) = (nN x &&& k2N 16) + (nN x / 4 &&& k2N 16) := by rw [sw2, nN_add (by rw [s1, s2, ← p16]; exact b2), s1, s2]
  rw [e2]
  exact ⟨b3, b4⟩
theorem dg_top : ∀ n y, y < 16 ^ n → dgN 16 4 n y → 15 * y + 4 ≤ 4 * 16 ^ n := by
  intro n
  induction n with
  | zero => intro y h _; simp at h; subst h; simp
  | succ n ih =>
    intro y h hd
    rw [dgN] at hd
    have := ih (y / 16) (by rw [Nat.pow_succ] at h; omega) hd.2
    rw [Nat.pow_succ]; omega
theorem sw_3 (x : Int64) (hd : dgN 16 4 16 (nN x)) : dsN 256 8 (nN (sw3 x)) = dsN 16 16 (nN x) ∧ dgN 256 8 8 (nN (sw3 x)) := by
  have k3 : nN (1085102592571150095 : Int64) = k3N 8 := by decide +kernel
  have p16 : (16 : Nat) ^ 16 = 18446744073709551616 := by decide +kernel
  have p256 : (256 : Nat) ^ 8 = 18446744073709551616 := by decide +kernel
  have t2 : nN (shU 4 x) = nN x / 16 := by rw [nN_sh _ 4 4 (by decide +kernel)]; rfl
  have top := dg_top 16 (nN x) (by rw [p16]; exact nN_lt _) hd
  rw [p16] at top
  have b : nN x + nN x / 16 < 18446744073709551616 := by clear hd k3 t2 p16 p256; omega
  obtain ⟨-, c3, c4⟩ := st3N 8 (nN x) (by rw [p256]; exact nN_lt _) hd
  have e3 : nN (sw3 x) = ((nN x + nN x / 16) &&& k3N 8) := by rw [sw3, nN_and, k3, nN_add (by rw [t2]; exact b), t2]
  rw [e3]
  exact ⟨c3, c4⟩
theorem sw_6 (x : Int64) (hd : dgN 256 8 8 (nN x)) : nN (sw6 (sw5 (sw4 x))) % 128 = dsN 256 8 (nN x) := by
  have p256 : (256 : Nat) ^ 8 = 18446744073709551616 := by decide +kernel
  obtain ⟨f1, f2, f3, f4⟩ := st4N (by rw [p256]; exact nN_lt x) hd
  clear hd
  have t8 : ∀ y, nN (shU 8 y) = nN y / 256 := fun y => by rw [nN_sh _ 8 8 (by decide +kernel)]; rfl
  have t16 : ∀ y, nN (shU 16 y) = nN y / 65536 := fun y => by rw [nN_sh _ 16 16 (by decide +kernel)]; rfl
  have t32 : ∀ y, nN (shU 32 y) = nN y / 4294967296 := fun y => by rw [nN_sh _ 32 32 (by decide +kernel)]; rfl
  have g4 : nN (sw4 x) = nN x + nN x / 256 := by rw [sw4, nN_add (by rw [t8]; exact Nat.lt_trans f1 (by decide)), t8]
  have g5 : nN (sw5 (sw4 x)) = (nN x + nN x / 256) + (nN x + nN x / 256) / 65536 := by rw [sw5, nN_add (by rw [t16, g4]; exact Nat.lt_trans f2 (by decide)), t16, g4]
  have g6 : nN (sw6 (sw5 (sw4 x))) = ((nN x + nN x / 256) + (nN x + nN x / 256) / 65536) + ((nN x + nN x / 256) + (nN x + nN x / 256) / 65536) / 4294967296 := by rw [sw6, nN_add (by rw [t32, g5]; exact Nat.lt_trans f3 (by decide)), t32, g5]
  rw [g6]
  exact f4
theorem sw_end (y : Int64) (k : Nat) (hk : k ≤ 64) (h : nN y % 128 = k) : y.toInt32 &&& 127 = Int32.ofNat k := by
  apply Int32.toBitVec_inj.mp
  apply BitVec.eq_of_toNat_eq
  rw [Int32.toBitVec_and, BitVec.toNat_and, Int64.toBitVec_toInt32, BitVec.signExtend_eq_setWidth_of_le _ (by decide), BitVec.toNat_setWidth]
  show nN y % 4294967296 &&& 127 = (BitVec.ofNat 32 k).toNat
  rw [BitVec.toNat_ofNat, show (127 : Nat) = 2 ^ 7 - 1 from rfl, Nat.and_two_pow_sub_one_eq_mod]
  omega
theorem bitCount_sw (x : Int64) (M : vMe) : tJ13_bitCount_95d88 x M = some ((sw6 (sw5 (sw4 (sw3 (sw2 (sw1 x)))))).toInt32 &&& 127) := by
  rfl
theorem bitCount_eq (x : Int64) (M : vMe) : tJ13_bitCount_95d88 x M = some (Int32.ofNat (pcI x)) := by
  obtain ⟨a1, a2⟩ := sw_1 x
  obtain ⟨b1, b2⟩ := sw_2 _ a2
  obtain ⟨c1, c2⟩ := sw_3 _ b2
  have d := sw_6 _ c2
  rw [bitCount_sw, sw_end _ (pcI x) (pcI_le x) (by rw [d, c1, b1, a1]; rfl)]
theorem kern : ∀ n x, 0 < x → x < 2 ^ n → dsN 2 n (x &&& (x - 1)) + 1 = dsN 2 n x := by
  intro n
  induction n with
  | zero => intro x h1 h2; simp at h2; omega
  | succ n ih =>
    intro x h1 h2
    by_cases c : x % 2 = 1
    · have e : x &&& (x - 1) = x - 1 := by
        have s := and_sp (k := 1) (q := x / 2) (r := 1) (q' := x / 2) (r' := 0) (by omega) (by omega)
        rw [show (2 : Nat) ^ 1 = 2 from rfl, show 2 * (x / 2) + 1 = x by omega, show 2 * (x / 2) + 0 = x - 1 by omega, Nat.and_self] at s
        rw [s]; simp; omega
      rw [e, dsN, dsN, show (x - 1) / 2 = x / 2 by omega]; omega
    · have e : x &&& (x - 1) = 2 * (x / 2 &&& (x / 2 - 1)) := by
        have s := and_sp (k := 1) (q := x / 2) (r := 0) (q' := x / 2 - 1) (r' := 1) (by omega) (by omega)
        rw [show (2 : Nat) ^ 1 = 2 from rfl, show 2 * (x / 2) + 0 = x by omega, show 2 * (x / 2 - 1) + 1 = x - 1 by omega] at s
        rw [s]; simp
      rw [e, dsN, dsN, show 2 * (x / 2 &&& (x / 2 - 1)) / 2 = (x / 2 &&& (x / 2 - 1)) by omega]
      have := ih (x / 2) (by omega) (by rw [Nat.pow_succ] at h2; omega)
      omega
theorem nN_zero {x : Int64} (h : nN x = 0) : x = 0 := by
  apply Int64.toBitVec_inj.mp
  apply BitVec.eq_of_toNat_eq
  exact h
end
