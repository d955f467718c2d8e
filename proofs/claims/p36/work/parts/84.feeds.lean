section
variable {M N W : vMe} {x r a d b y u hz n k len lo n0 s0 : Nat} {G F C : Nat → Nat → Value} {Gs : Nat → Nat}
/-! four letters in a number -/
theorem pk32 {c b : Nat} (hc : c < 16777216) (hb : b < 256) : (Int32.ofNat c <<< ((8 : Int32) &&& 31)) ||| Int32.ofNat b = Int32.ofNat (256 * c + b) := by
  apply Int32.toBitVec_inj.mp
  have am : ((8 : Int32) &&& 31).toBitVec.smod 32 = BitVec.ofNat 32 8 := by decide
  rw [Int32.toBitVec_or, Int32.toBitVec_shiftLeft, am]
  have t : ∀ m, (Int32.ofNat m).toBitVec = BitVec.ofNat 32 m := fun m => rfl
  rw [t, t, t]
  apply BitVec.eq_of_toNat_eq
  show ((BitVec.ofNat 32 c <<< (BitVec.ofNat 32 8).toNat) ||| BitVec.ofNat 32 b).toNat = _
  rw [BitVec.toNat_or, BitVec.toNat_shiftLeft, BitVec.toNat_ofNat, BitVec.toNat_ofNat, BitVec.toNat_ofNat, BitVec.toNat_ofNat, Nat.mod_eq_of_lt (a := c) (by omega), Nat.mod_eq_of_lt (a := b) (by omega), Nat.mod_eq_of_lt (a := 256 * c + b) (by omega), show 8 % 2 ^ 32 = 8 from rfl]
  have e : c <<< 8 = 256 * c := by rw [Nat.shiftLeft_eq]; omega
  rw [Nat.mod_eq_of_lt (by rw [e]; omega), ← Nat.shiftLeft_add_eq_or_of_lt (show b < 2 ^ 8 by omega), e]
theorem shr32 {m s : Nat} (hm : m < 2147483648) (hs : s < 32) : Int32.ofNat m >>> (Int32.ofNat s &&& 31) = Int32.ofNat (m >>> s) := by
  apply Int32.toBitVec_inj.mp
  have am : ∀ s, s < 32 → (Int32.ofNat s &&& 31).toBitVec.smod 32 = BitVec.ofNat 32 s := by decide +kernel
  rw [Int32.toBitVec_shiftRight, am s hs]
  show (BitVec.ofNat 32 m).sshiftRight (BitVec.ofNat 32 s).toNat = BitVec.ofNat 32 (m >>> s)
  have e1 : (BitVec.ofNat 32 m).toNat = m := by rw [BitVec.toNat_ofNat]; exact Nat.mod_eq_of_lt (by omega)
  have e2 : (BitVec.ofNat 32 s).toNat = s := by rw [BitVec.toNat_ofNat]; exact Nat.mod_eq_of_lt (by omega)
  rw [BitVec.sshiftRight_eq_of_msb_false (by rw [BitVec.msb_eq_false_iff_two_mul_lt, e1]; omega), e2]
  apply BitVec.eq_of_toNat_eq
  rw [BitVec.toNat_ushiftRight, e1, BitVec.toNat_ofNat]
  have : m >>> s ≤ m := Nat.shiftRight_le m s
  rw [Nat.mod_eq_of_lt (by omega)]
theorem by8 {m c : Nat} (h : m % 256 = c) (hc : c < 128) : ((Int32.ofNat m).toInt8.toInt32).toInt8.toInt32 = Int32.ofNat c := by
  have e : (Int32.ofNat m).toInt8 = Int8.ofNat c := by
    apply Int8.toBitVec_inj.mp
    rw [Int32.toBitVec_toInt8]
    show (BitVec.ofNat 32 m).signExtend 8 = BitVec.ofNat 8 c
    rw [BitVec.signExtend_eq_setWidth_of_le _ (by omega)]
    apply BitVec.eq_of_toNat_eq
    rw [BitVec.toNat_setWidth, BitVec.toNat_ofNat, BitVec.toNat_ofNat]
    omega
  have k : ∀ c, c < 128 → ((Int8.ofNat c).toInt32).toInt8.toInt32 = Int32.ofNat c := by decide +kernel
  rw [e]; exact k c hc
theorem byte_P {c : Nat → Nat} (h : ∀ i, i < 4 → c i < 128) : ∀ i, i < 4 → ((Int32.ofNat (pkN c 4) >>> (Int32.ofNat (24 - 8 * i) &&& 31)).toInt8.toInt32).toInt8.toInt32 = Int32.ofNat (c i) := fun i hi => by
  have h0 := h 0 (by omega)
  have h1 := h 1 (by omega)
  have h2 := h 2 (by omega)
  have h3 := h 3 (by omega)
  have e : pkN c 4 = 16777216 * c 0 + 65536 * c 1 + 256 * c 2 + c 3 := by simp only [pkN]; omega
  rw [shr32 (by omega) (by omega)]
  refine by8 ?_ (h i hi)
  rw [Nat.shiftRight_eq_div_pow, e]
  rcases (show i = 0 ∨ i = 1 ∨ i = 2 ∨ i = 3 by omega) with rfl | rfl | rfl | rfl
  · show (16777216 * c 0 + 65536 * c 1 + 256 * c 2 + c 3) / 16777216 % 256 = c 0; omega
  · show (16777216 * c 0 + 65536 * c 1 + 256 * c 2 + c 3) / 65536 % 256 = c 1; omega
  · show (16777216 * c 0 + 65536 * c 1 + 256 * c 2 + c 3) / 256 % 256 = c 2; omega
  · show (16777216 * c 0 + 65536 * c 1 + 256 * c 2 + c 3) / 1 % 256 = c 3; omega
/-- bytes are written behind the text -/
def apd (G G2 : Nat → Nat → Value) (len : Nat) (cs : List Nat) : Prop := fG G G2 ∧ gt G2 1 1 = Int32.ofNat (len + cs.length) ∧ (∀ i, i < cs.length → gt G2 2 (len + i) = Int32.ofNat (cs.getD i 0)) ∧ ∀ i, i < len ∨ len + cs.length ≤ i → gt G2 2 i = gt G 2 i
theorem apd.tr {G1 G2 : Nat → Nat → Value} {cs ds : List Nat} (h : apd G G1 len cs) (g : apd G1 G2 (len + cs.length) ds) : apd G G2 len (cs ++ ds) := by
  obtain ⟨h1, h2, h3, h4⟩ := h
  obtain ⟨g1, g2, g3, g4⟩ := g
  refine ⟨h1.tr g1, by rw [g2, List.length_append, Nat.add_assoc], fun i hi => ?_, fun i hi => ?_⟩
  · rw [List.length_append] at hi
    rw [appL]
    by_cases c : i < cs.length
    · rw [if_pos c, g4 _ (.inl (by omega)), h3 i c]
    · rw [if_neg c, ← g3 (i - cs.length) (by omega), show len + cs.length + (i - cs.length) = len + i by omega]
  · rw [List.length_append] at hi
    rw [g4 i (by omega), h4 i (by omega)]
theorem apd_1 {c : Nat} : apd G (pu (pu G 2 len (.int (Int32.ofNat c))) 1 1 (.int (Int32.ofNat (len + 1)))) len [c] := by
  refine ⟨⟨fun i h1 h2 => by rw [pu_o h1, pu_o h2], by rw [pu_ne (by omega), pu_ne (by omega)]⟩, gt_eq _ _ _, fun i hi => ?_, fun i hi => ?_⟩
  · have hi' : i < 1 := hi
    have : i = 0 := by omega
    subst this
    rw [gt_ne (by omega), Nat.add_zero, gt_eq]; rfl
  · have hi' : i < len ∨ len + 1 ≤ i := hi
    rw [gt_ne (by omega), gt_ne (by omega)]
theorem take_1 {v x2 : Int32} {c f : Nat} (gO : gOk M x G) (h1 : gt G 1 1 = Int32.ofNat len) (hl : len < 600) (hx : ¬ x2 < 0) (hc : ((v >>> (x2 &&& 31)).toInt8.toInt32).toInt8.toInt32 = Int32.ofNat c) :
    tX1_takeFourBytes_L3 (x + 1) v (f + 1) x2 (gv M x G) = tX1_takeFourBytes_L3 (x + 1) v f (x2 + (-8)) (gv M x (pu (pu G 2 len (.int (Int32.ofNat c))) 1 1 (.int (Int32.ofNat (len + 1))))) := by
  have o2 : gOk M x (pu G 2 len (.int (Int32.ofNat c))) := ⟨gO.1, by rw [pu_ne (by omega)]; exact gO.2.1, by rw [pu_ne (by omega)]; exact gO.2.2.1, by rw [pu_ne (by omega)]; exact gO.2.2.2.1, by rw [pu_ne (by omega)]; exact gO.2.2.2.2.1, by rw [pu_ne (by omega)]; exact gO.2.2.2.2.2.1, by rw [pu_ne (by omega)]; exact gO.2.2.2.2.2.2.1, by rw [pu_ne (by omega)]; exact gO.2.2.2.2.2.2.2⟩
  have c6 : ¬ (600 : Int32) ≤ Int32.ofNat len := fun g => by have := (n_le (a := 600) (by omega) (by omega)).mp g; omega
  rw [tX1_takeFourBytes_L3, if_neg hx, g_t1, Option.bind_some, h1, if_neg c6, g_t0 gO, Option.bind_some, Option.bind_some, hc, g_tS gO hl, Option.bind_some, g_t1, Option.bind_some, gt_ne (by omega), h1, n_succ, g_ts o2, Option.bind_some]
theorem apd_ok {G2 : Nat → Nat → Value} {cs : List Nat} (h : apd G G2 len cs) (gO : gOk M x G) : gOk M x G2 := h.1.ok gO
theorem take_P {c : Nat → Nat} (gO : gOk M x G) (h1 : gt G 1 1 = Int32.ofNat len) (hl : len + 4 ≤ 600) (h : ∀ i, i < 4 → c i < 128) : ∃ G2, tX1_takeFourBytes (x + 1) (Int32.ofNat (pkN c 4)) (gv M x G) = some ((), gv M x G2) ∧ apd G G2 len [c 0, c 1, c 2, c 3] := by
  obtain ⟨f, hf⟩ : ∃ f, vF = f + 5 := ⟨vF - 5, by unfold vF; omega⟩
  have a1 := apd_1 (G := G) (len := len) (c := c 0)
  have o1 := apd_ok a1 gO
  have a2 := apd_1 (G := pu (pu G 2 len (.int (Int32.ofNat (c 0)))) 1 1 (.int (Int32.ofNat (len + 1)))) (len := len + 1) (c := c 1)
  have o2 := apd_ok a2 o1
  obtain ⟨G2, hG2⟩ : ∃ G2, G2 = pu (pu (pu (pu G 2 len (.int (Int32.ofNat (c 0)))) 1 1 (.int (Int32.ofNat (len + 1)))) 2 (len + 1) (.int (Int32.ofNat (c 1)))) 1 1 (.int (Int32.ofNat (len + 1 + 1))) := ⟨_, rfl⟩
  rw [← hG2] at a2 o2
  have a3 := apd_1 (G := G2) (len := len + 1 + 1) (c := c 2)
  have o3 := apd_ok a3 o2
  obtain ⟨G3, hG3⟩ : ∃ G3, G3 = pu (pu G2 2 (len + 1 + 1) (.int (Int32.ofNat (c 2)))) 1 1 (.int (Int32.ofNat (len + 1 + 1 + 1))) := ⟨_, rfl⟩
  rw [← hG3] at a3 o3
  have a4 := apd_1 (G := G3) (len := len + 1 + 1 + 1) (c := c 3)
  have t1 := take_1 (M := M) (f := f + 3 + 1) (v := Int32.ofNat (pkN c 4)) (x2 := 24) gO h1 (by omega) (by decide) (byte_P h 0 (by omega))
  have t2 := take_1 (M := M) (f := f + 2 + 1) (v := Int32.ofNat (pkN c 4)) (len := len + 1) (x2 := 24 + (-8)) o1 a1.2.1 (show len + 1 < 600 by omega) (by decide) (byte_P h 1 (by omega))
  rw [← hG2] at t2
  have t3 := take_1 (M := M) (f := f + 1 + 1) (v := Int32.ofNat (pkN c 4)) (len := len + 1 + 1) (x2 := 24 + (-8) + (-8)) o2 a2.2.1 (show len + 1 + 1 < 600 by omega) (by decide) (byte_P h 2 (by omega))
  rw [← hG3] at t3
  have t4 := take_1 (M := M) (f := f + 1) (v := Int32.ofNat (pkN c 4)) (len := len + 1 + 1 + 1) (x2 := 24 + (-8) + (-8) + (-8)) o3 a3.2.1 (show len + 1 + 1 + 1 < 600 by omega) (by decide) (byte_P h 3 (by omega))
  refine ⟨_, ?_, ((a1.tr a2).tr a3).tr a4⟩
  rw [tX1_takeFourBytes, hf, show f + 5 = f + 3 + 1 + 1 from rfl, t1, show f + 3 + 1 = f + 2 + 1 + 1 from rfl, t2, show f + 2 + 1 = f + 1 + 1 + 1 from rfl, t3, t4, tX1_takeFourBytes_L3, if_pos (by decide), Option.bind_some]
/-- twenty bytes -/
theorem append_P {c : Nat → Nat → Nat} (gO : gOk M x G) (h1 : gt G 1 1 = Int32.ofNat len) (hl : len + 20 ≤ 600) (h : ∀ j, j < 5 → ∀ i, i < 4 → c j i < 128) : ∃ G2, tX9_append x (Int32.ofNat (pkN (c 0) 4)) (Int32.ofNat (pkN (c 1) 4)) (Int32.ofNat (pkN (c 2) 4)) (Int32.ofNat (pkN (c 3) 4)) (Int32.ofNat (pkN (c 4) 4)) (gv M x G) = some (Int32.ofNat (len + 20), gv M x G2) ∧ fG G G2 ∧ gt G2 1 1 = Int32.ofNat (len + 20) ∧ (∀ j i, j < 5 → i < 4 → gt G2 2 (len + 4 * j + i) = Int32.ofNat (c j i)) ∧ ∀ i, i < len ∨ len + 20 ≤ i → gt G2 2 i = gt G 2 i := by
  obtain ⟨G1, t1, a1⟩ := take_P gO h1 (by omega) (h 0 (by omega))
  have o1 := apd_ok a1 gO
  obtain ⟨G2, t2, a2⟩ := take_P o1 a1.2.1 (show len + 4 + 4 ≤ 600 by omega) (h 1 (by omega))
  have o2 := apd_ok a2 o1
  obtain ⟨G3, t3, a3⟩ := take_P o2 a2.2.1 (show len + 4 + 4 + 4 ≤ 600 by omega) (h 2 (by omega))
  have o3 := apd_ok a3 o2
  obtain ⟨G4, t4, a4⟩ := take_P o3 a3.2.1 (show len + 4 + 4 + 4 + 4 ≤ 600 by omega) (h 3 (by omega))
  have o4 := apd_ok a4 o3
  obtain ⟨G5, t5, a5⟩ := take_P o4 a4.2.1 (show len + 4 + 4 + 4 + 4 + 4 ≤ 600 by omega) (h 4 (by omega))
  have A := (((a1.tr a2).tr a3).tr a4).tr a5
  have tg : ∀ G', ((gv M x G').1 (x + 1)).1 = 4 := fun G' => by rw [gv_at 1 (by omega)]; rfl
  refine ⟨G5, ?_, A.1, A.2.1, fun j i hj hi => ?_, A.2.2.2⟩
  · have le : Int32.ofNat len + 20 ≤ 600 := by
      rw [show (20 : Int32) = Int32.ofNat 20 from rfl, n_add]
      exact (n_le (b := 600) (by omega) (by omega)).mpr hl
    rw [tX9_append, g_x0 gO, Option.bind_some, g_t1, Option.bind_some, h1, if_pos le, Option.bind_some, if_pos (tg G), t1, Option.bind_some]
    dsimp only
    rw [g_x0 o1, Option.bind_some, if_pos (tg G1), t2, Option.bind_some]
    dsimp only
    rw [g_x0 o2, Option.bind_some, if_pos (tg G2), t3, Option.bind_some]
    dsimp only
    rw [g_x0 o3, Option.bind_some, if_pos (tg G3), t4, Option.bind_some]
    dsimp only
    rw [g_x0 o4, Option.bind_some, if_pos (tg G4), t5, Option.bind_some]
    dsimp only
    rw [g_x0 (apd_ok a5 o4), Option.bind_some, g_t1, Option.bind_some, show gt G5 1 1 = Int32.ofNat (len + 20) from A.2.1]
  · have := A.2.2.1 (4 * j + i) (by show 4 * j + i < 20; omega)
    rw [← Nat.add_assoc] at this
    rw [this]
    rcases (show j = 0 ∨ j = 1 ∨ j = 2 ∨ j = 3 ∨ j = 4 by omega) with rfl | rfl | rfl | rfl | rfl <;> rcases (show i = 0 ∨ i = 1 ∨ i = 2 ∨ i = 3 by omega) with rfl | rfl | rfl | rfl <;> rfl
end
