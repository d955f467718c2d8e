section
variable {KK : Nat → vOb} {M : vMe} {x r a d b u hz n k : Nat} {G F C E : Nat → Nat → Value}
/-- a memory holds the law's sets -/
def hE (M : vMe) (b : Nat) (E : Nat → Nat → Value) : Prop := (∀ i, i < 44 → M.1 (b + i) = ((eT i).1, (eT i).2, E i)) ∧ ∀ c q, c < 6 → E 42 c = .ref q → M.1 q = (13, 0, E (44 + c))
theorem hE.eq (h : hE M b E) (o : eOk M b E) : ew M b E = M := by
  refine Prod.ext (funext fun q => ?_) rfl
  by_cases g : eA b E q
  · rcases g with g | ⟨c, hc, hq⟩
    · have := h.1 (q - b) (by omega)
      rw [show b + (q - b) = q by omega] at this
      rw [this]
      have e := ew_at (M := M) (b := b) (E := E) (i := q - b) (by omega)
      rw [show b + (q - b) = q by omega] at e
      exact e
    · rw [ew_cu o hc hq, h.2 c q hc hq]
  · exact ew_out o g
theorem hE_ew (o : eOk M b E) : hE (ew M b E) b E := ⟨fun _ hi => ew_at hi, fun _ _ hc hq => ew_cu o hc hq⟩
theorem hE.mv {M2 : vMe} (h : hE M b E) (g : ∀ q, eA b E q → M2.1 q = M.1 q) : hE M2 b E := ⟨fun i hi => by rw [g _ (.inl ⟨by omega, by omega⟩)]; exact h.1 i hi, fun c q hc hq => by rw [g _ (.inr ⟨c, hc, hq⟩)]; exact h.2 c q hc hq⟩
theorem eT_no (i : Nat) : (eT i).1 ≠ 1 ∧ (eT i).1 ≠ 102 := by
  unfold eT
  repeat' split
  all_goals exact ⟨by decide, by decide⟩
theorem hE.tag (h : hE M b E) {q : Nat} (g : eA b E q) : (M.1 q).1 ≠ 1 ∧ (M.1 q).1 ≠ 102 := by
  rcases g with g | ⟨c, hc, hq⟩
  · have := h.1 (q - b) (by omega)
    rw [show b + (q - b) = q by omega] at this
    rw [this]; exact eT_no _
  · rw [h.2 c q hc hq]; exact ⟨show (13 : Nat) ≠ 1 by decide, show (13 : Nat) ≠ 102 by decide⟩
/-- what the class holds is untouched -/
theorem simD_law {M2 : vMe} (h : simD M x r G F a d C u hz n k) (hq : ∀ q, q < M.2.1 → (own x r G q ∨ (M.1 q).1 = 1 ∨ (M.1 q).1 = 102) → M2.1 q = M.1 q) (hm : M.2.1 ≤ M2.2.1) (hb : M2.2.2.2 = M.2.2.2) : simD M2 x r G F a d C u hz n k := by
  obtain ⟨⟨a1, a2, a3, a4, a5, a6⟩, ⟨b1, b2, b3, b4⟩, c1, d1, ⟨f1, f2, f3, f4⟩, ⟨len, g1, g2, g3⟩, g4, i1, ⟨nx, cnt, j1, j2, j3, j4, j5, j6⟩, l1⟩ := h
  have ka := bk0 b1
  have sb : ∀ i c E, i < 14 → bkG G i = some c → hB M c E → hB M2 c E := fun i c E hi hbk hE j hj => by
    obtain ⟨q1, q2, q3⟩ := (c1 i c hi hbk).1
    rw [hq _ (by omega) (.inl (own_bk hi hbk (by omega) (by omega)))]; exact hE j hj
  have nm : ∀ E, simNm M x r G E F 2 n → simNm M2 x r G E F 2 n := fun E hE s hs => by
    obtain ⟨q, l, h1, ⟨p, p1, p2, p3, p4, p5⟩, h3, h4⟩ := hE s hs
    obtain ⟨S, B, t1, t2, t3, t4, t5⟩ := p1
    have e1 := hq q p4 (.inr (.inl (by rw [t1])))
    have e2 := hq p p5 (.inr (.inr (by rw [t4])))
    exact ⟨q, l, h1, ⟨p, tAt.same ⟨S, B, t1, t2, t3, t4, t5⟩ e1 e2, p2, p3, by omega, by omega⟩, h3, h4⟩
  have cOm : ∀ c E, cOk M c E → cOk M2 c E := fun c E hE => ⟨by rw [hb]; exact hE.1, hE.2⟩
  refine ⟨⟨fun i hi => by rw [hq _ (by omega) (.inl (.inl ⟨by omega, by omega⟩))]; exact a1 i hi, ⟨by rw [hb]; exact a2.1, a2.2⟩, trivial, ⟨by rw [hb]; exact a4.1, a4.2⟩, a5, by omega⟩, ⟨b1, b2, b3, b4⟩, fun i c hi hbk => ?_, d1, ⟨sb 0 a C (by omega) ka f1, cOm _ _ f2, f3, nm C f4⟩, ⟨len, g1, g2, g3⟩, g4, i1, ⟨nx, cnt, j1, j2, j3, j4, j5, fun i hi => ?_⟩, fun j hj => ?_⟩
  · obtain ⟨⟨q1, q2, q3⟩, E, q4, q5⟩ := c1 i c hi hbk
    exact ⟨⟨q1, by omega, q3⟩, E, sb i c E hi hbk q4, cOm _ _ q5⟩
  · obtain ⟨c, E, k', q1, q2, q3, q4⟩ := j6 i hi
    have hlt : (nx + 10 - cnt + i) % 10 < 10 := Nat.mod_lt _ (by omega)
    exact ⟨c, E, k', q1, sb _ c E (by omega) (bk2 hlt q1) q2, q3, nm E q4⟩
  · rcases l1 j hj with q | ⟨q1, q2, c, E, k', q3, q4, q5, q6⟩
    · exact .inl q
    · exact .inr ⟨q1, q2, c, E, k', q3, sb _ c E (by omega) (bk3 q3) q4, q5, nm E q6⟩
/-- what is kept of the rows of the ghost -/
def keepF (F : Nat → Nat → Value) (cnt c1 sh : Nat) : Nat → Nat → Value := fun i => if i = 7 then (fun l => if l < 1952 * c1 then F 7 (1952 * sh + l) else if l < 1952 * c1 + 1952 then F 1 (l - 1952 * c1) else F 7 l) else if i = 0 then updV (F 0) 18 (.int (Int32.ofNat (c1 + 1))) else F i
theorem keepF_k {cnt c1 sh : Nat} (hc : (cnt < 10 ∧ c1 = cnt ∧ sh = 0) ∨ (cnt = 10 ∧ c1 = 9 ∧ sh = 1)) : kpF F (keepF F cnt c1 sh) cnt c1 sh := by
  refine ⟨hc, ?_, fun l hl => ?_, fun j l hj hl => ?_, fun i h7 h0 => ?_, fun l h1 h2 => ?_⟩
  · unfold gt keepF; rw [if_neg (by omega), if_pos rfl]; simp [updV, vI]
  · unfold gt keepF; rw [if_pos rfl]
    rw [if_neg (by omega), if_pos (by omega), Nat.add_sub_cancel_left]
  · have : 1952 * j + 1952 ≤ 1952 * c1 := by have := Nat.mul_le_mul_left 1952 (show j + 1 ≤ c1 by omega); omega
    unfold gt keepF; rw [if_pos rfl]
    rw [if_pos (by omega), Nat.mul_add]
    congr 2
    omega
  · unfold keepF; rw [if_neg h7, if_neg h0]
  · unfold keepF; rw [if_neg (by omega), if_pos rfl]; unfold updV; rw [if_neg h1]
theorem rFld_18 {i : Nat} (h0 : 0 < i) (h : i < 10) : rFld i ≠ 18 := by unfold rFld; split <;> omega
/-- a class's call behind its checks: what was is remembered, then the block changes -/
def rem (Gs : Nat → Nat) (M M1 : vMe) (x r a d u hz n : Nat) (G G1 F C : Nat → Nat → Value) : Prop :=
  tX8_remember Gs (x + 3) a M = some ((), M1) ∧ M1.2.1 ≤ M.2.1 + 50 ∧ M1.2.2.1 ≤ M.2.2.1 + 2001 ∧ M.2.1 ≤ M1.2.1 ∧ M1.2.2.2 = M.2.2.2 ∧ gA M1 x 11 3 = some a ∧ hB M1 a C ∧ cOk M1 a C ∧ (∀ q, ¬ own x r G q → q < M.2.1 → M1.1 q = M.1 q ∧ ¬ own x r G1 q) ∧ (∀ q, a ≤ q → q < a + 50 → own x r G q) ∧ hG M1 x G1 ∧ (x + 8 ≤ a ∧ gt G1 1 1 = gt G 1 1) ∧
    ∀ C2 E2 k2, cOk M1 a C2 → kN C C2 → simP C2 (gRow F E2) u hz n k2 → ∃ F2, F2 1 = eR E2 ∧ simD (cv M1 a C2) x r G1 F2 a d C2 u hz n k2
theorem rem_P {Gs : Nat → Nat} (h : simD M x r G F a d C u hz n k) (hz' : bz C) : ∃ M1 G1, rem Gs M M1 x r a d u hz n G G1 F C := by
  obtain ⟨M1, G1, cnt, m1, m2, m3, m4, m5, m6, m7, m8, m9, m10, m11, m12, m13, m14, m15, m16, m18, m17⟩ := remember_P (Gs := Gs) h hz'
  have ka := bk0 h.2.1.1
  obtain ⟨c1, sh, hc⟩ : ∃ c1 sh, (cnt < 10 ∧ c1 = cnt ∧ sh = 0) ∨ (cnt = 10 ∧ c1 = 9 ∧ sh = 1) := by
    by_cases q : cnt < 10
    · exact ⟨cnt, 0, .inl ⟨q, rfl, rfl⟩⟩
    · exact ⟨9, 1, .inr ⟨by omega, rfl, rfl⟩⟩
  have e1 : keepF F cnt c1 sh 1 = F 1 := by unfold keepF; rw [if_neg (by omega), if_neg (by omega)]
  have rO : rOk M1 r (keepF F cnt c1 sh) := ⟨m14.1, fun i h0 h1 => by
    have := m14.2 i h0 h1
    unfold keepF; rw [if_neg (by omega), if_pos rfl]; unfold updV; rw [if_neg (rFld_18 h0 h1)]; exact this⟩
  have s1 := m17 _ c1 sh (keepF_k hc) rO
  refine ⟨M1, G1, m1, m5, m6, m4, m7, X_no m9 (by rw [m8]; exact h.2.1.1), m11, m12, m18, fun q h1 h2 => own_bk (by omega) ka h1 h2, m9, ⟨m15, ?_⟩, fun C2 E2 k2 o2 kn hP => ?_⟩
  · obtain ⟨-, -, -, -, -, ⟨l1, -, p1, p2⟩, -⟩ := s1
    obtain ⟨-, -, -, -, -, ⟨l2, -, p3, p4⟩, -⟩ := h
    rw [p1, p3, ← p2, ← p4]
    unfold gt keepF; rw [if_neg (by omega), if_pos rfl]; unfold updV; rw [if_neg (by omega)]
  refine ⟨gRow (keepF F cnt c1 sh) E2, gRow_1, ?_⟩
  exact simD_now (F2 := gRow (keepF F cnt c1 sh) E2) (C2 := C2) s1 o2 (gRow_ok rO) gRow_k kn (simP_row hP (fun l _ => rfl))
/-! what else lies in the memory -/
def sepW (KK : Nat → vOb) (M : vMe) (x r b y : Nat) (G E : Nat → Nat → Value) : Prop := (∀ q, eA b E q → q < M.2.1 ∧ ¬ own x r G q) ∧ (M.1 y).1 = 101 ∧ 0 < (M.1 y).2.1 ∧ M.2.2.2 ≤ y ∧ y < M.2.1 ∧ ¬ own x r G y ∧ ¬ eA b E y ∧ gt G 1 1 = 0 ∧ x ≤ b ∧ x ≤ y ∧ ∀ q, q < x → q < M.2.1 ∧ ¬ own x r G q ∧ M.1 q = KK q
theorem eA_ge {q : Nat} (o : eOk M b E) (g : eA b E q) : b ≤ q := by
  rcases g with g | ⟨c, hc, hq⟩
  · exact g.1
  · rcases o.2.2.2.2.1 c hc with e | ⟨p, e, h⟩
    · rw [e] at hq; cases hq
    · rw [e] at hq; cases hq; omega
theorem sep_rem {Gs : Nat → Nat} {M1 : vMe} {G1 : Nat → Nat → Value} {y : Nat} (h : rem Gs M M1 x r a d u hz n G G1 F C) (s : sepW KK M x r b y G E) (e : hE M b E) (o : eOk M b E) (C2 : Nat → Nat → Value) : sepW KK (cv M1 a C2) x r b y G1 E ∧ hE (cv M1 a C2) b E ∧ eOk (cv M1 a C2) b E := by
  obtain ⟨-, -, -, h4, h5, -, -, -, h9, h10, -, h12, -⟩ := h
  have out : ∀ q, ¬ own x r G q → q < M.2.1 → (cv M1 a C2).1 q = M.1 q := fun q hq hl => by
    rw [cv_out (fun g => hq (h10 q g.1 g.2))]; exact (h9 q hq hl).1
  obtain ⟨s1, s2, s3, s4, s5, s6, s7⟩ := s
  refine ⟨⟨fun q hq => ?_, by rw [out y s6 s5]; exact s2, by rw [out y s6 s5]; exact s3, by show M1.2.2.2 ≤ y; omega, by show y < M1.2.1; omega, (h9 y s6 s5).2, s7.1, h12.2.trans s7.2.1, s7.2.2.1, s7.2.2.2.1, fun q hq => ?_⟩, e.mv (fun q hq => out q (s1 q hq).2 (s1 q hq).1), ⟨by show M1.2.2.2 ≤ b; rw [h5]; exact o.1, o.2⟩⟩
  · obtain ⟨g1, g2⟩ := s1 q hq
    exact ⟨by show q < M1.2.1; omega, (h9 q g2 g1).2⟩
  · obtain ⟨g1, g2, g3⟩ := s7.2.2.2.2 q hq
    exact ⟨by show q < M1.2.1; omega, (h9 q g2 g1).2, (out q g2 g1).trans g3⟩
theorem eA_eq {E2 : Nat → Nat → Value} (h : E2 42 = E 42) (q : Nat) : eA b E2 q ↔ eA b E q := by unfold eA; rw [h]
theorem sep_law {M2 : vMe} {E2 : Nat → Nat → Value} {q y : Nat} (s : sepW KK M x r b y G E) (g : gro M M2 q) (h42 : E2 42 = E 42) (o2 : eOk M2 b E2) : sepW KK (ew M2 b E2) x r b y G E2 := by
  obtain ⟨g1, g2, g3, g4, g5⟩ := g
  obtain ⟨s1, s2, s3, s4, s5, s6, s7⟩ := s
  have p5 : ¬ eA b E2 y := fun w => s7.1 ((eA_eq h42 y).mp w)
  have ey : (ew M2 b E2).1 y = M.1 y := by rw [ew_out o2 p5, g5 y s5]
  refine ⟨fun z hz => ?_, by rw [ey]; exact s2, by rw [ey]; exact s3, by show M2.2.2.2 ≤ y; omega, by show y < M2.2.1; omega, s6, p5, s7.2.1, s7.2.2.1, s7.2.2.2.1, fun z hz => ?_⟩
  · obtain ⟨p1, p2⟩ := s1 z ((eA_eq h42 z).mp hz)
    exact ⟨by show z < M2.2.1; omega, p2⟩
  · obtain ⟨p1, p2, p3⟩ := s7.2.2.2.2 z hz
    exact ⟨by show z < M2.2.1; omega, p2, by rw [ew_out o2 (fun w => by have := eA_ge o2 w; have := s7.2.2.1; omega), g5 z p1]; exact p3⟩
theorem simD_ew {M2 : vMe} {E2 : Nat → Nat → Value} {q y : Nat} (h : simD M x r G F a d C u hz n k) (e : hE M b E) (s : sepW KK M x r b y G E) (g : gro M M2 q) (h42 : E2 42 = E 42) (o2 : eOk M2 b E2) : simD (ew M2 b E2) x r G F a d C u hz n k := by
  obtain ⟨g1, g2, g3, g4, g5⟩ := g
  refine simD_law h (fun z hz hw => ?_) g2 g1
  have p4 : ¬ eA b E z := fun w => by
    rcases hw with w1 | w1 | w1
    · exact (s.1 z w).2 w1
    · exact (e.tag w).1 w1
    · exact (e.tag w).2 w1
  rw [ew_out o2 (fun w => p4 ((eA_eq h42 z).mp w)), g5 z hz]
/-- THE WORLD OF THE LAW -/
def WW (KK : Nat → vOb) (M : vMe) (x r b y u hz n clk : Nat) (E : Nat → Nat → Value) : Prop := ∃ G F a d C k, simD M x r G F a d C u hz n k ∧ F 1 = eR E ∧ okE b E F n clk ∧ hE M b E ∧ eOk M b E ∧ sepW KK M x r b y G E ∧ bz C ∧ M.2.2.2 ≤ M.2.1
theorem n_mod {t m : Nat} (ht : t < 16777216) (hm : m < 2147483648) : Int32.ofNat t - Int32.ofNat t / Int32.ofNat m * Int32.ofNat m = Int32.ofNat (t % m) := by
  have hd : Int32.ofNat t / Int32.ofNat m = Int32.ofNat (t / m) := by
    apply Int32.toInt_inj.mp
    have h2 : t / m ≤ t := Nat.div_le_self t m
    obtain ⟨q, hq⟩ : ∃ q, q = t / m := ⟨_, rfl⟩
    rw [← hq] at h2
    rw [Int32.toInt_div, n_toInt (by omega), n_toInt hm, ← hq, n_toInt (by omega), Int.tdiv_eq_ediv_of_nonneg (by omega), ← Int.natCast_ediv, ← hq]
    rw [Int.bmod_eq_of_le (by omega) (by omega)]
  have h3 : t / m * m ≤ t := Nat.div_mul_le_self t m
  rw [hd, ← Int32.ofNat_mul, n_sub h3]
  congr 1
  have := Nat.div_add_mod t m
  rw [Nat.mul_comm] at this
  omega
theorem sh8 (v : Int32) : ∃ t, t < 16777216 ∧ (v.toUInt32 >>> ((8 : Int32).toUInt32 &&& Int32.toUInt32 31)).toInt32 = Int32.ofNat t := by
  refine ⟨v.toUInt32.toNat >>> 8, ?_, ?_⟩
  · have := v.toUInt32.toNat_lt
    rw [Nat.shiftRight_eq_div_pow]; omega
  · have h1 : ((8 : Int32).toUInt32 &&& Int32.toUInt32 31) = 8 := by decide
    rw [h1]
    apply Int32.toBitVec_inj.mp
    rw [UInt32.toBitVec_toInt32]
    apply BitVec.eq_of_toNat_eq
    have := v.toUInt32.toNat_lt
    rw [UInt32.toBitVec_shiftRight]
    have e9 : v.toUInt32.toNat = v.toBitVec.toNat := rfl
    simp [Nat.shiftRight_eq_div_pow]
    omega
theorem own_lt {q : Nat} (h : simD M x r G F a d C u hz n k) (ho : own x r G q) : q < M.2.1 := by
  obtain ⟨⟨-, -, -, -, a5, a6⟩, -, c1, -⟩ := h
  rcases ho with g | g | ⟨i, c, hi, hc, g1, g2⟩
  · omega
  · omega
  · obtain ⟨⟨q1, q2, q3⟩, -⟩ := c1 i c hi hc
    omega
/-- a draw -/
theorem draw_N {N : vMe} {y u hz n clk m : Nat} (w : WW KK M x r b y u hz n clk E) (e1 : ∀ z, z < M.2.1 → N.1 z = M.1 z) (e3 : N.2.2.2 = M.2.2.2) (h1 : 1 ≤ m) (hm : m < 2147483648) : ∃ j N2, j < m ∧ tL_draw y (Int32.ofNat m) N = some (Int32.ofNat j, N2) ∧ N2.2 = N.2 ∧ (∀ z, z ≠ y → N2.1 z = N.1 z) ∧ y < M.2.1 ∧ ∀ A B, M.2.1 ≤ A → WW KK (N2.1, A, B, M.2.2.2) x r b y u hz n clk E := by
  obtain ⟨G, F, a, d, C, k, w1, w2, w3, w4, w5, ⟨s1, s2, s3, s4, s5, s6, s7⟩, w7, w8⟩ := w
  obtain ⟨o, ho⟩ : ∃ o, o = M.1 y := ⟨_, rfl⟩
  have hN := (e1 y s5).trans ho.symm
  rw [← ho] at s2 s3
  obtain ⟨M2, hM2⟩ : ∃ M2, M2 = wr N y 0 (.int (vI (o.2.2 0) * 1664525 + 1013904223)) := ⟨_, rfl⟩
  have e2 : M2.2 = N.2 := by rw [hM2]; rfl
  have eo : ∀ q, q ≠ y → M2.1 q = N.1 q := fun q hq => by rw [hM2]; simp [wr, pt, hq]
  have ey : M2.1 y = (o.1, o.2.1, updV o.2.2 0 (.int (vI (o.2.2 0) * 1664525 + 1013904223))) := by rw [hM2]; simp [wr, pt, hN]
  have em : ∀ q, q ≠ y → q < M.2.1 → M2.1 q = M.1 q := fun q hq hl => (eo q hq).trans (e1 q hl)
  obtain ⟨t, t1, t2⟩ := sh8 (vI (o.2.2 0) * 1664525 + 1013904223)
  refine ⟨t % m, M2, Nat.mod_lt _ h1, ?_, e2, eo, s5, fun A B hA => ⟨G, F, a, d, C, k, ?_, w2, w3, w4.mv (fun q hq => em q (fun e => s7.1 (e ▸ hq)) (s1 q hq).1), w5, ⟨fun q hq => ⟨Nat.lt_of_lt_of_le (s1 q hq).1 hA, (s1 q hq).2⟩, by show (M2.1 y).1 = 101; rw [ey]; exact s2, by show 0 < (M2.1 y).2.1; rw [ey]; exact s3, s4, Nat.lt_of_lt_of_le s5 hA, s6, s7.1, s7.2.1, s7.2.2.1, s7.2.2.2.1, fun q hq => (s7.2.2.2.2 q hq).elim (fun k1 k2 => ⟨Nat.lt_of_lt_of_le k1 hA, k2.1, (em q (Nat.ne_of_lt (Nat.lt_of_lt_of_le hq s7.2.2.2.1)) k1).trans k2.2⟩)⟩, w7, Nat.le_trans w8 hA⟩⟩
  · have s3' : ¬ o.2.1 = 0 := by omega
    have r1 : aI N y 101 0 = some (vI (o.2.2 0)) := by simp [aI, hN, s2, s3']
    have r2 : ∀ v, sA N y 101 0 v = some (wr N y 0 v) := fun v => by simp [sA, hN, s2, s3', e3, s4]
    have r3 : aI M2 y 101 0 = some (vI (o.2.2 0) * 1664525 + 1013904223) := by simp [aI, ey, s2, s3', updV, vI]
    have hne : ¬ Int32.ofNat m = 0 := fun e => by have := (n_eq (b := 0) hm (by omega)).mp e; omega
    rw [tL_draw, r1, Option.bind_some, r2, Option.bind_some, ← hM2, r3, Option.bind_some, if_pos hne, t2, n_mod t1 hm]
  · refine simD_law w1 (fun q hq hw => em q (fun e => ?_) hq) hA rfl
    rw [e, ← ho, s2] at hw
    rcases hw with g | g | g
    · exact s6 g
    · exact absurd g (by decide)
    · exact absurd g (by decide)
theorem draw_W {y u hz n clk m : Nat} (w : WW KK M x r b y u hz n clk E) (h1 : 1 ≤ m) (hm : m < 2147483648) : ∃ j M2, j < m ∧ tL_draw y (Int32.ofNat m) M = some (Int32.ofNat j, M2) ∧ M2.2 = M.2 ∧ WW KK M2 x r b y u hz n clk E := by
  obtain ⟨j, M2, a1, a2, a3, a4, a5, a6⟩ := draw_N w (N := M) (fun _ _ => rfl) rfl h1 hm
  refine ⟨j, M2, a1, a2, a3, ?_⟩
  have := a6 M.2.1 M.2.2.1 (Nat.le_refl _)
  have e : M2 = (M2.1, M.2.1, M.2.2.1, M.2.2.2) := by rw [← a3]
  rw [e]; exact this
end
