section
variable {KK : Nat → vOb} {M N : vMe} {x r b y u hz n k lo a d u0 hz0 n1 k0 : Nat} {G F C E : Nat → Nat → Value} {Gs : Nat → Nat}
/-- a static String, below the object -/
def sK (KK : Nat → vOb) (x q : Nat) (l : List Nat) : Prop := ∃ o, tAt (KK, 0, 0, 0) q o l ∧ q < x ∧ o < x
theorem K_out (w : CW KK (cut N lo) x r b y E) {q : Nat} (hq : q < x) : N.1 q = KK q ∧ q < lo ∧ q ≠ y ∧ ¬ eA b E q := by
  obtain ⟨G, F, a, d, C, u, hz, n, k, w1, w4, w5, ⟨s1, s2, s3, s4, s5, s6, s7, s8, s9, s10, s11⟩, w7, w8⟩ := w
  obtain ⟨k1, k2, k3⟩ := s11 q hq
  exact ⟨k3, k1, by omega, fun g => by have := eA_ge w5 g; omega⟩
theorem sK_ok {q : Nat} {l : List Nat} (w : CW KK (cut N lo) x r b y E) (h : sK KK x q l) : sOk N b lo y E q l := by
  obtain ⟨o, h1, h2, h3⟩ := h
  obtain ⟨a1, a2, a3, a4⟩ := K_out w h2
  obtain ⟨b1, b2, b3, b4⟩ := K_out w h3
  exact ⟨o, h1.same a1 b1, ⟨a2, a3, a4⟩, b2, b3, b4⟩
def dK (KK : Nat → vOb) (x : Nat) (Gs : Nat → Nat) : Prop := (Gs 201 < x ∧ Gs 202 < x) ∧ ∃ D1 D2, KK (Gs 201) = (102, 100, D1) ∧ KK (Gs 202) = (102, 100, D2) ∧ ∀ i, i < 100 → vI (D1 i) = Int32.ofNat (48 + i % 10) ∧ vI (D2 i) = Int32.ofNat (48 + i / 10)
theorem dK_ok (w : CW KK (cut N lo) x r b y E) (h : dK KK x Gs) : dgs N Gs lo ∧ (Gs 201 ≠ y ∧ ¬ eA b E (Gs 201)) ∧ Gs 202 ≠ y ∧ ¬ eA b E (Gs 202) := by
  obtain ⟨⟨h1, h2⟩, D1, D2, d1, d2, d3⟩ := h
  obtain ⟨a1, a2, a3, a4⟩ := K_out w h1
  obtain ⟨b1, b2, b3, b4⟩ := K_out w h2
  exact ⟨⟨⟨a2, b2⟩, D1, D2, a1.trans d1, b1.trans d2, d3⟩, ⟨a3, a4⟩, b3, b4⟩
/-- all that is static -/
def stK (KK : Nat → vOb) (x : Nat) (Gs : Nat → Nat) : Prop := tkD Gs ∧ dK KK x Gs ∧ (sK KK x (Gs 6) [115, 101, 116, 115, 32] ∧ sK KK x (Gs 11) [32] ∧ sK KK x (Gs 20) [59] ∧ sK KK x (Gs 21) [115, 101, 116, 32] ∧ sK KK x (Gs 22) [97, 100, 100, 32] ∧ sK KK x (Gs 23) [114, 101, 109, 111, 118, 101, 32] ∧ sK KK x (Gs 24) [109, 97, 114, 107, 59]) ∧
  sK KK x (Gs 13) [115, 101, 116, 115] ∧ sK KK x (Gs 14) [115, 101, 116] ∧ sK KK x (Gs 15) [97, 100, 100] ∧ sK KK x (Gs 16) [114, 101, 109, 111, 118, 101] ∧ sK KK x (Gs 17) [99, 108, 101, 97, 114] ∧ sK KK x (Gs 18) [109, 97, 114, 107]
/-- before a play -/
def PW (KK : Nat → vOb) (M : vMe) (x r y : Nat) : Prop := ∃ G F a d C u hz n k, simD M x r G F a d C u hz n k ∧ bz C ∧ gt G 1 1 = 0 ∧ ((M.1 y).1 = 101 ∧ 0 < (M.1 y).2.1 ∧ M.2.2.2 ≤ y ∧ y < M.2.1 ∧ ¬ own x r G y ∧ x ≤ y) ∧ (∀ q, q < x → M.1 q = KK q) ∧ M.2.2.2 ≤ M.2.1
theorem x_out (h : simD M x r G F a d C u hz n k) {q : Nat} (hq : q < x) : q < M.2.1 ∧ ¬ own x r G q := by
  have hx : x + 8 ≤ r ∧ r + 0 ≤ M.2.1 := h.1.2.2.2.2
  refine ⟨by omega, fun g => ?_⟩
  rcases g with g | g | ⟨i, b, hi, hb, g1, g2⟩
  · omega
  · omega
  · have := (h.2.2.1 i b hi hb).1.1; omega
/-- the law's sets before their fields are drawn -/
def zB (E : Nat → Nat → Value) : Prop := (∀ j, j < 6 → gt E 0 j = 0) ∧ (∀ c, E 42 c = .null) ∧ (∀ i, gt E 43 i = 0) ∧ (∀ s, s < 5 → (∀ l, l < 3 → gt E (2 + 8 * s) l = 0) ∧ (∀ j, j < 6 → ∀ l, gt E (2 + 8 * s + (j + 1)) l = 0) ∧ ∀ l, vJ (E (2 + 8 * s + (6 + 1)) l) = 0) ∧ ∀ c, c < 6 → ∀ l, gt E (44 + c) l = if l = 5 then -1 else 0
theorem zB_E (h : zB E) : zE u hz n (pu (pu (pu E 0 1 (.int (Int32.ofNat u))) 0 2 (.int (Int32.ofNat hz))) 0 0 (.int (Int32.ofNat n))) := by
  obtain ⟨h1, h2, h3, h4, h5⟩ := h
  have o : ∀ i, i ≠ 0 → pu (pu (pu E 0 1 (.int (Int32.ofNat u))) 0 2 (.int (Int32.ofNat hz))) 0 0 (.int (Int32.ofNat n)) i = E i := fun i hi => by rw [pu_o hi, pu_o hi, pu_o hi]
  refine ⟨⟨gt_eq _ _ _, by rw [gt_ne (by omega), gt_ne (by omega), gt_eq], by rw [gt_ne (by omega), gt_eq], fun j j1 j2 => by rw [gt_ne (by omega), gt_ne (by omega), gt_ne (by omega)]; exact h1 j j2⟩, fun c => by rw [o 42 (by omega)]; exact h2 c, fun i => by unfold gt; rw [o 43 (by omega)]; exact h3 i, fun s hs => ⟨fun l hl => by unfold gt; rw [o _ (by omega)]; exact (h4 s hs).1 l hl, fun j hj l => by unfold gt; rw [o _ (by omega)]; exact (h4 s hs).2.1 j hj l, fun l => by rw [o _ (by omega)]; exact (h4 s hs).2.2 l⟩, fun c hc l => by unfold gt; rw [o _ (by omega)]; exact h5 c hc l⟩
theorem pl_begin (w : PW KK M x r y) : ∃ W E, nwO M 14 0 9 (vp_V [.int 0, .int 0, .int 0, .int 0, .int 0, .int 0, .null, .null, .null]) M.2.1 M.2.2.1 4000 200000 = some (nw M 14 0 9 (vp_V [.int 0, .int 0, .int 0, .int 0, .int 0, .int 0, .null, .null, .null])) ∧ tX12_init M.2.1 (nw M 14 0 9 (vp_V [.int 0, .int 0, .int 0, .int 0, .int 0, .int 0, .null, .null, .null])) = some ((), W) ∧ W.2 = (M.2.1 + 44, M.2.2.1 + 41043, M.2.2.2) ∧ (∀ q, q < M.2.1 → W.1 q = M.1 q) ∧ CW KK (cut W (M.2.1 + 44)) x r M.2.1 y E ∧ zB E := by
  obtain ⟨G, F, a, d, C, u, hz, n, k, w1, w2, w3, ⟨y1, y2, y3, y4, y5, y6⟩, w5, w6⟩ := w
  obtain ⟨E, e1, e2, e3, e4, e5, e6, e7, e8⟩ := e_init w6
  have lt : ∀ q, q < M.2.1 → (bw M 44 41043 E).1 q = M.1 q := fun q hq => by
    show (if M.2.1 ≤ q ∧ q < M.2.1 + 44 then _ else M.1 q : vOb) = _
    rw [if_neg (by omega)]
  have hx : x + 8 ≤ r ∧ r + 0 ≤ M.2.1 := w1.1.2.2.2.2
  have noc : ∀ c q, ¬ E 42 c = .ref q := fun c q g => by rw [e5 c] at g; cases g
  refine ⟨bw M 44 41043 E, E, ?_, e1, rfl, lt, ⟨G, F, a, d, C, u, hz, n, k, ?_, e3, e2, ⟨fun q hq => ?_, by show ((bw M 44 41043 E).1 y).1 = 101; rw [lt y y4]; exact y1, by show 0 < ((bw M 44 41043 E).1 y).2.1; rw [lt y y4]; exact y2, y3, by show y < M.2.1 + 44; omega, y5, fun g => ?_, w3, by omega, y6, fun q hq => ?_⟩, w2, by show M.2.2.2 ≤ M.2.1 + 44; omega⟩, ⟨fun j hj => by unfold gt; rw [e4 j hj]; rfl, e5, fun i => by unfold gt; rw [e6]; rfl, fun s hs => ⟨fun l hl => by unfold gt; rw [(e7 s hs).1 l hl]; rfl, fun j hj l => by unfold gt; rw [(e7 s hs).2.1 j hj]; rfl, fun l => by rw [(e7 s hs).2.2]; rfl⟩, fun c hc l => ?_⟩⟩
  · unfold nwO; rw [if_pos ⟨by omega, by omega, by omega⟩]
  · exact simD_law w1 (fun q hq _ => lt q hq) (by show M.2.1 ≤ M.2.1 + 44; omega) rfl
  · rcases hq with g | ⟨c, hc, g⟩
    · exact ⟨by show q < M.2.1 + 44; omega, fun g2 => by have := own_lt w1 g2; omega⟩
    · exact absurd g (noc c q)
  · rcases g with g | ⟨c, hc, g⟩
    · omega
    · exact noc c y g
  · obtain ⟨k1, k2⟩ := x_out w1 hq
    exact ⟨by show q < M.2.1 + 44; omega, k2, (lt q k1).trans (w5 q hq)⟩
  · unfold gt; rw [e8 c hc]
    by_cases h : l = 5
    · subst h; rfl
    · show vI (if l = 5 then .int (-1) else .int 0) = _
      rw [if_neg h, if_neg h]; rfl
/-- a field of the law's sets -/
theorem cw_S0 {j : Nat} {v : Int32} (w : CW KK (cut N lo) x r b y E) (hj : j < 6) : ∃ N2, sV N b 14 j (.int v) = some N2 ∧ N2.2 = N.2 ∧ (∀ z, ¬ eA b E z → N2.1 z = N.1 z) ∧ CW KK (cut N2 lo) x r b y (pu E 0 j (.int v)) := by
  obtain ⟨G, F, a, d, C, u0, hz0, n0, k0, w1, w4, w5, w6, w7, w8⟩ := w
  have he : hE N b E := w4
  have ho : eOk N b E := w5
  have o1 : eOk N b (pu E 0 j (.int v)) := eOk_pu ho (eFr0 hj)
  have c42 : pu E 0 j (.int v) 42 = E 42 := pu_o (by omega)
  have o2c : eOk (cut N lo) b (pu E 0 j (.int v)) := o1
  have sp := sep_law w6 (gro.rf (q := 0)) c42 o2c
  have s2 := simD_ew w1 w4 w6 (gro.rf (q := 0)) c42 o2c
  refine ⟨ew N b (pu E 0 j (.int v)), ?_, rfl, fun z hz => ew_out o1 (fun q => hz ((eA_eq c42 z).mp q)), G, F, a, d, C, u0, hz0, n0, k0, s2, hE_ew o2c, eOk_ew o2c, sp, w7, w8⟩
  have := e_S0 (k := j) (v := .int v) ho
  rw [he.eq ho] at this; exact this
end
