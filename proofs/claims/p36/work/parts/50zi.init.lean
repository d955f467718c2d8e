section
variable {M : vMe} {C E : Nat → Nat → Value} {b : Nat}
/-! the law's sets that are being made -/
def bw (M : vMe) (n sl : Nat) (C : Nat → Nat → Value) : vMe := (fun q => if M.2.1 ≤ q ∧ q < M.2.1 + n then ((eT (q - M.2.1)).1, (eT (q - M.2.1)).2, C (q - M.2.1)) else M.1 q, M.2.1 + n, M.2.2.1 + sl, M.2.2.2)
theorem bw_at {n sl i : Nat} (hi : i < n) : (bw M n sl C).1 (M.2.1 + i) = ((eT i).1, (eT i).2, C i) := by simp [bw, hi]
theorem bw_nw {n sl tg len s1 : Nat} {f : Nat → Value} (h : eT n = (tg, len)) : nw (bw M n sl C) tg len s1 f = bw M (n + 1) (sl + s1) (puA C n f) := by
  unfold nw bw
  refine Prod.ext (funext fun q => ?_) (by dsimp only; rw [Nat.add_assoc, Nat.add_assoc])
  dsimp only
  by_cases e : q = M.2.1 + n
  · subst e
    rw [if_pos rfl, if_pos (by omega), show M.2.1 + n - M.2.1 = n by omega, h]
    simp [puA]
  · rw [if_neg e]
    by_cases g : M.2.1 ≤ q ∧ q < M.2.1 + n
    · rw [if_pos g, if_pos (by omega), puA_o (by omega)]
    · rw [if_neg g, if_neg (by omega)]
theorem bw_wr {n sl i k : Nat} {v : Value} (hi : i < n) : wr (bw M n sl C) (M.2.1 + i) k v = bw M n sl (pu C i k v) := by
  unfold wr pt
  rw [bw_at hi]
  refine Prod.ext (funext fun q => ?_) rfl
  dsimp only
  by_cases hq : q = M.2.1 + i
  · subst hq
    simp [bw, pu, hi]
  · rw [if_neg hq]
    by_cases hb : M.2.1 ≤ q ∧ q < M.2.1 + n
    · have : ¬ q - M.2.1 = i := by omega
      simp [bw, hb, pu, this]
    · simp [bw, hb]
theorem bw_sV {n sl i k t : Nat} {v : Value} (hb : M.2.2.2 ≤ M.2.1) (hi : i < n) (ht : (eT i).1 = t) : sV (bw M n sl C) (M.2.1 + i) t k v = some (bw M n sl (pu C i k v)) := by
  have : (bw M n sl C).2.2.2 ≤ M.2.1 + i := by show M.2.2.2 ≤ _; omega
  simp only [sV, bw_at hi, ht, this, bw_wr hi]
  simp
theorem bw_sQ {n sl i j len tg et : Nat} {v : Nat} (hb : M.2.2.2 ≤ M.2.1) (hi : i < n) (ht : eT i = (tg, len)) (hj : j < len) (hl : len < 2147483648) (hv : v < n) (het : (eT v).1 = et) : sQ (bw M n sl C) (M.2.1 + i) tg (Int32.ofNat j) (M.2.1 + v) et = some (bw M n sl (pu C i j (.ref (M.2.1 + v)))) := by
  have : (bw M n sl C).2.2.2 ≤ M.2.1 + i := by show M.2.2.2 ≤ _; omega
  simp only [sQ, bw_at hi, bw_at hv, ht, het, n_clamp (show j < 2147483648 by omega), n_neg (show j < 2147483648 by omega), this, bw_wr hi]
  simp [hj]
theorem bw_gA {n sl i k t v : Nat} (hi : i < n) (ht : (eT i).1 = t) (hv : C i k = .ref v) : gA (bw M n sl C) (M.2.1 + i) t k = some v := by
  simp only [gA, bw_at hi, ht, hv, vR, if_true]
theorem bw_2 (n sl : Nat) : (bw M n sl C).2.1 = M.2.1 + n := rfl
theorem bw_22 (n sl : Nat) : (bw M n sl C).2.2.1 = M.2.2.1 + sl := rfl
theorem nwO_bw {n sl tg len s1 n0 s0 mc ms : Nat} {f : Nat → Value} (h : eT n = (tg, len)) (h1 : M.2.1 + n + 1 ≤ n0 + mc) (h2 : M.2.2.1 + sl + s1 ≤ s0 + ms) (h3 : s1 ≤ ms) : nwO (bw M n sl C) tg len s1 f n0 s0 mc ms = some (bw M (n + 1) (sl + s1) (puA C n f)) := by
  unfold nwO
  rw [if_pos ⟨h1, h2, h3⟩, bw_nw h]
theorem puA_e {i : Nat} {f : Nat → Value} : puA C i f i = f := by unfold puA; rw [if_pos rfl]
set_option maxRecDepth 200000 in
theorem e_boxInit {s sl : Nat} (hb : M.2.2.2 ≤ M.2.1) (hs : s < 5) : ∃ E2, tX10_init (M.2.1 + (2 + 8 * s)) (bw M (2 + 8 * s + 1) sl E) = some ((), bw M (2 + 8 * s + 8) (sl + 8193) E2) ∧ (∀ j, j < 7 → E2 (2 + 8 * s) (j + 3) = .ref (M.2.1 + (2 + 8 * s + (j + 1)))) ∧ (∀ l, l < 3 → E2 (2 + 8 * s) l = E (2 + 8 * s) l) ∧ (∀ j, j < 6 → E2 (2 + 8 * s + (j + 1)) = fun _ => .int 0) ∧ E2 (2 + 8 * s + (6 + 1)) = (fun _ => .long 0) ∧ ∀ i, i < 2 + 8 * s → E2 i = E i := by
  obtain ⟨D1, h1⟩ : ∃ D, D = pu (puA E (2 + 8 * s + 1) (fun _ => .int 0)) (2 + 8 * s) 3 (.ref (M.2.1 + (2 + 8 * s + 1))) := ⟨_, rfl⟩
  obtain ⟨D2, h2⟩ : ∃ D, D = pu (puA D1 (2 + 8 * s + 2) (fun _ => .int 0)) (2 + 8 * s) 4 (.ref (M.2.1 + (2 + 8 * s + 2))) := ⟨_, rfl⟩
  obtain ⟨D3, h3⟩ : ∃ D, D = pu (puA D2 (2 + 8 * s + 3) (fun _ => .int 0)) (2 + 8 * s) 5 (.ref (M.2.1 + (2 + 8 * s + 3))) := ⟨_, rfl⟩
  obtain ⟨D4, h4⟩ : ∃ D, D = pu (puA D3 (2 + 8 * s + 4) (fun _ => .int 0)) (2 + 8 * s) 6 (.ref (M.2.1 + (2 + 8 * s + 4))) := ⟨_, rfl⟩
  obtain ⟨D5, h5⟩ : ∃ D, D = pu (puA D4 (2 + 8 * s + 5) (fun _ => .int 0)) (2 + 8 * s) 7 (.ref (M.2.1 + (2 + 8 * s + 5))) := ⟨_, rfl⟩
  obtain ⟨D6, h6⟩ : ∃ D, D = pu (puA D5 (2 + 8 * s + 6) (fun _ => .int 0)) (2 + 8 * s) 8 (.ref (M.2.1 + (2 + 8 * s + 6))) := ⟨_, rfl⟩
  obtain ⟨D7, h7⟩ : ∃ D, D = pu (puA D6 (2 + 8 * s + 7) (fun _ => .long 0)) (2 + 8 * s) 9 (.ref (M.2.1 + (2 + 8 * s + 7))) := ⟨_, rfl⟩
  have t0 : (eT (2 + 8 * s)).1 = 12 := by rw [eT_b hs]
  have hV : ∀ (n sl k : Nat) (D : Nat → Nat → Value) (v : Value), 2 + 8 * s < n → sV (bw M n sl D) (M.2.1 + (2 + 8 * s)) 12 k v = some (bw M n sl (pu D (2 + 8 * s) k v)) := fun n sl k D v h => bw_sV hb h t0
  refine ⟨D7, ?_, fun j hj => ?_, fun l hl => ?_, fun j hj => ?_, ?_, fun i hi => ?_⟩
  · rw [tX10_init, bw_2, bw_22, nwO_bw (n := 2 + 8 * s + 1) (eT_m (j := 0) hs (by omega)) (by omega) (by omega) (by omega), Option.bind_some, hV _ _ _ _ _ (by omega), Option.bind_some, ← h1]
    rw [nwO_bw (n := 2 + 8 * s + 2) (eT_m (j := 1) hs (by omega)) (by omega) (by omega) (by omega), Option.bind_some, bw_2, hV _ _ _ _ _ (by omega), Option.bind_some, show 2 + 8 * s + 1 + 1 = 2 + 8 * s + 2 from rfl, ← h2]
    rw [nwO_bw (n := 2 + 8 * s + 3) (eT_m (j := 2) hs (by omega)) (by omega) (by omega) (by omega), Option.bind_some, bw_2, hV _ _ _ _ _ (by omega), Option.bind_some, show 2 + 8 * s + 2 + 1 = 2 + 8 * s + 3 from rfl, ← h3]
    rw [nwO_bw (n := 2 + 8 * s + 4) (eT_e (j := 3) hs (by omega) (by omega)) (by omega) (by omega) (by omega), Option.bind_some, bw_2, hV _ _ _ _ _ (by omega), Option.bind_some, show 2 + 8 * s + 3 + 1 = 2 + 8 * s + 4 from rfl, ← h4]
    rw [nwO_bw (n := 2 + 8 * s + 5) (eT_e (j := 4) hs (by omega) (by omega)) (by omega) (by omega) (by omega), Option.bind_some, bw_2, hV _ _ _ _ _ (by omega), Option.bind_some, show 2 + 8 * s + 4 + 1 = 2 + 8 * s + 5 from rfl, ← h5]
    rw [nwO_bw (n := 2 + 8 * s + 6) (eT_e (j := 5) hs (by omega) (by omega)) (by omega) (by omega) (by omega), Option.bind_some, bw_2, hV _ _ _ _ _ (by omega), Option.bind_some, show 2 + 8 * s + 5 + 1 = 2 + 8 * s + 6 from rfl, ← h6]
    rw [nwO_bw (n := 2 + 8 * s + 7) (eT_t hs) (by omega) (by omega) (by omega), Option.bind_some, bw_2, hV _ _ _ _ _ (by omega), Option.bind_some, show 2 + 8 * s + 6 + 1 = 2 + 8 * s + 7 from rfl, ← h7, show sl + 64 + 64 + 64 + 2000 + 2000 + 2000 + 2001 = sl + 8193 by omega, bw_2, bw_22, if_pos ⟨by omega, by omega⟩]
  · rcases (show j = 0 ∨ j = 1 ∨ j = 2 ∨ j = 3 ∨ j = 4 ∨ j = 5 ∨ j = 6 by omega) with rfl | rfl | rfl | rfl | rfl | rfl | rfl
    · rw [h7, pu_ne (by omega), puA_o (by omega), h6, pu_ne (by omega), puA_o (by omega), h5, pu_ne (by omega), puA_o (by omega), h4, pu_ne (by omega), puA_o (by omega), h3, pu_ne (by omega), puA_o (by omega), h2, pu_ne (by omega), puA_o (by omega), h1, pu_eq]
    · rw [h7, pu_ne (by omega), puA_o (by omega), h6, pu_ne (by omega), puA_o (by omega), h5, pu_ne (by omega), puA_o (by omega), h4, pu_ne (by omega), puA_o (by omega), h3, pu_ne (by omega), puA_o (by omega), h2, pu_eq]
    · rw [h7, pu_ne (by omega), puA_o (by omega), h6, pu_ne (by omega), puA_o (by omega), h5, pu_ne (by omega), puA_o (by omega), h4, pu_ne (by omega), puA_o (by omega), h3, pu_eq]
    · rw [h7, pu_ne (by omega), puA_o (by omega), h6, pu_ne (by omega), puA_o (by omega), h5, pu_ne (by omega), puA_o (by omega), h4, pu_eq]
    · rw [h7, pu_ne (by omega), puA_o (by omega), h6, pu_ne (by omega), puA_o (by omega), h5, pu_eq]
    · rw [h7, pu_ne (by omega), puA_o (by omega), h6, pu_eq]
    · rw [h7, pu_eq]
  · rw [h7, pu_ne (by omega), puA_o (by omega), h6, pu_ne (by omega), puA_o (by omega), h5, pu_ne (by omega), puA_o (by omega), h4, pu_ne (by omega), puA_o (by omega), h3, pu_ne (by omega), puA_o (by omega), h2, pu_ne (by omega), puA_o (by omega), h1, pu_ne (by omega), puA_o (by omega)]
  · have g : ∀ (D : Nat → Nat → Value) (i k : Nat) (v : Value) (q : Nat), q ≠ i → pu D i k v q = D q := fun D i k v q h => pu_o h
    rcases (show j = 0 ∨ j = 1 ∨ j = 2 ∨ j = 3 ∨ j = 4 ∨ j = 5 by omega) with rfl | rfl | rfl | rfl | rfl | rfl
    · rw [h7, g _ _ _ _ _ (by omega), puA_o (by omega), h6, g _ _ _ _ _ (by omega), puA_o (by omega), h5, g _ _ _ _ _ (by omega), puA_o (by omega), h4, g _ _ _ _ _ (by omega), puA_o (by omega), h3, g _ _ _ _ _ (by omega), puA_o (by omega), h2, g _ _ _ _ _ (by omega), puA_o (by omega), h1, g _ _ _ _ _ (by omega), puA_e]
    · rw [h7, g _ _ _ _ _ (by omega), puA_o (by omega), h6, g _ _ _ _ _ (by omega), puA_o (by omega), h5, g _ _ _ _ _ (by omega), puA_o (by omega), h4, g _ _ _ _ _ (by omega), puA_o (by omega), h3, g _ _ _ _ _ (by omega), puA_o (by omega), h2, g _ _ _ _ _ (by omega), puA_e]
    · rw [h7, g _ _ _ _ _ (by omega), puA_o (by omega), h6, g _ _ _ _ _ (by omega), puA_o (by omega), h5, g _ _ _ _ _ (by omega), puA_o (by omega), h4, g _ _ _ _ _ (by omega), puA_o (by omega), h3, g _ _ _ _ _ (by omega), puA_e]
    · rw [h7, g _ _ _ _ _ (by omega), puA_o (by omega), h6, g _ _ _ _ _ (by omega), puA_o (by omega), h5, g _ _ _ _ _ (by omega), puA_o (by omega), h4, g _ _ _ _ _ (by omega), puA_e]
    · rw [h7, g _ _ _ _ _ (by omega), puA_o (by omega), h6, g _ _ _ _ _ (by omega), puA_o (by omega), h5, g _ _ _ _ _ (by omega), puA_e]
    · rw [h7, g _ _ _ _ _ (by omega), puA_o (by omega), h6, g _ _ _ _ _ (by omega), puA_e]
  · rw [h7, pu_o (by omega), puA_e]
  · rw [h7, pu_o (by omega), puA_o (by omega), h6, pu_o (by omega), puA_o (by omega), h5, pu_o (by omega), puA_o (by omega), h4, pu_o (by omega), puA_o (by omega), h3, pu_o (by omega), puA_o (by omega), h2, pu_o (by omega), puA_o (by omega), h1, pu_o (by omega), puA_o (by omega)]
/-- one box more -/
def bx (M : vMe) (E : Nat → Nat → Value) (s : Nat) : Prop := (∀ t, t < s → E 1 t = .ref (M.2.1 + (2 + 8 * t)) ∧ (∀ j, j < 7 → E (2 + 8 * t) (j + 3) = .ref (M.2.1 + (2 + 8 * t + (j + 1)))) ∧ (∀ l, l < 3 → E (2 + 8 * t) l = .int 0) ∧ (∀ j, j < 6 → E (2 + 8 * t + (j + 1)) = fun _ => .int 0) ∧ E (2 + 8 * t + (6 + 1)) = (fun _ => .long 0)) ∧ ∀ k, k < 9 → E 0 k = vp_V [.int 0, .int 0, .int 0, .int 0, .int 0, .int 0, .null, .null, .null] k
set_option maxRecDepth 200000 in
theorem e_box1 {s sl : Nat} (hb : M.2.2.2 ≤ M.2.1) (hs : s < 5) (h : bx M E s) : ∃ E2, (∀ n0 s0, M.2.1 + (2 + 8 * s) + 8 ≤ n0 + 43 → M.2.2.1 + sl + 8203 ≤ s0 + 41034 → nwO (bw M (2 + 8 * s) sl E) 12 0 10 (vp_V [.int 0, .int 0, .int 0, .null, .null, .null, .null, .null, .null, .null]) n0 s0 43 41034 = some (bw M (2 + 8 * s + 1) (sl + 10) (puA E (2 + 8 * s) (vp_V [.int 0, .int 0, .int 0, .null, .null, .null, .null, .null, .null, .null])))) ∧
    ∃ E3, tX10_init (M.2.1 + (2 + 8 * s)) (bw M (2 + 8 * s + 1) (sl + 10) (puA E (2 + 8 * s) (vp_V [.int 0, .int 0, .int 0, .null, .null, .null, .null, .null, .null, .null]))) = some ((), bw M (2 + 8 * s + 8) (sl + 10 + 8193) E3) ∧ sQ (bw M (2 + 8 * s + 8) (sl + 10 + 8193) E3) (M.2.1 + 1) 109 (Int32.ofNat s) (M.2.1 + (2 + 8 * s)) 12 = some (bw M (2 + 8 * (s + 1)) (sl + 8203) E2) ∧ bx M E2 (s + 1) := by
  obtain ⟨E3, a1, a2, a3, a4, a5, a6⟩ := e_boxInit (M := M) (E := puA E (2 + 8 * s) (vp_V [.int 0, .int 0, .int 0, .null, .null, .null, .null, .null, .null, .null])) (s := s) (sl := sl + 10) hb hs
  refine ⟨pu E3 1 s (.ref (M.2.1 + (2 + 8 * s))), fun n0 s0 h1 h2 => nwO_bw (eT_b hs) (by omega) (by omega) (by omega), E3, a1, ?_, fun t ht => ?_, fun k hk => ?_⟩
  · have := bw_sQ (M := M) (C := E3) (n := 2 + 8 * s + 8) (sl := sl + 10 + 8193) (i := 1) (j := s) (len := 5) (tg := 109) (et := 12) (v := 2 + 8 * s) hb (by omega) rfl hs (by omega) (by omega) (by rw [eT_b hs])
    rw [this, show 2 + 8 * (s + 1) = 2 + 8 * s + 8 by omega, show sl + 8203 = sl + 10 + 8193 by omega]
  · by_cases e : t = s
    · subst e
      refine ⟨pu_eq _ _ _, fun j hj => by rw [pu_ne (by omega)]; exact a2 j hj, fun l hl => ?_, fun j hj => by rw [pu_o (by omega)]; exact a4 j hj, by rw [pu_o (by omega)]; exact a5⟩
      rw [pu_ne (by omega), a3 l hl, puA_e]
      rcases (show l = 0 ∨ l = 1 ∨ l = 2 by omega) with rfl | rfl | rfl <;> rfl
    · obtain ⟨b1, b2, b3, b4, b5⟩ := h.1 t (by omega)
      have o : ∀ i, i < 2 + 8 * s → i ≠ 1 → pu E3 1 s (.ref (M.2.1 + (2 + 8 * s))) i = E i := fun i h1 h2 => by rw [pu_o h2, a6 i h1, puA_o (by omega)]
      exact ⟨by rw [pu_ne (by omega), a6 1 (by omega), puA_o (by omega)]; exact b1, fun j hj => by rw [o _ (by omega) (by omega)]; exact b2 j hj, fun l hl => by rw [o _ (by omega) (by omega)]; exact b3 l hl, fun j hj => by rw [o _ (by omega) (by omega)]; exact b4 j hj, by rw [o _ (by omega) (by omega)]; exact b5⟩
  · rw [pu_o (by omega), a6 0 (by omega), puA_o (by omega)]; exact h.2 k hk
/-- THE LAW'S SETS ARE MADE -/
theorem e_init (hb : M.2.2.2 ≤ M.2.1) : ∃ E, tX12_init M.2.1 (nw M 14 0 9 (vp_V [.int 0, .int 0, .int 0, .int 0, .int 0, .int 0, .null, .null, .null])) = some ((), bw M 44 41043 E) ∧ eOk (bw M 44 41043 E) M.2.1 E ∧ hE (bw M 44 41043 E) M.2.1 E ∧ (∀ k, k < 6 → E 0 k = .int 0) ∧ (∀ c, E 42 c = .null) ∧ E 43 = (fun _ => .int 0) ∧ (∀ s, s < 5 → (∀ l, l < 3 → E (2 + 8 * s) l = .int 0) ∧ (∀ j, j < 6 → E (2 + 8 * s + (j + 1)) = fun _ => .int 0) ∧ E (2 + 8 * s + (6 + 1)) = (fun _ => .long 0)) ∧ ∀ c, c < 6 → E (44 + c) = fun l => if l = 5 then .int (-1) else .int 0 := by
  obtain ⟨C0, hC0⟩ : ∃ C0 : Nat → Nat → Value, C0 = puA (fun _ _ => .null) 0 (vp_V [.int 0, .int 0, .int 0, .int 0, .int 0, .int 0, .null, .null, .null]) := ⟨_, rfl⟩
  have h0 : nw M 14 0 9 (vp_V [.int 0, .int 0, .int 0, .int 0, .int 0, .int 0, .null, .null, .null]) = bw M 1 9 C0 := by
    have e : M = bw M 0 0 (fun _ _ => .null) := by
      unfold bw
      refine Prod.ext (funext fun q => ?_) rfl
      dsimp only; rw [if_neg (by omega)]
    have := bw_nw (M := M) (C := fun _ _ => .null) (n := 0) (sl := 0) (s1 := 9) (f := vp_V [.int 0, .int 0, .int 0, .int 0, .int 0, .int 0, .null, .null, .null]) (tg := 14) (len := 0) rfl
    rw [← e] at this
    rw [this, hC0]
  obtain ⟨D0, hD0⟩ : ∃ D0, D0 = puA C0 1 (fun _ => .null) := ⟨_, rfl⟩
  have x0 : bx M D0 0 := ⟨fun t ht => by omega, fun k hk => by rw [hD0, puA_o (by omega), hC0, puA_e]⟩
  obtain ⟨D1, a1, A1, a2, a3, x1⟩ := e_box1 (sl := 14) hb (show 0 < 5 by omega) x0
  obtain ⟨D2, b1, B1, b2, b3, x2⟩ := e_box1 (sl := 14 + 8203) hb (show 1 < 5 by omega) x1
  obtain ⟨D3, c1, C1, c2, c3, x3⟩ := e_box1 (sl := 14 + 8203 + 8203) hb (show 2 < 5 by omega) x2
  obtain ⟨D4, d1, D1', d2, d3, x4⟩ := e_box1 (sl := 14 + 8203 + 8203 + 8203) hb (show 3 < 5 by omega) x3
  obtain ⟨D5, f1, F1', f2, f3, x5⟩ := e_box1 (sl := 14 + 8203 + 8203 + 8203 + 8203) hb (show 4 < 5 by omega) x4
  obtain ⟨D6, hD6⟩ : ∃ D, D = pu (puA (pu (puA (pu D5 0 6 (.ref (M.2.1 + 1))) 42 (fun _ => .null)) 0 7 (.ref (M.2.1 + 42))) 43 (fun _ => .int 0)) 0 8 (.ref (M.2.1 + 43)) := ⟨_, rfl⟩
  obtain ⟨E, hE'⟩ : ∃ E : Nat → Nat → Value, E = fun i => if i < 44 then D6 i else fun l => if l = 5 then .int (-1) else .int 0 := ⟨_, rfl⟩
  have eE : ∀ i, i < 44 → E i = D6 i := fun i hi => by rw [hE']; exact if_pos hi
  have e44 : bw M 44 41043 E = bw M 44 41043 D6 := by
    unfold bw
    refine Prod.ext (funext fun q => ?_) rfl
    dsimp only
    by_cases g : M.2.1 ≤ q ∧ q < M.2.1 + 44
    · rw [if_pos g, if_pos g, eE _ (by omega)]
    · rw [if_neg g, if_neg g]
  have o5 : ∀ i, 1 ≤ i → i < 42 → E i = D5 i := fun i h1 h2 => by rw [eE i (by omega), hD6, pu_o (by omega), puA_o (by omega), pu_o (by omega), puA_o (by omega), pu_o (by omega)]
  have e42 : ∀ c, E 42 c = .null := fun c => by rw [eE 42 (by omega), hD6, pu_o (by omega), puA_o (by omega), pu_o (by omega), puA_e]
  have e43 : E 43 = fun _ => .int 0 := by rw [eE 43 (by omega), hD6, pu_o (by omega), puA_e]
  have e08 : E 0 8 = .ref (M.2.1 + 43) := by rw [eE 0 (by omega), hD6, pu_eq]
  have e07 : E 0 7 = .ref (M.2.1 + 42) := by rw [eE 0 (by omega), hD6, pu_ne (by omega), puA_o (by omega), pu_eq]
  have e06 : E 0 6 = .ref (M.2.1 + 1) := by rw [eE 0 (by omega), hD6, pu_ne (by omega), puA_o (by omega), pu_ne (by omega), puA_o (by omega), pu_eq]
  have e0 : ∀ k, k < 6 → E 0 k = .int 0 := fun k hk => by
    rw [eE 0 (by omega), hD6, pu_ne (by omega), puA_o (by omega), pu_ne (by omega), puA_o (by omega), pu_ne (by omega), x5.2 k (by omega)]
    rcases (show k = 0 ∨ k = 1 ∨ k = 2 ∨ k = 3 ∨ k = 4 ∨ k = 5 by omega) with rfl | rfl | rfl | rfl | rfl | rfl <;> rfl
  have ok : eOk (bw M 44 41043 E) M.2.1 E := ⟨hb, ⟨e06, e07, e08⟩, fun s hs => by rw [o5 1 (by omega) (by omega)]; exact (x5.1 s hs).1, fun s hs j hj => by rw [o5 _ (by omega) (by omega)]; exact (x5.1 s hs).2.1 j hj, fun c _ => .inl (e42 c), fun c c' q _ _ g => by rw [e42] at g; cases g⟩
  refine ⟨E, ?_, ok, ⟨fun i hi => bw_at hi, fun c q _ g => by rw [e42] at g; cases g⟩, e0, e42, e43, fun s hs => ⟨fun l hl => by rw [o5 _ (by omega) (by omega)]; exact (x5.1 s hs).2.2.1 l hl, fun j hj => by rw [o5 _ (by omega) (by omega)]; exact (x5.1 s hs).2.2.2.1 j hj, by rw [o5 _ (by omega) (by omega)]; exact (x5.1 s hs).2.2.2.2⟩, fun c hc => by rw [hE']; exact if_neg (by omega)⟩
  have t0 : (eT 0).1 = 14 := rfl
  have v0 : ∀ (C : Nat → Nat → Value) (n sl k : Nat) (v : Value), 0 < n → sV (bw M n sl C) M.2.1 14 k v = some (bw M n sl (pu C 0 k v)) := fun C n sl k v h => bw_sV (i := 0) hb h t0
  have z : ∀ n sl (C : Nat → Nat → Value), (bw M n sl C).2.1 = M.2.1 + n := fun _ _ _ => rfl
  have z2 : ∀ n sl (C : Nat → Nat → Value), (bw M n sl C).2.2.1 = M.2.2.1 + sl := fun _ _ _ => rfl
  rw [h0, tX12_init, z, z2, nwO_bw (n := 1) (tg := 109) (len := 5) rfl (by omega) (by omega) (by omega), Option.bind_some, ← hD0, z]
  rw [show nwO (bw M (1 + 1) (9 + 5) D0) 12 0 10 (vp_V [.int 0, .int 0, .int 0, .null, .null, .null, .null, .null, .null, .null]) (M.2.1 + 1) (M.2.2.1 + 9) 43 41034 = _ from a1 _ _ (by omega) (by omega), Option.bind_some, z, z2, if_pos ⟨by omega, by omega⟩]
  rw [show tX10_init (M.2.1 + (1 + 1)) (bw M (2 + 8 * 0 + 1) (14 + 10) (puA D0 (2 + 8 * 0) (vp_V [.int 0, .int 0, .int 0, .null, .null, .null, .null, .null, .null, .null]))) = _ from a2, Option.bind_some]
  dsimp only
  rw [show sQ (bw M (2 + 8 * 0 + 8) (14 + 10 + 8193) A1) (M.2.1 + 1) 109 0 (M.2.1 + (1 + 1)) 12 = _ from a3, Option.bind_some, z]
  rw [b1 _ _ (by omega) (by omega), Option.bind_some, z, z2, if_pos ⟨by omega, by omega⟩]
  rw [show tX10_init (M.2.1 + (2 + 8 * (0 + 1))) (bw M (2 + 8 * 1 + 1) (14 + 8203 + 10) (puA D1 (2 + 8 * 1) (vp_V [.int 0, .int 0, .int 0, .null, .null, .null, .null, .null, .null, .null]))) = _ from b2, Option.bind_some]
  dsimp only
  rw [show sQ (bw M (2 + 8 * 1 + 8) (14 + 8203 + 10 + 8193) B1) (M.2.1 + 1) 109 1 (M.2.1 + (2 + 8 * (0 + 1))) 12 = _ from b3, Option.bind_some, z]
  rw [c1 _ _ (by omega) (by omega), Option.bind_some, z, z2, if_pos ⟨by omega, by omega⟩]
  rw [show tX10_init (M.2.1 + (2 + 8 * (1 + 1))) (bw M (2 + 8 * 2 + 1) (14 + 8203 + 8203 + 10) (puA D2 (2 + 8 * 2) (vp_V [.int 0, .int 0, .int 0, .null, .null, .null, .null, .null, .null, .null]))) = _ from c2, Option.bind_some]
  dsimp only
  rw [show sQ (bw M (2 + 8 * 2 + 8) (14 + 8203 + 8203 + 10 + 8193) C1) (M.2.1 + 1) 109 2 (M.2.1 + (2 + 8 * (1 + 1))) 12 = _ from c3, Option.bind_some, z]
  rw [d1 _ _ (by omega) (by omega), Option.bind_some, z, z2, if_pos ⟨by omega, by omega⟩]
  rw [show tX10_init (M.2.1 + (2 + 8 * (2 + 1))) (bw M (2 + 8 * 3 + 1) (14 + 8203 + 8203 + 8203 + 10) (puA D3 (2 + 8 * 3) (vp_V [.int 0, .int 0, .int 0, .null, .null, .null, .null, .null, .null, .null]))) = _ from d2, Option.bind_some]
  dsimp only
  rw [show sQ (bw M (2 + 8 * 3 + 8) (14 + 8203 + 8203 + 8203 + 10 + 8193) D1') (M.2.1 + 1) 109 3 (M.2.1 + (2 + 8 * (2 + 1))) 12 = _ from d3, Option.bind_some, z]
  rw [f1 _ _ (by omega) (by omega), Option.bind_some, z, z2, if_pos ⟨by omega, by omega⟩]
  rw [show tX10_init (M.2.1 + (2 + 8 * (3 + 1))) (bw M (2 + 8 * 4 + 1) (14 + 8203 + 8203 + 8203 + 8203 + 10) (puA D4 (2 + 8 * 4) (vp_V [.int 0, .int 0, .int 0, .null, .null, .null, .null, .null, .null, .null]))) = _ from f2, Option.bind_some]
  dsimp only
  rw [show sQ (bw M (2 + 8 * 4 + 8) (14 + 8203 + 8203 + 8203 + 8203 + 10 + 8193) F1') (M.2.1 + 1) 109 4 (M.2.1 + (2 + 8 * (3 + 1))) 12 = _ from f3, Option.bind_some]
  rw [v0 _ _ _ _ _ (by omega), Option.bind_some]
  rw [show nwO (bw M (2 + 8 * (4 + 1)) (14 + 8203 + 8203 + 8203 + 8203 + 8203) (pu D5 0 6 (.ref (M.2.1 + 1)))) 110 6 6 (fun _ => .null) (M.2.1 + 1) (M.2.2.1 + 9) 43 41034 = _ from nwO_bw (n := 42) rfl (by omega) (by omega) (by omega), Option.bind_some, v0 _ _ _ _ _ (by omega), Option.bind_some]
  rw [nwO_bw (n := 43) (tg := 101) (len := 8) rfl (by omega) (by omega) (by omega), Option.bind_some, v0 _ _ _ _ _ (by omega), Option.bind_some, z, z2, z, z, if_pos ⟨by omega, by omega⟩, e44, hD6]
end
