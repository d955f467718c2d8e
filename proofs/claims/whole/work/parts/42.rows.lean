section
variable {M : vMe} {r : Nat} {F : Nat → Nat → Value}
/-! the reference's rows of states -/
theorem r_cpL {i j x y : Nat} (hi : rTag i = 101) (hj : rTag j = 101) (hi10 : 0 < i ∧ i < 10) (hj10 : 0 < j ∧ j < 10) (hx : x + 1952 ≤ rLen i) (hy : y + 1952 ≤ rLen j) (hap : i ≠ j ∨ y + 1952 ≤ x ∨ x + 1952 ≤ y) : ∀ (q f k : Nat) (F : Nat → Nat → Value), rOk M r F → k + q = 1952 → q < f →
    ∃ F1, tX10_copies_L3 (r + i) (Int32.ofNat x) (r + j) (Int32.ofNat y) f (Int32.ofNat k) (rv M r F) = some ((), rv M r F1) ∧ rOk M r F1 ∧ (∀ l, gt F1 j l = if y + k ≤ l ∧ l < y + 1952 then gt F i (x + (l - y)) else gt F j l) ∧ ∀ i', i' ≠ j → F1 i' = F i' := by
  have li : rLen i < 2147483648 := by unfold rLen; split <;> omega
  have lj : rLen j < 2147483648 := by unfold rLen; split <;> omega
  intro q
  induction q with
  | zero =>
    intro f k F h hk hf
    obtain ⟨f, rfl⟩ : ∃ g, f = g + 1 := ⟨f - 1, by omega⟩
    refine ⟨F, ?_, h, fun l => by rw [if_neg (by omega)], fun _ _ => rfl⟩
    rw [tX10_copies_L3, if_pos (by rw [show (1952 : Int32) = Int32.ofNat 1952 from rfl]; exact (n_le (by omega) (by omega)).mpr (by omega))]
  | succ q ih =>
    intro f k F h hk hf
    obtain ⟨f, rfl⟩ : ∃ g, f = g + 1 := ⟨f - 1, by omega⟩
    have o1 : rOk M r (pu F j (y + k) (.int (gt F i (x + k)))) := pu_ok h (.inl (by omega))
    obtain ⟨F1, e1, e2, e3, e4⟩ := ih f (k + 1) (pu F j (y + k) (.int (gt F i (x + k)))) o1 (by omega) (by omega)
    refine ⟨F1, ?_, e2, fun l => ?_, fun i' hi' => by rw [e4 i' hi', pu_o hi']⟩
    · rw [tX10_copies_L3, if_neg (by rw [show (1952 : Int32) = Int32.ofNat 1952 from rfl]; exact fun g => by have := (n_le (by omega) (by omega)).mp g; omega), n_add, r_aI hi10.2 hi (by omega), Option.bind_some, n_add, r_sA _ h hj10.2 hj (by omega), Option.bind_some, n_succ]
      exact e1
    · rw [e3 l]
      by_cases g : y + (k + 1) ≤ l ∧ l < y + 1952
      · rw [if_pos g, if_pos (by omega), gt_ne (by omega)]
      · rw [if_neg g]
        by_cases g2 : l = y + k
        · subst g2
          rw [if_pos (by omega), gt_eq, show x + (y + k - y) = x + k by omega]
        · rw [if_neg (by omega), gt_ne (by omega)]
theorem r_copies {i j x y : Nat} (h : rOk M r F) (hi : rTag i = 101) (hj : rTag j = 101) (hi10 : 0 < i ∧ i < 10) (hj10 : 0 < j ∧ j < 10) (hx : x + 1952 ≤ rLen i) (hy : y + 1952 ≤ rLen j) (hap : i ≠ j ∨ y + 1952 ≤ x ∨ x + 1952 ≤ y) :
    ∃ F1, tX10_copies (r + i) (Int32.ofNat x) (r + j) (Int32.ofNat y) (rv M r F) = some ((), rv M r F1) ∧ rOk M r F1 ∧ (∀ l, gt F1 j l = if y ≤ l ∧ l < y + 1952 then gt F i (x + (l - y)) else gt F j l) ∧ ∀ i', i' ≠ j → F1 i' = F i' := by
  obtain ⟨F1, e1, e2, e3, e4⟩ := r_cpL (M := M) (r := r) hi hj hi10 hj10 hx hy hap 1952 vF 0 F h (by omega) (by unfold vF; omega)
  exact ⟨F1, by rw [tX10_copies, show tX10_copies_L3 (r + i) (Int32.ofNat x) (r + j) (Int32.ofNat y) vF 0 (rv M r F) = some ((), rv M r F1) from e1, Option.bind_some], e2, e3, e4⟩
theorem l1952 (n : Nat) : (1952 : Int32) * Int32.ofNat n = Int32.ofNat (1952 * n) := n_mul 1952 n
theorem r_g18 : gI (rv M r F) r 12 18 = some (gt F 0 18) := r_gI M r 18 F
theorem rOk_0 {k : Nat} {v : Value} (h : rOk M r F) (hk : ∀ j, rFld j ≠ k) : rOk M r (pu F 0 k v) := pu_ok h (.inr hk)
theorem f18 : ∀ j, rFld j ≠ 18 := fun j => by unfold rFld; split <;> omega
/-- the oldest state is dropped -/
theorem r_keeps_L {c : Nat} (hc : c ≤ 9) : ∀ (q f k : Nat) (F : Nat → Nat → Value), rOk M r F → gt F 0 18 = Int32.ofNat c → k + q = c → q < f →
    ∃ F1, tX10_keeps_L21 r f (Int32.ofNat k) (rv M r F) = some ((), rv M r F1) ∧ rOk M r F1 ∧ (∀ l, gt F1 7 l = if 1952 * k ≤ l ∧ l < 1952 * c then gt F 7 (l + 1952) else gt F 7 l) ∧ ∀ i', i' ≠ 7 → F1 i' = F i' := by
  intro q
  induction q with
  | zero =>
    intro f k F h h18 hk hf
    obtain ⟨f, rfl⟩ : ∃ g, f = g + 1 := ⟨f - 1, by omega⟩
    refine ⟨F, ?_, h, fun l => by rw [if_neg (by omega)], fun _ _ => rfl⟩
    rw [tX10_keeps_L21, r_g18, Option.bind_some, h18, if_pos ((n_le (by omega) (by omega)).mpr (by omega))]
  | succ q ih =>
    intro f k F h h18 hk hf
    obtain ⟨f, rfl⟩ : ∃ g, f = g + 1 := ⟨f - 1, by omega⟩
    obtain ⟨F0, p1, p2, p3, p4⟩ := r_copies (i := 7) (j := 7) (x := 1952 * (k + 1)) (y := 1952 * k) h rfl rfl (by omega) (by omega) (by show _ ≤ 19520; omega) (by show _ ≤ 19520; omega) (by omega)
    obtain ⟨F1, e1, e2, e3, e4⟩ := ih f (k + 1) F0 p2 (by unfold gt; rw [p4 0 (by omega)]; exact h18) (by omega) (by omega)
    refine ⟨F1, ?_, e2, fun l => ?_, fun i' hi' => by rw [e4 i' hi', p4 i' hi']⟩
    · rw [tX10_keeps_L21, r_g18, Option.bind_some, h18, if_neg (fun g => by have := (n_le (by omega) (by omega)).mp g; omega), rA19 h, Option.bind_some, Option.bind_some, n_succ, l1952, l1952, p1, Option.bind_some]
      exact e1
    · rw [e3 l]
      by_cases g : 1952 * (k + 1) ≤ l ∧ l < 1952 * c
      · rw [if_pos g, if_pos (by omega), p3, if_neg (by omega)]
      · rw [if_neg g, p3]
        by_cases g2 : 1952 * k ≤ l ∧ l < 1952 * k + 1952
        · rw [if_pos g2, if_pos (by omega), show 1952 * (k + 1) + (l - 1952 * k) = l + 1952 by omega]
        · rw [if_neg g2, if_neg (by omega)]
theorem r_keeps_J {c : Nat} (h : rOk M r F) (h18 : gt F 0 18 = Int32.ofNat c) (hc : c ≤ 9) :
    ∃ F1, tX10_keeps_J58 r (rv M r F) = some ((), rv M r F1) ∧ rOk M r F1 ∧ gt F1 0 18 = Int32.ofNat (c + 1) ∧ (∀ l, gt F1 7 l = if 1952 * c ≤ l ∧ l < 1952 * (c + 1) then gt F 1 (l - 1952 * c) else gt F 7 l) ∧ (∀ i', i' ≠ 7 → i' ≠ 0 → F1 i' = F i') ∧ ∀ l, l ≠ 18 → F1 0 l = F 0 l := by
  obtain ⟨F0, p1, p2, p3, p4⟩ := r_copies (i := 1) (j := 7) (x := 0) (y := 1952 * c) h rfl rfl (by omega) (by omega) (by show _ ≤ 1952; omega) (by show _ ≤ 19520; omega) (by omega)
  have e18 : gt F0 0 18 = Int32.ofNat c := by unfold gt; rw [p4 0 (by omega)]; exact h18
  refine ⟨pu F0 0 18 (.int (Int32.ofNat (c + 1))), ?_, rOk_0 p2 f18, gt_eq _ _ _, fun l => ?_, fun i' h1 h2 => by rw [pu_o h2, p4 i' h1], fun l hl => by rw [pu_ne (by omega), p4 0 (by omega)]⟩
  · rw [tX10_keeps_J58, rA1 h, Option.bind_some, rA19 h, Option.bind_some, r_g18, Option.bind_some, h18, l1952, show tX10_copies (r + 1) 0 (r + 7) (Int32.ofNat (1952 * c)) (rv M r F) = some ((), rv M r F0) from p1, Option.bind_some, r_g18, Option.bind_some, e18, n_succ, r_sV _ p2, Option.bind_some]
  · rw [gt_ne (by omega), p3]
    by_cases g : 1952 * c ≤ l ∧ l < 1952 * (c + 1)
    · rw [if_pos (by omega), if_pos g, Nat.zero_add]
    · rw [if_neg (by omega), if_neg g]
/-- a state is kept for undo -/
theorem r_keeps {c : Nat} (h : rOk M r F) (h18 : gt F 0 18 = Int32.ofNat c) (hc : c ≤ 10) :
    ∃ F1 c1 sh, tX10_keeps r (rv M r F) = some ((), rv M r F1) ∧ rOk M r F1 ∧ ((c < 10 ∧ c1 = c ∧ sh = 0) ∨ (c = 10 ∧ c1 = 9 ∧ sh = 1)) ∧ gt F1 0 18 = Int32.ofNat (c1 + 1) ∧ (∀ l, l < 1952 → gt F1 7 (1952 * c1 + l) = gt F 1 l) ∧ (∀ j l, j < c1 → l < 1952 → gt F1 7 (1952 * j + l) = gt F 7 (1952 * (j + sh) + l)) ∧
      (∀ i', i' ≠ 7 → i' ≠ 0 → F1 i' = F i') ∧ ∀ l, l ≠ 18 → F1 0 l = F 0 l := by
  by_cases g : c = 10
  · subst g
    have o1 : rOk M r (pu F 0 18 (.int (Int32.ofNat 9))) := rOk_0 h f18
    obtain ⟨F0, p1, p2, p3, p4⟩ := r_keeps_L (M := M) (r := r) (c := 9) (by omega) 9 vF 0 _ o1 (gt_eq _ _ _) (by omega) (by unfold vF; omega)
    obtain ⟨F1, e1, e2, e3, e4, e5, e6⟩ := r_keeps_J (c := 9) p2 (by unfold gt; rw [p4 0 (by omega)]; exact gt_eq _ _ _) (by omega)
    refine ⟨F1, 9, 1, ?_, e2, .inr ⟨rfl, rfl, rfl⟩, e3, fun l hl => ?_, fun j l hj hl => ?_, fun i' h1 h2 => by rw [e5 i' h1 h2, p4 i' h1, pu_o h2], fun l hl => by rw [e6 l hl, p4 0 (by omega), pu_ne (by omega)]⟩
    · rw [tX10_keeps, r_g18, Option.bind_some, h18, if_pos (by decide), Option.bind_some, show Int32.ofNat 10 - 1 = Int32.ofNat 9 from by decide, r_sV _ h, Option.bind_some, show tX10_keeps_L21 r vF 0 (rv M r (pu F 0 18 (.int (Int32.ofNat 9)))) = some ((), rv M r F0) from p1, Option.bind_some]
      exact e1
    · rw [e4, if_pos (by omega)]
      unfold gt; rw [p4 1 (by omega), pu_o (by omega), show 1952 * 9 + l - 1952 * 9 = l by omega]
    · rw [e4, if_neg (by omega), p3, if_pos (by omega), gt_ne (by omega), show 1952 * j + l + 1952 = 1952 * (j + 1) + l by omega]
  · obtain ⟨F1, e1, e2, e3, e4, e5, e6⟩ := r_keeps_J h h18 (show c ≤ 9 by omega)
    refine ⟨F1, c, 0, ?_, e2, .inl ⟨by omega, rfl, rfl⟩, e3, fun l hl => ?_, fun j l hj hl => ?_, e5, e6⟩
    · rw [tX10_keeps, r_g18, Option.bind_some, h18, if_neg (by rw [show (10 : Int32) = Int32.ofNat 10 from rfl]; exact fun q => g ((n_eq (by omega) (by omega)).mp q))]
      exact e1
    · rw [e4, if_pos (by omega), show 1952 * c + l - 1952 * c = l by omega]
    · rw [e4, if_neg (by omega), Nat.add_zero]
end
section
/-! a new State -/
variable {M : vMe} {a : Nat} {C : Nat → Nat → Value}
/-- the first n cells of a block that is being made, behind the last old cell -/
def bv (M : vMe) (n sl : Nat) (C : Nat → Nat → Value) : vMe := (fun q => if M.2.1 ≤ q ∧ q < M.2.1 + n then ((cT (q - M.2.1)).1, (cT (q - M.2.1)).2, C (q - M.2.1)) else M.1 q, M.2.1 + n, M.2.2.1 + sl, M.2.2.2)
theorem bv_at {n sl i : Nat} (hi : i < n) : (bv M n sl C).1 (M.2.1 + i) = ((cT i).1, (cT i).2, C i) := by simp [bv, hi]
theorem bv_nw {n sl tg len s1 : Nat} {f : Nat → Value} (h : cT n = (tg, len)) : nw (bv M n sl C) tg len s1 f = bv M (n + 1) (sl + s1) (puA C n f) := by
  unfold nw bv
  refine Prod.ext (funext fun q => ?_) (by dsimp only; rw [Nat.add_assoc, Nat.add_assoc])
  dsimp only
  by_cases e : q = M.2.1 + n
  · subst e
    rw [if_pos rfl, if_pos (by omega), show M.2.1 + n - M.2.1 = n by omega, h]
    simp [puA]
  · rw [if_neg e]
    by_cases g : M.2.1 ≤ q ∧ q < M.2.1 + n
    · rw [if_pos g, if_pos (by omega), puA_o (by omega)]
    · rw [if_neg g, if_neg (by omega)]
theorem bv_wr {n sl i k : Nat} {v : Value} (hi : i < n) : wr (bv M n sl C) (M.2.1 + i) k v = bv M n sl (pu C i k v) := by
  unfold wr pt
  rw [bv_at hi]
  refine Prod.ext (funext fun q => ?_) rfl
  dsimp only
  by_cases hq : q = M.2.1 + i
  · subst hq
    simp [bv, pu, hi]
  · rw [if_neg hq]
    by_cases hb : M.2.1 ≤ q ∧ q < M.2.1 + n
    · have : ¬ q - M.2.1 = i := by omega
      simp [bv, hb, pu, this]
    · simp [bv, hb]
theorem bv_sV {n sl i k t : Nat} {v : Value} (hb : M.2.2.2 ≤ M.2.1) (hi : i < n) (ht : (cT i).1 = t) : sV (bv M n sl C) (M.2.1 + i) t k v = some (bv M n sl (pu C i k v)) := by
  have : (bv M n sl C).2.2.2 ≤ M.2.1 + i := by show M.2.2.2 ≤ _; omega
  simp only [sV, bv_at hi, ht, this, bv_wr hi]
  simp
theorem bv_sQ {n sl i j len tg et : Nat} {v : Nat} (hb : M.2.2.2 ≤ M.2.1) (hi : i < n) (ht : cT i = (tg, len)) (hj : j < len) (hl : len < 2147483648) (hv : v < n) (het : (cT v).1 = et) : sQ (bv M n sl C) (M.2.1 + i) tg (Int32.ofNat j) (M.2.1 + v) et = some (bv M n sl (pu C i j (.ref (M.2.1 + v)))) := by
  have : (bv M n sl C).2.2.2 ≤ M.2.1 + i := by show M.2.2.2 ≤ _; omega
  simp only [sQ, bv_at hi, bv_at hv, ht, het, n_clamp (show j < 2147483648 by omega), n_neg (show j < 2147483648 by omega), this, bv_wr hi]
  simp [hj]
theorem bv_gA {n sl i k t v : Nat} (hi : i < n) (ht : (cT i).1 = t) (hv : C i k = .ref v) : gA (bv M n sl C) (M.2.1 + i) t k = some v := by
  simp only [gA, bv_at hi, ht, hv, vR, if_true]
theorem bv_2 (n sl : Nat) : (bv M n sl C).2.1 = M.2.1 + n := rfl
theorem bv_22 (n sl : Nat) : (bv M n sl C).2.2.1 = M.2.2.1 + sl := rfl
theorem nwO_bv {n sl tg len s1 n0 s0 mc ms : Nat} {f : Nat → Value} (h : cT n = (tg, len)) (h1 : M.2.1 + n + 1 ≤ n0 + mc) (h2 : M.2.2.1 + sl + s1 ≤ s0 + ms) (h3 : s1 ≤ ms) : nwO (bv M n sl C) tg len s1 f n0 s0 mc ms = some (bv M (n + 1) (sl + s1) (puA C n f)) := by
  unfold nwO
  rw [if_pos ⟨h1, h2, h3⟩, bv_nw h]
end
