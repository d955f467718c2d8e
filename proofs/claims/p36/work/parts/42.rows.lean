section
variable {M : vMe} {r : Nat} {F : Nat → Nat → Value}
theorem l1952 (n : Nat) : (1952 : Int32) * Int32.ofNat n = Int32.ofNat (1952 * n) := n_mul 1952 n
theorem rOk_0 {k : Nat} {v : Value} (h : rOk M r F) (hk : ∀ j, rFld j ≠ k) : rOk M r (pu F 0 k v) := pu_ok h (.inr hk)
theorem f18 : ∀ j, rFld j ≠ 18 := fun j => by unfold rFld; split <;> omega
end
section
/-! a new State -/
variable {M : vMe} {a : Nat} {C : Nat → Nat → Value}
/-- the first n cells of a block that is being made, behind the last old cell -/
def bv (M : vMe) (n sl : Nat) (C : Nat → Nat → Value) : vMe := (fun q => if M.2.1 ≤ q ∧ q < M.2.1 + n then ((cT (q - M.2.1)).1, (cT (q - M.2.1)).2, C (q - M.2.1)) else M.1 q, M.2.1 + n, M.2.2.1 + sl, M.2.2.2)
theorem bv_at {n sl i : Nat} (hi : i < n) : (bv M n sl C).1 (M.2.1 + i) = ((cT i).1, (cT i).2, C i) := by simp [bv, hi]
theorem bv_nw {n sl tg len s1 : Nat} {f : Nat → Value} (h : cT n = (tg, len)) : nw (bv M n sl C) tg len s1 f = bv M (n + 1) (sl + s1) (puA C n f) := by
  unfold nw bv
  refine Prod.ext (funext fun q => ?_) (by dsimp only; rw [Nat.add_assoc, Nat.add_assoc])
  dsimp only
  by_cases e : q = M.2.1 + n
  · subst e
    rw [if_pos rfl, if_pos (by omega), show M.2.1 + n - M.2.1 = n by omega, h]
    simp [puA]
  · rw [if_neg e]
    by_cases g : M.2.1 ≤ q ∧ q < M.2.1 + n
    · rw [if_pos g, if_pos (by omega), puA_o (by omega)]
    · rw [if_neg g, if_neg (by omega)]
theorem bv_wr {n sl i k : Nat} {v : Value} (hi : i < n) : wr (bv M n sl C) (M.2.1 + i) k v = bv M n sl (pu C i k v) := by
  unfold wr pt
  rw [bv_at hi]
  refine Prod.ext (funext fun q => ?_) rfl
  dsimp only
  by_cases hq : q = M.2.1 + i
  · subst hq
    simp [bv, pu, hi]
  · rw [if_neg hq]
    by_cases hb : M.2.1 ≤ q ∧ q < M.2.1 + n
    · have : ¬ q - M.2.1 = i := by omega
      simp [bv, hb, pu, this]
    · simp [bv, hb]
theorem bv_sV {n sl i k t : Nat} {v : Value} (hb : M.2.2.2 ≤ M.2.1) (hi : i < n) (ht : (cT i).1 = t) : sV (bv M n sl C) (M.2.1 + i) t k v = some (bv M n sl (pu C i k v)) := by
  have : (bv M n sl C).2.2.2 ≤ M.2.1 + i := by show M.2.2.2 ≤ _; omega
  simp only [sV, bv_at hi, ht, this, bv_wr hi]
  simp
theorem bv_sQ {n sl i j len tg et : Nat} {v : Nat} (hb : M.2.2.2 ≤ M.2.1) (hi : i < n) (ht : cT i = (tg, len)) (hj : j < len) (hl : len < 2147483648) (hv : v < n) (het : (cT v).1 = et) : sQ (bv M n sl C) (M.2.1 + i) tg (Int32.ofNat j) (M.2.1 + v) et = some (bv M n sl (pu C i j (.ref (M.2.1 + v)))) := by
  have : (bv M n sl C).2.2.2 ≤ M.2.1 + i := by show M.2.2.2 ≤ _; omega
  simp only [sQ, bv_at hi, bv_at hv, ht, het, n_clamp (show j < 2147483648 by omega), n_neg (show j < 2147483648 by omega), this, bv_wr hi]
  simp [hj]
theorem bv_gA {n sl i k t v : Nat} (hi : i < n) (ht : (cT i).1 = t) (hv : C i k = .ref v) : gA (bv M n sl C) (M.2.1 + i) t k = some v := by
  simp only [gA, bv_at hi, ht, hv, vR, if_true]
theorem bv_2 (n sl : Nat) : (bv M n sl C).2.1 = M.2.1 + n := rfl
theorem bv_22 (n sl : Nat) : (bv M n sl C).2.2.1 = M.2.2.1 + sl := rfl
theorem nwO_bv {n sl tg len s1 n0 s0 mc ms : Nat} {f : Nat → Value} (h : cT n = (tg, len)) (h1 : M.2.1 + n + 1 ≤ n0 + mc) (h2 : M.2.2.1 + sl + s1 ≤ s0 + ms) (h3 : s1 ≤ ms) : nwO (bv M n sl C) tg len s1 f n0 s0 mc ms = some (bv M (n + 1) (sl + s1) (puA C n f)) := by
  unfold nwO
  rw [if_pos ⟨h1, h2, h3⟩, bv_nw h]
end
