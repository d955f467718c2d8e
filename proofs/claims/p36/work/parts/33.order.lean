section
variable {M : vMe} {a r : Nat} {C F : Nat → Nat → Value}
theorem n_dec {k : Nat} (h : 1 ≤ k) : Int32.ofNat k + (-1) = Int32.ofNat (k - 1) := by
  have e : Int32.ofNat k = Int32.ofNat (k - 1) + 1 := by rw [l1, n_add, Nat.sub_add_cancel h]
  rw [e, Int32.add_assoc, show (1 : Int32) + (-1) = 0 from by decide, Int32.add_zero]
theorem rOk6 {n : Nat} {v : Value} (h : rOk M r F) : rOk M r (pu F 6 n v) := pu_ok h (.inl (by decide))
theorem gt_pu6 {n l i : Nat} {v : Value} (hi : i ≠ 6) : gt (pu F 6 n v) i l = gt F i l := gt_ne (.inl hi)
theorem pu_o {i k j : Nat} {v : Value} (hj : j ≠ i) : pu F i k v j = F j := by simp [pu, hj]
/-- od, the first n of it: the open cursors below c of set s, in the order of their positions -/
def isO (on : Nat → Bool) (ps : Nat → Nat) (c n : Nat) (od : Nat → Nat) : Prop :=
  (∀ i, i < n → od i < c ∧ on (od i) = true) ∧ (∀ d, d < c → on d = true → ∃ i, i < n ∧ od i = d) ∧ ∀ i j, i < j → j < n → ps (od i) ≤ ps (od j) ∧ od i ≠ od j
end
