section
variable {M : vMe} {x r a d : Nat} {G F C : Nat → Nat → Value} {u hz n k : Nat}
theorem f4 : ∀ j, rFld j ≠ 4 := fun j => by unfold rFld; split <;> omega
theorem f5 : ∀ j, rFld j ≠ 5 := fun j => by unfold rFld; split <;> omega
theorem f6 : ∀ j, rFld j ≠ 6 := fun j => by unfold rFld; split <;> omega
theorem if_32 {α : Type} {t : Nat} {p q : α} (h : t < 256) : (if Int32.ofNat t = 32 then p else q) = if t = 32 then p else q := by
  by_cases g : t = 32
  · rw [if_pos g, if_pos (by rw [g]; rfl)]
  · have c : ¬ Int32.ofNat t = 32 := fun y => g ((n_eq (b := 32) (by omega) (by omega)).mp y)
    rw [if_neg g, if_neg c]
theorem if_8 {α : Type} {t : Nat} {p q : α} (h : t < 2147483648) : (if (8 : Int32) < Int32.ofNat t then p else q) = if 8 < t then p else q := by
  by_cases g : 8 < t
  · have c : (8 : Int32) < Int32.ofNat t := (n_lt (a := 8) (by omega) h).mpr g
    rw [if_pos g, if_pos c]
  · have c : ¬ (8 : Int32) < Int32.ofNat t := fun y => g ((n_lt (a := 8) (by omega) h).mp y)
    rw [if_neg g, if_neg c]
end
