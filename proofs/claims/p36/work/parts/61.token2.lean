section
variable {M M' : vMe} {x y r a d : Nat} {G F C : Nat → Nat → Value} {P : Nat → Value} {T : Nat → Nat} {len : Nat}
def hY (M : vMe) (y : Nat) (P : Nat → Value) : Prop := M.1 y = (6, 0, P)
theorem hY.eq (h : hY M y P) : pv M y P = M := by
  refine Prod.ext (funext fun q => ?_) rfl
  by_cases g : q = y
  · rw [g, pv_at, h]
  · rw [pv_out g]
theorem hY_pv : hY (pv M y P) y P := pv_at
/-! the reference's runs -/
theorem f8 : ∀ j, rFld j ≠ 8 := fun j => by unfold rFld; split <;> omega
theorem f9 : ∀ j, rFld j ≠ 9 := fun j => by unfold rFld; split <;> omega
theorem if_c {α : Type} {t b : Nat} {v : Int32} {p q : α} (hv : v = Int32.ofNat b) (h : t < 2147483648) (hb : b < 2147483648) : (if Int32.ofNat t = v then p else q) = if t = b then p else q := by
  subst hv
  by_cases g : t = b
  · rw [if_pos g, if_pos (by rw [g])]
  · rw [if_neg g, if_neg (fun y => g ((n_eq h hb).mp y))]
theorem if_le {α : Type} {t b : Nat} {v : Int32} {p q : α} (hv : v = Int32.ofNat b) (h : t < 2147483648) (hb : b < 2147483648) : (if Int32.ofNat t ≤ v then p else q) = if t ≤ b then p else q := by
  subst hv
  by_cases g : t ≤ b
  · rw [if_pos g, if_pos ((n_le h hb).mpr g)]
  · rw [if_neg g, if_neg (fun y => g ((n_le h hb).mp y))]
theorem if_ge {α : Type} {t b : Nat} {v : Int32} {p q : α} (hv : v = Int32.ofNat b) (h : t < 2147483648) (hb : b < 2147483648) : (if v ≤ Int32.ofNat t then p else q) = if b ≤ t then p else q := by
  subst hv
  by_cases g : b ≤ t
  · rw [if_pos g, if_pos ((n_le hb h).mpr g)]
  · rw [if_neg g, if_neg (fun y => g ((n_le hb h).mp y))]
end
