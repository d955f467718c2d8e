section
variable {M M' N : vMe} {x y r a d u hz n k : Nat} {G F C D : Nat → Nat → Value} {P : Nat → Value} {T : Nat → Nat} {len : Nat} {Gs : Nat → Nat}
theorem pv_pv {P1 P2 : Nat → Value} : pv (pv N y P1) y P2 = pv N y P2 := by
  refine Prod.ext (funext fun q => ?_) rfl
  by_cases g : q = y
  · rw [g, pv_at, pv_at]
  · rw [pv_out g, pv_out g, pv_out g]
/-- how a statement ends, on both sides -/
def outc (x y d r len u hz : Nat) (T Gs : Nat → Nat) (G : Nat → Nat → Value) (N M' : vMe) (P : Nat → Value) (F : Nat → Nat → Value) (n p : Nat) (tc tr : Option (Int32 × vMe)) : Prop :=
  (∃ N2 P2 D2 F2, tc = some (0, N2) ∧ tr = some (0, rv M' r F2) ∧ pS x y d r len T G N2 M' P2 D2 F2 ∧ er P2 F2 ∧ fr y d N N2 P P2 F F2 ∧ N2.2 = N.2) ∨
  (∃ N2 P2 D2 F2 n2 k2 c2 p2 e2, tc = some (1, N2) ∧ tr = some (1, rv M' r F2) ∧ pJ x y d r len u hz n2 k2 T Gs G N2 M' P2 D2 F2 c2 p2 e2 ∧ fr y d N N2 P P2 F F2 ∧ p < p2 ∧ ((n2 = n ∧ N2.2 = N.2) ∨ (n2 = n + 1 ∧ N2.2.1 = N.2.1 + 4 ∧ N2.2.2.1 ≤ N.2.2.1 + 32)))
end
