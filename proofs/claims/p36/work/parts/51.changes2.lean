section
variable {M : vMe} {x r a d : Nat} {G F C : Nat → Nat → Value} {u hz n k : Nat}
theorem cu6 (hP : simP C F u hz n k) : ∀ c, c < 6 → simC C F n c := hP.2.2.2.1
theorem inU_F1 {F1 : Nat → Nat → Value} (e : F1 1 = F 1) : inU F1 = inU F := by funext c; unfold inU oC gt; rw [e]
end
