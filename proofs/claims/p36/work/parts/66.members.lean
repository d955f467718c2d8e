section
variable {M M' N : vMe} {x y r a d u hz n k : Nat} {G F C D : Nat → Nat → Value} {P : Nat → Value} {T : Nat → Nat} {len : Nat} {Gs : Nat → Nat}
theorem pS_cv {D2 F3 : Nat → Nat → Value} (S : pS x y d r len T G N M' P D F) (cO : cOk N d D2) (rO : rOk M' r F3) (hk : kF F F3) : pS x y d r len T G (cv N d D2) M' P D2 F3 := by
  obtain ⟨⟨a1, a2, a3, a4⟩, ⟨b1, b2, b3, b4⟩, ⟨c1, c2⟩, ⟨d1, d2, d3⟩, ⟨g1, g2, g3⟩⟩ := S
  refine ⟨⟨a1.cv (.inl g3), a2, a3, a4⟩, ⟨?_, b2, b3, b4⟩, ⟨hB_cv, cO⟩, ⟨rO, d2.row (hk 3 (by omega) (by omega)), by unfold gt; rw [hk 0 (by omega) (by omega)]; exact d3⟩, ⟨g1, g2, g3⟩⟩
  unfold hY
  rw [cv_out (by omega)]; exact b1
theorem fr_cv {D2 F3 : Nat → Nat → Value} (hk : kF F F3) : fr y d N (cv N d D2) P P F F3 :=
  ⟨fun q _ q2 _ => cv_out q2, rfl, Nat.le_refl _, fun _ _ => rfl, fun i hi => hk i (by omega) (by omega), fun l _ => by rw [hk 0 (by omega) (by omega)]⟩
end
