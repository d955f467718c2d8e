section
variable {M : vMe} {a r : Nat} {C F : Nat → Nat → Value}
theorem on_eq {n c s : Nat} (h : simC C F n c) : onC C c s ↔ onF F c s := by
  unfold onC onF
  rcases h with ⟨h1, h2, h3⟩ | ⟨h1, h2, h3, -, h5, -, -, -, -, h10, -⟩
  · rw [h1, h3]
    exact ⟨fun g => absurd rfl g.1, fun g => absurd g.1 (by decide)⟩
  · rw [h1, h3, h5]
    rcases h10 with e | e
    · rw [e]; exact ⟨fun g => absurd rfl g.1, fun g => absurd g.2.1 (by decide)⟩
    · rw [e]; exact ⟨fun g => ⟨rfl, rfl, g.2⟩, fun g => ⟨by decide, g.2.2⟩⟩
/-- the rows of set s as numbers -/
def rowT (F : Nat → Nat → Value) (s : Nat) : w_T := (fun p => (oS F s (6 + p)).toNatClampNeg, fun y => (oS F s (70 + y)).toNatClampNeg, gt F 1 5)
theorem rowT_h {u hz s : Nat} (h : okS F u hz s) : hoF F s (rowT F s) ∧ bT (rowT F s) := by
  obtain ⟨-, hp, hx, -⟩ := h
  refine ⟨⟨fun p h => ?_, fun y h => ?_, rfl⟩, fun p h => ?_, fun y h => ?_⟩
  · obtain ⟨q, q1, q2⟩ := hx p h
    show _ = Int32.ofNat (oS F s (6 + p)).toNatClampNeg
    rw [q2, n_clamp (by omega)]
  · obtain ⟨q, q1, q2⟩ := hp y h
    show _ = Int32.ofNat (oS F s (70 + y)).toNatClampNeg
    rw [q2, n_clamp (by omega)]
  · obtain ⟨q, q1, q2⟩ := hx p h
    show (oS F s (6 + p)).toNatClampNeg < 64
    rw [q2, n_clamp (by omega)]; exact q1
  · obtain ⟨q, q1, q2⟩ := hp y h
    show (oS F s (70 + y)).toNatClampNeg < 64
    rw [q2, n_clamp (by omega)]; exact q1
theorem hoC_of {x : w_T} {s : Nat} (h : simS C F s) (hc : gt C 0 8 = gt F 1 5) (hh : hoF F s x) : hoC C s x :=
  ⟨fun p hp => (h.2.2.1 p hp).trans (hh.1 p hp), fun y hy => (h.2.2.2.1 y hy).trans (hh.2.1 y hy), hc.trans hh.2.2⟩
/-- the class finds no member: nothing is done -/
theorem c_takeOut_no {u hz s x : Nat} (hC : cOk M a C) (hs : s < 5) (hF : okS F u hz s) (hS : simS C F s) (hu : u ≤ 64) (hx : x < 64) (hn : ¬ isM F s x) : tX5_takeOut a (Int32.ofNat s) (Int32.ofNat x) (cv M a C) = some (0, cv M a C) := by
  obtain ⟨v, h1, h2⟩ := c_placeOf (x := Int32.ofNat x) hC hs hF hS hu
  have hv : v = -1 := by
    rcases h2 with ⟨h2, -⟩ | ⟨z, z1, z2, z3, z4⟩
    · exact h2
    · have : x = z := (n_eq (by omega) (by omega)).mp z2
      subst this; exact absurd z3 hn
  rw [tX5_takeOut, cA0 hC, Option.bind_some, cS hC hs, Option.bind_some, if_pos (c_tagR hs), h1, Option.bind_some, if_pos hv]
end
