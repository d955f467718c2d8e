section
variable {M : vMe} {a r : Nat} {C F : Nat → Nat → Value}
/-- whether cursor c meets a member with this stamp -/
def mtF (F : Nat → Nat → Value) (c : Nat) (st : Int32) : Int32 := if oC F c 4 = 0 then 1 else if oC F c 5 < st then 0 else 1
theorem mtF_01 (F : Nat → Nat → Value) (c : Nat) (st : Int32) : mtF F c st = 0 ∨ mtF F c st = 1 := by
  unfold mtF
  by_cases h : oC F c 4 = 0
  · rw [if_pos h]; exact .inr rfl
  · rw [if_neg h]
    by_cases g : oC F c 5 < st
    · rw [if_pos g]; exact .inl rfl
    · rw [if_neg g]; exact .inr rfl
theorem c_meets {c : Nat} {st : Int32} (hc : c < 6) (h2 : gt C (44 + c) 2 = oC F c 4) (h5 : gt C (44 + c) 5 = oC F c 5) : tX0_meets (a + (44 + c)) st (cv M a C) = some (mtF F c st) := by
  rw [tX0_meets, uI hc, Option.bind_some, h2, mtF]
  by_cases h : oC F c 4 = 0
  · rw [if_pos h, if_pos h]
  · rw [if_neg h, if_neg h, uI hc, Option.bind_some, h5]
    by_cases g : oC F c 5 < st
    · rw [if_pos g, if_pos g]
    · rw [if_neg g, if_neg g]
/-- the number in place p of set s -/
def numP (F : Nat → Nat → Value) (s p : Nat) : Nat := (oS F s (6 + p)).toNatClampNeg
theorem numP_at {u hz s m p : Nat} (h : okS F u hz s) (hu : u ≤ 64) (hm : oS F s 0 = Int32.ofNat m) (hm64 : m ≤ 64) (hp : p < m) : oS F s (6 + p) = Int32.ofNat (numP F s p) ∧ numP F s p < u ∧ isM F s (numP F s p) ∧ oS F s (70 + numP F s p) = Int32.ofNat p := by
  obtain ⟨⟨m', e1, e2, e3⟩, -⟩ := h
  have q : m = m' := (n_eq (by omega) (by omega)).mp (hm.symm.trans e2)
  subst q
  obtain ⟨y, y1, y2, y3⟩ := e3 p hp
  have e : numP F s p = y := by unfold numP; rw [y2, n_clamp (by omega)]
  rw [e]
  exact ⟨y2, y1, ⟨p, m, y3, hm, hp, hm64, y2⟩, y3⟩
theorem c_stampAt {u hz s m p : Nat} (hC : cOk M a C) (hs : s < 5) (hO : okS F u hz s) (hS : simS C F s) (hu : u ≤ 64) (hm : oS F s 0 = Int32.ofNat m) (hm64 : m ≤ 64) (hp : p < m) :
    tX7_stampAt (a + (4 + 8 * s)) (Int32.ofNat p) (cv M a C) = some (oS F s (134 + numP F s p)) := by
  obtain ⟨n1, n2, n3, -⟩ := numP_at hO hu hm hm64 hp
  have e1 : gt C (4 + 8 * s + (0 + 1)) p = Int32.ofNat (numP F s p) := (hS.2.2.1 p (by omega)).trans n1
  have e2 : gt C (4 + 8 * s + (2 + 1)) (numP F s p) = oS F s (134 + numP F s p) := hS.2.2.2.2.1 _ (by omega) n3
  rw [tX7_stampAt, c_rA hC hs (by omega), Option.bind_some, c_rA hC hs (by omega), Option.bind_some, c_mI hs (by omega) (by omega), Option.bind_some, e1, c_mI hs (by omega) (by omega), Option.bind_some, e2]
theorem kN.rf : kN C C := fun _ _ => rfl
theorem kN.tr {C1 C2 : Nat → Nat → Value} (h : kN C C1) (g : kN C1 C2) : kN C C2 := fun t ht => (g t ht).trans (h t ht)
/-- the place to which a field of a cursor that is not open any more is set -/
theorem close_P {u hz n k c : Nat} (h : simP C F u hz n k) (hc : c < 6) : simP (pu C (44 + c) 1 (.int 0)) (sC F c 3 0) u hz n k := by
  refine simP_cur (c := c) h hc (fun l h1 h2 => by rw [sC, gt_ne (by unfold aC at *; omega)]) (fun j l h1 h2 => by rw [pu_ne (by omega)]) ?_ ?_ ?_
  · rw [gt_ne (by omega), sC, gt_ne (by unfold aC; omega)]; exact h.2.1.2.2.2.2.2
  · have fc : ∀ w, w < 8 → w ≠ 3 → oC (sC F c 3 0) c w = oC F c w := fun w h1 h2 => by rw [oC_sC, if_neg (by unfold aC; omega)]
    unfold simC
    rw [fc 0 (by omega) (by omega), fc 1 (by omega) (by omega), fc 2 (by omega) (by omega), fc 4 (by omega) (by omega), fc 5 (by omega) (by omega), fc 6 (by omega) (by omega), fc 7 (by omega) (by omega), oC_sC, if_pos rfl]
    rw [gt_ne (l := 0) (by omega), gt_eq, gt_ne (l := 2) (by omega), gt_ne (l := 3) (by omega), gt_ne (l := 4) (by omega), gt_ne (l := 5) (by omega), gt_ne (l := 6) (by omega), gt_ne (l := 7) (by omega)]
    rcases h.2.2.2.1 c hc with ⟨g1, g2, g3⟩ | ⟨g1, g2, g3, g4, g5, g6, g7, g8, g9, g10, g11, g12, g13, g14⟩
    · exact .inl ⟨g1, g2, rfl⟩
    · exact .inr ⟨g1, g2, rfl, g4, g5, g6, g7, g8, g9, .inl rfl, g11, g12, g13, g14⟩
  · intro t p m ht hon
    have := hon.2.1
    rw [oC_sC, if_pos rfl] at this
    exact absurd this (by decide)
end
