section
variable {M : vMe} {x r a d : Nat} {G F C : Nat → Nat → Value} {u hz n k : Nat}
/-- bytes are bytes -/
def wb (M : vMe) : Prop := ∀ q, (M.1 q).1 = 102 → ∀ k, k < (M.1 q).2.1 → fits .byte ((M.1 q).2.2 k) = true
/-- the text of the reference -/
def tX (F : Nat → Nat → Value) (T : Nat → Nat) : Prop := ∀ i, i < 600 → fits .byte (.int (gt F 3 i)) = true ∧ cd (gt F 3 i) = T i
def isL (c : Nat) : Prop := 97 ≤ c ∧ c ≤ 122
theorem wb_tX (w : wb M) (hg : hG M x G) (hb : ∀ i, i < 600 → gt G 2 i = gt F 3 i) : tX F (fun i => cd (gt F 3 i)) := fun i hi => by
  have e := hg 2 (by omega)
  have g := w (x + 2) (by rw [e]; rfl) i (by rw [e]; exact hi)
  rw [e] at g
  have g2 := vI_of g (.inr (.inr rfl))
  refine ⟨?_, rfl⟩
  rw [← hb i hi]; unfold gt
  rw [← g2]; exact g
theorem tX.row {F2 : Nat → Nat → Value} {T : Nat → Nat} (h : tX F T) (e : F2 3 = F 3) : tX F2 T := fun i hi => by rw [gt_row e]; exact h i hi
/-- what a run of letters does to the reference's fields -/
def lR (F F2 : Nat → Nat → Value) (T : Nat → Nat) (len p e2 : Nat) : Prop := gt F2 0 7 = Int32.ofNat e2 ∧ vJ (F2 0 10) = pk (fun i => T (p + i)) (if e2 - p < 8 then e2 - p else 8) ∧ p ≤ e2 ∧ e2 ≤ len ∧ (∀ i, p ≤ i → i < e2 → isL (T i)) ∧ (e2 < len → ¬ isL (T e2)) ∧ (∀ i, i ≠ 0 → F2 i = F i) ∧ ∀ l, l ≠ 7 → l ≠ 10 → F2 0 l = F 0 l
theorem f7 : ∀ j, rFld j ≠ 7 := fun j => by unfold rFld; split <;> omega
theorem f10 : ∀ j, rFld j ≠ 10 := fun j => by unfold rFld; split <;> omega
theorem vJ_pu {i k : Nat} {v : Int64} : vJ (pu F i k (.long v) i k) = v := by rw [pu_eq]; rfl
end
