section
/-! what the law's sets hold, as the ghost's row -/
def eN (E : Nat → Nat → Value) (s : Nat) : Nat := (gt E (2 + 8 * s) 2).toNatClampNeg
def eH (E : Nat → Nat → Value) : Nat := (gt E 0 2).toNatClampNeg
def eK (E : Nat → Nat → Value) (s : Nat) : Nat := if eN E s ≤ eH E then eN E s else eH E
def eW (E : Nat → Nat → Value) (s w : Nat) : Int32 := if w = 0 then gt E (2 + 8 * s) 0 else if w = 1 then gt E (2 + 8 * s) 1 else if w = 2 then (if eN E s ≤ eH E then 0 else gt E (2 + 8 * s + (3 + 1)) (eN E s - eH E - 1)) else if w = 3 then Int32.ofNat (eK E s)
  else if w = 4 then (vJ (E (2 + 8 * s + (6 + 1)) (eN E s - eK E s))).toInt32 else if w = 5 then (vJ (E (2 + 8 * s + (6 + 1)) (eN E s - eK E s)) >>> ((32 : Int32).toInt64 &&& 63)).toInt32
  else if w < 70 then gt E (2 + 8 * s + (0 + 1)) (w - 6) else if w < 134 then gt E (2 + 8 * s + (1 + 1)) (w - 70) else if w < 198 then gt E (2 + 8 * s + (2 + 1)) (w - 134) else gt E (2 + 8 * s + (3 + (w - 198) % 3 + 1)) (eN E s - eK E s + (w - 198) / 3)
def eV (E : Nat → Nat → Value) (c w : Nat) : Int32 := if w = 0 then (if vR (E 42 c) = none then 0 else 1) else if w = 1 then gt E (44 + c) 1 else if w = 2 then gt E (44 + c) 2 else if w = 3 then gt E (44 + c) 6 else if w = 4 then gt E (44 + c) 7 else if w = 5 then gt E (44 + c) 3 else if w = 6 then gt E (44 + c) 4 else gt E (44 + c) 5 + 1
def eR (E : Nat → Nat → Value) : Nat → Value := fun l => .int (if 1952 ≤ l then 0 else if l < 62 then (if l = 0 then gt E 0 0 else if l = 1 then gt E 0 1 else if l = 2 then gt E 0 2 else if l = 3 then gt E 0 3 else if l = 4 then gt E 0 5 else if l = 5 then gt E 0 4 else if l < 14 then gt E 43 (l - 6) else eV E ((l - 14) / 8) ((l - 14) % 8)) else eW E ((l - 62) / 378) ((l - 62) % 378))
variable {E F : Nat → Nat → Value}
theorem R_h (hF : F 1 = eR E) : gt F 1 0 = gt E 0 0 ∧ gt F 1 1 = gt E 0 1 ∧ gt F 1 2 = gt E 0 2 ∧ gt F 1 3 = gt E 0 3 ∧ gt F 1 4 = gt E 0 5 ∧ gt F 1 5 = gt E 0 4 := by
  unfold gt; rw [hF]; exact ⟨rfl, rfl, rfl, rfl, rfl, rfl⟩
theorem R_k {i : Nat} (hF : F 1 = eR E) (hi : i < 8) : gt F 1 (6 + i) = gt E 43 i := by
  show vI (F 1 (6 + i)) = _
  rw [hF]
  show (if 1952 ≤ 6 + i then _ else _ : Int32) = _
  rw [if_neg (by omega), if_pos (by omega), if_neg (by omega), if_neg (by omega), if_neg (by omega), if_neg (by omega), if_neg (by omega), if_neg (by omega), if_pos (by omega), show 6 + i - 6 = i by omega]
theorem R_C {c w : Nat} (hF : F 1 = eR E) (hc : c < 6) (hw : w < 8) : oC F c w = eV E c w := by
  show vI (F 1 (aC c w)) = _
  rw [hF]
  show (if 1952 ≤ aC c w then _ else _ : Int32) = _
  unfold aC
  rw [if_neg (by omega), if_pos (by omega), if_neg (by omega), if_neg (by omega), if_neg (by omega), if_neg (by omega), if_neg (by omega), if_neg (by omega), if_neg (by omega), show (14 + 8 * c + w - 14) / 8 = c by omega, show (14 + 8 * c + w - 14) % 8 = w by omega]
theorem R_S {s w : Nat} (hF : F 1 = eR E) (hs : s < 5) (hw : w < 378) : oS F s w = eW E s w := by
  show vI (F 1 (aS s w)) = _
  rw [hF]
  show (if 1952 ≤ aS s w then _ else _ : Int32) = _
  unfold aS
  rw [if_neg (by omega), if_neg (by omega), show (62 + 378 * s + w - 62) / 378 = s by omega, show (62 + 378 * s + w - 62) % 378 = w by omega]
theorem R_0 {s : Nat} (hF : F 1 = eR E) (hs : s < 5) : oS F s 0 = gt E (2 + 8 * s) 0 := by rw [R_S hF hs (by omega), eW, if_pos rfl]
theorem R_1 {s : Nat} (hF : F 1 = eR E) (hs : s < 5) : oS F s 1 = gt E (2 + 8 * s) 1 := by rw [R_S hF hs (by omega), eW, if_neg (by omega), if_pos rfl]
theorem R_2 {s : Nat} (hF : F 1 = eR E) (hs : s < 5) : oS F s 2 = (if eN E s ≤ eH E then 0 else gt E (2 + 8 * s + (3 + 1)) (eN E s - eH E - 1)) := by rw [R_S hF hs (by omega), eW, if_neg (by omega), if_neg (by omega), if_pos rfl]
theorem R_3 {s : Nat} (hF : F 1 = eR E) (hs : s < 5) : oS F s 3 = Int32.ofNat (eK E s) := by rw [R_S hF hs (by omega), eW, if_neg (by omega), if_neg (by omega), if_neg (by omega), if_pos rfl]
theorem R_45 {s : Nat} (hF : F 1 = eR E) (hs : s < 5) : two (oS F s 5) (oS F s 4) = vJ (E (2 + 8 * s + (6 + 1)) (eN E s - eK E s)) := by
  rw [R_S hF hs (by omega), R_S hF hs (by omega), eW, if_neg (by omega), if_neg (by omega), if_neg (by omega), if_neg (by omega), if_neg (by omega), if_pos rfl, eW, if_neg (by omega), if_neg (by omega), if_neg (by omega), if_neg (by omega), if_pos rfl]
  exact two_split _
theorem R_m {s p : Nat} (hF : F 1 = eR E) (hs : s < 5) (hp : p < 64) : oS F s (6 + p) = gt E (2 + 8 * s + (0 + 1)) p := by
  rw [R_S hF hs (by omega), eW, if_neg (by omega), if_neg (by omega), if_neg (by omega), if_neg (by omega), if_neg (by omega), if_neg (by omega), if_pos (by omega), show 6 + p - 6 = p by omega]
theorem R_p {s p : Nat} (hF : F 1 = eR E) (hs : s < 5) (hp : p < 64) : oS F s (70 + p) = gt E (2 + 8 * s + (1 + 1)) p := by
  rw [R_S hF hs (by omega), eW, if_neg (by omega), if_neg (by omega), if_neg (by omega), if_neg (by omega), if_neg (by omega), if_neg (by omega), if_neg (by omega), if_pos (by omega), show 70 + p - 70 = p by omega]
theorem R_t {s p : Nat} (hF : F 1 = eR E) (hs : s < 5) (hp : p < 64) : oS F s (134 + p) = gt E (2 + 8 * s + (2 + 1)) p := by
  rw [R_S hF hs (by omega), eW, if_neg (by omega), if_neg (by omega), if_neg (by omega), if_neg (by omega), if_neg (by omega), if_neg (by omega), if_neg (by omega), if_neg (by omega), if_pos (by omega), show 134 + p - 134 = p by omega]
theorem R_e {s k w : Nat} (hF : F 1 = eR E) (hs : s < 5) (hk : k < 60) (hw : w < 3) : oS F s (198 + 3 * k + w) = gt E (2 + 8 * s + (3 + w + 1)) (eN E s - eK E s + k) := by
  rw [R_S hF hs (by omega), eW, if_neg (by omega), if_neg (by omega), if_neg (by omega), if_neg (by omega), if_neg (by omega), if_neg (by omega), if_neg (by omega), if_neg (by omega), if_neg (by omega), show (198 + 3 * k + w - 198) % 3 = w by omega, show (198 + 3 * k + w - 198) / 3 = k by omega]
theorem R_c {c : Nat} (hF : F 1 = eR E) (hc : c < 6) : oC F c 0 = (if vR (E 42 c) = none then 0 else 1) ∧ oC F c 1 = gt E (44 + c) 1 ∧ oC F c 2 = gt E (44 + c) 2 ∧ oC F c 3 = gt E (44 + c) 6 ∧ oC F c 4 = gt E (44 + c) 7 ∧ oC F c 5 = gt E (44 + c) 3 ∧ oC F c 6 = gt E (44 + c) 4 ∧ oC F c 7 = gt E (44 + c) 5 + 1 := by
  rw [R_C hF hc (by omega), R_C hF hc (by omega), R_C hF hc (by omega), R_C hF hc (by omega), R_C hF hc (by omega), R_C hF hc (by omega), R_C hF hc (by omega), R_C hF hc (by omega)]
  exact ⟨rfl, rfl, rfl, rfl, rfl, rfl, rfl, rfl⟩
/-- rows that hold the same, but for the clock, the cost, the cursors and set s -/
theorem R_same {E2 : Nat → Nat → Value} {s : Nat} (h0 : ∀ l, l ≠ 3 → l ≠ 4 → E2 0 l = E 0 l) (h43 : E2 43 = E 43) (hB : ∀ i, 2 ≤ i → i < 42 → (i < 2 + 8 * s ∨ 2 + 8 * s + 8 ≤ i) → E2 i = E i) (l : Nat) (h3 : l ≠ 3) (h5 : l ≠ 5) (hl : l < 14 ∨ 62 ≤ l) (hS : l < aS s 0 ∨ aS s 378 ≤ l) : eR E2 l = eR E l := by
  unfold eR
  by_cases c : 1952 ≤ l
  · rw [if_pos c, if_pos c]
  · rw [if_neg c, if_neg c]
    have g0 : ∀ j, j ≠ 3 → j ≠ 4 → gt E2 0 j = gt E 0 j := fun j j1 j2 => by unfold gt; rw [h0 j j1 j2]
    by_cases d : l < 62
    · rw [if_pos d, if_pos d, g0 0 (by omega) (by omega), g0 1 (by omega) (by omega), g0 2 (by omega) (by omega), g0 5 (by omega) (by omega), if_neg h3, if_neg h3, if_neg h5, if_neg h5, if_pos (show l < 14 by omega), if_pos (show l < 14 by omega), show gt E2 43 (l - 6) = gt E 43 (l - 6) from by unfold gt; rw [h43]]
    · rw [if_neg d, if_neg d]
      have ht : (l - 62) / 378 < 5 ∧ (l - 62) / 378 ≠ s := by unfold aS at hS; omega
      obtain ⟨t, et⟩ : ∃ t, t = (l - 62) / 378 := ⟨_, rfl⟩
      rw [← et] at ht ⊢
      have gb : ∀ j, j < 8 → E2 (2 + 8 * t + j) = E (2 + 8 * t + j) := fun j hj => hB _ (by omega) (by omega) (by omega)
      have g : ∀ j x, j < 8 → gt E2 (2 + 8 * t + j) x = gt E (2 + 8 * t + j) x := fun j x hj => by unfold gt; rw [gb j hj]
      have gz : ∀ x, gt E2 (2 + 8 * t) x = gt E (2 + 8 * t) x := fun x => g 0 x (by omega)
      have n1 : eN E2 t = eN E t := by unfold eN; rw [gz]
      have n2 : eH E2 = eH E := by unfold eH; rw [g0 2 (by omega) (by omega)]
      have n3 : eK E2 t = eK E t := by unfold eK; rw [n1, n2]
      unfold eW
      rw [n1, n2, n3, gz, gz, g (3 + 1) _ (by omega), gb (6 + 1) (by omega), g (0 + 1) _ (by omega), g (1 + 1) _ (by omega), g (2 + 1) _ (by omega), show gt E2 (2 + 8 * t + (3 + ((l - 62) % 378 - 198) % 3 + 1)) = gt E (2 + 8 * t + (3 + ((l - 62) % 378 - 198) % 3 + 1)) from funext fun x => g _ x (by omega)]
/-- the ghost with another row -/
def gRow (F E : Nat → Nat → Value) : Nat → Nat → Value := fun i => if i = 1 then eR E else F i
theorem gRow_1 : gRow F E 1 = eR E := rfl
theorem gRow_o {i : Nat} (h : i ≠ 1) : gRow F E i = F i := by unfold gRow; rw [if_neg h]
theorem gRow_k : kF F (gRow F E) := fun i h1 _ => gRow_o h1
theorem gRow_ok {M : vMe} {r : Nat} (h : rOk M r F) : rOk M r (gRow F E) := ⟨h.1, fun i h1 h2 => by rw [gRow_o (by omega)]; exact h.2 i h1 h2⟩
end
