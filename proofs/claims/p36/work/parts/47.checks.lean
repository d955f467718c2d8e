section
variable {M : vMe} {x r a d : Nat} {G F C : Nat → Nat → Value} {u hz n k : Nat}
/-! what the class's object names -/
theorem A_in (h : simD M x r G F a d C u hz n k) : gA M x 11 0 = some (x + 1) := by rw [← h.1.1.eq]; exact g_gA (i := 0) (by omega) rfl h.1.2.1.2.1
theorem A_hi (h : simD M x r G F a d C u hz n k) : gA M x 11 1 = some (x + 3) := by rw [← h.1.1.eq]; exact g_gA (i := 0) (by omega) rfl h.1.2.1.2.2.1
theorem A_sl (h : simD M x r G F a d C u hz n k) : gA M x 11 2 = some (x + 5) := by rw [← h.1.1.eq]; exact g_gA (i := 0) (by omega) rfl h.1.2.1.2.2.2.1
theorem A_no (h : simD M x r G F a d C u hz n k) : gA M x 11 3 = some a := by rw [← h.1.1.eq]; exact g_gA (i := 0) (by omega) rfl h.2.1.1
theorem A_dr (h : simD M x r G F a d C u hz n k) : gA M x 11 4 = some d := by rw [← h.1.1.eq]; exact g_gA (i := 0) (by omega) rfl h.2.1.2.1
theorem T_x (h : hG M x G) : (M.1 x).1 = 11 := by have := h 0 (by omega); rw [Nat.add_zero] at this; rw [this]; rfl
theorem T_in (h : hG M x G) : (M.1 (x + 1)).1 = 4 := by rw [h 1 (by omega)]; rfl
theorem T_hi (h : hG M x G) : (M.1 (x + 3)).1 = 10 := by rw [h 3 (by omega)]; rfl
theorem T_sl (h : hG M x G) : (M.1 (x + 5)).1 = 7 := by rw [h 5 (by omega)]; rfl
theorem T_b (h : hB M a C) : (M.1 a).1 = 8 := by have := h 0 (by omega); rw [Nat.add_zero] at this; rw [this]; rfl
theorem D_b (h : simD M x r G F a d C u hz n k) : hB M a C := h.2.2.2.2.1.1
theorem D_c (h : simD M x r G F a d C u hz n k) : cOk M a C := h.2.2.2.2.1.2.1
theorem D_p (h : simD M x r G F a d C u hz n k) : simP C F u hz n k := h.2.2.2.2.1.2.2.1
theorem B_I0 {j : Nat} (h : hB M a C) : gI M a 8 j = some (gt C 0 j) := by rw [← h.eq]; exact c_gI0
theorem B_A0 (h : hB M a C) (c : cOk M a C) : gA M a 8 0 = some (a + 1) := by rw [← h.eq]; exact cA0 c
theorem B_A1 (h : hB M a C) (c : cOk M a C) : gA M a 8 1 = some (a + 2) := by rw [← h.eq]; exact cA1 c
theorem B_A2 (h : hB M a C) (c : cOk M a C) : gA M a 8 2 = some (a + 3) := by rw [← h.eq]; exact cA2 c
theorem B_S {s : Nat} (h : hB M a C) (c : cOk M a C) (hs : s < 5) : aA M (a + 1) 107 (Int32.ofNat s) = some (a + (4 + 8 * s)) := by rw [← h.eq]; exact cS c hs
theorem B_U {s : Nat} (h : hB M a C) (c : cOk M a C) (hs : s < 6) : aA M (a + 2) 108 (Int32.ofNat s) = some (a + (44 + s)) := by rw [← h.eq]; exact cU c hs
theorem B_uI {c j : Nat} (h : hB M a C) (hc : c < 6) : gI M (a + (44 + c)) 3 j = some (gt C (44 + c) j) := by rw [← h.eq]; exact uI hc
theorem B_rI {s j : Nat} (h : hB M a C) (hs : s < 5) : gI M (a + (4 + 8 * s)) 9 j = some (gt C (4 + 8 * s) j) := by rw [← h.eq]; exact c_rF hs
theorem B_lI {s j : Nat} (h : hB M a C) (hs : s < 5) : gI M (a + (4 + 8 * s + 4)) 5 j = some (gt C (4 + 8 * s + 4) j) := by rw [← h.eq]; exact c_lI hs
theorem B_rA {s j : Nat} (h : hB M a C) (c : cOk M a C) (hs : s < 5) (hj : j < 4) : gA M (a + (4 + 8 * s)) 9 j = some (a + (4 + 8 * s + (j + 1))) := by rw [← h.eq]; exact c_rA c hs hj
theorem B_lA {s j : Nat} (h : hB M a C) (c : cOk M a C) (hs : s < 5) (hj : j < 3) : gA M (a + (4 + 8 * s + 4)) 5 j = some (a + (4 + 8 * s + (5 + j))) := by rw [← h.eq]; exact c_lA c hs hj
theorem B_mI {s j p : Nat} (h : hB M a C) (hs : s < 5) (hj : j < 3) (hp : p < 64) : aI M (a + (4 + 8 * s + (j + 1))) 101 (Int32.ofNat p) = some (gt C (4 + 8 * s + (j + 1)) p) := by rw [← h.eq]; exact c_mI hs hj hp
theorem B_eI {s w p : Nat} (h : hB M a C) (hs : s < 5) (hw : w < 3) (hp : p < 60) : aI M (a + (4 + 8 * s + (5 + w))) 101 (Int32.ofNat p) = some (gt C (4 + 8 * s + (5 + w)) p) := by rw [← h.eq]; exact c_eI hs hw hp
theorem B_mk {i : Nat} (h : hB M a C) (hi : i < 8) : aI M (a + 3) 101 (Int32.ofNat i) = some (gt C 3 i) := by rw [← h.eq]; exact cMk hi
theorem B_tR {s : Nat} (h : hB M a C) (hs : s < 5) : (M.1 (a + (4 + 8 * s))).1 = 9 := by rw [← h.eq]; exact c_tagR hs
theorem B_tL {s : Nat} (h : hB M a C) (hs : s < 5) : (M.1 (a + (4 + 8 * s + 4))).1 = 5 := by rw [← h.eq]; exact c_tagL hs
theorem B_tU {c : Nat} (h : hB M a C) (hc : c < 6) : (M.1 (a + (44 + c))).1 = 3 := by rw [← h.eq]; exact uT hc
/-! arguments -/
theorem arg_c (s : Int32) {n : Nat} (hn : n < 2147483648) : (∃ j, j < n ∧ s = Int32.ofNat j) ∨ (s < 0 ∨ ¬ s < Int32.ofNat n) := by
  by_cases h0 : s < 0
  · exact .inr (.inl h0)
  · by_cases h1 : s < Int32.ofNat n
    · obtain ⟨j, j1, j2⟩ := n_of h0 h1 hn
      exact .inl ⟨j, j1, j2⟩
    · exact .inr (.inr h1)
theorem n_nlt {a b : Nat} (ha : a < 2147483648) (hb : b < 2147483648) (h : b ≤ a) : ¬ Int32.ofNat a < Int32.ofNat b := fun g => by have := (n_lt ha hb).mp g; omega
theorem c_checkSet (h : simD M x r G F a d C u hz n k) (s : Int32) : (∀ j, j < n → s = Int32.ofNat j → tX9_checkSet x s M = some (.inl (), M)) ∧ ((s < 0 ∨ ¬ s < Int32.ofNat n) → tX9_checkSet x s M = some (.inr 1, M)) := by
  have hP := D_p h
  have hn5 := hP.1.2.2.1.2
  have e5 : gI M a 8 5 = some (Int32.ofNat n) := by rw [B_I0 (D_b h), hP.2.1.2.2.1, hP.1.2.2.1.1]
  have J : tX9_checkSet_J15 M.2.1 M.2.2.1 M = some (.inr 1, M) := if_pos ⟨Nat.le_refl _, Nat.le_refl _⟩
  constructor
  · rintro j hj rfl
    rw [tX9_checkSet, if_neg (n_neg (by omega)), A_no h, Option.bind_some, e5, Option.bind_some, if_pos ((n_lt (by omega) (by omega)).mpr hj), if_pos ⟨by omega, by omega⟩]
  · intro g
    rw [tX9_checkSet]
    by_cases h0 : s < 0
    · rw [if_pos h0, J]
    · rw [if_neg h0, A_no h, Option.bind_some, e5, Option.bind_some, if_neg (g.resolve_left h0), J]
theorem c_rowsOf (h : simD M x r G F a d C u hz n k) (s : Int32) : (∀ j, j < n → s = Int32.ofNat j → tX9_rowsOf x s M = some (.inl (a + (4 + 8 * j)), M)) ∧ ((s < 0 ∨ ¬ s < Int32.ofNat n) → tX9_rowsOf x s M = some (.inr 1, M)) := by
  have hn5 := (D_p h).1.2.2.1.2
  constructor
  · rintro j hj rfl
    rw [tX9_rowsOf, if_pos ⟨Nat.le_refl _, Nat.le_refl _⟩, if_pos (T_x h.1.1), (c_checkSet h _).1 j hj rfl, Option.bind_some]
    show ((gA M x 11 3).bind _) = _
    rw [A_no h, Option.bind_some, B_A0 (D_b h) (D_c h), Option.bind_some, B_S (D_b h) (D_c h) (by omega), Option.bind_some, if_pos ⟨Nat.le_add_right _ _, Nat.le_add_right _ _⟩]
  · intro g
    rw [tX9_rowsOf, if_pos ⟨Nat.le_refl _, Nat.le_refl _⟩, if_pos (T_x h.1.1), (c_checkSet h s).2 g, Option.bind_some]
    rfl
theorem c_cursorOf (h : simD M x r G F a d C u hz n k) (s : Int32) : (∀ c, c < 6 → oC F c 0 = 1 → s = Int32.ofNat c → tX9_cursorOf x s M = some (.inl (a + (44 + c)), M)) ∧ (((s < 0 ∨ ¬ s < Int32.ofNat 6) ∨ ∃ c, c < 6 ∧ s = Int32.ofNat c ∧ oC F c 0 = 0) → tX9_cursorOf x s M = some (.inr 1, M)) := by
  have hP := D_p h
  have J : tX9_cursorOf_J25 M.2.1 M.2.2.1 M = some (.inr 1, M) := if_pos ⟨Nat.le_refl _, Nat.le_refl _⟩
  constructor
  · rintro c hc h0 rfl
    have e0 : gt C (44 + c) 0 = 1 := by
      rcases hP.2.2.2.1 c hc with ⟨g, -⟩ | ⟨-, g, -⟩
      · rw [g] at h0; exact absurd h0 (by decide)
      · exact g
    rw [tX9_cursorOf, if_neg (n_neg (by omega)), if_neg (by rw [l6]; exact fun g => by have := (n_le (by omega) (by omega)).mp g; omega), A_no h, Option.bind_some, B_A1 (D_b h) (D_c h), Option.bind_some, B_U (D_b h) (D_c h) hc, Option.bind_some, B_uI (D_b h) hc, Option.bind_some, e0, if_neg (by decide), Option.bind_some, B_A1 (D_b h) (D_c h), Option.bind_some, B_U (D_b h) (D_c h) hc, Option.bind_some, if_pos ⟨by omega, by omega⟩]
  · rintro (g | ⟨c, hc, rfl, h0⟩)
    · rw [tX9_cursorOf]
      by_cases q : s < 0
      · rw [if_pos q, J]
      · rw [if_neg q, if_pos (by rw [l6]; exact Int32.not_lt.mp (g.resolve_left q)), J]
    · have e0 : gt C (44 + c) 0 = 0 := by
        rcases hP.2.2.2.1 c hc with ⟨-, g, -⟩ | ⟨g, -⟩
        · exact g
        · rw [g] at h0; exact absurd h0 (by decide)
      rw [tX9_cursorOf, if_neg (n_neg (by omega)), if_neg (by rw [l6]; exact fun g => by have := (n_le (by omega) (by omega)).mp g; omega), A_no h, Option.bind_some, B_A1 (D_b h) (D_c h), Option.bind_some, B_U (D_b h) (D_c h) hc, Option.bind_some, B_uI (D_b h) hc, Option.bind_some, e0, if_pos rfl, J]
theorem c_hasNumber (hB1 : hB M a C) (hP : simP C F u hz n k) (s : Int32) : (∀ j, j < u → s = Int32.ofNat j → tX5_hasNumber a s M = some 1) ∧ ((s < 0 ∨ ¬ s < Int32.ofNat u) → tX5_hasNumber a s M = some 0) := by
  have hu := hP.1.1.2.2
  have e3 : gI M a 8 3 = some (Int32.ofNat u) := by rw [B_I0 hB1, hP.2.1.1, hP.1.1.1]
  constructor
  · rintro j hj rfl
    rw [tX5_hasNumber, if_neg (n_neg (by omega)), e3, Option.bind_some, if_neg (fun g => by have := (n_le (by omega) (by omega)).mp g; omega)]
  · intro g
    rw [tX5_hasNumber]
    by_cases h0 : s < 0
    · rw [if_pos h0]
    · rw [if_neg h0, e3, Option.bind_some, if_pos (Int32.not_lt.mp (g.resolve_left h0))]
theorem c_checkNumber (h : simD M x r G F a d C u hz n k) (s : Int32) : (∀ j, j < u → s = Int32.ofNat j → tX9_checkNumber x s M = some (.inl (), M)) ∧ ((s < 0 ∨ ¬ s < Int32.ofNat u) → tX9_checkNumber x s M = some (.inr 0, M)) := by
  constructor
  · rintro j hj rfl
    rw [tX9_checkNumber, A_no h, Option.bind_some, if_pos ⟨by omega, by omega⟩, if_pos (T_b (D_b h)), (c_hasNumber (D_b h) (D_p h) _).1 j hj rfl, Option.bind_some, if_neg (by decide), if_pos ⟨by omega, by omega⟩]
  · intro g
    rw [tX9_checkNumber, A_no h, Option.bind_some, if_pos ⟨by omega, by omega⟩, if_pos (T_b (D_b h)), (c_hasNumber (D_b h) (D_p h) _).2 g, Option.bind_some, if_pos rfl, if_pos ⟨by omega, by omega⟩]
/-! the reference's checks -/
def Fth (F : Nat → Nat → Value) (c : Int32) : Nat → Nat → Value := pu F 0 0 (.int c)
theorem f00 : ∀ j, rFld j ≠ 0 := fun j => by unfold rFld; split <;> omega
theorem Fth_ok {c : Int32} (h : rOk M r F) : rOk M r (Fth F c) := rOk_0 h f00
theorem Fth_2 {c e : Int32} : Fth (Fth F c) e = Fth F e := by
  funext i l
  unfold Fth pu updV
  by_cases h : i = 0
  · subst h
    by_cases g : l = 0
    · subst g; simp
    · simp [g]
  · simp [h]
theorem Fth_at {c : Int32} : gt (Fth F c) 0 0 = c := gt_eq _ _ _
theorem Fth_r {c : Int32} {i : Nat} (hi : i ≠ 0) : Fth F c i = F i := pu_o hi
theorem Fth_gt {c : Int32} {i l : Nat} (h : i ≠ 0 ∨ l ≠ 0) : gt (Fth F c) i l = gt F i l := gt_ne (by omega)
theorem Fth_S {c : Int32} {s w : Nat} : oS (Fth F c) s w = oS F s w := Fth_gt (.inl (by omega))
theorem Fth_C {c : Int32} {s w : Nat} : oC (Fth F c) s w = oC F s w := Fth_gt (.inl (by omega))
theorem fz0 : fits .boolean (.int 0) = true := by decide
theorem fz1 : fits .boolean (.int 1) = true := by decide
end
