section
variable {M : vMe} {b u hz s y : Nat} {E F : Nat → Nat → Value} {D : Nat → Value}
/-! a member taken out of a box: the row of what is done lies in the cell y -/
def dn (M : vMe) (y : Nat) (D : Nat → Value) : vMe := pt M y (103, 6, D)
theorem dn_at : (dn M y D).1 y = (103, 6, D) := by simp [dn, pt]
theorem dn_ne {q : Nat} (h : q ≠ y) : (dn M y D).1 q = M.1 q := by simp [dn, pt, h]
theorem eOk_dn (h : eOk M b E) : eOk (dn M y D) b E := h
theorem ew_wro {k : Nat} {v : Value} (h : eOk M b E) (hq : ¬ eA b E y) : wr (ew M b E) y k v = ew (wr M y k v) b E := by
  unfold wr
  rw [ew_out h hq]
  refine Prod.ext (funext fun z => ?_) rfl
  show (if z = y then _ else (ew M b E).1 z : vOb) = _
  by_cases hz : z = y
  · subst hz
    rw [if_pos rfl, ew_out (M := pt M z _) h hq]
    show _ = (if z = z then _ else _ : vOb)
    rw [if_pos rfl]
  · rw [if_neg hz]
    by_cases ha : eA b E z
    · show (if b ≤ z ∧ z < b + 44 then _ else _ : vOb) = (if b ≤ z ∧ z < b + 44 then _ else _ : vOb)
      by_cases hb : b ≤ z ∧ z < b + 44
      · rw [if_pos hb, if_pos hb]
      · rw [if_neg hb, if_neg hb]
        rcases ha with g | ⟨c, hc, g⟩
        · exact absurd g hb
        · rw [eC_of h hc g]
    · rw [ew_out h ha, ew_out (M := pt M y _) h ha]
      show _ = (if z = y then _ else _ : vOb)
      rw [if_neg hz]
theorem d_aI {c : Nat} (h : eOk M b E) (hq : ¬ eA b E y) (hc : c < 6) : aI (ew (dn M y D) b E) y 103 (Int32.ofNat c) = some (vI (D c)) := by
  simp only [aI, ew_out (eOk_dn h) hq, dn_at, n_clamp (show c < 2147483648 by omega), n_neg (show c < 2147483648 by omega)]; simp [hc]
theorem d_sA {c : Nat} {v : Value} (h : eOk M b E) (hy : M.2.2.2 ≤ y) (hq : ¬ eA b E y) (hc : c < 6) : sA (ew (dn M y D) b E) y 103 (Int32.ofNat c) v = some (ew (dn M y (updV D c v)) b E) := by
  have hb : (ew (dn M y D) b E).2.2.2 ≤ y := hy
  have e : wr (dn M y D) y c v = dn M y (updV D c v) := by
    unfold wr
    rw [dn_at]
    unfold dn pt
    refine Prod.ext (funext fun z => ?_) rfl
    by_cases hz : z = y
    · subst hz; simp
    · simp [hz]
  simp only [sA, ew_out (eOk_dn h) hq, dn_at, n_clamp (show c < 2147483648 by omega), n_neg (show c < 2147483648 by omega), ew_wro (eOk_dn h) hq, e, hb]; simp [hc]
/-- what holds of the cursors' cells -/
def okU (b : Nat) (E : Nat → Nat → Value) (n : Nat) : Prop := ∀ c, c < 6 → E 42 c = .null ∨ ∃ q s, E 42 c = .ref q ∧ s < n ∧ E (44 + c) 0 = .ref (b + (2 + 8 * s)) ∧ gt E (44 + c) 1 = Int32.ofNat s ∧ (gt E (44 + c) 6 = 0 ∨ gt E (44 + c) 6 = 1) ∧ (gt E (44 + c) 7 = 0 ∨ gt E (44 + c) 7 = 1)
/-- cursor c of the law is open on box s -/
def onB (b : Nat) (E : Nat → Nat → Value) (s c : Nat) : Prop := ∃ q, E 42 c = .ref q ∧ gt E (44 + c) 6 ≠ 0 ∧ E (44 + c) 0 = .ref (b + (2 + 8 * s))
theorem on_E {n c : Nat} (hU : okU b E n) (hF : F 1 = eR E) (hc : c < 6) (hn : n ≤ 5) (hs : s < 5) : onF F c s ↔ onB b E s c := by
  obtain ⟨r0, r1, r2, r3, -⟩ := R_c hF hc
  unfold onF onB
  rw [r0, r1, r3]
  rcases hU c hc with g | ⟨q, t, g1, g2, g3, g4, g5, -⟩
  · rw [g, if_pos (show vR Value.null = none from rfl)]
    exact ⟨fun h => absurd h.1 (by decide), fun ⟨q, h, _⟩ => by cases h⟩
  · rw [g1, if_neg (by show ¬ (some q = none); exact fun h => by cases h), g3, g4]
    constructor
    · rintro ⟨-, h2, h3⟩
      have := (n_eq (by omega) (by omega)).mp h3
      subst this
      exact ⟨q, rfl, by rw [h2]; decide, rfl⟩
    · rintro ⟨q', -, h2, h3⟩
      have : t = s := by have h9 : b + (2 + 8 * t) = b + (2 + 8 * s) := Value.ref.inj h3; omega
      subst this
      exact ⟨rfl, g5.resolve_left h2, rfl⟩
def dwn (j : Nat) : Int32 := if j = 0 then -1 else Int32.ofNat (j - 1)
theorem dwn_s {j : Nat} (h : j < 100) : Int32.ofNat j + (-1) = dwn j := by
  unfold dwn
  by_cases c : j = 0
  · subst c; rfl
  · rw [if_neg c, n_dec (by omega)]
theorem dwn_n : dwn 0 < 0 := by decide
/-- the next cursor of the walk -/
theorem e_best {n n0 s0 : Nat} {xv hv rv : Int32} {on : Nat → Bool} {ps : Nat → Nat} (h : eOk M b E) (hq : ¬ eA b E y) (hU : okU b E n) (hon : ∀ c, c < 6 → (on c = true ↔ onB b E s c)) (hps : ∀ c, c < 6 → on c = true → vI (D c) = 0 → gt E (44 + c) 2 = Int32.ofNat (ps c) ∧ ps c ≤ 64) :
    ∀ (j f : Nat) (bs : Int32), j ≤ 6 → j < f → ((bs = -1 ∧ ∀ c, j ≤ c → c < 6 → ¬ (on c = true ∧ vI (D c) = 0)) ∨ ∃ e, bs = Int32.ofNat e ∧ e < 6 ∧ on e = true ∧ vI (D e) = 0 ∧ ∀ c, j ≤ c → c < 6 → on c = true → vI (D c) = 0 → ps e ≤ ps c) →
    ∃ bs', tX12_remove_L39 n0 s0 b (b + (2 + 8 * s)) xv hv y rv f bs (dwn j) (ew (dn M y D) b E) = some (bs', ew (dn M y D) b E) ∧ ((bs' = -1 ∧ ∀ c, c < 6 → ¬ (on c = true ∧ vI (D c) = 0)) ∨ ∃ e, bs' = Int32.ofNat e ∧ e < 6 ∧ on e = true ∧ vI (D e) = 0 ∧ ∀ c, c < 6 → on c = true → vI (D c) = 0 → ps e ≤ ps c) := by
  have hd := eOk_dn (y := y) (D := D) h
  intro j
  induction j with
  | zero =>
    intro f bs hj hf hb
    obtain ⟨f, rfl⟩ : ∃ g, f = g + 1 := ⟨f - 1, by omega⟩
    refine ⟨bs, by rw [tX12_remove_L39, if_pos dwn_n], ?_⟩
    rcases hb with ⟨h1, h2⟩ | ⟨e, h1, h2, h3, h4, h5⟩
    · exact .inl ⟨h1, fun c hc => h2 c (Nat.zero_le _) hc⟩
    · exact .inr ⟨e, h1, h2, h3, h4, fun c hc => h5 c (Nat.zero_le _) hc⟩
  | succ j ih =>
    intro f bs hj hf hb
    obtain ⟨f, rfl⟩ : ∃ g, f = g + 1 := ⟨f - 1, by omega⟩
    have hj6 : j < 6 := by omega
    have e1 : dwn (j + 1) = Int32.ofNat j := by unfold dwn; rw [if_neg (by omega), Nat.add_sub_cancel]
    have keep : ¬ (on j = true ∧ vI (D j) = 0) → ((bs = -1 ∧ ∀ c, j ≤ c → c < 6 → ¬ (on c = true ∧ vI (D c) = 0)) ∨ ∃ e, bs = Int32.ofNat e ∧ e < 6 ∧ on e = true ∧ vI (D e) = 0 ∧ ∀ c, j ≤ c → c < 6 → on c = true → vI (D c) = 0 → ps e ≤ ps c) := fun g => by
      rcases hb with ⟨h1, h2⟩ | ⟨e, h1, h2, h3, h4, h5⟩
      · refine .inl ⟨h1, fun c c1 c2 => ?_⟩
        by_cases q : c = j
        · rw [q]; exact g
        · exact h2 c (by omega) c2
      · refine .inr ⟨e, h1, h2, h3, h4, fun c c1 c2 c3 c4 => ?_⟩
        by_cases q : c = j
        · rw [q] at c3 c4; exact absurd ⟨c3, c4⟩ g
        · exact h5 c (by omega) c2 c3 c4
    have J133 : ∀ bb, tX12_remove_J133_39 (tX12_remove_L39 n0 s0 b (b + (2 + 8 * s)) xv hv y rv f) n0 s0 b (b + (2 + 8 * s)) xv hv y rv bb (Int32.ofNat j) (ew (dn M y D) b E) = tX12_remove_L39 n0 s0 b (b + (2 + 8 * s)) xv hv y rv f bb (dwn j) (ew (dn M y D) b E) := fun bb => by
      rw [tX12_remove_J133_39, dwn_s (by omega)]
    have J93 : tX12_remove_J93_39 (tX12_remove_L39 n0 s0 b (b + (2 + 8 * s)) xv hv y rv f) n0 s0 b (b + (2 + 8 * s)) xv hv y rv bs (Int32.ofNat j) (ew (dn M y D) b E) = tX12_remove_L39 n0 s0 b (b + (2 + 8 * s)) xv hv y rv f bs (dwn j) (ew (dn M y D) b E) := by
      rw [tX12_remove_J93_39, tX12_remove_J94_39, if_pos rfl, J133]
    rw [e1, tX12_remove_L39, if_neg (n_neg (by omega)), e_A7 hd, Option.bind_some, e_cR hj6, Option.bind_some]
    have oj := hon j hj6
    unfold onB at oj
    rcases hU j hj6 with g | ⟨q, t, g1, g2, g3, g4, g5, -⟩
    · rw [g, if_pos (show vR Value.null = none from rfl), J93]
      exact ih f bs (by omega) (by omega) (keep (fun w => by obtain ⟨q, q1, -⟩ := oj.mp w.1; rw [g] at q1; cases q1))
    · rw [g1, if_neg (by show ¬ (some q = none); exact fun w => by cases w), Option.bind_some, e_cA hj6 g1, Option.bind_some, e_vI hd hj6 g1, Option.bind_some]
      by_cases c6 : gt E (44 + j) 6 = 0
      · rw [if_pos c6, J93]
        exact ih f bs (by omega) (by omega) (keep (fun w => by obtain ⟨q, q1, q2, -⟩ := oj.mp w.1; exact q2 c6))
      · rw [if_neg c6, Option.bind_some, e_cA hj6 g1, Option.bind_some, e_vA hd hj6 g1 g3, Option.bind_some]
        by_cases ct : b + (2 + 8 * t) = b + (2 + 8 * s)
        · rw [if_pos ct, d_aI h hq hj6, Option.bind_some]
          have onj : on j = true := oj.mpr ⟨q, g1, c6, by rw [g3, ct]⟩
          by_cases cd : vI (D j) = 0
          · rw [if_pos cd, tX12_remove_J94_39, if_neg n10]
            obtain ⟨p1, p2⟩ := hps j hj6 onj cd
            rcases hb with ⟨h1, h2⟩ | ⟨e, h1, h2, h3, h4, h5⟩
            · rw [h1, if_pos (by decide), tX12_remove_J129_39, J133]
              refine ih f _ (by omega) (by omega) (.inr ⟨j, rfl, hj6, onj, cd, fun c c1 c2 c3 c4 => ?_⟩)
              by_cases w : c = j
              · rw [w]; exact Nat.le_refl _
              · exact absurd ⟨c3, c4⟩ (h2 c (by omega) c2)
            · rw [h1, if_neg (n_neg (by omega)), e_A7 hd, Option.bind_some, e_cA hj6 g1, Option.bind_some, e_vI hd hj6 g1, Option.bind_some, p1]
              obtain ⟨qe, te, k1, -⟩ := (hU e h2).resolve_left (fun w => by obtain ⟨q', q1, -⟩ := (hon e h2).mp h3; rw [w] at q1; cases q1)
              obtain ⟨p3, p4⟩ := hps e h2 h3 h4
              rw [Option.bind_some, e_cA h2 k1, Option.bind_some, e_vI hd h2 k1, Option.bind_some, p3]
              by_cases cl : ps e < ps j
              · rw [if_pos ((n_lt (by omega) (by omega)).mpr cl), J133]
                refine ih f _ (by omega) (by omega) (.inr ⟨e, rfl, h2, h3, h4, fun c c1 c2 c3 c4 => ?_⟩)
                by_cases w : c = j
                · rw [w]; omega
                · exact h5 c (by omega) c2 c3 c4
              · rw [if_neg (fun w => cl ((n_lt (by omega) (by omega)).mp w)), tX12_remove_J129_39, J133]
                refine ih f _ (by omega) (by omega) (.inr ⟨j, rfl, hj6, onj, cd, fun c c1 c2 c3 c4 => ?_⟩)
                by_cases w : c = j
                · rw [w]; exact Nat.le_refl _
                · have := h5 c (by omega) c2 c3 c4; omega
          · rw [if_neg cd, J93]
            exact ih f bs (by omega) (by omega) (keep (fun w => cd w.2))
        · rw [if_neg ct, J93]
          refine ih f bs (by omega) (by omega) (keep (fun w => ?_))
          obtain ⟨q', q1, q2, q3⟩ := oj.mp w.1
          rw [g3] at q3
          exact ct (Value.ref.inj q3)
end
