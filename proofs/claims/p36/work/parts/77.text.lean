section
variable {M M1 N N2 : vMe} {x y a d b u hz n k len s v clk : Nat} {G C D E E1 E2 : Nat → Nat → Value} {P P2 : Nat → Value} {T : Nat → Nat} {Gs : Nat → Nat}
/-- the law's sets as they begin -/
def zE (u hz n : Nat) (E : Nat → Nat → Value) : Prop := (gt E 0 0 = Int32.ofNat n ∧ gt E 0 1 = Int32.ofNat u ∧ gt E 0 2 = Int32.ofNat hz ∧ ∀ j, 3 ≤ j → j < 6 → gt E 0 j = 0) ∧ (∀ c, E 42 c = .null) ∧ (∀ i, gt E 43 i = 0) ∧ (∀ s, s < 5 → (∀ l, l < 3 → gt E (2 + 8 * s) l = 0) ∧ (∀ j, j < 6 → ∀ l, gt E (2 + 8 * s + (j + 1)) l = 0) ∧ ∀ l, vJ (E (2 + 8 * s + (6 + 1)) l) = 0) ∧ ∀ c, c < 6 → ∀ l, gt E (44 + c) l = if l = 5 then -1 else 0
theorem zE_n (h : zE u hz n E) (hs : s < 5) : eN E s = 0 ∧ eK E s = 0 := by
  have e : eN E s = 0 := by unfold eN; rw [(h.2.2.2.1 s hs).1 2 (by omega)]; rfl
  refine ⟨e, ?_⟩
  unfold eK; rw [e, if_pos (Nat.zero_le _)]
theorem zE_R (h : zE u hz n E) {l : Nat} (h0 : l ≠ 0) (h1 : l ≠ 1) (h2 : l ≠ 2) : vI (eR E l) = 0 := by
  obtain ⟨⟨a0, a1, a2, a3⟩, a4, a5, a6, a7⟩ := id h
  show (if 1952 ≤ l then _ else _ : Int32) = 0
  by_cases c : 1952 ≤ l
  · rw [if_pos c]
  · rw [if_neg c]
    by_cases d : l < 62
    · rw [if_pos d, if_neg h0, if_neg h1, if_neg h2]
      by_cases l3 : l = 3
      · rw [if_pos l3]; exact a3 3 (by omega) (by omega)
      · rw [if_neg l3]
        by_cases l4 : l = 4
        · rw [if_pos l4]; exact a3 5 (by omega) (by omega)
        · rw [if_neg l4]
          by_cases l5 : l = 5
          · rw [if_pos l5]; exact a3 4 (by omega) (by omega)
          · rw [if_neg l5]
            by_cases l14 : l < 14
            · rw [if_pos l14]; exact a5 _
            · rw [if_neg l14]
              have hc : (l - 14) / 8 < 6 := by omega
              obtain ⟨c, ec⟩ : ∃ c, c = (l - 14) / 8 := ⟨_, rfl⟩
              rw [← ec] at hc ⊢
              have z : ∀ j, j ≠ 5 → gt E (44 + c) j = 0 := fun j hj => by rw [a7 c hc j, if_neg hj]
              unfold eV
              rw [a4 c, z 1 (by omega), z 2 (by omega), z 6 (by omega), z 7 (by omega), z 3 (by omega), z 4 (by omega), a7 c hc 5, if_pos rfl]
              repeat' split
              all_goals first | rfl | (rename_i g; exact absurd rfl g) | decide
    · rw [if_neg d]
      have hs : (l - 62) / 378 < 5 := by omega
      obtain ⟨s, es⟩ : ∃ s, s = (l - 62) / 378 := ⟨_, rfl⟩
      obtain ⟨w, ew⟩ : ∃ w, w = (l - 62) % 378 := ⟨_, rfl⟩
      rw [← es] at hs
      rw [← es, ← ew]
      obtain ⟨n1, n2⟩ := zE_n h hs
      obtain ⟨b1, b2, b3⟩ := a6 s hs
      unfold eW
      rw [n1, n2, b1 0 (by omega), b1 1 (by omega), if_pos (Nat.zero_le _), b3, b2 0 (by omega), b2 1 (by omega), b2 2 (by omega), b2 (3 + (w - 198) % 3) (by omega)]
      repeat' split
      all_goals first | rfl | decide
theorem zE_k (h : zE u hz n E) (hn : n ≤ 5) {F : Nat → Nat → Value} (hF : F 1 = eR E) : okE b E F n 0 := by
  obtain ⟨⟨a0, a1, a2, a3⟩, a4, a5, a6, a7⟩ := id h
  refine ⟨a3 3 (by omega) (by omega), by omega, fun c hc => .inl (a4 c), fun s hs => ⟨0, (a6 s (by omega)).1 2 (by omega), Nat.le_refl _, (a6 s (by omega)).2.2 0, fun j hj => by omega, ⟨fun _ => 0, fun j hj => by omega, fun i j hi hj => by omega⟩, fun y hy => ?_⟩⟩
  rw [(a6 s (by omega)).2.2 0]
  constructor
  · intro g
    exact absurd g (by rw [bt_zero]; decide)
  · rintro ⟨p, m, q1, q2, q3, q4, q5⟩
    rw [R_0 hF (by omega), (a6 s (by omega)).1 0 (by omega)] at q2
    have := (n_eq (a := 0) (by omega) (by omega)).mp q2
    omega
theorem LK_new (h : zE u hz n E) (L : LPj u hz n D) : LK b u hz n 0 0 E D := by
  obtain ⟨F, h1, h2⟩ := L
  refine ⟨E, gRow F E, fun _ _ => rfl, simP_row h1 (fun l hl => ?_), gRow_1, zE_k h h1.1.2.2.1.2 gRow_1⟩
  show vI (eR E l) = _
  by_cases l0 : l = 0
  · subst l0; rw [h1.1.2.2.1.1]; exact h.1.1
  · by_cases l1 : l = 1
    · subst l1; rw [h1.1.1.1]; exact h.1.2.1
    · by_cases l2 : l = 2
      · subst l2; rw [h1.1.2.1.1]; exact h.1.2.2.1
      · rw [zE_R h l0 l1 l2, h2 l hl l0 l1 l2]
theorem LPj_0 (hC : cOk M a C) (hu : 1 ≤ u ∧ u ≤ 64) (hh : 1 ≤ hz ∧ hz ≤ 60) (hb : bz C) : ∃ C2, tX5_begin a (Int32.ofNat u) (Int32.ofNat hz) (cv M a C) = some ((), cv M a C2) ∧ cOk M a C2 ∧ LPj u hz 0 C2 ∧ bz C2 := by
  obtain ⟨C2, c1, c2, c3, c4, c5, c6, c7, c8, c9, c10⟩ := c_beginD hC u hz
  obtain ⟨F, hF⟩ : ∃ F : Nat → Nat → Value, F = fun _ l => if l = 1 then .int (Int32.ofNat u) else if l = 2 then .int (Int32.ofNat hz) else .int 0 := ⟨_, rfl⟩
  have f0 : ∀ l, l ≠ 1 → l ≠ 2 → gt F 1 l = 0 := fun l l1 l2 => by
    unfold gt; rw [hF]; dsimp only; rw [if_neg l1, if_neg l2]; rfl
  obtain ⟨s1, -⟩ := simP_new (F := F) hu hh c3 c4 c5 c6 c7 c8 c9 (by unfold gt; rw [hF]; rfl) (by unfold gt; rw [hF]; rfl) (fun l _ l1 l2 => f0 l l1 l2)
  refine ⟨C2, c1, c2, ⟨F, s1, fun l _ _ l1 l2 => f0 l l1 l2⟩, fun c hc k hk => ?_⟩
  by_cases k0 : k = 0
  · subst k0; rw [(c9 c hc).1]; rfl
  · by_cases k1 : k = 1
    · subst k1; rw [(c9 c hc).2]; rfl
    · have := hb c hc k hk
      unfold gt at this ⊢
      rw [c10 _ _ (by omega) (by omega)]; exact this
theorem LPj_ex (hC : cOk M a C) (hu : 1 ≤ u ∧ u ≤ 64) (hh : 1 ≤ hz ∧ hz ≤ 60) (hb : bz C) : ∀ n, n ≤ 5 → ∃ D, cOk M a D ∧ LPj u hz n D := by
  intro n
  induction n with
  | zero =>
    intro _
    obtain ⟨C2, -, c2, c3, -⟩ := LPj_0 hC hu hh hb
    exact ⟨C2, c2, c3⟩
  | succ n ih =>
    intro hn
    obtain ⟨D, d1, d2⟩ := ih (by omega)
    have h5 : gt D 0 5 = Int32.ofNat n := by
      obtain ⟨F, g1, -⟩ := d2
      exact g1.2.1.2.2.1.trans g1.1.2.2.1.1
    obtain ⟨C2, b1, b2, b3⟩ := c_beginSet (w := 0) d1 (by omega) h5
    exact ⟨C2, b2, lp_bgn d2 (by omega) b3⟩
/-- the ghost of the law's sets as they begin -/
theorem GH_new (h : zE u hz n E) (hC : cOk M a C) (hu : 1 ≤ u ∧ u ≤ 64) (hh : 1 ≤ hz ∧ hz ≤ 60) (hb : bz C) (hn : n ≤ 5) : GH b u hz n 0 0 E := by
  obtain ⟨D, d1, d2⟩ := LPj_ex hC hu hh hb n hn
  obtain ⟨E1, F, e1, e2, e3, e4⟩ := LK_new (b := b) h d2
  obtain ⟨F0, g1, g2⟩ := d2
  refine ⟨D, gRow F0 E, M, a, d1, simP_row g1 (fun l hl => ?_), gRow_1, zE_k h hn gRow_1⟩
  show vI (eR E l) = _
  by_cases l0 : l = 0
  · subst l0; rw [g1.1.2.2.1.1]; exact h.1.1
  · by_cases l1 : l = 1
    · subst l1; rw [g1.1.1.1]; exact h.1.2.1
    · by_cases l2 : l = 2
      · subst l2; rw [g1.1.2.1.1]; exact h.1.2.2.1
      · rw [zE_R h l0 l1 l2, g2 l hl l0 l1 l2]
end
