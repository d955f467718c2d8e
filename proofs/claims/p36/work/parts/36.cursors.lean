section
variable {M : vMe} {a r : Nat} {C F : Nat → Nat → Value}
/-! what lies outside the sets -/
theorem simP_oth {C1 F1 : Nat → Nat → Value} {u hz n k k1 : Nat} (h : simP C F u hz n k) (hH : okH F1 u hz n k1) (hh : simH C1 F1) (hm : ∀ i, i < k1 → gt C1 3 i = gt F1 1 (6 + i)) (hc : ∀ c, c < 6 → simC C1 F1 n c)
    (hp : ∀ c s p m, c < 6 → s < n → onF F1 c s → oC F1 c 2 = Int32.ofNat p → p ≤ 64 → oS F s 0 = Int32.ofNat m → m ≤ 64 → p ≤ m) (fF : ∀ l, 62 ≤ l → gt F1 1 l = gt F 1 l) (fC : ∀ j, 4 ≤ j → j < 44 → C1 j = C j) : simP C1 F1 u hz n k1 := by
  have fs : ∀ s w, oS F1 s w = oS F s w := fun s w => fF _ (by unfold aS; omega)
  refine ⟨hH, hh, hm, hc, fun c s p m h1 h2 h3 h4 h5 h6 h7 => hp c s p m h1 h2 h3 h4 h5 (by rw [← fs]; exact h6) h7, fun s hs => ?_⟩
  have hn5 := hH.2.2.1.2
  obtain ⟨g1, g2⟩ := h.2.2.2.2.2 s hs
  exact ⟨simS_congr (fun w _ => fs s w) (fun j h1 h2 => fC j (by omega) (by omega)) g1, okS_congr (fun w _ => fs s w) hH.1.2.2 g2⟩
/-- only cursor c has changed -/
theorem simP_cur {C1 F1 : Nat → Nat → Value} {u hz n k c : Nat} (h : simP C F u hz n k) (hc6 : c < 6) (fF : ∀ l, l ≠ 5 → (l < aC c 0 ∨ aC c 8 ≤ l) → gt F1 1 l = gt F 1 l) (fC : ∀ j l, j ≠ 44 + c → (j ≠ 0 ∨ l ≠ 8) → C1 j l = C j l) (hcost : gt C1 0 8 = gt F1 1 5)
    (hc : simC C1 F1 n c) (hp : ∀ s p m, s < n → onF F1 c s → oC F1 c 2 = Int32.ofNat p → p ≤ 64 → oS F s 0 = Int32.ofNat m → m ≤ 64 → p ≤ m) : simP C1 F1 u hz n k := by
  have hP := h
  obtain ⟨hH, hh, hmk, hcu, hpos, hst⟩ := h
  have f0 : ∀ l, l < 14 → l ≠ 5 → gt F1 1 l = gt F 1 l := fun l h1 h2 => fF l h2 (by unfold aC; omega)
  have g0 : ∀ l, l ≠ 8 → gt C1 0 l = gt C 0 l := fun l h1 => by unfold gt; rw [fC _ _ (by omega) (by omega)]
  have eo : ∀ d, d < 6 → d ≠ c → ∀ w, w < 8 → oC F1 d w = oC F d w := fun d hd hdc w hw => fF _ (by unfold aC; omega) (by unfold aC; omega)
  refine simP_oth hP ⟨⟨by rw [f0 _ (by omega) (by omega)]; exact hH.1.1, hH.1.2⟩, ⟨by rw [f0 _ (by omega) (by omega)]; exact hH.2.1.1, hH.2.1.2⟩, ⟨by rw [f0 _ (by omega) (by omega)]; exact hH.2.2.1.1, hH.2.2.1.2⟩, by rw [f0 _ (by omega) (by omega)]; exact hH.2.2.2.1, hH.2.2.2.2⟩
    ⟨?_, ?_, ?_, ?_, ?_, hcost⟩ (fun i hi => ?_) (fun d hd => ?_) ?_ (fun l hl => fF l (by omega) (by unfold aC; omega)) (fun j h1 h2 => funext fun l => fC j l (by omega) (by omega))
  · rw [g0 _ (by omega), f0 _ (by omega) (by omega)]; exact hh.1
  · rw [g0 _ (by omega), f0 _ (by omega) (by omega)]; exact hh.2.1
  · rw [g0 _ (by omega), f0 _ (by omega) (by omega)]; exact hh.2.2.1
  · rw [g0 _ (by omega), f0 _ (by omega) (by omega)]; exact hh.2.2.2.1
  · rw [g0 _ (by omega), f0 _ (by omega) (by omega)]; exact hh.2.2.2.2.1
  · have := hH.2.2.2.2
    rw [f0 _ (by omega) (by omega), ← hmk i hi]; unfold gt; rw [fC _ _ (by omega) (by omega)]
  · by_cases e : d = c
    · rw [e]; exact hc
    · exact simC_congr (eo d hd e) (fun l => by unfold gt; rw [fC _ _ (by omega) (by omega)]) (hcu d hd)
  · intro d s p m hd hs hon hp' hp64 hm hm64
    by_cases e : d = c
    · rw [e] at hon hp'; exact hp s p m hs hon hp' hp64 hm hm64
    · unfold onF at hon
      rw [eo d hd e 0 (by omega), eo d hd e 3 (by omega), eo d hd e 1 (by omega)] at hon
      rw [eo d hd e 2 (by omega)] at hp'
      exact hpos d s p m hd hs hon hp' hp64 hm hm64
/-- how many of the j places from k on -/
def sumU (f : Nat → Bool) : Nat → Nat → Nat
  | 0, _ => 0
  | j + 1, k => (if f k = true then 1 else 0) + sumU f j (k + 1)
theorem sumU_le (f : Nat → Bool) : ∀ j k, sumU f j k ≤ j := by
  intro j
  induction j with
  | zero => intro k; exact Nat.le_refl _
  | succ j ih => intro k; rw [sumU]; have := ih (k + 1); split <;> omega
theorem sumU_full (f : Nat → Bool) : ∀ j k, sumU f j k = j → ∀ i, k ≤ i → i < k + j → f i = true := by
  intro j
  induction j with
  | zero => intro k _ i h1 h2; omega
  | succ j ih =>
    intro k h i h1 h2
    rw [sumU] at h
    have := sumU_le f j (k + 1)
    by_cases e : i = k
    · rw [e]
      by_cases g : f k = true
      · exact g
      · rw [if_neg g] at h; omega
    · exact ih (k + 1) (by split at h <;> omega) i (by omega) (by omega)
theorem sumU_all (f : Nat → Bool) : ∀ j k, (∀ i, k ≤ i → i < k + j → f i = true) → sumU f j k = j := by
  intro j
  induction j with
  | zero => intro k _; rfl
  | succ j ih => intro k h; rw [sumU, if_pos (h k (by omega) (by omega)), ih (k + 1) (fun i h1 h2 => h i (by omega) (by omega))]; omega
/-- cursors there are -/
def inU (F : Nat → Nat → Value) : Nat → Bool := fun c => decide (oC F c 0 = 1)
theorem c_countCursors_L (h : cOk M a C) {n : Nat} (hs : ∀ c, c < 6 → simC C F n c) : ∀ (j f k v : Nat), k + j = 6 → j < f → tX5_countCursors_L4 a (cv M a C) f (Int32.ofNat v) (Int32.ofNat k) = some (Int32.ofNat (v + sumU (inU F) j k)) := by
  intro j
  induction j with
  | zero =>
    intro f k v hk hf
    obtain ⟨f, rfl⟩ : ∃ g, f = g + 1 := ⟨f - 1, by omega⟩
    rw [tX5_countCursors_L4, if_pos (by rw [l6]; exact (n_le (by omega) (by omega)).mpr (by omega))]; rfl
  | succ j ih =>
    intro f k v hk hf
    obtain ⟨f, rfl⟩ : ∃ g, f = g + 1 := ⟨f - 1, by omega⟩
    have hk6 : k < 6 := by omega
    rw [tX5_countCursors_L4, if_neg (by rw [l6]; exact fun g => by have := (n_le (by omega) (by omega)).mp g; omega), cA1 h, Option.bind_some, cU h hk6, Option.bind_some, uI hk6, Option.bind_some, sumU]
    rcases hs k hk6 with ⟨h1, h2, -⟩ | ⟨h1, h2, -⟩
    · rw [h2, if_pos rfl, tX5_countCursors_J28_4, l0, l1, n_add, n_add, ih f (k + 1) (v + 0) (by omega) (by omega), if_neg (by unfold inU; rw [h1]; decide)]
      simp
    · rw [h2, if_neg (by decide), tX5_countCursors_J28_4, l1, n_add, n_add, ih f (k + 1) (v + 1) (by omega) (by omega), if_pos (by unfold inU; rw [h1]; decide), Nat.add_assoc]
theorem c_countCursors (h : cOk M a C) {n : Nat} (hs : ∀ c, c < 6 → simC C F n c) : tX5_countCursors a (cv M a C) = some (Int32.ofNat (sumU (inU F) 6 0)) := by
  rw [tX5_countCursors, l0, c_countCursors_L h hs 6 vF 0 0 (by omega) (by unfold vF; omega), Option.bind_some, Nat.zero_add]
def onU (F : Nat → Nat → Value) (s : Nat) : Nat → Bool := fun c => decide (onF F c s)
theorem c_countOpen_L (h : cOk M a C) {n s : Nat} (hs : ∀ c, c < 6 → simC C F n c) : ∀ (j f k v : Nat), k + j = 6 → j < f → tX5_countOpenCursors_L4 a (Int32.ofNat s) (cv M a C) f (Int32.ofNat v) (Int32.ofNat k) = some (Int32.ofNat (v + sumU (onU F s) j k)) := by
  intro j
  induction j with
  | zero =>
    intro f k v hk hf
    obtain ⟨f, rfl⟩ : ∃ g, f = g + 1 := ⟨f - 1, by omega⟩
    rw [tX5_countOpenCursors_L4, if_pos (by rw [l6]; exact (n_le (by omega) (by omega)).mpr (by omega))]; rfl
  | succ j ih =>
    intro f k v hk hf
    obtain ⟨f, rfl⟩ : ∃ g, f = g + 1 := ⟨f - 1, by omega⟩
    have hk6 : k < 6 := by omega
    rw [tX5_countOpenCursors_L4, if_neg (by rw [l6]; exact fun g => by have := (n_le (by omega) (by omega)).mp g; omega), cA1 h, Option.bind_some, cU h hk6, Option.bind_some, if_pos (uT hk6), c_isOpenOn hk6, Option.bind_some, sumU]
    have e := on_eq (s := s) (hs k hk6)
    by_cases g : onF F k s
    · rw [if_pos (e.mpr g), if_neg (by decide), tX5_countOpenCursors_J29_4, l1, n_add, n_add, ih f (k + 1) (v + 1) (by omega) (by omega), if_pos (by unfold onU; exact decide_eq_true g), Nat.add_assoc]
    · rw [if_neg (fun q => g (e.mp q)), if_pos rfl, tX5_countOpenCursors_J29_4, l0, l1, n_add, n_add, ih f (k + 1) (v + 0) (by omega) (by omega), if_neg (by unfold onU; rw [decide_eq_true_iff]; exact g)]
      simp
theorem c_countOpen (h : cOk M a C) {n s : Nat} (hs : ∀ c, c < 6 → simC C F n c) : tX5_countOpenCursors a (Int32.ofNat s) (cv M a C) = some (Int32.ofNat (sumU (onU F s) 6 0)) := by
  rw [tX5_countOpenCursors, l0, c_countOpen_L h hs 6 vF 0 0 (by omega) (by unfold vF; omega), Option.bind_some, Nat.zero_add]
/-- the first place without, from k on -/
theorem c_free_L (h : cOk M a C) {n : Nat} (hs : ∀ c, c < 6 → simC C F n c) : ∀ (j f k : Nat), k + j = 6 → j < f →
    (tX5_freeCursor_L2 a (cv M a C) f (Int32.ofNat k) = some (Sum.inr ()) ∧ ∀ c, k ≤ c → c < 6 → inU F c = true) ∨ ∃ c, k ≤ c ∧ c < 6 ∧ tX5_freeCursor_L2 a (cv M a C) f (Int32.ofNat k) = some (Sum.inl (Int32.ofNat c)) ∧ inU F c = false ∧ ∀ d, k ≤ d → d < c → inU F d = true := by
  intro j
  induction j with
  | zero =>
    intro f k hk hf
    obtain ⟨f, rfl⟩ : ∃ g, f = g + 1 := ⟨f - 1, by omega⟩
    refine .inl ⟨?_, fun c h1 h2 => by omega⟩
    rw [tX5_freeCursor_L2, if_pos (by rw [l6]; exact (n_le (by omega) (by omega)).mpr (by omega))]
  | succ j ih =>
    intro f k hk hf
    obtain ⟨f, rfl⟩ : ∃ g, f = g + 1 := ⟨f - 1, by omega⟩
    have hk6 : k < 6 := by omega
    rw [tX5_freeCursor_L2, if_neg (by rw [l6]; exact fun g => by have := (n_le (by omega) (by omega)).mp g; omega), cA1 h, Option.bind_some, cU h hk6, Option.bind_some, uI hk6, Option.bind_some]
    rcases hs k hk6 with ⟨h1, h2, -⟩ | ⟨h1, h2, -⟩
    · rw [h2, if_pos rfl]
      exact .inr ⟨k, by omega, hk6, rfl, by unfold inU; rw [h1]; decide, fun d h3 h4 => by omega⟩
    · have hk1 : inU F k = true := by unfold inU; rw [h1]; decide
      rw [h2, if_neg (by decide), l1, n_add]
      rcases ih f (k + 1) (by omega) (by omega) with ⟨g1, g2⟩ | ⟨c, g1, g2, g3, g4, g5⟩
      · refine .inl ⟨g1, fun c h3 h4 => ?_⟩
        by_cases e : c = k
        · rw [e]; exact hk1
        · exact g2 c (by omega) h4
      · refine .inr ⟨c, by omega, g2, g3, g4, fun d h3 h4 => ?_⟩
        by_cases e : d = k
        · rw [e]; exact hk1
        · exact g5 d (by omega) h4
/-- what freeCursor finds -/
theorem c_free (h : cOk M a C) {n : Nat} (hs : ∀ c, c < 6 → simC C F n c) :
    (tX5_freeCursor a (cv M a C) = some (-1) ∧ sumU (inU F) 6 0 = 6) ∨ ∃ c, c < 6 ∧ tX5_freeCursor a (cv M a C) = some (Int32.ofNat c) ∧ sumU (inU F) 6 0 ≠ 6 ∧ inU F c = false ∧ ∀ d, d < c → inU F d = true := by
  rcases c_free_L h hs 6 vF 0 (by omega) (by unfold vF; omega) with ⟨g1, g2⟩ | ⟨c, g1, g2, g3, g4, g5⟩
  · refine .inl ⟨?_, sumU_all _ 6 0 (fun i h1 h2 => g2 i h1 (by omega))⟩
    rw [tX5_freeCursor, l0, g1]; rfl
  · refine .inr ⟨c, g2, ?_, fun e => ?_, g4, fun d hd => g5 d (by omega) hd⟩
    · rw [tX5_freeCursor, l0, g3]; rfl
    · have := sumU_full _ 6 0 e c (by omega) (by omega)
      rw [g4] at this; cases this
end
