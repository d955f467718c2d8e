section
variable {M : vMe} {x r a d : Nat} {G F C : Nat → Nat → Value} {u hz n k : Nat}
def gX (G : Nat → Nat → Value) (T : Nat → Nat) : Prop := ∀ i, i < 600 → fits .byte (.int (gt G 2 i)) = true ∧ cd (gt G 2 i) = T i
theorem tX_gX {T : Nat → Nat} (h : tX F T) (hb : ∀ i, i < 600 → gt G 2 i = gt F 3 i) : gX G T := fun i hi => by rw [hb i hi]; exact h i hi
theorem n_ad1 {e : Nat} (h : 1 ≤ e) : Int32.ofNat e + (-1) = Int32.ofNat (e - 1) := by rw [← n_pred h, Int32.sub_eq_add_neg]
theorem l32 : (32 : Int32) = Int32.ofNat 32 := rfl
/-! a text of the memory -/
theorem t_lenC {q p : Nat} {l : List Nat} (h : tAt M q p l) : tJ0_length_8abf5 q M = some (Int32.ofNat l.length) := by
  obtain ⟨S, B, g1, g2, g3, g4, g5, g6⟩ := h
  have e1 : gA M q 1 0 = some p := by simp [gA, g1, g2, vR]
  have e2 : aN M p 102 = some (Int32.ofNat l.length) := by simp [aN, g4]
  have e3 : tJ0_coder_7d493 q M = some 0 := by
    rw [tJ0_coder_7d493, if_neg n10, show gI M q 1 1 = some 0 from by simp [gI, g1, g3], Option.bind_some, if_pos (by decide)]
  rw [tJ0_length_8abf5, e1, Option.bind_some, e2, Option.bind_some, if_pos (by rw [g1]), e3, Option.bind_some, show (0 : Int32) &&& 31 = 0 by decide]
  congr 1
  apply Int32.toInt_inj.mp
  rw [show Int32.ofNat l.length >>> (0 : Int32) = Int32.ofNat l.length from by simp]
theorem ch_c : ∀ c, c < 128 → ((Int32.ofNat c &&& 255).toUInt32 % 65536).toInt32 = Int32.ofNat c ∧ fits .char (.int (Int32.ofNat c)) = true := by decide +kernel
theorem t_char {Gs : Nat → Nat} {q p i : Nat} {l : List Nat} (h : tAt M q p l) (hi : i < l.length) : tJ0_charAt_5068e Gs q (Int32.ofNat i) M = some (Int32.ofNat (l.getD i 0), M) := by
  obtain ⟨S, B, g1, g2, g3, g4, g5, g6⟩ := h
  obtain ⟨k1, k2⟩ := g6 i hi
  obtain ⟨c1, c2⟩ := ch_c _ k2
  have e1 : gA M q 1 0 = some p := by simp [gA, g1, g2, vR]
  have e2 : aN M p 102 = some (Int32.ofNat l.length) := by simp [aN, g4]
  have e3 : tJ0_isLatin1_aae02 q M = some 1 := by
    rw [tJ0_isLatin1_aae02, if_neg n10, show gI M q 1 1 = some 0 from by simp [gI, g1, g3], Option.bind_some, if_pos rfl]
  have e4 : aI M p 102 (Int32.ofNat i) = some (Int32.ofNat (l.getD i 0)) := by
    simp only [aI, g4, n_clamp (show i < 2147483648 by omega), n_neg (show i < 2147483648 by omega), k1]
    simp [hi]
  have e5 : tJ0_checkIndex_df160 Gs (Int32.ofNat i) (Int32.ofNat l.length) M = some ((), M) := by
    rw [tJ0_checkIndex_df160, tJ3_checkIndex_8e157, if_neg (n_neg (by omega)), if_pos ((n_lt (by omega) (by omega)).mpr hi), Option.bind_some]
  rw [tJ0_charAt_5068e, if_pos (by rw [g1]), e3, Option.bind_some, if_neg n10, e1, Option.bind_some, tJ1_charAt_3b067, e2, Option.bind_some, e5, Option.bind_some, e4, Option.bind_some, c1, if_pos c2, Option.bind_some, if_pos c2]
/-- does the text hold this name at s .. e? -/
def hN (T : Nat → Nat) (s e : Nat) (l : List Nat) : Prop := e - s = l.length ∧ ∀ i, i < l.length → T (s + i) = l.getD i 0
theorem c_holds_L {Gs : Nat → Nat} {T : Nat → Nat} {q p s e : Nat} {l : List Nat} (hg : hG M x G) (gO : gOk M x G) (hT : gX G T) (h : tAt M q p l) (he : e ≤ 600) (hl : e - s = l.length) (hse : s ≤ e) : ∀ (w f i : Nat), i + w = l.length → w < f →
    ((∀ j, i ≤ j → j < l.length → T (s + j) = l.getD j 0) → tX1_holds_L26 Gs (x + 1) (Int32.ofNat s) (Int32.ofNat e) q f (Int32.ofNat (s + i)) M = some (.inr (), M)) ∧ (¬ (∀ j, i ≤ j → j < l.length → T (s + j) = l.getD j 0) → tX1_holds_L26 Gs (x + 1) (Int32.ofNat s) (Int32.ofNat e) q f (Int32.ofNat (s + i)) M = some (.inl 0, M)) := by
  have hlt : ∀ j, j < l.length → l.getD j 0 < 128 := fun j hj => by obtain ⟨S, B, g1, g2, g3, g4, g5, g6⟩ := h; exact (g6 j hj).2
  have tg : (M.1 q).1 = 1 := by obtain ⟨S, B, g1, -⟩ := h; rw [g1]
  intro w
  induction w with
  | zero =>
    intro f i hi hf
    obtain ⟨f, rfl⟩ : ∃ g, f = g + 1 := ⟨f - 1, by omega⟩
    refine ⟨fun _ => ?_, fun g => absurd (fun j j1 j2 => by omega) g⟩
    rw [tX1_holds_L26, if_pos ((n_le (by omega) (by omega)).mpr (by omega))]
  | succ w ih =>
    intro f i hi hf
    obtain ⟨f, rfl⟩ : ∃ g, f = g + 1 := ⟨f - 1, by omega⟩
    have hq := hT (s + i) (by omega)
    have st : tX1_holds_L26 Gs (x + 1) (Int32.ofNat s) (Int32.ofNat e) q (f + 1) (Int32.ofNat (s + i)) M = if T (s + i) = l.getD i 0 then tX1_holds_L26 Gs (x + 1) (Int32.ofNat s) (Int32.ofNat e) q f (Int32.ofNat (s + (i + 1))) M else some (.inl 0, M) := by
      have r1 : gA M (x + 1) 4 0 = some (x + 2) := by rw [← hg.eq]; exact g_t0 gO
      have r2 : aI M (x + 2) 102 (Int32.ofNat (s + i)) = some (gt G 2 (s + i)) := by rw [← hg.eq]; exact g_tI (by omega)
      rw [tX1_holds_L26, if_neg (fun g => by have := (n_le (by omega) (by omega)).mp g; omega), r1, Option.bind_some, r2, Option.bind_some, if_pos tg, n_sub (by omega), Nat.add_sub_cancel_left, t_char h (by omega), Option.bind_some, n_succ, Nat.add_assoc]
      have ce := cd_eq (hlt i (by omega)) hq.1
      by_cases g : T (s + i) = l.getD i 0
      · rw [if_pos g, if_pos (ce.mpr (by rw [hq.2]; exact g))]
      · rw [if_neg g, if_neg (fun w => g (by rw [← hq.2]; exact ce.mp w))]
    rw [st]
    obtain ⟨k1, k2⟩ := ih f (i + 1) (by omega) (by omega)
    by_cases g : T (s + i) = l.getD i 0
    · rw [if_pos g]
      refine ⟨fun y => k1 (fun j j1 j2 => y j (by omega) j2), fun y => k2 (fun z => y (fun j j1 j2 => ?_))⟩
      by_cases e : j = i
      · rw [e]; exact g
      · exact z j (by omega) j2
    · rw [if_neg g]
      exact ⟨fun y => absurd (y i (Nat.le_refl _) (by omega)) g, fun _ => rfl⟩
theorem c_holds {Gs : Nat → Nat} {T : Nat → Nat} {q p s e : Nat} {l : List Nat} (hg : hG M x G) (gO : gOk M x G) (hT : gX G T) (h : tAt M q p l) (he : e ≤ 600) (hse : s ≤ e) : (hN T s e l → tX1_holds Gs (x + 1) (Int32.ofNat s) (Int32.ofNat e) q M = some (1, M)) ∧ (¬ hN T s e l → tX1_holds Gs (x + 1) (Int32.ofNat s) (Int32.ofNat e) q M = some (0, M)) := by
  have tg : (M.1 q).1 = 1 := by obtain ⟨S, B, g1, -⟩ := h; rw [g1]
  have l16 : l.length < 65536 := by obtain ⟨S, B, g1, g2, g3, g4, g5, g6⟩ := h; exact g5
  have st : tX1_holds Gs (x + 1) (Int32.ofNat s) (Int32.ofNat e) q M = if e - s = l.length then (tX1_holds_L26 Gs (x + 1) (Int32.ofNat s) (Int32.ofNat e) q vF (Int32.ofNat s) M).bind fun z10 => Sum.elim (fun r12 => some (r12, z10.2)) (fun w11 => some (1, z10.2)) z10.1 else some (0, M) := by
    rw [tX1_holds, if_neg (n_neg (by omega)), if_neg (fun g => by have := (n_lt (a := 600) (by omega) (by omega)).mp g; omega), if_pos tg, t_lenC h, Option.bind_some, n_sub hse]
    by_cases g : e - s = l.length
    · rw [if_pos g, if_pos (by rw [g])]
    · rw [if_neg g, if_neg (fun y => g ((n_eq (by omega) (by omega)).mp y))]
  rw [st]
  by_cases g : e - s = l.length
  · rw [if_pos g]
    obtain ⟨k1, k2⟩ := c_holds_L (Gs := Gs) hg gO hT h he g hse l.length vF 0 (by omega) (by unfold vF; omega)
    refine ⟨fun y => ?_, fun y => ?_⟩
    · rw [show tX1_holds_L26 Gs (x + 1) (Int32.ofNat s) (Int32.ofNat e) q vF (Int32.ofNat s) M = some (.inr (), M) from k1 (fun j _ j2 => y.2 j j2), Option.bind_some]; rfl
    · rw [show tX1_holds_L26 Gs (x + 1) (Int32.ofNat s) (Int32.ofNat e) q vF (Int32.ofNat s) M = some (.inl 0, M) from k2 (fun z => y ⟨g, fun j j2 => z j (by omega) j2⟩), Option.bind_some]; rfl
  · rw [if_neg g]
    exact ⟨fun y => absurd y.1 g, fun _ => rfl⟩
end
