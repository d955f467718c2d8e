section
variable {M : vMe} {x r a d : Nat} {G F C : Nat → Nat → Value} {u hz n k : Nat}
/-- the first index that fits -/
def fst1 (n : Nat) (P : Nat → Prop) (z : Int32) : Prop := (∃ s, s < n ∧ z = Int32.ofNat s ∧ P s ∧ ∀ t, t < s → ¬ P t) ∨ (z = -1 ∧ ∀ t, t < n → ¬ P t)
theorem fst1_u {P Q : Nat → Prop} {z w : Int32} (h : fst1 n P z) (g : fst1 n Q w) (e : ∀ s, s < n → (P s ↔ Q s)) : z = w := by
  rcases h with ⟨s, s1, s2, s3, s4⟩ | ⟨h1, h2⟩
  · rcases g with ⟨t, t1, t2, t3, t4⟩ | ⟨g1, g2⟩
    · have : s = t := by
        rcases Nat.lt_trichotomy s t with c | c | c
        · exact absurd ((e s s1).mp s3) (t4 s c)
        · exact c
        · exact absurd ((e t t1).mpr t3) (s4 t c)
      rw [s2, t2, this]
    · exact absurd ((e s s1).mp s3) (g2 s s1)
  · rcases g with ⟨t, t1, t2, t3, t4⟩ | ⟨g1, g2⟩
    · exact absurd ((e t t1).mpr t3) (h2 t t1)
    · rw [h1, g1]
theorem fst1_no {P : Nat → Prop} {z : Int32} (h : fst1 n P z) (e : ∀ s, s < n → ¬ P s) : z = -1 := by
  rcases h with ⟨s, s1, s2, s3, s4⟩ | ⟨h1, h2⟩
  · exact absurd s3 (e s s1)
  · exact h1
theorem B_nm {s q : Nat} (h : hB M a C) (hs : s < 5) (hq : C (4 + 8 * s) 4 = .ref q) : gA M (a + (4 + 8 * s)) 9 4 = some q := by
  have e := h (4 + 8 * s) (by omega)
  have t := B_tR h hs
  simp only [gA, t]
  rw [e]
  simp [hq, vR]
theorem c_named_L {Gs : Nat → Nat} {T : Nat → Nat} {s0 e : Nat} {lf : Nat → List Nat} (hg : hG M x G) (gO : gOk M x G) (hT : gX G T) (hb : hB M a C) (cO : cOk M a C) (h5 : gt C 0 5 = Int32.ofNat n) (hn : n ≤ 5) (hq : ∀ s, s < n → ∃ q p, C (4 + 8 * s) 4 = .ref q ∧ tAt M q p (lf s)) (he : e ≤ 600) (hse : s0 ≤ e) : ∀ (q f i : Nat), i + q = n → q < f → (∀ t, t < i → ¬ hN T s0 e (lf t)) →
    ∃ w, tX5_setNamed_L3 Gs a (x + 1) (Int32.ofNat s0) (Int32.ofNat e) f (Int32.ofNat i) M = some (w, M) ∧ fst1 n (fun s => hN T s0 e (lf s)) (Sum.elim id (fun _ => -1) w) := by
  intro q
  induction q with
  | zero =>
    intro f i hi hf hno
    obtain ⟨f, rfl⟩ : ∃ g, f = g + 1 := ⟨f - 1, by omega⟩
    refine ⟨.inr (), ?_, .inr ⟨rfl, fun t ht => hno t (by omega)⟩⟩
    rw [tX5_setNamed_L3, B_I0 hb, Option.bind_some, h5, if_pos ((n_le (by omega) (by omega)).mpr (by omega))]
  | succ q ih =>
    intro f i hi hf hno
    obtain ⟨f, rfl⟩ : ∃ g, f = g + 1 := ⟨f - 1, by omega⟩
    obtain ⟨o, p, o1, o2⟩ := hq i (by omega)
    obtain ⟨k1, k2⟩ := c_holds (Gs := Gs) (s := s0) (e := e) hg gO hT o2 he hse
    have st : ∀ c, tX1_holds Gs (x + 1) (Int32.ofNat s0) (Int32.ofNat e) o M = some (c, M) → tX5_setNamed_L3 Gs a (x + 1) (Int32.ofNat s0) (Int32.ofNat e) (f + 1) (Int32.ofNat i) M = if c = 0 then tX5_setNamed_L3 Gs a (x + 1) (Int32.ofNat s0) (Int32.ofNat e) f (Int32.ofNat (i + 1)) M else some (.inl (Int32.ofNat i), M) := fun c hc => by
      rw [tX5_setNamed_L3, B_I0 hb, Option.bind_some, h5, if_neg (fun g => by have := (n_le (by omega) (by omega)).mp g; omega), B_A0 hb cO, Option.bind_some, B_S hb cO (by omega), Option.bind_some, B_nm hb (by omega) o1, Option.bind_some, if_pos (T_in hg), hc, Option.bind_some, n_succ]
    by_cases g : hN T s0 e (lf i)
    · rw [st 1 (k1 g), if_neg n10]
      exact ⟨_, rfl, .inl ⟨i, by omega, rfl, g, hno⟩⟩
    · rw [st 0 (k2 g), if_pos rfl]
      exact ih f (i + 1) (by omega) (by omega) (fun t ht => by
        by_cases e : t = i
        · rw [e]; exact g
        · exact hno t (by omega))
theorem c_named {Gs : Nat → Nat} {T : Nat → Nat} {s0 e : Nat} {lf : Nat → List Nat} (hg : hG M x G) (gO : gOk M x G) (hT : gX G T) (hb : hB M a C) (cO : cOk M a C) (h5 : gt C 0 5 = Int32.ofNat n) (hn : n ≤ 5) (hq : ∀ s, s < n → ∃ q p, C (4 + 8 * s) 4 = .ref q ∧ tAt M q p (lf s)) (he : e ≤ 600) (hse : s0 ≤ e) : ∃ z, tX5_setNamed Gs a (x + 1) (Int32.ofNat s0) (Int32.ofNat e) M = some (z, M) ∧ fst1 n (fun s => hN T s0 e (lf s)) z := by
  obtain ⟨w, w1, w2⟩ := c_named_L (Gs := Gs) hg gO hT hb cO h5 hn hq he hse n vF 0 (by omega) (by unfold vF; omega) (fun t ht => by omega)
  refine ⟨_, ?_, w2⟩
  rw [tX5_setNamed, show tX5_setNamed_L3 Gs a (x + 1) (Int32.ofNat s0) (Int32.ofNat e) vF 0 M = some (w, M) from w1, Option.bind_some]
  cases w <;> rfl
/-- the names of a block, one by one -/
theorem nm_f {i : Nat} (h : simNm M x r G C F i n) : ∃ lf : Nat → List Nat, ∀ s, s < n → (∃ q p, C (4 + 8 * s) 4 = .ref q ∧ tAt M q p (lf s)) ∧ isWd (lf s) ∧ vJ (F i s) = pkL (lf s) := by
  have : ∀ s, ∃ l, s < n → (∃ q p, C (4 + 8 * s) 4 = .ref q ∧ tAt M q p l) ∧ isWd l ∧ vJ (F i s) = pkL l := fun s => by
    by_cases hs : s < n
    · obtain ⟨q, l, q1, ⟨p, p1, -⟩, q3, q4⟩ := h s hs
      exact ⟨l, fun _ => ⟨⟨q, p, q1, p1⟩, q3, q4⟩⟩
    · exact ⟨[], fun g => absurd g hs⟩
  obtain ⟨lf, hlf⟩ := Classical.axiomOfChoice this
  exact ⟨lf, hlf⟩
/-- a name of the text against a packed word -/
theorem nm_pk {T : Nat → Nat} {p e : Nat} {l : List Nat} (hw : isWd l) (he : e - p ≤ 8) (hL : ∀ i, p ≤ i → i < e → isL (T i)) : hN T p e l ↔ pkL l = pk (fun i => T (p + i)) (e - p) := by
  rw [pkL_pk]
  constructor
  · rintro ⟨h1, h2⟩
    rw [h1]
    exact pk_congr _ (fun i hi => (h2 i hi).symm)
  · intro q
    obtain ⟨q1, q2⟩ := pk_inj hw.2.1 he (wd_B hw) (fun i hi => by have := hL (p + i) (by omega) (by omega); unfold isL at this; omega) q
    exact ⟨q1.symm, fun i hi => (q2 i hi).symm⟩
end
