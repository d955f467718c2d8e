section
variable {M M' N W : vMe} {x y r a d u hz n k : Nat} {G F C D : Nat → Nat → Value} {P : Nat → Value} {T : Nat → Nat} {len : Nat} {Gs : Nat → Nat}
theorem word_L {p m : Nat} (S : PI x y d len T G N P D) (hb : N.2.2.2 ≤ N.2.1) (he : vI (P 5) = Int32.ofNat (p + m)) (hpm : p + m ≤ 600) (hm : m ≤ 8) (hL : ∀ i, i < m → isL (T (p + i))) : ∀ (q f j : Nat) (W : vMe) (S1 B : Nat → Value), j + q = m → q < f → tw N W S1 B j → (∀ i, i < j → vI (B i) = Int32.ofNat (T (p + i))) →
    ∃ W2 S2 B2, tX3_wordText_L13 N.2.1 N.2.2.1 y N.2.1 f (Int32.ofNat (p + j)) W = some ((), W2) ∧ tw N W2 S2 B2 m ∧ ∀ i, i < m → vI (B2 i) = Int32.ofNat (T (p + i)) := by
  obtain ⟨⟨a1, a2, a3, a4⟩, ⟨b1, b2, b3, b4⟩, -, hx1, hx2, hyN⟩ := S
  have ys : ∀ (W : vMe) (S1 B : Nat → Value) (j : Nat), tw N W S1 B j → W.1 y = (6, 0, P) ∧ hG W x G := fun W S1 B j h => ⟨by rw [h.2.2.1 y hyN]; exact b1, fun i hi => by rw [h.2.2.1 _ (by omega)]; exact a1 i hi⟩
  intro q
  induction q with
  | zero =>
    intro f j W S1 B hj hf ht hB
    obtain ⟨f, rfl⟩ : ∃ g, f = g + 1 := ⟨f - 1, by omega⟩
    have e : j = m := by omega
    subst e
    refine ⟨W, S1, B, ?_, ht, hB⟩
    rw [tX3_wordText_L13, gI_g (ys W S1 B _ ht).1, Option.bind_some, he, if_pos ((n_le (by omega) (by omega)).mpr (by omega))]
  | succ q ih =>
    intro f j W S1 B hj hf ht hB
    obtain ⟨f, rfl⟩ : ∃ g, f = g + 1 := ⟨f - 1, by omega⟩
    obtain ⟨y1, y2⟩ := ys W S1 B _ ht
    have lw := hL j (by omega)
    unfold isL at lw
    have hq := a3 (p + j) (by omega)
    have ev : gt G 2 (p + j) = Int32.ofNat (T (p + j)) := (cd_eq (j := T (p + j)) (by omega) hq.1).mpr hq.2
    obtain ⟨r1, r2⟩ := c_rd (M := W) (x := x) (G := G) (i := p + j) y2 ⟨by rw [show W.2.2.2 = N.2.2.2 from by rw [ht.2.2.2.1]]; exact a2.1, a2.2⟩ (by omega)
    obtain ⟨W2, w1, w2⟩ := t_append (c := T (p + j)) hb ht (by omega) (by omega)
    have h1 : W.2.1 = N.2.1 + 2 := by rw [ht.2.2.2.1]
    have h2 : W.2.2.1 = N.2.2.1 + 20 := by rw [ht.2.2.2.1]
    have st : tX3_wordText_L13 N.2.1 N.2.2.1 y N.2.1 (f + 1) (Int32.ofNat (p + j)) W = tX3_wordText_L13 N.2.1 N.2.2.1 y N.2.1 f (Int32.ofNat (p + (j + 1))) W2 := by
      rw [tX3_wordText_L13, gI_g y1, Option.bind_some, he, if_neg (fun g => by have := (n_le (by omega) (by omega)).mp g; omega), gA_g y1 b2.1, Option.bind_some, r1, Option.bind_some, r2, Option.bind_some, if_pos ⟨by omega, by omega⟩, if_pos (by rw [ht.1]), ev, (chr_b _ (by omega)).1, w1, Option.bind_some, n_succ, Nat.add_assoc]
    obtain ⟨W3, S3, B3, v1, v2, v3⟩ := ih f (j + 1) W2 _ _ (by omega) (by omega) w2 (fun i hi => by
      by_cases e : i = j
      · rw [e, u_eq]; rfl
      · rw [u_ne e]; exact hB i (by omega))
    exact ⟨W3, S3, B3, by rw [st]; exact v1, v2, v3⟩
theorem getD_mr {m i : Nat} {f : Nat → Nat} (hi : i < m) : ((List.range m).map f).getD i 0 = f i := by
  rw [List.getD_eq_getElem?_getD, List.getElem?_eq_getElem (by simpa using hi)]; simp
/-- the word of the token as a text -/
theorem word_N {p : Nat} {w l : List Nat} (S : PI x y d len T G N P D) (t : tkc T Gs P 1 p (p + w.length)) (hR : Rt T len p (w ++ l)) (hb : N.2.2.2 ≤ N.2.1) (hw : 1 ≤ w.length ∧ w.length ≤ 8) (hl : ∀ z, z ∈ w → isL z) :
    ∃ Z, tX3_wordText y N = some (N.2.1 + 2, Z) ∧ tAt Z (N.2.1 + 2) (N.2.1 + 3) w ∧ (∀ q, q < N.2.1 → Z.1 q = N.1 q) ∧ Z.2 = (N.2.1 + 4, N.2.2.1 + 24 + w.length, N.2.2.2) := by
  have hyN := S.2.2.2.2.2
  have hl6 := S.1.2.2.2
  obtain ⟨r1, r2, r3⟩ := Rt_a hR
  have tl : ∀ i, i < w.length → isL (T (p + i)) := fun i hi => by rw [r1 i hi]; exact hl _ (gD_mem hi)
  obtain ⟨W, S1, B, w1, w2⟩ := t_begin (N := N) hb
  obtain ⟨W2, S2, B2, v1, v2, v3⟩ := word_L (p := p) (m := w.length) S hb t.2.2.1 (by omega) hw.2 tl w.length vF 0 W S1 B (by omega) (by unfold vF; omega) w2 (fun i hi => by omega)
  obtain ⟨Z, z1, z2, z3, z4⟩ := t_str (l := w) hb v2 hw.2 hw.1 rfl (fun i hi => ⟨by rw [v3 i hi, r1 i hi], by have := tl i hi; rw [r1 i hi] at this; unfold isL at this; omega⟩)
  refine ⟨Z, ?_, z2, z3, z4⟩
  have h1 : W.2.1 = N.2.1 + 2 := by rw [w2.2.2.2.1]
  have h3 : W2.2.1 = N.2.1 + 2 := by rw [v2.2.2.2.1]
  have h4 : W2.2.2.1 = N.2.2.1 + 20 := by rw [v2.2.2.2.1]
  have k1 : Z.2.1 = N.2.1 + 4 := by rw [z4]
  have k2 : Z.2.2.1 = N.2.2.1 + 24 + w.length := by rw [z4]
  have nn : nwO N 2 0 4 (vp_V [.null, .int 0, .int 0, .int 0]) N.2.1 N.2.2.1 5 400 = some (nw N 2 0 4 (vp_V [.null, .int 0, .int 0, .int 0])) := by
    unfold nwO; rw [if_pos ⟨by omega, by omega, by omega⟩]
  have y1 : W.1 y = (6, 0, P) := by rw [w2.2.2.1 y hyN]; exact S.2.1.1
  rw [tX3_wordText, nn, Option.bind_some, if_pos ⟨by show N.2.1 + 1 + 1 ≤ _; omega, by show N.2.2.1 + 4 + 16 ≤ _; omega⟩, w1, Option.bind_some, gI_g y1, Option.bind_some, t.2.1, show tX3_wordText_L13 N.2.1 N.2.2.1 y N.2.1 vF (Int32.ofNat p) W = _ from v1, Option.bind_some, if_pos ⟨by show W2.2.1 + 2 ≤ _; omega, by show W2.2.2.1 + 254 ≤ _; omega⟩, if_pos (by rw [v2.1]), z1, Option.bind_some, if_pos ⟨by show Z.2.1 ≤ _; omega, by show Z.2.2.1 ≤ _; omega⟩]
/-! a set begins -/
theorem fill_L {i l : Nat} (hi : i < 50) (ht : cT i = (101, l)) (hl : l < 10000) : ∀ (q f j : Nat) (C : Nat → Nat → Value), cOk M a C → (i < 1 ∨ 2 < i ∧ i < 44) → j + q = l → q < f →
    (∀ C2, (∀ z k, z ≠ i → C2 z k = C z k) → cOk M a C2) → ∃ C2, tJ7_fill_53178_L5 (a + i) 0 (Int32.ofNat l) f (Int32.ofNat j) (cv M a C) = some ((), cv M a C2) ∧ (∀ z, z < l → j ≤ z → gt C2 i z = 0) ∧ (∀ z, z < j → C2 i z = C i z) ∧ ∀ z, z ≠ i → C2 z = C z := by
  intro q
  induction q with
  | zero =>
    intro f j C hC _ hj hf _
    obtain ⟨f, rfl⟩ : ∃ g, f = g + 1 := ⟨f - 1, by omega⟩
    refine ⟨C, ?_, fun z z1 z2 => by omega, fun _ _ => rfl, fun _ _ => rfl⟩
    rw [tJ7_fill_53178_L5, if_pos ((n_le (by omega) (by omega)).mpr (by omega))]
  | succ q ih =>
    intro f j C hC hh hj hf hok
    obtain ⟨f, rfl⟩ : ∃ g, f = g + 1 := ⟨f - 1, by omega⟩
    have o1 : cOk M a (pu C i j (.int 0)) := hok _ (fun z k hz => pu_ne (by omega))
    obtain ⟨C2, q1, q2, q3, q4⟩ := ih f (j + 1) (pu C i j (.int 0)) o1 hh (by omega) (by omega) (fun C2 h => hok C2 (fun z k hz => by rw [h z k hz, pu_ne (by omega)]))
    refine ⟨C2, ?_, fun z z1 z2 => ?_, fun z hz => by rw [q3 z (by omega), pu_ne (by omega)], fun z hz => by rw [q4 z hz, pu_o hz]⟩
    · rw [tJ7_fill_53178_L5, if_neg (fun g => by have := (n_le (by omega) (by omega)).mp g; omega), c_sA hC hi ht (by omega) (by omega), Option.bind_some, n_succ]
      exact q1
    · by_cases e : z = j
      · subst e
        unfold gt
        rw [q3 z (by omega), pu_eq]; rfl
      · exact q2 z z1 (by omega)
end
