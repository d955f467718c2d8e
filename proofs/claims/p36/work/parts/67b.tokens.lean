section
variable {M N : vMe} {x y d b u hz n k len : Nat} {G D : Nat → Nat → Value} {P : Nat → Value} {T : Nat → Nat} {Gs : Nat → Nat}
/-! THE CLASS'S PARSE OF A GIVEN TEXT: from i on, the text is l -/
def Rt (T : Nat → Nat) (len i : Nat) (l : List Nat) : Prop := i + l.length = len ∧ ∀ j, j < l.length → T (i + j) = l.getD j 0
theorem Rt_c {i c : Nat} {l : List Nat} (h : Rt T len i (c :: l)) : T i = c ∧ i < len ∧ Rt T len (i + 1) l := by
  obtain ⟨h1, h2⟩ := h
  rw [List.length_cons] at h1
  refine ⟨h2 0 (by rw [List.length_cons]; omega), by omega, by omega, fun j hj => ?_⟩
  have := h2 (j + 1) (by rw [List.length_cons]; omega)
  rw [show i + (j + 1) = i + 1 + j by omega] at this
  exact this
theorem Rt_a {i : Nat} {w l : List Nat} (h : Rt T len i (w ++ l)) : (∀ j, j < w.length → T (i + j) = w.getD j 0) ∧ i + w.length ≤ len ∧ Rt T len (i + w.length) l := by
  obtain ⟨h1, h2⟩ := h
  rw [List.length_append] at h1
  refine ⟨fun j hj => ?_, by omega, by omega, fun j hj => ?_⟩
  · have := h2 j (by rw [List.length_append]; omega)
    rw [appL, if_pos hj] at this
    exact this
  · have := h2 (w.length + j) (by rw [List.length_append]; omega)
    rw [appL, if_neg (by omega), Nat.add_sub_cancel_left] at this
    rw [Nat.add_assoc]; exact this
theorem gD_mem {w : List Nat} {j : Nat} (h : j < w.length) : w.getD j 0 ∈ w := by
  rw [List.getD_eq_getElem?_getD, List.getElem?_eq_getElem h]
  exact List.getElem_mem h
theorem ext_d {a c : List Nat} (h : a.length = c.length) (g : ∀ i, i < c.length → a.getD i 0 = c.getD i 0) : a = c := by
  refine List.ext_getElem h (fun i h1 h2 => ?_)
  have := g i h2
  rw [List.getD_eq_getElem?_getD, List.getElem?_eq_getElem h1, List.getD_eq_getElem?_getD, List.getElem?_eq_getElem h2] at this
  exact this
def hq (Q : Nat → Prop) : List Nat → Prop
  | [] => True
  | c :: _ => ¬ Q c
theorem Rt_run {Q : Nat → Prop} {i : Nat} {w l : List Nat} (h : Rt T len i (w ++ l)) (hw : ∀ c, c ∈ w → Q c) (hl : hq Q l) : run Q T len i (i + w.length) := by
  obtain ⟨a1, a2, a3⟩ := Rt_a h
  refine ⟨by omega, a2, fun j j1 j2 => ?_, fun c => ?_⟩
  · have := a1 (j - i) (by omega)
    rw [show i + (j - i) = j by omega] at this
    rw [this]; exact hw _ (gD_mem (by omega))
  · cases l with
    | nil => have := a3.1; rw [List.length_nil] at this; omega
    | cons z l => rw [(Rt_c a3).1]; exact hl
/-- the token w, with l behind it -/
def tk1 (c : Nat) (w l : List Nat) : Prop := (c = 1 ∧ (1 ≤ w.length ∧ w.length ≤ 8) ∧ (∀ z, z ∈ w → isL z) ∧ hq isL l) ∨ (c = 2 ∧ (1 ≤ w.length ∧ w.length ≤ 3) ∧ (∀ z, z ∈ w → isD z) ∧ hq isD l) ∨ (c = 3 ∧ w = [59]) ∨ (c = 0 ∧ w = [] ∧ l = [])
theorem tk1_C {i c : Nat} {w l : List Nat} (h : Rt T len i (w ++ l)) (t : tk1 c w l) : tokC T len i c (i + w.length) := by
  rcases t with ⟨rfl, t1, t2, t3⟩ | ⟨rfl, t1, t2, t3⟩ | ⟨rfl, rfl⟩ | ⟨rfl, rfl, rfl⟩
  · have r := Rt_run h t2 t3
    cases w with
    | nil => rw [List.length_nil] at t1; omega
    | cons z w =>
      obtain ⟨c1, c2, -⟩ := Rt_c (l := w ++ l) h
      exact .inr (.inl ⟨c2, by rw [c1]; exact t2 z List.mem_cons_self, r, .inl ⟨by omega, rfl⟩⟩)
  · have r := Rt_run h t2 t3
    cases w with
    | nil => rw [List.length_nil] at t1; omega
    | cons z w =>
      obtain ⟨c1, c2, -⟩ := Rt_c (l := w ++ l) h
      have hd := t2 z List.mem_cons_self
      refine .inr (.inr (.inl ⟨c2, ?_, by rw [c1]; exact hd, r, .inl ⟨by omega, rfl⟩⟩))
      rw [c1]; unfold isD at hd; unfold isL; omega
  · obtain ⟨c1, c2, -⟩ := Rt_c (l := l) h
    refine .inr (.inr (.inr ⟨c2, ?_, ?_, rfl, .inl ⟨c1, rfl⟩⟩))
    · rw [c1]; unfold isL; omega
    · rw [c1]; unfold isD; omega
  · have := h.1
    exact .inl ⟨rfl, this, rfl⟩
theorem tk1_b {c : Nat} {w l : List Nat} (t : tk1 c w l) : hq isB (w ++ l) := by
  rcases t with ⟨rfl, t1, t2, t3⟩ | ⟨rfl, t1, t2, t3⟩ | ⟨rfl, rfl⟩ | ⟨rfl, rfl, rfl⟩
  · cases w with
    | nil => rw [List.length_nil] at t1; omega
    | cons z w =>
      have := t2 z List.mem_cons_self
      show ¬ isB z
      unfold isL at this; unfold isB; omega
  · cases w with
    | nil => rw [List.length_nil] at t1; omega
    | cons z w =>
      have := t2 z List.mem_cons_self
      show ¬ isB z
      unfold isD at this; unfold isB; omega
  · show ¬ isB 59
    unfold isB; omega
  · exact trivial
/-- the parse's world, the class alone -/
def PI (x y d len : Nat) (T : Nat → Nat) (G : Nat → Nat → Value) (N : vMe) (P : Nat → Value) (D : Nat → Nat → Value) : Prop :=
  (hG N x G ∧ gOk N x G ∧ gX G T ∧ len ≤ 600) ∧ (hY N y P ∧ pOk x len P ∧ P 2 = .ref d ∧ N.2.2.2 ≤ y) ∧ (hB N d D ∧ cOk N d D) ∧ (x + 8 ≤ d ∧ d + 50 ≤ y ∧ y < N.2.1)
def tkc (T : Nat → Nat) (Gs : Nat → Nat) (P : Nat → Value) (c p e : Nat) : Prop := P 3 = .ref (Gs (tIx c)) ∧ vI (P 4) = Int32.ofNat p ∧ vI (P 5) = Int32.ofNat e ∧ (c = 2 → vI (P 6) = Int32.ofNat (dv (fun i => T (p + i)) (e - p)))
theorem nx {i c : Nat} {bl w l : List Nat} (S : PI x y d len T G N P D) (h5 : vI (P 5) = Int32.ofNat i) (h : Rt T len i (bl ++ (w ++ l))) (hb : bl = [] ∨ bl = [32]) (t : tk1 c w l) :
    ∃ P2, tX3_toNextToken Gs y N = some ((), pv N y P2) ∧ PI x y d len T G (pv N y P2) P2 D ∧ tkc T Gs P2 c (i + bl.length) (i + bl.length + w.length) ∧ Rt T len (i + bl.length) (w ++ l) ∧ Rt T len (i + bl.length + w.length) l ∧ ∀ k, k < 3 ∨ 6 < k → P2 k = P k := by
  obtain ⟨⟨a1, a2, a3, a4⟩, ⟨b1, b2, b3, b4⟩, ⟨c1, c2⟩, g1, g2, g3⟩ := S
  obtain ⟨r1, r2, r3⟩ := Rt_a h
  obtain ⟨q1, q2, q3⟩ := Rt_a r3
  have rb : run isB T len i (i + bl.length) := Rt_run h (fun z hz => by
    rcases hb with rfl | rfl
    · cases hz
    · have : z = 32 := by simpa using hz
      exact .inl this) (tk1_b t)
  have rt := tk1_C r3 t
  obtain ⟨P2, c', p', e2, p1, p2, p3, p4, p5, p6, p7, p8, p9⟩ := c_tok (Gs := Gs) a1 a2 a3 (show y < x ∨ x + 8 ≤ y by omega) b4 a4 b1 b2 h5 (by omega)
  have ep : p' = i + bl.length := run_u p6 rb
  subst ep
  obtain ⟨ec, ee⟩ := tokC_u p7 rt
  subst ec; subst ee
  exact ⟨P2, p1, ⟨⟨a1.pv (by omega), a2, a3, a4⟩, ⟨hY_pv, p2, by rw [p9 2 (by omega)]; exact b3, b4⟩, ⟨fun i hi => by rw [pv_out (by omega)]; exact c1 i hi, c2⟩, g1, g2, g3⟩, ⟨p5, p3, p4, p8⟩, r3, q3, p9⟩
/-- is the token this word? -/
theorem isW {p q o : Nat} {w l kk : List Nat} (S : PI x y d len T G N P D) (t : tkc T Gs P 1 p (p + w.length)) (h : Rt T len p (w ++ l)) (hw : tAt N q o kk) : tX3_isWord Gs y q N = some (if w = kk then 1 else 0, N) := by
  obtain ⟨⟨a1, a2, a3, a4⟩, ⟨b1, b2, b3, b4⟩, -, -⟩ := S
  obtain ⟨t1, t3, t5, t6⟩ := t
  obtain ⟨r1, r2, r3⟩ := Rt_a h
  have g3 : gA N y 6 3 = some (Gs 100) := by rw [← b1.eq]; exact p_A t1
  have g0 : gA N y 6 0 = some (x + 1) := by rw [← b1.eq]; exact p_A b2.1
  have g4 : gI N y 6 4 = some (Int32.ofNat p) := by rw [← b1.eq, p_I, t3]
  have g5 : gI N y 6 5 = some (Int32.ofNat (p + w.length)) := by rw [← b1.eq, p_I, t5]
  obtain ⟨k1, k2⟩ := c_holds (Gs := Gs) (s := p) (e := p + w.length) a1 a2 a3 hw (by omega) (by omega)
  have key : hN T p (p + w.length) kk ↔ w = kk := by
    unfold hN
    rw [Nat.add_sub_cancel_left]
    constructor
    · rintro ⟨h1, h2⟩
      exact ext_d h1 (fun i hi => by rw [← h2 i hi, r1 i (by omega)])
    · rintro rfl
      exact ⟨rfl, r1⟩
  rw [tX3_isWord, g3, Option.bind_some, if_pos rfl, g0, Option.bind_some, g4, Option.bind_some, g5, Option.bind_some, if_pos (T_in a1)]
  by_cases h2 : w = kk
  · rw [k1 (key.mpr h2), Option.bind_some, if_neg n10, if_pos h2]
  · rw [k2 (fun g => h2 (key.mp g)), Option.bind_some, if_pos rfl, if_neg h2]
theorem PI_t (S : PI x y d len T G N P D) : (N.1 y).1 = 6 := by rw [S.2.1.1]
theorem PI_A {k v : Nat} (S : PI x y d len T G N P D) (h : P k = .ref v) : gA N y 6 k = some v := by rw [← S.2.1.1.eq]; exact p_A h
theorem PI_I {k : Nat} (S : PI x y d len T G N P D) : gI N y 6 k = some (vI (P k)) := by rw [← S.2.1.1.eq]; exact p_I
/-- a number that is in range -/
theorem isN {p e v lo hi : Nat} {z1 z2 : Int32} (S : PI x y d len T G N P D) (t : tkc T Gs P 2 p e) (hv : vI (P 6) = Int32.ofNat v) (e1 : z1 = Int32.ofNat lo) (e2 : z2 = Int32.ofNat hi) (h1 : lo ≤ v) (h2 : v ≤ hi) (h3 : hi < 1000) : tX3_isNumber Gs y z1 z2 N = some (1, N) := by
  subst e1; subst e2
  rw [tX3_isNumber, PI_A S t.1, Option.bind_some, if_pos (show Gs (tIx 2) = Gs 101 from rfl), PI_I S, Option.bind_some, hv, if_neg (fun g => by have := (n_lt (by omega) (by omega)).mp g; omega), Option.bind_some, if_pos ((n_le (by omega) (by omega)).mpr h2)]
end
