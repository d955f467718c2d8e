section
variable {M M' N : vMe} {x y r a d u hz n k : Nat} {G F C D : Nat → Nat → Value} {P : Nat → Value} {T : Nat → Nat} {len : Nat} {Gs : Nat → Nat}
theorem outc_c {p : Nat} {tc tr : Option (Int32 × vMe)} (h : outc x y d r len u hz T Gs G N M' P F n p tc tr) : (tc.bind fun z => if z.2.2.1 ≤ N.2.1 + 5 ∧ z.2.2.2.1 ≤ N.2.2.1 + 100 then if fits .boolean (.int z.1) = true then some (z.1, z.2) else none else none) = tc ∧ (tr.bind fun z => if fits .boolean (.int z.1) = true then some (z.1, z.2) else none) = tr := by
  rcases h with ⟨N2, P2, D2, F2, e1, e2, -, -, -, e6⟩ | ⟨N2, P2, D2, F2, n2, k2, c2, p2, e2', e1, e2, -, -, -, e6⟩
  · rw [e1, e2, Option.bind_some, Option.bind_some, if_pos fz0]
    refine ⟨?_, rfl⟩
    rw [if_pos (show N2.2.1 ≤ N.2.1 + 5 ∧ N2.2.2.1 ≤ N.2.2.1 + 100 from ⟨by rw [e6]; omega, by rw [e6]; omega⟩)]
  · have b : N2.2.1 ≤ N.2.1 + 5 ∧ N2.2.2.1 ≤ N.2.2.1 + 100 := by
      rcases e6 with ⟨-, e⟩ | ⟨-, e, e'⟩
      · exact ⟨by rw [e]; omega, by rw [e]; omega⟩
      · omega
    rw [e1, e2, Option.bind_some, Option.bind_some, if_pos fz1]
    refine ⟨?_, rfl⟩
    rw [if_pos b]
theorem k0' (A B : Nat) : A + 0 ≤ A + 5 ∧ B + 0 ≤ B + 100 := ⟨by omega, by omega⟩
theorem k5' (A B : Nat) : A + 5 ≤ A + 5 ∧ B + 100 ≤ B + 100 := ⟨by omega, by omega⟩
/-- a statement, on both sides -/
theorem stmt_P {c p e : Nat} {wl : Nat → List Nat} (J : pJ x y d r len u hz n k T Gs G N M' P D F c p e) (hd : tkD Gs) (hyN : y < N.2.1) (hxN : x + 8 ≤ N.2.1) (hdN : d + 50 ≤ N.2.1) (hbN : N.2.2.2 ≤ N.2.1) (ho : ∀ q, own x r G q → q < N.2.1)
    (hwc : ∀ i, i < 5 → ∃ o, tAt N (Gs (14 + i)) o (wl i)) (hwr : ∀ i, i < 5 → wS M' r (Gs (20 + i)) (wl i)) : outc x y d r len u hz T Gs G N M' P F n p (tX3_readStatement Gs y N) (tX10_statement Gs r (rv M' r F)) := by
  have S := J.1
  have t := J.2.1
  have cw : ∀ i, i < 5 → ∃ o, tAt N (Gs (14 + i)) o (wl i) ∧ ((c = 1 ∧ hN T p e (wl i) → tX3_isWord Gs y (Gs (14 + i)) N = some (1, N)) ∧ (¬ (c = 1 ∧ hN T p e (wl i)) → tX3_isWord Gs y (Gs (14 + i)) N = some (0, N))) := fun i hi => by
    obtain ⟨o, h⟩ := hwc i hi
    exact ⟨o, h, c_isWord S t hd h⟩
  have rw' : ∀ i, i < 5 → ((c = 1 ∧ hN T p e (wl i) → tX10_isWord Gs r (Gs (20 + i)) (rv M' r F) = some (1, rv M' r F)) ∧ (¬ (c = 1 ∧ hN T p e (wl i)) → tX10_isWord Gs r (Gs (20 + i)) (rv M' r F) = some (0, rv M' r F))) := fun i hi => r_isWord S t (hwr i hi)
  obtain ⟨-, -, c0, c0'⟩ := cw 0 (by omega)
  obtain ⟨-, -, c1, c1'⟩ := cw 1 (by omega)
  obtain ⟨-, -, c2, c2'⟩ := cw 2 (by omega)
  obtain ⟨-, -, c3, c3'⟩ := cw 3 (by omega)
  obtain ⟨-, -, c4, c4'⟩ := cw 4 (by omega)
  obtain ⟨r0, r0'⟩ := rw' 0 (by omega)
  obtain ⟨r1, r1'⟩ := rw' 1 (by omega)
  obtain ⟨r2, r2'⟩ := rw' 2 (by omega)
  obtain ⟨r3, r3'⟩ := rw' 3 (by omega)
  obtain ⟨r4, r4'⟩ := rw' 4 (by omega)
  have tg := p_tg S
  have z01 : ¬ (1 : Int32) = 0 := by decide
  rw [tX3_readStatement, tX10_statement, if_pos (k0' _ _), if_pos tg, if_pos r_tag]
  by_cases g0 : c = 1 ∧ hN T p e (wl 0)
  · have h := setL_P J hd (by omega) hyN hxN hdN hbN ho
    obtain ⟨h1, h2⟩ := outc_c h
    rw [show tX3_isWord Gs y (Gs 14) N = _ from c0 g0, show tX10_isWord Gs r (Gs 20) (rv M' r F) = _ from r0 g0, Option.bind_some, Option.bind_some, if_neg z01, if_neg z01, if_pos (k5' _ _), if_pos tg, if_pos r_tag, h1, h2]; exact h
  · rw [show tX3_isWord Gs y (Gs 14) N = _ from c0' g0, show tX10_isWord Gs r (Gs 20) (rv M' r F) = _ from r0' g0, Option.bind_some, Option.bind_some, if_pos rfl, if_pos rfl, if_pos (k0' _ _), if_pos tg, if_pos r_tag]
    by_cases g1 : c = 1 ∧ hN T p e (wl 1)
    · have h := members_P (b := 1) (.inr rfl) J hd (by omega)
      obtain ⟨h1, h2⟩ := outc_c h
      rw [show tX3_isWord Gs y (Gs 15) N = _ from c1 g1, show tX10_isWord Gs r (Gs 21) (rv M' r F) = _ from r1 g1, Option.bind_some, Option.bind_some, if_neg z01, if_neg z01, if_pos (k0' _ _), if_pos tg, if_pos r_tag, h1, h2]; exact h
    · rw [show tX3_isWord Gs y (Gs 15) N = _ from c1' g1, show tX10_isWord Gs r (Gs 21) (rv M' r F) = _ from r1' g1, Option.bind_some, Option.bind_some, if_pos rfl, if_pos rfl, if_pos (k0' _ _), if_pos tg, if_pos r_tag]
      by_cases g2 : c = 1 ∧ hN T p e (wl 2)
      · have h := members_P (b := 0) (.inl rfl) J hd (by omega)
        obtain ⟨h1, h2⟩ := outc_c h
        rw [show tX3_isWord Gs y (Gs 16) N = _ from c2 g2, show tX10_isWord Gs r (Gs 22) (rv M' r F) = _ from r2 g2, Option.bind_some, Option.bind_some, if_neg z01, if_neg z01, if_pos (k0' _ _), if_pos tg, if_pos r_tag, h1, h2]; exact h
      · rw [show tX3_isWord Gs y (Gs 16) N = _ from c2' g2, show tX10_isWord Gs r (Gs 22) (rv M' r F) = _ from r2' g2, Option.bind_some, Option.bind_some, if_pos rfl, if_pos rfl, if_pos (k0' _ _), if_pos tg, if_pos r_tag]
        by_cases g3 : c = 1 ∧ hN T p e (wl 3)
        · have h := clearL_P J hd (by omega)
          obtain ⟨h1, h2⟩ := outc_c h
          rw [show tX3_isWord Gs y (Gs 17) N = _ from c3 g3, show tX10_isWord Gs r (Gs 23) (rv M' r F) = _ from r3 g3, Option.bind_some, Option.bind_some, if_neg z01, if_neg z01, if_pos (k0' _ _), if_pos tg, if_pos r_tag, h1, h2]; exact h
        · rw [show tX3_isWord Gs y (Gs 17) N = _ from c3' g3, show tX10_isWord Gs r (Gs 23) (rv M' r F) = _ from r3' g3, Option.bind_some, Option.bind_some, if_pos rfl, if_pos rfl, if_pos (k0' _ _), if_pos tg, if_pos r_tag]
          by_cases g4 : c = 1 ∧ hN T p e (wl 4)
          · have h := markL_P J (by omega)
            obtain ⟨h1, h2⟩ := outc_c h
            rw [show tX3_isWord Gs y (Gs 18) N = _ from c4 g4, show tX10_isWord Gs r (Gs 24) (rv M' r F) = _ from r4 g4, Option.bind_some, Option.bind_some, if_neg z01, if_neg z01, if_pos (k0' _ _), if_pos tg, if_pos r_tag, h1, h2]; exact h
          · rw [show tX3_isWord Gs y (Gs 18) N = _ from c4' g4, show tX10_isWord Gs r (Gs 24) (rv M' r F) = _ from r4' g4, Option.bind_some, Option.bind_some, if_pos rfl, if_pos rfl, if_pos (k0' _ _), if_pos tg, if_pos r_tag]
            obtain ⟨P2, F2, w1, w2, w3, w4, w5, w6, w7, w8, w9⟩ := fail_P (j := 1) S t J.2.2.2.2.1
            rw [w1, w2, Option.bind_some, Option.bind_some, if_pos fz0]
            left
            refine ⟨pv N y P2, P2, D, F2, ?_, rfl, w3, ⟨w4.trans w5.symm, w6⟩, fr_pv (fun k hk => w7 k (by omega)) w8 (fun l hl => w9 l (by omega) (by omega)), rfl⟩
            rw [if_pos (show (pv N y P2).2.1 ≤ N.2.1 + 5 ∧ (pv N y P2).2.2.1 ≤ N.2.2.1 + 100 from ⟨Nat.le_add_right _ _, Nat.le_add_right _ _⟩)]
end
