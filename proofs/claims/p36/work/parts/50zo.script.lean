section
variable {KK : Nat → vOb} {M N : vMe} {x r b y u hz n k clk lo s v A p cap n0 s0 : Nat} {E : Nat → Nat → Value} {Gs : Nat → Nat} {l : List Nat}
def scrT : List (Bool × Nat × List Nat × Bool) → List Nat
  | [] => []
  | q :: qs => stmT q.1 q.2.1 q.2.2.1 q.2.2.2 ++ scrT qs
def scrR (b : Nat) : List (Bool × Nat × List Nat × Bool) → (Nat → Nat → Value) → (Nat → Nat → Value) → Nat → Nat → Prop
  | [], E, E2, k, k2 => E2 = E ∧ k2 = k
  | q :: qs, E, E2, k, k2 => ∃ E1 k1, stmR b q.1 q.2.1 q.2.2.1 q.2.2.2 E E1 k k1 ∧ E1 42 = E 42 ∧ scrR b qs E1 E2 k1 k2
def scrO (u n : Nat) (q : Bool × Nat × List Nat × Bool) : Prop := q.2.1 < n ∧ 1 ≤ q.2.2.1.length ∧ q.2.2.1.length ≤ 6 ∧ ∀ v, v ∈ q.2.2.1 → v < u
set_option maxRecDepth 20000 in
/-- the statements of the text -/
theorem script_L (hn1 : 1 ≤ n) (hn5 : n ≤ 5) : ∀ (c f : Nat) (N : vMe) (l : List Nat) (p cap : Nat) (E : Nat → Nat → Value) (clk k : Nat), c < f → CW KK (cut N lo) x r b y E → lo ≤ N.2.1 → GH b u hz n k clk E → clk + 6 * c + 6 < 2000 → k + c ≤ 8 → sbC N A p lo cap l → capI cap → l.length + 32 * c ≤ 200 → dgs N Gs lo → ((Gs 201 ≠ y ∧ ¬ eA b E (Gs 201)) ∧ Gs 202 ≠ y ∧ ¬ eA b E (Gs 202)) → sOk N b lo y E (Gs 22) [97, 100, 100, 32] → sOk N b lo y E (Gs 23) [114, 101, 109, 111, 118, 101, 32] → sOk N b lo y E (Gs 24) [109, 97, 114, 107, 59] → N.2.1 + 22 * c ≤ n0 + 4000 → N.2.2.1 + 4036 * c ≤ s0 + 200000 →
    ∃ N2 p2 cap2 E2 clk2 k2 scr, tL_plays_L168 Gs n0 s0 x y b A f (Int32.ofNat c) N = some ((), N2) ∧ (∀ q, q ∈ scr → scrO u n q) ∧ sbC N2 A p2 lo cap2 (l ++ scrT scr) ∧ CW KK (cut N2 lo) x r b y E2 ∧ GH b u hz n k2 clk2 E2 ∧ clk2 ≤ clk + 6 * c ∧ scrR b scr E E2 k k2 ∧ E2 42 = E 42 ∧ kp N N2 b lo y E ∧ lo ≤ N2.2.1 ∧ N2.2.1 ≤ N.2.1 + 22 * c ∧ N2.2.2.1 ≤ N.2.2.1 + 4036 * c ∧ N2.2.2.2 = N.2.2.2 ∧ (scrT scr).length ≤ 32 * c ∧ scr.length = c := by
  intro c
  induction c with
  | zero =>
    intro f N l p cap E clk k hf w hl g hc hk sb hcap hlen dg hd so2 so3 so4 h1 h2
    obtain ⟨f, rfl⟩ : ∃ g, f = g + 1 := ⟨f - 1, by omega⟩
    exact ⟨N, p, cap, E, clk, k, [], by rw [tL_plays_L168, if_pos (by decide)], (fun q hq => by cases hq), by rw [scrT, List.append_nil]; exact sb, w, g, by omega, ⟨rfl, rfl⟩, rfl, fun _ _ _ _ => rfl, hl, by omega, by omega, rfl, Nat.zero_le _, rfl⟩
  | succ c ih =>
    intro f N l p cap E clk k hf w hl g hc hk sb hcap hlen dg hd so2 so3 so4 h1 h2
    obtain ⟨f, rfl⟩ : ∃ g, f = g + 1 := ⟨f - 1, by omega⟩
    obtain ⟨he, ho, hA, hy, hb, hny⟩ := CW_h w
    obtain ⟨e0, -⟩ := GH_h g
    obtain ⟨s, N1, hs, d1, d2, d3, w1⟩ := draw_C w hn1 (by omega)
    obtain ⟨q, N2, hq, r1, r2, r3, w2⟩ := draw_C w1 (show 1 ≤ 3 by omega) (by omega)
    have e2 : N2.2 = N.2 := r2.trans d2
    have z1 : N2.2.1 = N.2.1 := by rw [e2]
    have z2 : N2.2.2.1 = N.2.2.1 := by rw [e2]
    have z3 : N2.2.2.2 = N.2.2.2 := by rw [e2]
    have k2 : kp N N2 b lo y E := fun z _ h2 _ => (r3 z h2).trans (d3 z h2)
    have sbA : lo ≤ A ∧ lo ≤ p := by
      obtain ⟨S, B, i1, i2, i3, i4, i5, i6, ⟨i8, i9, i10, i11, i12, i13⟩, i14⟩ := sb
      exact ⟨i8, i9⟩
    have sb2 : sbC N2 A p lo cap l := sbC_mv sb ((r3 A (by omega)).trans (d3 A (by omega))) ((r3 p (by omega)).trans (d3 p (by omega))) (by omega) z3
    obtain ⟨add, hadd⟩ : ∃ add : Bool, add = !decide (Int32.ofNat q ≤ 0) := ⟨_, rfl⟩
    have so : sOk N2 b lo y E (if add = true then Gs 22 else Gs 23) (wordT add) := by
      cases add with
      | true => exact so2.mv k2 rfl
      | false => exact so3.mv k2 rfl
    obtain ⟨N3, p3, cap3, E3, clk3, k3, nums, mk, m1, m2, m3, m4, m5, m6, m7, m8, m9, m10, m11, m12, m13, m14, m15, m16⟩ := stm_P (x4 := Int32.ofNat (c + 1)) (add := add) (n0 := n0) (s0 := s0) hs hn5 w2 (by omega) g (by omega) (by omega) sb2 hcap (by omega) (dgs_mv dg hd k2) hd so (so4.mv k2 rfl) (by omega) (by omega)
    have k4 : kp N N3 b lo y E := fun z h1 h2 h3 => (m11 z h1 h2 h3).trans (k2 z h1 h2 h3)
    have eA3 : ∀ z, eA b E3 z ↔ eA b E z := eA_eq m10
    have ll : (l ++ stmT add s nums mk).length ≤ l.length + 32 := by rw [List.length_append]; omega
    obtain ⟨N4, p4, cap4, E4, clk4, k5, scr, t1, t2, t3, t4, t5, t6, t7, t8, t9, t10, t11, t12, t13, t14, t15⟩ := ih f N3 (l ++ stmT add s nums mk) p3 cap3 E3 clk3 k3 (by omega) m5 (by omega) m6 (by omega) (by omega) m3 m4 (by omega) (dgs_mv dg hd k4) (by simp only [eA3]; exact hd) (so2.mv k4 m10) (so3.mv k4 m10) (so4.mv k4 m10) (by omega) (by omega)
    refine ⟨N4, p4, cap4, E4, clk4, k5, (add, s, nums, mk) :: scr, ?_, fun z hz => ?_, ?_, t4, t5, by omega, ⟨E3, k3, m8, m10, t7⟩, t8.trans m10, fun z h1 h2 h3 => (t9 z h1 h2 (fun q => h3 ((eA3 z).mp q))).trans (k4 z h1 h2 h3), t10, by omega, by omega, by omega, ?_, by rw [List.length_cons, t15]⟩
    · have md : Int32.ofNat (c + 1) + (-1) = Int32.ofNat c := by rw [← Int32.sub_eq_add_neg, n_pred (by omega), Nat.add_sub_cancel]
      have fin : tL_plays_J211_168 Gs (tL_plays_L168 Gs n0 s0 x y b A f) n0 s0 x y b A (Int32.ofNat (c + 1)) (Int32.ofNat s) (if add = true then 1 else 0) A (if add = true then Gs 22 else Gs 23) N2 = some ((), N4) := by
        rw [m1, md]; exact t1
      rw [tL_plays_L168, if_neg (show ¬ Int32.ofNat (c + 1) ≤ 0 from fun g => by have := (n_le (b := 0) (by omega) (by omega)).mp g; omega), he.I0 ho, Option.bind_some, e0, if_pos ⟨by omega, by omega⟩, d1, Option.bind_some]
      dsimp only
      rw [if_pos (by rw [d2]; exact ⟨by omega, by omega⟩), show tL_draw y 3 N1 = tL_draw y (Int32.ofNat 3) N1 from rfl, r1, Option.bind_some]
      by_cases qq : Int32.ofNat q ≤ 0
      · have ea : add = false := by rw [hadd]; simp [qq]
        rw [if_pos qq, tL_plays_J196_168, if_pos rfl]
        rw [ea] at fin
        exact fin
      · have ea : add = true := by rw [hadd]; simp [qq]
        rw [if_neg qq, tL_plays_J196_168, if_neg n10]
        rw [ea] at fin
        exact fin
    · rcases List.mem_cons.mp hz with e | e
      · rw [e]; exact ⟨hs, m2.1, m2.2.1, m2.2.2⟩
      · exact t2 z e
    · rw [scrT, ← List.append_assoc]
      exact t3
    · rw [scrT, List.length_append]
      show (stmT add s nums mk).length + (scrT scr).length ≤ _
      omega
end
