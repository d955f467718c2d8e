section
variable {M M1 N N2 : vMe} {x y d b u hz n k len s v clk : Nat} {G D E E1 E2 : Nat → Nat → Value} {P P2 : Nat → Value} {T : Nat → Nat} {Gs : Nat → Nat}
/-- a draft with j sets, still empty -/
def LPj (u hz j : Nat) (D : Nat → Nat → Value) : Prop := ∃ F, simP D F u hz j 0 ∧ ∀ l, l < 1952 → l ≠ 0 → l ≠ 1 → l ≠ 2 → gt F 1 l = 0
theorem LPj_zr {F : Nat → Nat → Value} {j : Nat} (h : ∀ l, l < 1952 → l ≠ 0 → l ≠ 1 → l ≠ 2 → gt F 1 l = 0) : zr F j := fun s _ h5 w hw => by
  show gt F 1 (aS s w) = 0
  exact h _ (by unfold aS; omega) (by unfold aS; omega) (by unfold aS; omega) (by unfold aS; omega)
theorem lp_bgn {D2 : Nat → Nat → Value} {j w : Nat} (h : LPj u hz j D) (hj : j < 5) (b : bgn D D2 j w) : LPj u hz (j + 1) D2 := by
  obtain ⟨F, h1, h2⟩ := h
  refine ⟨pu F 1 0 (.int (Int32.ofNat (j + 1))), simP_bgn h1 hj b (LPj_zr h2) (by rw [gt_eq]) (fun l hl => by rw [gt_ne (by omega)]), fun l l1 l2 l3 l4 => ?_⟩
  rw [gt_ne (by omega)]; exact h2 l l1 l2 l3 l4
theorem bz_bgn {D2 : Nat → Nat → Value} {j w : Nat} (h : bz D) (hj : j < 5) (b : bgn D D2 j w) : bz D2 := bz_mv h (fun c hc l _ => b.2.2.2.2.2.2.2.2.2 _ _ (.inl (by omega)) (.inr (by omega)))
theorem hq_sets {r : List Nat} (h : hq isB r) : ∀ i j, hq isB (setsT i j ++ r) := fun i j => by
  cases i with
  | zero => exact h
  | succ i => show ¬ isB 115; unfold isB; omega
theorem hq_scr : ∀ scr, hq isB (scrT scr) := fun scr => by
  cases scr with
  | nil => exact trivial
  | cons q qs =>
    obtain ⟨add, s, nums, mk⟩ := q
    cases add with
    | true => show ¬ isB 97; unfold isB; omega
    | false => show ¬ isB 114; unfold isB; omega
set_option maxRecDepth 20000 in
/-- the sets of the text -/
theorem psets_L {n0 s0 : Nat} {r : List Nat} (hd : tkD Gs) (hn5 : n ≤ 5) (hr : hq isB r) : ∀ (i f m p j : Nat) (N : vMe) (P : Nat → Value) (D : Nat → Nat → Value), j + i = n → i < f → m ≤ p → PI x y d len T G N P D → HT T Gs len p P (setsT i j ++ r) → LPj u hz j D → nmS y d N D j → wds y d N Gs → bz D → N.2.2.2 ≤ N.2.1 → N.2.1 + 4 * i + 1 ≤ n0 + 25 → N.2.2.1 + 25 * i + 375 ≤ s0 + 660 →
    ∃ N2 P2 D2 f2 m2 p2, tX3_readText_L69 Gs n0 s0 y f 1 (Int32.ofNat m) N = tX3_readText_L69 Gs n0 s0 y f2 1 (Int32.ofNat m2) N2 ∧ f = f2 + i ∧ m2 ≤ p2 ∧ PI x y d len T G N2 P2 D2 ∧ HT T Gs len p2 P2 r ∧ LPj u hz n D2 ∧ nmS y d N2 D2 n ∧ wds y d N2 Gs ∧ bz D2 ∧ fy y d N N2 ∧ N2.2 = (N.2.1 + 4 * i, N.2.2.1 + 25 * i, N.2.2.2) ∧ ∀ k, k < 3 ∨ 6 < k → P2 k = P k := by
  intro i
  induction i with
  | zero =>
    intro f m p j N P D hj hf hm S H L nm wd hbz hb h1 h2
    have : j = n := by omega
    subst this
    exact ⟨N, P, D, f, m, p, rfl, rfl, hm, S, H, L, nm, wd, hbz, fy.rf, rfl, fun _ _ => rfl⟩
  | succ i ih =>
    intro f m p j N P D hj hf hm S H L nm wd hbz hb h1 h2
    obtain ⟨f, rfl⟩ : ∃ g, f = g + 1 := ⟨f - 1, by omega⟩
    have hg := S.2.2.2
    have H' : HT T Gs len p P ([115, 101, 116] ++ ([32] ++ ([97 + j] ++ ([59] ++ (setsT i (j + 1) ++ r))))) := H
    have t := HT_k H' (.inl ⟨rfl, by show 1 ≤ 3 ∧ 3 ≤ 8; omega, fun z hz => by
      have : z = 115 ∨ z = 101 ∨ z = 116 := by simpa using hz
      unfold isL; omega, by show ¬ isL 32; unfold isL; omega⟩)
    have R := H'.1
    have h5 : gt D 0 5 = Int32.ofNat j := by
      obtain ⟨F, g1, -⟩ := L
      exact g1.2.1.2.2.1.trans g1.1.2.2.1.1
    obtain ⟨N2, P2, D2, q1, q2, q3, q4, q5, q6, q7, q8, q9, q10⟩ := set_P S t R (by omega) h5 nm hb
    have hp : p < len := by
      have := (Rt_a R).2.1
      have e : ([115, 101, 116] : List Nat).length = 3 := rfl
      omega
    have rs := rs_set S t R wd q1 (by omega) (by omega)
    have R5 : Rt T len (p + 5) ([59] ++ (setsT i (j + 1) ++ r)) := by
      obtain ⟨-, -, a1⟩ := Rt_a R
      obtain ⟨-, -, a2⟩ := Rt_a a1
      obtain ⟨-, -, a3⟩ := Rt_a a2
      exact a3
    obtain ⟨P3, s1, s2, s3, s4⟩ := st_L (n0 := n0) (s0 := s0) (f := f) S t hd hm hp (by omega) (by omega) rs q2 q3 R5 (hq_sets hr i (j + 1)) (by omega) (by omega)
    have eN : (pv N2 y P3).2.1 = N.2.1 + 4 := q8
    have eS : (pv N2 y P3).2.2.1 = N.2.2.1 + 25 := q9
    have eB : (pv N2 y P3).2.2.2 = N.2.2.2 := q7.2.1
    obtain ⟨N4, P4, D4, f4, m4, p4, z1, z2, z3, z4, z5, z6, z7, z8, z9, z10, z11, z12⟩ := ih f (m + 1) (p + 5 + 1) (j + 1) (pv N2 y P3) P3 D2 (by omega) (by omega) (by omega) s2 s3 (lp_bgn L (by omega) q5) (q6.mv fy_pv hg.2.1 (fun _ _ => rfl)) ((wd.mv q7 hg.2.2).mv fy_pv q2.2.2.2.2.2) (bz_bgn hbz (by omega) q5) (by omega) (by omega) (by omega)
    refine ⟨N4, P4, D4, f4, m4, p4, s1.trans z1, by omega, z3, z4, z5, z6, z7, z8, z9, (q7.tr fy_pv).tr z10, ?_, fun z hz => (z12 z hz).trans ((s4 z hz).trans (q10 z hz))⟩
    rw [z11, eN, eS, eB]
    refine Prod.ext ?_ (Prod.ext ?_ rfl)
    · show N.2.1 + 4 + 4 * i = N.2.1 + 4 * (i + 1); omega
    · show N.2.2.1 + 25 + 25 * i = N.2.2.1 + 25 * (i + 1); omega
set_option maxRecDepth 20000 in
/-- the statements of the text -/
theorem pscr_L {n0 s0 : Nat} (hd : tkD Gs) : ∀ (scr : List (Bool × Nat × List Nat × Bool)) (f m p k clk k2 : Nat) (N : vMe) (P : Nat → Value) (D E : Nat → Nat → Value), 2 * scr.length < f → m ≤ p → PI x y d len T G N P D → HT T Gs len p P (scrT scr) → (∀ q, q ∈ scr → scrO u n q) → LK b u hz n k clk E D → clk + 6 * scr.length + 6 < 2000 → k + scr.length ≤ 8 → scrR b scr E E2 k k2 → nul E → nmS y d N D n → wds y d N Gs → bz D → N.2.1 + 5 ≤ n0 + 25 → N.2.2.1 + 400 ≤ s0 + 660 →
    ∃ N2 P2 D2 clk2, tX3_readText_L69 Gs n0 s0 y f 1 (Int32.ofNat m) N = some (1, N2) ∧ PI x y d len T G N2 P2 D2 ∧ LK b u hz n k2 clk2 E2 D2 ∧ clk2 ≤ clk + 6 * scr.length ∧ nmS y d N2 D2 n ∧ bz D2 ∧ fy y d N N2 ∧ N2.2 = N.2 ∧ ∀ k, k < 3 ∨ 6 < k → P2 k = P k := by
  intro scr
  induction scr with
  | nil =>
    intro f m p k clk k2 N P D E hf hm S H ho K hc hk hR hn nm wd hbz h1 h2
    obtain ⟨f, rfl⟩ : ∃ g, f = g + 1 := ⟨f - 1, by omega⟩
    obtain ⟨e1, e2⟩ := hR
    subst e1; subst e2
    have H' : HT T Gs len p P ([] ++ []) := H
    have t := HT_k H' (.inr (.inr (.inr ⟨rfl, rfl, rfl⟩)))
    refine ⟨N, P, D, clk, ?_, S, K, by omega, nm, hbz, fy.rf, rfl, fun _ _ => rfl⟩
    rw [tX3_readText_L69, PI_I S, Option.bind_some, S.2.1.2.1.2]
    by_cases c : Int32.ofNat len ≤ Int32.ofNat m
    · rw [if_pos c]
    · rw [if_neg c, if_neg n10, PI_A S t.1, Option.bind_some, if_pos (show Gs (tIx 0) = Gs 104 from rfl)]
  | cons q qs ih =>
    intro f m p k clk k2 N P D E hf hm S H ho K hc hk hR hn nm wd hbz h1 h2
    rw [List.length_cons] at hf hc hk
    obtain ⟨f, rfl⟩ : ∃ g, f = g + 2 := ⟨f - 2, by omega⟩
    have hg := S.2.2.2
    obtain ⟨Em, k1, r1, r2, r3⟩ := hR
    obtain ⟨o1, o2, o3, o4⟩ := ho q List.mem_cons_self
    obtain ⟨add, s, nums, mk⟩ := q
    obtain ⟨Ea, r4, r5, r6⟩ := r1
    have o1 : s < n := o1
    have o2 : 1 ≤ nums.length := o2
    have o3 : nums.length ≤ 6 := o3
    have o4 : ∀ v, v ∈ nums → v < u := o4
    have r4 : numsR b s add nums E Ea := r4
    have r5 : Ea 42 = E 42 := r5
    have r6 : (mk = true ∧ Em = mkE Ea k ∧ k1 = k + 1) ∨ (mk = false ∧ Em = Ea ∧ k1 = k) := r6
    have hne : nums ≠ [] := fun e => by rw [e, List.length_nil] at o2; omega
    have hna : nul Ea := fun c hc => by rw [r5]; exact hn c hc
    -- the members
    obtain ⟨r, hr⟩ : ∃ r, r = markT mk ++ scrT qs := ⟨_, rfl⟩
    have hqr : hq isB r := by
      rw [hr]
      cases mk with
      | true => show ¬ isB 109; unfold isB; omega
      | false => exact hq_scr qs
    have key : ∃ N2 P2 D2 clk2 p2 e, tX3_readStatement Gs y N = some (1, N2) ∧ tkc T Gs P 1 p e ∧ p < len ∧ PI x y d len T G N2 P2 D2 ∧ tkc T Gs P2 3 p2 (p2 + 1) ∧ Rt T len p2 ([59] ++ r) ∧ LK b u hz n k clk2 Ea D2 ∧ clk2 ≤ clk + 6 ∧ bz D2 ∧ nmS y d N2 D2 n ∧ fy y d N N2 ∧ N2.2 = N.2 ∧ p ≤ p2 ∧ ∀ k, k < 3 ∨ 6 < k → P2 k = P k := by
      cases add with
      | true =>
        have H' : HT T Gs len p P ([97, 100, 100] ++ ([32] ++ ([97 + s] ++ (numsT nums ++ (59 :: r))))) := by
          have e : scrT ((true, s, nums, mk) :: qs) = [97, 100, 100] ++ ([32] ++ ([97 + s] ++ (numsT nums ++ (59 :: r)))) := by
            rw [scrT, hr]; simp [stmT, wordT]
          rw [← e]; exact H
        have t := HT_k H' (.inl ⟨rfl, by show 1 ≤ 3 ∧ 3 ≤ 8; omega, fun z hz => by
          have : z = 97 ∨ z = 100 := by simpa using hz
          unfold isL; omega, by show ¬ isL 32; unfold isL; omega⟩)
        obtain ⟨N2, P2, D2, clk2, p2, q1, q2, q3, q4, q5, q6, q7, q8, q9, q10, q11, q12⟩ := mems_P (come := true) S t H'.1 o1 hd hne o3 o4 K (by omega) r4 hn hbz nm
        have hp : p < len := by
          have := (Rt_a H'.1).2.1
          have e : ([97, 100, 100] : List Nat).length = 3 := rfl
          omega
        exact ⟨N2, P2, D2, clk2, p2, _, rs_add S t H'.1 wd q1 q10, t, hp, q2, q3, q4, q5, q6, q7, q8, q9, q10, q11, q12⟩
      | false =>
        have H' : HT T Gs len p P ([114, 101, 109, 111, 118, 101] ++ ([32] ++ ([97 + s] ++ (numsT nums ++ (59 :: r))))) := by
          have e : scrT ((false, s, nums, mk) :: qs) = [114, 101, 109, 111, 118, 101] ++ ([32] ++ ([97 + s] ++ (numsT nums ++ (59 :: r)))) := by
            rw [scrT, hr]; simp [stmT, wordT]
          rw [← e]; exact H
        have t := HT_k H' (.inl ⟨rfl, by show 1 ≤ 6 ∧ 6 ≤ 8; omega, fun z hz => by
          have : z = 114 ∨ z = 101 ∨ z = 109 ∨ z = 111 ∨ z = 118 := by
            simp only [List.mem_cons, List.not_mem_nil, or_false] at hz
            omega
          unfold isL; omega, by show ¬ isL 32; unfold isL; omega⟩)
        obtain ⟨N2, P2, D2, clk2, p2, q1, q2, q3, q4, q5, q6, q7, q8, q9, q10, q11, q12⟩ := mems_P (come := false) S t H'.1 o1 hd hne o3 o4 K (by omega) r4 hn hbz nm
        have hp : p < len := by
          have := (Rt_a H'.1).2.1
          have e : ([114, 101, 109, 111, 118, 101] : List Nat).length = 6 := rfl
          omega
        exact ⟨N2, P2, D2, clk2, p2, _, rs_rem S t H'.1 wd q1 q10, t, hp, q2, q3, q4, q5, q6, q7, q8, q9, q10, q11, q12⟩
    obtain ⟨N2, P2, D2, clk2, p2, e, q1, t, hp, q2, q3, q4, q5, q6, q7, q8, q9, q10, q11, q12⟩ := key
    have eN : N2.2.1 = N.2.1 := by rw [q10]
    have eS : N2.2.2.1 = N.2.2.1 := by rw [q10]
    obtain ⟨P3, s1, s2, s3, s4⟩ := st_L (n0 := n0) (s0 := s0) (f := f + 1) S t hd hm hp h1 h2 q1 q2 q3 q4 hqr (by omega) (by omega)
    have nm3 : nmS y d (pv N2 y P3) D2 n := q8.mv fy_pv hg.2.1 (fun _ _ => rfl)
    have wd3 : wds y d (pv N2 y P3) Gs := (wd.mv q9 hg.2.2).mv fy_pv q2.2.2.2.2.2
    have eN3 : (pv N2 y P3).2.1 = N.2.1 := eN
    have eS3 : (pv N2 y P3).2.2.1 = N.2.2.1 := eS
    rcases r6 with ⟨g1, g2, g3⟩ | ⟨g1, g2, g3⟩
    · subst g1; subst g2; subst g3
      have H3 : HT T Gs len (p2 + 1) P3 ([109, 97, 114, 107] ++ ([59] ++ scrT qs)) := by
        have e : r = [109, 97, 114, 107] ++ ([59] ++ scrT qs) := by rw [hr]; simp [markT]
        rw [← e]; exact s3
      have t3 := HT_k H3 (.inl ⟨rfl, by show 1 ≤ 4 ∧ 4 ≤ 8; omega, fun z hz => by
        have : z = 109 ∨ z = 97 ∨ z = 114 ∨ z = 107 := by simpa using hz
        unfold isL; omega, by show ¬ isL 59; unfold isL; omega⟩)
      obtain ⟨N4, P4, D4, z1, z2, z3, z4, z5, z6, z7, z8, z9, z10⟩ := markS_P s2 t3 H3.1 q5 (by omega) q7 nm3
      have hp3 : p2 + 1 < len := by
        have := (Rt_a H3.1).2.1
        have e : ([109, 97, 114, 107] : List Nat).length = 4 := rfl
        omega
      have eN4 : N4.2.1 = N.2.1 := by rw [z9]; exact eN
      have eS4 : N4.2.2.1 = N.2.2.1 := by rw [z9]; exact eS
      obtain ⟨P5, v1, v2, v3, v4⟩ := st_L (n0 := n0) (s0 := s0) (f := f) s2 t3 hd (show m + 1 ≤ p2 + 1 by omega) hp3 (by omega) (by omega) (rs_mark s2 t3 H3.1 wd3 z1 z9) z2 z3 z4 (hq_scr qs) (by omega) (by omega)
      obtain ⟨N6, P6, D6, clk6, y1, y2, y3, y4, y5, y6, y7, y8, y9⟩ := ih f (m + 1 + 1) (p2 + 1 + 4 + 1) (k + 1) clk2 k2 (pv N4 y P5) P5 D4 (mkE Ea k) (by omega) (by omega) v2 v3 (fun q hq => ho q (List.mem_cons_of_mem _ hq)) z5 (by omega) (by omega) r3 (fun c hc => by rw [r2]; exact hn c hc) (z7.mv fy_pv hg.2.1 (fun _ _ => rfl)) ((wd3.mv z8 s2.2.2.2.2.2).mv fy_pv z2.2.2.2.2.2) z6 (by show N4.2.1 + 5 ≤ _; omega) (by show N4.2.2.1 + 400 ≤ _; omega)
      exact ⟨N6, P6, D6, clk6, (s1.trans v1).trans y1, y2, y3, by rw [List.length_cons]; omega, y5, y6, (((q9.tr fy_pv).tr z8).tr fy_pv).tr y7, y8.trans (z9.trans q10), fun z hz => (y9 z hz).trans ((v4 z hz).trans ((z10 z hz).trans ((s4 z hz).trans (q12 z hz))))⟩
    · subst g1; subst g2; subst g3
      have e : r = scrT qs := by rw [hr]; simp [markT]
      rw [e] at s3
      obtain ⟨N6, P6, D6, clk6, y1, y2, y3, y4, y5, y6, y7, y8, y9⟩ := ih (f + 1) (m + 1) (p2 + 1) k1 clk2 k2 (pv N2 y P3) P3 D2 Em (by omega) (by omega) s2 s3 (fun q hq => ho q (List.mem_cons_of_mem _ hq)) q5 (by omega) (by omega) r3 (fun c hc => by rw [r2]; exact hn c hc) nm3 wd3 q7 (by omega) (by omega)
      exact ⟨N6, P6, D6, clk6, s1.trans y1, y2, y3, by rw [List.length_cons]; omega, y5, y6, (q9.tr fy_pv).tr y7, y8.trans q10, fun z hz => (y9 z hz).trans ((s4 z hz).trans (q12 z hz))⟩
end
