section
variable {M M1 N N2 : vMe} {x y d b u hz n k len s v clk : Nat} {G D E E1 E2 : Nat → Nat → Value} {P P2 : Nat → Value} {T : Nat → Nat} {Gs : Nat → Nat}
set_option maxRecDepth 20000 in
theorem mems_P {come : Bool} {p : Nat} {w nums l : List Nat} (S : PI x y d len T G N P D) (t : tkc T Gs P 1 p (p + w.length)) (R : Rt T len p (w ++ ([32] ++ ([97 + s] ++ (numsT nums ++ (59 :: l)))))) (hs : s < n) (hd : tkD Gs) (hne : nums ≠ []) (h6 : nums.length ≤ 6) (hu : ∀ v, v ∈ nums → v < u) (K : LK b u hz n k clk E D) (hc : clk + 6 < 2000) (hR : numsR b s come nums E E2) (hn : nul E) (hbz : bz D) (nm : nmS y d N D n) :
    ∃ N2 P2 D2 clk2 p2, tX3_readMembers Gs y (if come = true then 1 else 0) N = some (1, N2) ∧ PI x y d len T G N2 P2 D2 ∧ tkc T Gs P2 3 p2 (p2 + 1) ∧ Rt T len p2 ([59] ++ l) ∧ LK b u hz n k clk2 E2 D2 ∧ clk2 ≤ clk + 6 ∧ bz D2 ∧ nmS y d N2 D2 n ∧ fy y d N N2 ∧ N2.2 = N.2 ∧ p ≤ p2 ∧ ∀ k, k < 3 ∨ 6 < k → P2 k = P k := by
  obtain ⟨k1, k2, k3, ku1, ku64, kn5, -⟩ := LK_h K
  have hg := S.2.2.2
  obtain ⟨-, -, R1⟩ := Rt_a R
  obtain ⟨c, r, e1, e2, e3⟩ := nt_hd nums l
  obtain ⟨P1, n1, S1, t1, R2, R3, f1⟩ := nx (c := 1) (bl := [32]) (w := [97 + s]) (l := numsT nums ++ (59 :: l)) S t.2.2.1 R1 (.inr rfl) (by rw [e1]; exact tk_let (by omega) e3)
  have nm1 : nmS y d (pv N y P1) D n := nm.mv fy_pv hg.2.1 (fun _ _ => rfl)
  have q1 := nm_C (Gs := Gs) S1 R2 kn5 k2 nm1
  rw [if_pos hs] at q1
  obtain ⟨P3, p3, n3, S3, R4, t3, le3, f3⟩ := nx_n (Gs := Gs) S1 t1.2.2.1 R3 (fun z hz => by have := hu z hz; omega)
  rw [pv_pv] at n3 S3
  have lw : ([32] : List Nat).length = 1 := rfl
  have lw2 : ([97 + s] : List Nat).length = 1 := rfl
  obtain ⟨N4, P4, D4, clk4, p4, m1, m2, m3, m4, m5, m6, m7, m8, m9, m10, m11, m12⟩ := mem_L (come := come) (b := b) (k := k) (hz := hz) (E2 := E2) hs hd nums vF 0 p3 (pv N y P3) P3 D E clk (by unfold vF; omega) (fun _ => hne) (Nat.zero_le _) hu S3 R4 t3 K (by omega) hR hn hbz
  refine ⟨N4, P4, D4, clk4, p4, ?_, m2, m3, m4, m5, by omega, m7, nm.mv (fy_pv.tr m9) hg.2.1 (fun s hs => m8 s (by omega)), fy_pv.tr m9, m10, by omega, fun z hz => (m12 z hz).trans ((f3 z hz).trans (f1 z hz))⟩
  have a5 : gA (pv N y P1) y 6 3 = some (Gs 100) := PI_A S1 t1.1
  have a3 : gA (pv N y P1) y 6 2 = some d := PI_A S1 S1.2.1.2.2.1
  have a4 : gA (pv N y P1) y 6 0 = some (x + 1) := PI_A S1 S1.2.1.2.1.1
  have er : tX3_readEarlierSet Gs y (pv N y P1) = some (Int32.ofNat s, pv N y P1) := by
    rw [tX3_readEarlierSet, a5, Option.bind_some, if_pos rfl, a3, Option.bind_some, a4, Option.bind_some, PI_I S1, Option.bind_some, PI_I S1, Option.bind_some, t1.2.1, t1.2.2.1, if_pos (PI_tB S1), show tX5_setNamed Gs d (x + 1) (Int32.ofNat (p + w.length + [32].length)) (Int32.ofNat (p + w.length + [32].length + [97 + s].length)) (pv N y P1) = _ from q1, Option.bind_some]
    dsimp only
    rw [if_neg (ne_m1 (by omega))]
  rw [tX3_readMembers, if_pos (PI_t S), n1, Option.bind_some, if_pos (PI_t S1), er, Option.bind_some]
  dsimp only
  rw [if_neg (ne_m1 (by omega)), if_pos (PI_t S1), n3, Option.bind_some, show tX3_readMembers_L22 Gs y (if come = true then 1 else 0) (Int32.ofNat s) vF 0 (pv N y P3) = _ from m1, Option.bind_some]
  rfl
/-- a mark -/
theorem markS_P {p : Nat} {l : List Nat} (S : PI x y d len T G N P D) (t : tkc T Gs P 1 p (p + 4)) (R : Rt T len p ([109, 97, 114, 107] ++ ([59] ++ l))) (K : LK b u hz n k clk E D) (hk : k < 8) (hbz : bz D) (nm : nmS y d N D n) :
    ∃ N2 P2 D2, tX3_readMark Gs y N = some (1, N2) ∧ PI x y d len T G N2 P2 D2 ∧ tkc T Gs P2 3 (p + 4) (p + 5) ∧ Rt T len (p + 4) ([59] ++ l) ∧ LK b u hz n (k + 1) clk (mkE E k) D2 ∧ bz D2 ∧ nmS y d N2 D2 n ∧ fy y d N N2 ∧ N2.2 = N.2 ∧ ∀ k, k < 3 ∨ 6 < k → P2 k = P k := by
  obtain ⟨k1, k2, k3, ku1, ku64, kn5, -⟩ := LK_h K
  have hg := S.2.2.2
  have cN := S.2.2.1.1.eq
  obtain ⟨-, -, R1⟩ := Rt_a R
  obtain ⟨C2, c1, c2, c3, c4, c5⟩ := lk_mark K hk S.2.2.1.2
  rw [cN] at c1
  have S2 := PI_cv S c2
  obtain ⟨P3, n3, S3, t3, R2, R3, f3⟩ := nx (Gs := Gs) (c := 3) (bl := []) (w := [59]) (l := l) S2 t.2.2.1 R1 (.inl rfl) (.inr (.inr (.inl ⟨rfl, rfl⟩)))
  refine ⟨pv (cv N d C2) y P3, P3, C2, ?_, S3, t3, R2, c4, bz_mv hbz c5, nm.mv (fy_cv.tr fy_pv) hg.2.1 (fun s hs => c3 s (by omega)), fy_cv.tr fy_pv, rfl, f3⟩
  have a2 : gA N y 6 2 = some d := PI_A S S.2.1.2.2.1
  rw [tX3_readMark, a2, Option.bind_some, PI_D S, Option.bind_some, k3, if_pos (show Int32.ofNat k < 8 from (n_lt (b := 8) (by omega) (by omega)).mpr hk), Option.bind_some, if_pos (PI_tB S), c1, Option.bind_some, if_pos (PI_t S2), n3, Option.bind_some]
/-- the words of the class -/
def wds (y d : Nat) (N : vMe) (Gs : Nat → Nat) : Prop := wq y d N (Gs 14) [115, 101, 116] ∧ wq y d N (Gs 15) [97, 100, 100] ∧ wq y d N (Gs 16) [114, 101, 109, 111, 118, 101] ∧ wq y d N (Gs 17) [99, 108, 101, 97, 114] ∧ wq y d N (Gs 18) [109, 97, 114, 107]
theorem wds.mv (h : wds y d N Gs) (g : fy y d N N2) (hy : y < N.2.1) : wds y d N2 Gs := ⟨h.1.mv g hy, h.2.1.mv g hy, h.2.2.1.mv g hy, h.2.2.2.1.mv g hy, h.2.2.2.2.mv g hy⟩
theorem wW {p q : Nat} {w l kk : List Nat} (S : PI x y d len T G N P D) (t : tkc T Gs P 1 p (p + w.length)) (R : Rt T len p (w ++ l)) (h : wq y d N q kk) : tX3_isWord Gs y q N = some (if w = kk then 1 else 0, N) := by
  obtain ⟨o, h1, -⟩ := h
  exact isW S t R h1
theorem rs_set {p : Nat} {l : List Nat} (S : PI x y d len T G N P D) (t : tkc T Gs P 1 p (p + 3)) (R : Rt T len p ([115, 101, 116] ++ l)) (wd : wds y d N Gs) (h : tX3_readSet Gs y N = some (1, N2)) (h1 : N2.2.1 ≤ N.2.1 + 5) (h2 : N2.2.2.1 ≤ N.2.2.1 + 400) : tX3_readStatement Gs y N = some (1, N2) := by
  have w1 := wW (w := [115, 101, 116]) S t R wd.1
  rw [if_pos rfl] at w1
  rw [tX3_readStatement, if_pos ⟨by omega, by omega⟩, if_pos (PI_t S), w1, Option.bind_some]
  dsimp only
  rw [if_neg n10, if_pos ⟨by omega, by omega⟩, if_pos (PI_t S), h, Option.bind_some]
  dsimp only
  rw [if_pos ⟨h1, h2⟩]
  rfl
theorem rs_add {p : Nat} {l : List Nat} (S : PI x y d len T G N P D) (t : tkc T Gs P 1 p (p + 3)) (R : Rt T len p ([97, 100, 100] ++ l)) (wd : wds y d N Gs) (h : tX3_readMembers Gs y 1 N = some (1, N2)) (h1 : N2.2 = N.2) : tX3_readStatement Gs y N = some (1, N2) := by
  have w1 := wW (w := [97, 100, 100]) S t R wd.1
  rw [if_neg (by decide)] at w1
  have w2 := wW (w := [97, 100, 100]) S t R wd.2.1
  rw [if_pos rfl] at w2
  rw [tX3_readStatement, if_pos ⟨by omega, by omega⟩, if_pos (PI_t S), w1, Option.bind_some]
  dsimp only
  rw [if_pos rfl, if_pos ⟨by omega, by omega⟩, if_pos (PI_t S), w2, Option.bind_some]
  dsimp only
  rw [if_neg n10, if_pos ⟨by omega, by omega⟩, if_pos (PI_t S), h, Option.bind_some]
  dsimp only
  rw [if_pos ⟨by rw [h1]; omega, by rw [h1]; omega⟩]
  rfl
theorem rs_rem {p : Nat} {l : List Nat} (S : PI x y d len T G N P D) (t : tkc T Gs P 1 p (p + 6)) (R : Rt T len p ([114, 101, 109, 111, 118, 101] ++ l)) (wd : wds y d N Gs) (h : tX3_readMembers Gs y 0 N = some (1, N2)) (h1 : N2.2 = N.2) : tX3_readStatement Gs y N = some (1, N2) := by
  have w1 := wW (w := [114, 101, 109, 111, 118, 101]) S t R wd.1
  rw [if_neg (by decide)] at w1
  have w2 := wW (w := [114, 101, 109, 111, 118, 101]) S t R wd.2.1
  rw [if_neg (by decide)] at w2
  have w3 := wW (w := [114, 101, 109, 111, 118, 101]) S t R wd.2.2.1
  rw [if_pos rfl] at w3
  rw [tX3_readStatement, if_pos ⟨by omega, by omega⟩, if_pos (PI_t S), w1, Option.bind_some]
  dsimp only
  rw [if_pos rfl, if_pos ⟨by omega, by omega⟩, if_pos (PI_t S), w2, Option.bind_some]
  dsimp only
  rw [if_pos rfl, if_pos ⟨by omega, by omega⟩, if_pos (PI_t S), w3, Option.bind_some]
  dsimp only
  rw [if_neg n10, if_pos ⟨by omega, by omega⟩, if_pos (PI_t S), h, Option.bind_some]
  dsimp only
  rw [if_pos ⟨by rw [h1]; omega, by rw [h1]; omega⟩]
  rfl
theorem rs_mark {p : Nat} {l : List Nat} (S : PI x y d len T G N P D) (t : tkc T Gs P 1 p (p + 4)) (R : Rt T len p ([109, 97, 114, 107] ++ l)) (wd : wds y d N Gs) (h : tX3_readMark Gs y N = some (1, N2)) (h1 : N2.2 = N.2) : tX3_readStatement Gs y N = some (1, N2) := by
  have w1 := wW (w := [109, 97, 114, 107]) S t R wd.1
  rw [if_neg (by decide)] at w1
  have w2 := wW (w := [109, 97, 114, 107]) S t R wd.2.1
  rw [if_neg (by decide)] at w2
  have w3 := wW (w := [109, 97, 114, 107]) S t R wd.2.2.1
  rw [if_neg (by decide)] at w3
  have w4 := wW (w := [109, 97, 114, 107]) S t R wd.2.2.2.1
  rw [if_neg (by decide)] at w4
  have w5 := wW (w := [109, 97, 114, 107]) S t R wd.2.2.2.2
  rw [if_pos rfl] at w5
  rw [tX3_readStatement, if_pos ⟨by omega, by omega⟩, if_pos (PI_t S), w1, Option.bind_some]
  dsimp only
  rw [if_pos rfl, if_pos ⟨by omega, by omega⟩, if_pos (PI_t S), w2, Option.bind_some]
  dsimp only
  rw [if_pos rfl, if_pos ⟨by omega, by omega⟩, if_pos (PI_t S), w3, Option.bind_some]
  dsimp only
  rw [if_pos rfl, if_pos ⟨by omega, by omega⟩, if_pos (PI_t S), w4, Option.bind_some]
  dsimp only
  rw [if_pos rfl, if_pos ⟨by omega, by omega⟩, if_pos (PI_t S), w5, Option.bind_some]
  dsimp only
  rw [if_neg n10, if_pos ⟨by omega, by omega⟩, if_pos (PI_t S), h, Option.bind_some]
  dsimp only
  rw [if_pos ⟨by rw [h1]; omega, by rw [h1]; omega⟩]
  rfl
/-- the text stands at p, where r begins -/
def HT (T : Nat → Nat) (Gs : Nat → Nat) (len p : Nat) (P : Nat → Value) (r : List Nat) : Prop := Rt T len p r ∧ ∃ c e, tkc T Gs P c p e ∧ tokC T len p c e
theorem HT_k {p c : Nat} {w l : List Nat} (h : HT T Gs len p P (w ++ l)) (t : tk1 c w l) : tkc T Gs P c p (p + w.length) := by
  obtain ⟨R, c', e, h1, h2⟩ := h
  obtain ⟨e1, e2⟩ := tokC_u h2 (tk1_C R t)
  subst e1; subst e2
  exact h1
theorem semi_P {p : Nat} {r : List Nat} (S : PI x y d len T G N P D) (t : tkc T Gs P 3 p (p + 1)) (R : Rt T len p ([59] ++ r)) (hr : hq isB r) : ∃ P3, tX3_passSemicolon Gs y N = some (1, pv N y P3) ∧ PI x y d len T G (pv N y P3) P3 D ∧ HT T Gs len (p + 1) P3 r ∧ ∀ k, k < 3 ∨ 6 < k → P3 k = P k := by
  obtain ⟨-, q2, R1⟩ := Rt_a R
  have R1' : Rt T len (p + 1) r := R1
  have q2' : p + 1 ≤ len := q2
  have h5 := t.2.2.1
  have rs := PI_A S t.1
  have tg := PI_t S
  obtain ⟨⟨a1, a2, a3, a4⟩, ⟨b1, b2, b3, b4⟩, ⟨c1, c2⟩, g1, g2, g3⟩ := S
  obtain ⟨P2, c', p', e2, p1, p2, p3, p4, p5, p6, p7, p8, p9⟩ := c_tok (Gs := Gs) a1 a2 a3 (show y < x ∨ x + 8 ≤ y by omega) b4 a4 b1 b2 h5 q2'
  have rb : run isB T len (p + 1) (p + 1) := ⟨Nat.le_refl _, q2', fun i i1 i2 => by omega, fun c => by
    cases r with
    | nil => have := R1'.1; rw [List.length_nil] at this; omega
    | cons z r => rw [(Rt_c R1').1]; exact hr⟩
  have ep : p' = p + 1 := run_u p6 rb
  subst ep
  refine ⟨P2, ?_, ⟨⟨a1.pv (by omega), a2, a3, a4⟩, ⟨hY_pv, p2, by rw [p9 2 (by omega)]; exact b3, b4⟩, ⟨fun i hi => by rw [pv_out (by omega)]; exact c1 i hi, c2⟩, g1, g2, g3⟩, ⟨R1', c', e2, ⟨p5, p3, p4, p8⟩, p7⟩, p9⟩
  rw [tX3_passSemicolon, rs, Option.bind_some, if_pos (show Gs (tIx 3) = Gs 102 from rfl), if_pos tg, p1, Option.bind_some]
/-- one round of the parse's loop -/
theorem st_L {n0 s0 f m p e p2 : Nat} {D2 : Nat → Nat → Value} {r : List Nat} (S : PI x y d len T G N P D) (t : tkc T Gs P 1 p e) (hd : tkD Gs) (hm : m ≤ p) (hp : p < len) (h1 : N.2.1 + 5 ≤ n0 + 25) (h2 : N.2.2.1 + 400 ≤ s0 + 660) (h : tX3_readStatement Gs y N = some (1, N2)) (S2 : PI x y d len T G N2 P2 D2) (t2 : tkc T Gs P2 3 p2 (p2 + 1)) (R : Rt T len p2 ([59] ++ r)) (hr : hq isB r) (h3 : N2.2.1 ≤ n0 + 25) (h4 : N2.2.2.1 ≤ s0 + 660) :
    ∃ P3, tX3_readText_L69 Gs n0 s0 y (f + 1) 1 (Int32.ofNat m) N = tX3_readText_L69 Gs n0 s0 y f 1 (Int32.ofNat (m + 1)) (pv N2 y P3) ∧ PI x y d len T G (pv N2 y P3) P3 D2 ∧ HT T Gs len (p2 + 1) P3 r ∧ ∀ k, k < 3 ∨ 6 < k → P3 k = P2 k := by
  obtain ⟨P3, q1, q2, q3, q4⟩ := semi_P S2 t2 R hr
  refine ⟨P3, ?_, q2, q3, q4⟩
  have l6 := S.1.2.2.2
  have hne : ¬ Gs (tIx 1) = Gs 104 := fun g => absurd ((tIx_eq hd (c := 1) (j := 0) (by omega) (by omega)).mp g) (by omega)
  rw [tX3_readText_L69, PI_I S, Option.bind_some, S.2.1.2.1.2, if_neg (fun g => by have := (n_le (by omega) (by omega)).mp g; omega), if_neg n10, PI_A S t.1, Option.bind_some, if_neg hne, if_pos ⟨h1, h2⟩, if_pos (PI_t S), h, Option.bind_some]
  dsimp only
  rw [if_neg n10, if_pos ⟨by omega, by omega⟩, if_pos (PI_t S2), q1, Option.bind_some]
  dsimp only
  rw [if_neg n10, tX3_readText_J110_69, n_succ]
end
