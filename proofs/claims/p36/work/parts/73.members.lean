section
variable {M M1 N N2 : vMe} {x y d b u hz n k len s v clk : Nat} {G D E E1 E2 : Nat → Nat → Value} {P : Nat → Value} {T : Nat → Nat} {Gs : Nat → Nat}
/-! the draft and the law's sets, step by step -/
def sm (E1 E : Nat → Nat → Value) : Prop := ∀ i, i < 44 → E1 i = E i
def nul (E : Nat → Nat → Value) : Prop := ∀ c, c < 6 → E 42 c = .null
theorem nul_sm (h : sm E1 E) (g : nul E) : nul E1 := fun c hc => by rw [h 42 (by omega)]; exact g c hc
theorem eC_nul {q : Nat} (h : nul E) : eC E q = none := eC_no (b := 0) (fun c hc g => by rw [h c hc] at g; cases g) (fun c hc => .inl (h c hc))
theorem ew_sm (h : sm E1 E) (g : nul E) : ew M b E1 = ew M b E := by
  refine Prod.ext (funext fun q => ?_) rfl
  show (if b ≤ q ∧ q < b + 44 then _ else _ : vOb) = (if b ≤ q ∧ q < b + 44 then _ else _)
  by_cases c : b ≤ q ∧ q < b + 44
  · rw [if_pos c, if_pos c, h (q - b) (by omega)]
  · rw [if_neg c, if_neg c, eC_nul g, eC_nul (nul_sm h g)]
theorem sm_ew (h : ew M b E1 = ew M1 b E) : sm E1 E := fun i hi => by
  have e : (ew M b E1).1 (b + i) = (ew M1 b E).1 (b + i) := by rw [h]
  rw [ew_at hi, ew_at hi] at e
  exact congrArg (fun o : vOb => o.2.2) e
theorem eOk_sm (h : sm E1 E) (g : eOk M b E) : eOk M b E1 := by
  obtain ⟨g1, ⟨g2, g3, g4⟩, g5, g6, g7, g8⟩ := g
  refine ⟨g1, ⟨by rw [h 0 (by omega)]; exact g2, by rw [h 0 (by omega)]; exact g3, by rw [h 0 (by omega)]; exact g4⟩, fun s hs => by rw [h 1 (by omega)]; exact g5 s hs, fun s hs j hj => by rw [h _ (by omega)]; exact g6 s hs j hj, fun c hc => by rw [h 42 (by omega)]; exact g7 c hc, fun c c' q => by rw [h 42 (by omega)]; exact g8 c c' q⟩
/-- the draft holds what the law's sets hold -/
def LK (b u hz n k clk : Nat) (E D : Nat → Nat → Value) : Prop := ∃ E1 F, sm E1 E ∧ simP D F u hz n k ∧ F 1 = eR E1 ∧ okE b E1 F n clk
theorem LK_h (h : LK b u hz n k clk E D) : gt D 0 3 = Int32.ofNat u ∧ gt D 0 5 = Int32.ofNat n ∧ gt D 0 6 = Int32.ofNat k ∧ 1 ≤ u ∧ u ≤ 64 ∧ n ≤ 5 ∧ k ≤ 8 := by
  obtain ⟨E1, F, h1, h2, h3, h4⟩ := h
  exact ⟨h2.2.1.1.trans h2.1.1.1, h2.2.1.2.2.1.trans h2.1.2.2.1.1, h2.2.1.2.2.2.1.trans h2.1.2.2.2.1, h2.1.1.2.1, h2.1.1.2.2, h2.1.2.2.1.2, h2.1.2.2.2.2⟩
theorem lk_add (h : LK b u hz n k clk E D) (t : TrA b s v E E2) (hn : nul E) (hclk : clk < 1999) (hs : s < n) (hv : v < u) (hC : cOk N d D) : ∃ C2 clk2 z, tX5_bringIn d (d + (4 + 8 * s)) (Int32.ofNat v) (cv N d D) = some (z, cv N d C2) ∧ cOk N d C2 ∧ kN D C2 ∧ LK b u hz n k clk2 E2 C2 ∧ clk2 ≤ clk + 1 ∧ ∀ c, c < 6 → ∀ l, l < 3 → C2 (44 + c) l = D (44 + c) l := by
  obtain ⟨E1, F, h1, h2, h3, h4⟩ := h
  obtain ⟨M', t1, t2⟩ := t
  obtain ⟨C2, E3, clk2, z, c1, c2, c3, c4, c5, c6, c7, c8, c9, c10, c11, -⟩ := add_P (a := d) (M := N) (M' := M') h2 h3 h4 hclk hs hv hC (eOk_sm h1 t1)
  rw [ew_sm h1 hn, t2] at c2
  have e : ew M' b E2 = ew M' b E3 := congrArg Prod.snd (Option.some.inj c2)
  exact ⟨C2, clk2, z, c1, c3, c5, ⟨E3, _, fun i hi => (sm_ew e i hi).symm, c6, gRow_1, c7⟩, c9, fun c hc l _ => by rw [c11 c hc]⟩
theorem lk_rem (h : LK b u hz n k clk E D) (t : TrR b s v E E2) (hn : nul E) (hclk : clk < 1999) (hs : s < n) (hv : v < u) (hC : cOk N d D) : ∃ C2 clk2 z, tX5_takeOut d (Int32.ofNat s) (Int32.ofNat v) (cv N d D) = some (z, cv N d C2) ∧ cOk N d C2 ∧ kN D C2 ∧ LK b u hz n k clk2 E2 C2 ∧ clk2 ≤ clk + 1 ∧ ∀ c, c < 6 → ∀ l, l < 3 → C2 (44 + c) l = D (44 + c) l := by
  obtain ⟨E1, F, h1, h2, h3, h4⟩ := h
  obtain ⟨M', M2, w, t1, t3, t4, t5, t2⟩ := t
  obtain ⟨C2, E3, M3, clk2, z, c1, c2, c3, c4, c5, c6, c7, c8, c9, c10, c11, c12, -⟩ := remove_P (a := d) (M := N) (M' := M') h2 h3 h4 hclk hs hv hC (eOk_sm h1 t1) (fun q hq => t3 q ((eA_eq (h1 42 (by omega)) q).mp hq)) t4
  rw [ew_sm h1 hn, t2] at c2
  have e : ew M2 b E2 = ew M3 b E3 := congrArg Prod.snd (Option.some.inj c2)
  exact ⟨C2, clk2, z, c1, c4, c6, ⟨E3, _, fun i hi => (sm_ew e i hi).symm, c7, gRow_1, c8⟩, c10, fun c hc l hl => c12 c hc l (by omega)⟩
theorem lk_mark (h : LK b u hz n k clk E D) (hk : k < 8) (hC : cOk N d D) : ∃ C2, tX5_makeMark d (cv N d D) = some ((), cv N d C2) ∧ cOk N d C2 ∧ kN D C2 ∧ LK b u hz n (k + 1) clk (mkE E k) C2 ∧ ∀ c, c < 6 → ∀ l, l < 3 → C2 (44 + c) l = D (44 + c) l := by
  obtain ⟨E1, F, h1, h2, h3, h4⟩ := h
  obtain ⟨C2, c1, c2, c3, c4, c5, c6, c7⟩ := mark_E (M := N) (a := d) (b := b) h2 h3 h4 hk hC
  refine ⟨C2, c1, c2, c3, ⟨mkE E1 k, _, fun i hi => ?_, c6, gRow_1, c7⟩, fun c hc l _ => by rw [c5 c hc]⟩
  have e0 : gt E1 0 3 = gt E 0 3 := by unfold gt; rw [h1 0 (by omega)]
  unfold mkE
  rw [e0]
  by_cases i0 : i = 0
  · subst i0
    funext j
    by_cases j5 : j = 5
    · subst j5; rw [pu_eq, pu_eq]
    · rw [pu_ne (by omega), pu_ne (by omega), pu_ne (by omega), pu_ne (by omega), h1 0 (by omega)]
  · have o : ∀ (X : Nat → Nat → Value) w, pu X 0 5 w i = X i := fun X w => pu_o i0
    rw [o, o]
    by_cases i3 : i = 43
    · subst i3
      funext j
      by_cases jk : j = k
      · subst jk; rw [pu_eq, pu_eq]
      · rw [pu_ne (by omega), pu_ne (by omega), h1 43 (by omega)]
    · have o2 : ∀ (X : Nat → Nat → Value) w, pu X 43 k w i = X i := fun X w => pu_o i3
      rw [o2, o2, h1 i hi]
theorem bz_mv {C2 : Nat → Nat → Value} (h : bz D) (g : ∀ c, c < 6 → ∀ l, l < 3 → C2 (44 + c) l = D (44 + c) l) : bz C2 := fun c hc l hl => by
  have := h c hc l hl
  unfold gt at this ⊢
  rw [g c hc l hl]; exact this
/-! the numbers of the text -/
theorem dv_congr {B B' : Nat → Nat} : ∀ m, (∀ i, i < m → B i = B' i) → dv B m = dv B' m := by
  intro m
  induction m with
  | zero => intro _; rfl
  | succ m ih => intro h; rw [dv, dv, ih (fun i hi => h i (by omega)), h m (by omega)]
theorem dv_dec : ∀ v, v < 100 → dv (fun i => (dec v).getD i 0) (dec v).length = v := by decide +kernel
theorem dec_D : ∀ v, v < 100 → (1 ≤ (dec v).length ∧ (dec v).length ≤ 3) ∧ ∀ z, z ∈ dec v → 48 ≤ z ∧ z ≤ 57 := by decide +kernel
theorem num_v {p : Nat} {l : List Nat} (t : tkc T Gs P 2 p (p + (dec v).length)) (R : Rt T len p (dec v ++ l)) (hv : v < 100) : vI (P 6) = Int32.ofNat v := by
  rw [t.2.2.2 rfl, Nat.add_sub_cancel_left, dv_congr (B' := fun i => (dec v).getD i 0) _ (fun i hi => (Rt_a R).1 i hi), dv_dec v hv]
theorem tk_dec {c : Nat} {l : List Nat} (hv : v < 100) (hc : ¬ isD c) : tk1 2 (dec v) (c :: l) := .inr (.inl ⟨rfl, (dec_D v hv).1, (dec_D v hv).2, hc⟩)
def nq : List Nat → List Nat → List Nat
  | [], l => [59] ++ l
  | v :: vs, l => dec v ++ (numsT vs ++ (59 :: l))
def nc : List Nat → Nat
  | [] => 3
  | _ :: _ => 2
def nl : List Nat → Nat
  | [] => 1
  | v :: _ => (dec v).length
theorem nt_hd : ∀ (vs l : List Nat), ∃ c r, numsT vs ++ (59 :: l) = c :: r ∧ ¬ isD c ∧ ¬ isL c := fun vs l => by
  cases vs with
  | nil => exact ⟨59, l, rfl, by unfold isD; omega, by unfold isL; omega⟩
  | cons v vs => exact ⟨32, _, rfl, by unfold isD; omega, by unfold isL; omega⟩
theorem nx_n {i : Nat} {vs l : List Nat} (S : PI x y d len T G N P D) (h5 : vI (P 5) = Int32.ofNat i) (R : Rt T len i (numsT vs ++ (59 :: l))) (hv : ∀ v, v ∈ vs → v < 100) : ∃ P2 p2, tX3_toNextToken Gs y N = some ((), pv N y P2) ∧ PI x y d len T G (pv N y P2) P2 D ∧ Rt T len p2 (nq vs l) ∧ tkc T Gs P2 (nc vs) p2 (p2 + nl vs) ∧ i ≤ p2 ∧ ∀ k, k < 3 ∨ 6 < k → P2 k = P k := by
  cases vs with
  | nil =>
    obtain ⟨P2, a1, a2, a3, a4, a5, a6⟩ := nx (Gs := Gs) (c := 3) (bl := []) (w := [59]) (l := l) S h5 R (.inl rfl) (.inr (.inr (.inl ⟨rfl, rfl⟩)))
    exact ⟨P2, i, a1, a2, a4, a3, Nat.le_refl _, a6⟩
  | cons v vs =>
    obtain ⟨c, r, e1, e2, -⟩ := nt_hd vs l
    have R2 : Rt T len i ([32] ++ (dec v ++ (numsT vs ++ (59 :: l)))) := by
      rw [numsT] at R
      simpa using R
    obtain ⟨P2, a1, a2, a3, a4, a5, a6⟩ := nx (Gs := Gs) (c := 2) (bl := [32]) (w := dec v) (l := numsT vs ++ (59 :: l)) S h5 R2 (.inr rfl) (by rw [e1]; exact tk_dec (hv v List.mem_cons_self) e2)
    exact ⟨P2, i + 1, a1, a2, a4, a3, by omega, a6⟩
set_option maxRecDepth 20000 in
/-- the members of a statement -/
theorem mem_L {come : Bool} {l : List Nat} (hs : s < n) (hd : tkD Gs) : ∀ (nums : List Nat) (f i p : Nat) (N : vMe) (P : Nat → Value) (D E : Nat → Nat → Value) (clk : Nat), nums.length < f → (i = 0 → nums ≠ []) → i ≤ p → (∀ v, v ∈ nums → v < u) → PI x y d len T G N P D → Rt T len p (nq nums l) → tkc T Gs P (nc nums) p (p + nl nums) → LK b u hz n k clk E D → clk + nums.length < 2000 → numsR b s come nums E E2 → nul E → bz D →
    ∃ N2 P2 D2 clk2 p2, tX3_readMembers_L22 Gs y (if come = true then 1 else 0) (Int32.ofNat s) f (Int32.ofNat i) N = some (.inr (), N2) ∧ PI x y d len T G N2 P2 D2 ∧ tkc T Gs P2 3 p2 (p2 + 1) ∧ Rt T len p2 ([59] ++ l) ∧ LK b u hz n k clk2 E2 D2 ∧ clk2 ≤ clk + nums.length ∧ bz D2 ∧ kN D D2 ∧ fy y d N N2 ∧ N2.2 = N.2 ∧ p ≤ p2 ∧ ∀ k, k < 3 ∨ 6 < k → P2 k = P k := by
  intro nums
  induction nums with
  | nil =>
    intro f i p N P D E clk hf hi hip hu S R t K hc hR hn hbz
    obtain ⟨f, rfl⟩ : ∃ g, f = g + 1 := ⟨f - 1, by omega⟩
    have hi0 : i ≠ 0 := fun e => hi e rfl
    have e : E2 = E := hR
    subst e
    have hi3 : i < 2147483648 := by
      have h1 := R.1
      have h2 := S.1.2.2.2
      omega
    refine ⟨N, P, D, clk, p, ?_, S, t, R, K, by omega, hbz, fun _ _ => rfl, fy.rf, rfl, Nat.le_refl _, fun _ _ => rfl⟩
    have hne : ¬ Gs (tIx 3) = Gs 101 := fun g => absurd ((tIx_eq hd (c := 3) (j := 2) (by omega) (by omega)).mp g) (by omega)
    rw [tX3_readMembers_L22, if_neg (show ¬ Int32.ofNat i = 0 from fun g => hi0 ((n_eq (b := 0) hi3 (by omega)).mp g)), PI_I S, Option.bind_some, S.2.1.2.1.2]
    by_cases c : Int32.ofNat len ≤ Int32.ofNat i
    · rw [if_pos c]
    · rw [if_neg c, PI_A S t.1, Option.bind_some, if_neg (show ¬ Gs (tIx (nc [])) = Gs 101 from hne)]
  | cons v vs ih =>
    intro f i p N P D E clk hf hi hip hu S R t K hc hR hn hbz
    obtain ⟨f, rfl⟩ : ∃ g, f = g + 1 := ⟨f - 1, by omega⟩
    rw [List.length_cons] at hf hc
    obtain ⟨E1, r1, r2, r3⟩ := hR
    obtain ⟨k1, k2, k3, ku1, ku64, kn5, -⟩ := LK_h K
    have hv := hu v List.mem_cons_self
    have R' : Rt T len p (dec v ++ (numsT vs ++ (59 :: l))) := R
    obtain ⟨q1, q2, q3⟩ := Rt_a R'
    have dl := (dec_D v (by omega)).1
    have hv6 : vI (P 6) = Int32.ofNat v := num_v t R' (by omega)
    have hl6 := S.1.2.2.2
    have isn := isN (lo := 0) (hi := u - 1) (z1 := 0) (z2 := Int32.ofNat u - 1) S t hv6 rfl (n_pred ku1) (by omega) (by omega) (by omega)
    have a2 : gA N y 6 2 = some d := PI_A S S.2.1.2.2.1
    have cN := S.2.2.1.1.eq
    have hC := S.2.2.1.2
    obtain ⟨C2, clk2, o1, o2, o3, o4, o5, o6⟩ : ∃ C2 clk2, (∀ K : vMe → Option ((Int32 ⊕ Unit) × vMe), (if (if come = true then (1 : Int32) else 0) = 0 then ((gA N y 6 2).bind fun a11 => (gI N y 6 6).bind fun v12 => if (N.1 a11).1 = 8 then ((tX5_takeOut a11 (Int32.ofNat s) v12 N).bind fun z13 => K z13.2) else none) else ((gA N y 6 2).bind fun a15 => (gA N y 6 2).bind fun a16 => (gA N a16 8 0).bind fun a17 => (aA N a17 107 (Int32.ofNat s)).bind fun a18 => (gI N y 6 6).bind fun v19 => if (N.1 a15).1 = 8 then ((tX5_bringIn a15 a18 v19 N).bind fun z20 => K z20.2) else none)) = K (cv N d C2)) ∧ cOk N d C2 ∧ kN D C2 ∧ LK b u hz n k clk2 E1 C2 ∧ clk2 ≤ clk + 1 ∧ ∀ c, c < 6 → ∀ l, l < 3 → C2 (44 + c) l = D (44 + c) l := by
      cases come with
      | true =>
        obtain ⟨C2, clk2, z, o1, o2, o3, o4, o5, o6⟩ := lk_add K r1 hn (by omega) hs hv hC
        refine ⟨C2, clk2, fun K => ?_, o2, o3, o4, o5, o6⟩
        rw [cN] at o1
        rw [if_pos rfl, if_neg n10, a2, Option.bind_some, Option.bind_some, B_A0 S.2.2.1.1 hC, Option.bind_some, B_S S.2.2.1.1 hC (by omega), Option.bind_some, PI_I S, Option.bind_some, hv6, if_pos (PI_tB S), o1, Option.bind_some]
      | false =>
        obtain ⟨C2, clk2, z, o1, o2, o3, o4, o5, o6⟩ := lk_rem K r1 hn (by omega) hs hv hC
        refine ⟨C2, clk2, fun K => ?_, o2, o3, o4, o5, o6⟩
        rw [cN] at o1
        rw [if_neg (show ¬ false = true by decide), if_pos rfl, a2, Option.bind_some, PI_I S, Option.bind_some, hv6, if_pos (PI_tB S), o1, Option.bind_some]
    have S2 := PI_cv S o2
    obtain ⟨P3, p3, n1, S3, R3, t3, le3, f3⟩ := nx_n (Gs := Gs) S2 t.2.2.1 q3 (fun z hz => by have := hu z (List.mem_cons_of_mem _ hz); omega)
    have enl : nl (v :: vs) = (dec v).length := rfl
    obtain ⟨N4, P4, D4, clk4, p4, m1, m2, m3, m4, m5, m6, m7, m8, m9, m10, m11, m12⟩ := ih f (i + 1) p3 _ P3 C2 E1 clk2 (by omega) (fun g => by omega) (by omega) (fun z hz => hu z (List.mem_cons_of_mem _ hz)) S3 R3 t3 o4 (by omega) r3 (fun c hc => by rw [r2]; exact hn c hc) (bz_mv hbz o6)
    refine ⟨N4, P4, D4, clk4, p4, ?_, m2, m3, m4, m5, by rw [List.length_cons]; omega, m7, fun z hz => (m8 z hz).trans (o3 z hz), (fy_cv.tr fy_pv).tr m9, m10, by omega, fun z hz => (m12 z hz).trans (f3 z hz)⟩
    have J : tX3_readMembers_J44_22 Gs (tX3_readMembers_L22 Gs y (if come = true then 1 else 0) (Int32.ofNat s) f) y (if come = true then 1 else 0) (Int32.ofNat s) (Int32.ofNat i) N = some (.inr (), N4) := by
      rw [tX3_readMembers_J44_22, a2, Option.bind_some, PI_D S, Option.bind_some, k1, if_pos (PI_t S), isn, Option.bind_some]
      dsimp only
      rw [if_neg n10]
      refine (o1 (fun W => tX3_readMembers_J104_22 Gs (tX3_readMembers_L22 Gs y (if come = true then 1 else 0) (Int32.ofNat s) f) y (if come = true then 1 else 0) (Int32.ofNat s) (Int32.ofNat i) W)).trans ?_
      rw [tX3_readMembers_J104_22, if_pos (PI_t S2), n1, Option.bind_some, n_succ]
      exact m1
    rw [tX3_readMembers_L22]
    by_cases c : Int32.ofNat i = 0
    · rw [if_pos c, J]
    · rw [if_neg c, PI_I S, Option.bind_some, S.2.1.2.1.2, if_neg (fun g => by have := (n_le (by omega) (by omega)).mp g; omega), PI_A S t.1, Option.bind_some, if_pos (show Gs (tIx (nc (v :: vs))) = Gs 101 from rfl), J]
end
