section
variable {M N W : vMe} {x r a d b y u hz n k len lo n0 s0 w o : Nat} {G F C : Nat → Nat → Value} {Gs : Nat → Nat} {l : List Nat}
/-- the letters of the text, with blanks behind it -/
def chT (l : List Nat) (i : Nat) : Nat := if i < l.length then l.getD i 0 else 32
/-- the row of five numbers -/
def av (W : vMe) (a : Nat) (B : Nat → Value) : vMe := (fun q => if q = a then (101, 5, B) else W.1 q, W.2)
theorem av_at {B : Nat → Value} : (av W a B).1 a = (101, 5, B) := by simp [av]
theorem av_ne {q : Nat} {B : Nat → Value} (h : q ≠ a) : (av W a B).1 q = W.1 q := by simp [av, h]
theorem av_S {i : Nat} {B : Nat → Value} {v : Value} (hb : W.2.2.2 ≤ a) (hi : i < 5) : sA (av W a B) a 101 (Int32.ofNat i) v = some (av W a (updV B i v)) := by
  rw [sAg (tg := 101) (l := 5) av_at hb hi (by omega)]
  congr 1
  refine Prod.ext (funext fun q => ?_) rfl
  by_cases g : q = a
  · subst g; rw [pg_at, av_at]
  · rw [pg_ne g, av_ne g, av_ne g]
def cnt4 (j p : Nat) : Nat := if j ≤ 4 * p then 0 else if 4 * p + 4 ≤ j then 4 else j - 4 * p
theorem dv4 : ∀ j, j < 20 → Int32.ofNat j / 4 = Int32.ofNat (j / 4) := by decide +kernel
theorem chT_lt (t : tAt W w o l) (i : Nat) : chT l i < 128 := by
  obtain ⟨S, B, -, -, -, -, -, h⟩ := t
  unfold chT
  by_cases c : i < l.length
  · rw [if_pos c]; exact (h i c).2
  · rw [if_neg c]; omega
set_option maxRecDepth 20000 in
theorem chunk_L {x2 : Int32} (hk : k + 20 < 1000) (t : tAt W w o l) (hw : w ≠ a ∧ o ≠ a) (hl : l.length < 1000) (hb : W.2.2.2 ≤ a) (r1 : W.2.1 ≤ n0 + 20) (r2 : W.2.2.1 ≤ s0 + 100) : ∀ (q f j : Nat) (B : Nat → Value), j + q = 20 → q < f → (∀ p, p < 5 → vI (B p) = Int32.ofNat (pkN (fun m => chT l (k + 4 * p + m)) (cnt4 j p))) →
    ∃ B2, tL_feeds_L20 Gs n0 s0 x w x2 (Int32.ofNat k) a f (Int32.ofNat j) (av W a B) = some ((), av W a B2) ∧ ∀ p, p < 5 → vI (B2 p) = Int32.ofNat (pkN (fun m => chT l (k + 4 * p + m)) 4) := by
  intro q
  induction q with
  | zero =>
    intro f j B hj hf hB
    obtain ⟨f, rfl⟩ : ∃ g, f = g + 1 := ⟨f - 1, by omega⟩
    refine ⟨B, ?_, fun p hp => ?_⟩
    · rw [tL_feeds_L20, if_pos (show (20 : Int32) ≤ Int32.ofNat j from (n_le (a := 20) (by omega) (by omega)).mpr (by omega))]
    · rw [hB p hp]; unfold cnt4; rw [if_neg (by omega), if_pos (by omega)]
  | succ q ih =>
    intro f j B hj hf hB
    obtain ⟨f, rfl⟩ : ∃ g, f = g + 1 := ⟨f - 1, by omega⟩
    have hp5 : j / 4 < 5 := by omega
    obtain ⟨p, hp⟩ : ∃ p, p = j / 4 := ⟨_, rfl⟩
    have tv : tAt (av W a B) w o l := t.same (av_ne hw.1) (av_ne hw.2)
    obtain ⟨l1, -, -, -, l5⟩ := t_len tv hl
    have c4 : cnt4 j p = j - 4 * p := by unfold cnt4; by_cases c : j ≤ 4 * p
                                         · rw [if_pos c]; omega
                                         · rw [if_neg c, if_neg (by omega)]
    have kj : k + j = k + 4 * p + (j - 4 * p) := by omega
    have hv := hB p (by omega)
    have bnd : pkN (fun m => chT l (k + 4 * p + m)) (cnt4 j p) < 16777216 := by
      have h1 := pkN_lt (B := fun m => chT l (k + 4 * p + m)) (cnt4 j p) (fun i _ => by have := chT_lt t (k + 4 * p + i); show chT l (k + 4 * p + i) < 256; omega)
      have h2 : 256 ^ cnt4 j p ≤ 256 ^ 3 := Nat.pow_le_pow_right (by omega) (by omega)
      have h3 : 256 ^ 3 = 16777216 := by decide
      omega
    have ch : chT l (k + j) < 256 := by have := chT_lt t (k + j); omega
    have pk := pk32 bnd ch
    obtain ⟨B2, b1, b2⟩ := ih f (j + 1) (updV B p (.int (Int32.ofNat (pkN (fun m => chT l (k + 4 * p + m)) (cnt4 (j + 1) p))))) (by omega) (by omega) (fun p' hp' => by
      by_cases e : p' = p
      · subst e; rw [up_eq]; rfl
      · have cc : cnt4 (j + 1) p' = cnt4 j p' := by
          unfold cnt4
          repeat' split
          all_goals omega
        rw [up_ne e, hB p' hp', cc])
    refine ⟨B2, ?_, b2⟩
    have c5 : cnt4 (j + 1) p = cnt4 j p + 1 := by
      rw [c4]; unfold cnt4; rw [if_neg (by omega)]
      by_cases c : 4 * p + 4 ≤ j + 1
      · rw [if_pos c]; omega
      · rw [if_neg c]; omega
    have ev : pkN (fun m => chT l (k + 4 * p + m)) (cnt4 (j + 1) p) = 256 * pkN (fun m => chT l (k + 4 * p + m)) (cnt4 j p) + chT l (k + j) := by
      rw [c5, pkN, c4, kj]
    rw [ev] at b1
    have st : tL_feeds_J67_20 (tL_feeds_L20 Gs n0 s0 x w x2 (Int32.ofNat k) a f) n0 s0 x w x2 (Int32.ofNat k) a (Int32.ofNat j) a (Int32.ofNat p) (Int32.ofNat (pkN (fun m => chT l (k + 4 * p + m)) (cnt4 j p)) <<< ((8 : Int32) &&& 31)) (Int32.ofNat (chT l (k + j))) (av W a B) = some ((), av W a B2) := by
      rw [tL_feeds_J67_20, pk, av_S hb (by omega), Option.bind_some, n_succ]
      exact b1
    have g0 : (av W a B).2.1 + 0 ≤ n0 + 20 ∧ (av W a B).2.2.1 + 0 ≤ s0 + 100 := ⟨by show W.2.1 + 0 ≤ _; omega, by show W.2.2.1 + 0 ≤ _; omega⟩
    rw [tL_feeds_L20, if_neg (show ¬ (20 : Int32) ≤ Int32.ofNat j from fun g => by have := (n_le (a := 20) (by omega) (by omega)).mp g; omega), dv4 j (by omega), ← hp, aIg (tg := 101) (l := 5) av_at (by omega) (by omega), Option.bind_some, hv, if_pos g0, if_pos l5, l1, Option.bind_some, n_add]
    by_cases c : l.length ≤ k + j
    · rw [if_pos ((n_le (by omega) (by omega)).mpr c)]
      have e : chT l (k + j) = 32 := by unfold chT; rw [if_neg (by omega)]
      rw [e] at st
      exact st
    · rw [if_neg (fun g => c ((n_le (by omega) (by omega)).mp g)), if_pos g0, if_pos l5, t_char tv (by omega), Option.bind_some]
      have e : chT l (k + j) = l.getD (k + j) 0 := by unfold chT; rw [if_pos (by omega)]
      rw [e] at st
      exact st
/-- what the feeding has done so far -/
def fed (G0 G : Nat → Nat → Value) (l : List Nat) (m : Nat) : Prop := fG G0 G ∧ gt G 1 1 = Int32.ofNat m ∧ (∀ i, i < m → gt G 2 i = Int32.ofNat (chT l i)) ∧ ∀ i, m ≤ i → gt G 2 i = gt G0 2 i
set_option maxRecDepth 20000 in
theorem feeds_L {G0 : Nat → Nat → Value} (hl : l.length ≤ 180) (hwx : (w < x ∨ x + 8 ≤ w) ∧ (o < x ∨ x + 8 ≤ o)) : ∀ (q f i : Nat) (N : vMe) (G : Nat → Nat → Value), i + q = (l.length + 19) / 20 → q < f → hG N x G → gOk N x G → tAt N w o l → w < N.2.1 → o < N.2.1 → x + 8 ≤ N.2.1 → N.2.2.2 ≤ N.2.1 → fed G0 G l (20 * i) → N.2.1 + q ≤ n0 + 20 → N.2.2.1 + 5 * q ≤ s0 + 100 →
    ∃ N2 G2, tL_feeds_L4 Gs n0 s0 x w f (Int32.ofNat (20 * i)) (Int32.ofNat (20 * i)) N = some (.inr (), N2) ∧ hG N2 x G2 ∧ fed G0 G2 l (20 * ((l.length + 19) / 20)) ∧ (∀ z, z < N.2.1 → ¬ (x ≤ z ∧ z < x + 8) → N2.1 z = N.1 z) ∧ N2.2.2.2 = N.2.2.2 ∧ N.2.1 ≤ N2.2.1 ∧ N2.2.1 ≤ N.2.1 + q ∧ N2.2.2.1 ≤ N.2.2.1 + 5 * q := by
  intro q
  induction q with
  | zero =>
    intro f i N G hi hf hG0 gO t hw ho hx hb fd r1 r2
    obtain ⟨f, rfl⟩ : ∃ g, f = g + 1 := ⟨f - 1, by omega⟩
    obtain ⟨l1, -, -, -, l5⟩ := t_len t (by omega)
    have e : i = (l.length + 19) / 20 := by omega
    refine ⟨N, G, ?_, hG0, by rw [← e]; exact fd, fun _ _ _ => rfl, rfl, Nat.le_refl _, by omega, by omega⟩
    rw [tL_feeds_L4, if_pos ⟨by omega, by omega⟩, if_pos l5, l1, Option.bind_some, if_pos ((n_le (by omega) (by omega)).mpr (by omega))]
  | succ q ih =>
    intro f i N G hi hf hG0 gO t hw ho hx hb fd r1 r2
    obtain ⟨f, rfl⟩ : ∃ g, f = g + 1 := ⟨f - 1, by omega⟩
    obtain ⟨l1, -, -, -, l5⟩ := t_len t (by omega)
    obtain ⟨W, hW⟩ : ∃ W : vMe, W = (N.1, N.2.1 + 1, N.2.2.1 + 5, N.2.2.2) := ⟨_, rfl⟩
    have w1 : W.2.1 = N.2.1 + 1 := by rw [hW]
    have w2 : W.2.2.1 = N.2.2.1 + 5 := by rw [hW]
    have w3 : W.2.2.2 = N.2.2.2 := by rw [hW]
    have w0 : ∀ z, W.1 z = N.1 z := fun z => by rw [hW]
    have eN : nwO N 101 5 5 (fun _ => .int 0) n0 s0 20 100 = some (av W N.2.1 (fun _ => .int 0)) := by
      unfold nwO; rw [if_pos ⟨by omega, by omega, by omega⟩, hW]; rfl
    have tW : tAt W w o l := t.same (w0 w) (w0 o)
    obtain ⟨B2, b1, b2⟩ := chunk_L (Gs := Gs) (x := x) (n0 := n0) (s0 := s0) (x2 := Int32.ofNat (20 * i)) (k := 20 * i) (a := N.2.1) (by omega) tW ⟨by omega, by omega⟩ (by omega) (by omega) (by omega) (by omega) 20 vF 0 (fun _ => .int 0) (by omega) (by unfold vF; omega) (fun p hp => by unfold cnt4; rw [if_pos (by omega)]; rfl)
    have gV : hG (av W N.2.1 B2) x G := fun j hj => by rw [av_ne (by omega), w0]; exact hG0 j hj
    have gO2 : gOk (av W N.2.1 B2) x G := ⟨by show W.2.2.2 ≤ x; rw [w3]; exact gO.1, gO.2⟩
    obtain ⟨G2, p1, p2, p3, p4, p5⟩ := append_P (c := fun p m => chT l (20 * i + 4 * p + m)) gO2 fd.2.1 (by omega) (fun j _ i2 _ => chT_lt tW _)
    rw [gV.eq] at p1
    have fd2 : fed G0 G2 l (20 * (i + 1)) := by
      refine ⟨fd.1.tr p2, by rw [p3]; rfl, fun j hj => ?_, fun j hj => by rw [p5 j (by omega), fd.2.2.2 j (by omega)]⟩
      by_cases c : j < 20 * i
      · rw [p5 j (.inl c), fd.2.2.1 j c]
      · have := p4 ((j - 20 * i) / 4) ((j - 20 * i) % 4) (by omega) (by omega)
        have e : 20 * i + 4 * ((j - 20 * i) / 4) + (j - 20 * i) % 4 = j := by omega
        rw [e] at this
        rw [this]
    have nx0 : ∀ z, z < N.2.1 → ¬ (x ≤ z ∧ z < x + 8) → (gv (av W N.2.1 B2) x G2).1 z = N.1 z := fun z h1 h2 => by rw [gv_out h2, av_ne (by omega), w0]
    have v1 : (gv (av W N.2.1 B2) x G2).2.1 = N.2.1 + 1 := w1
    have v2 : (gv (av W N.2.1 B2) x G2).2.2.1 = N.2.2.1 + 5 := w2
    have v3 : (gv (av W N.2.1 B2) x G2).2.2.2 = N.2.2.2 := w3
    obtain ⟨N4, G4, z1, z2, z3, z4, z5, z6, z7, z8⟩ := ih f (i + 1) (gv (av W N.2.1 B2) x G2) G2 (by omega) (by omega) hG_gv (p2.ok ⟨by rw [v3]; exact gO.1, gO.2⟩) (t.same (nx0 w hw (by omega)) (nx0 o ho (by omega))) (by omega) (by omega) (by omega) (by omega) fd2 (by omega) (by omega)
    refine ⟨N4, G4, ?_, z2, z3, fun z h1 h2 => (z4 z (by omega) h2).trans (nx0 z h1 h2), z5.trans v3, by omega, by omega, by omega⟩
    have tg : ((av W N.2.1 B2).1 x).1 = 11 := by rw [← gV.eq, gv_at0]
    have rd : ∀ p, p < 5 → aI (av W N.2.1 B2) N.2.1 101 (Int32.ofNat p) = some (Int32.ofNat (pkN (fun m => chT l (20 * i + 4 * p + m)) 4)) := fun p hp => by rw [aIg (tg := 101) (l := 5) av_at hp (by omega), b2 p hp]
    have ad : Int32.ofNat (20 * i) + 20 = Int32.ofNat (20 * i + 20) := n_add (20 * i) 20
    rw [tL_feeds_L4, if_pos ⟨by omega, by omega⟩, if_pos l5, l1, Option.bind_some, if_neg (fun g => by have := (n_le (by omega) (by omega)).mp g; omega), eN, Option.bind_some, show tL_feeds_L20 Gs n0 s0 x w (Int32.ofNat (20 * i)) (Int32.ofNat (20 * i)) N.2.1 vF 0 (av W N.2.1 fun _ => .int 0) = _ from b1, Option.bind_some]
    dsimp only
    rw [show aI (av W N.2.1 B2) N.2.1 101 0 = _ from rd 0 (by omega), Option.bind_some, show aI (av W N.2.1 B2) N.2.1 101 1 = _ from rd 1 (by omega), Option.bind_some, show aI (av W N.2.1 B2) N.2.1 101 2 = _ from rd 2 (by omega), Option.bind_some, show aI (av W N.2.1 B2) N.2.1 101 3 = _ from rd 3 (by omega), Option.bind_some, show aI (av W N.2.1 B2) N.2.1 101 4 = _ from rd 4 (by omega), Option.bind_some, if_pos (show (av W N.2.1 B2).2.1 + 0 ≤ n0 + 20 ∧ (av W N.2.1 B2).2.2.1 + 0 ≤ s0 + 100 from ⟨by show W.2.1 + 0 ≤ _; omega, by show W.2.2.1 + 0 ≤ _; omega⟩), if_pos tg, p1, Option.bind_some]
    dsimp only
    rw [ad, if_pos rfl]
    exact z1
/-- the text is fed -/
theorem feeds_P (hl : l.length ≤ 180) (hwx : (w < x ∨ x + 8 ≤ w) ∧ (o < x ∨ x + 8 ≤ o)) (h : hG N x G) (gO : gOk N x G) (t : tAt N w o l) (hw : w < N.2.1) (ho : o < N.2.1) (hx : x + 8 ≤ N.2.1) (hb : N.2.2.2 ≤ N.2.1) (g1 : gt G 1 1 = 0) :
    ∃ N2 G2, tL_feeds Gs x w N = some (1, N2) ∧ hG N2 x G2 ∧ fed G G2 l (20 * ((l.length + 19) / 20)) ∧ (∀ z, z < N.2.1 → ¬ (x ≤ z ∧ z < x + 8) → N2.1 z = N.1 z) ∧ N2.2.2.2 = N.2.2.2 ∧ N.2.1 ≤ N2.2.1 ∧ N2.2.1 ≤ N.2.1 + 9 ∧ N2.2.2.1 ≤ N.2.2.1 + 45 := by
  obtain ⟨N2, G2, z1, z2, z3, z4, z5, z6, z7, z8⟩ := feeds_L (n0 := N.2.1) (s0 := N.2.2.1) (Gs := Gs) (G0 := G) hl hwx ((l.length + 19) / 20) vF 0 N G (by omega) (by unfold vF; omega) h gO t hw ho hx hb ⟨⟨fun _ _ _ => rfl, rfl⟩, g1, fun i hi => by omega, fun _ _ => rfl⟩ (by omega) (by omega)
  refine ⟨N2, G2, ?_, z2, z3, z4, z5, z6, by omega, by omega⟩
  rw [tL_feeds, show tL_feeds_L4 Gs N.2.1 N.2.2.1 x w vF 0 0 N = _ from z1, Option.bind_some]
  show (if N2.2.1 ≤ N.2.1 + 20 ∧ N2.2.2.1 ≤ N.2.2.1 + 100 then some ((1 : Int32), N2) else none) = _
  rw [if_pos ⟨by omega, by omega⟩]
end
