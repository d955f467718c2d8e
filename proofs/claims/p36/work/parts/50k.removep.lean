section
variable {M M' : vMe} {a b u hz n k s : Nat} {C E F : Nat → Nat → Value}
/-- who was a member and isn't the one that goes is a member still -/
theorem surj_T {x0 xE : w_T} {m p0 y0 : Nat} (val : ∀ p, p < m → x0.2.1 (x0.1 p) = p) (hp0 : p0 < m) (h0 : x0.1 p0 = y0) (iE : ∀ p, p < m → p ≠ m - 1 → xE.2.1 (xE.1 p) = p ∧ xE.1 p ≠ y0 ∧ ∃ p', p' < m ∧ x0.1 p' = xE.1 p) {py : Nat} (hpy : py < m) (hne : py ≠ p0) : ∃ p, p < m - 1 ∧ xE.1 p = x0.1 py := by
  apply Classical.byContradiction
  intro hno
  have hno : ∀ p, p < m - 1 → xE.1 p ≠ x0.1 py := fun p hp e => hno ⟨p, hp, e⟩
  have pl : ∀ p, p < m - 1 → x0.2.1 (xE.1 p) < m ∧ x0.1 (x0.2.1 (xE.1 p)) = xE.1 p := fun p hp => by
    obtain ⟨-, -, p', h1, h2⟩ := iE p (by omega) (by omega)
    rw [← h2, val p' h1]; exact ⟨h1, rfl⟩
  have := php m (m + 1) (fun i => if i < m - 1 then x0.2.1 (xE.1 i) else if i = m - 1 then p0 else py) (fun i hi => by
    show (if i < m - 1 then _ else if i = m - 1 then p0 else py) < m
    split
    · next c => exact (pl i c).1
    · split
      · exact hp0
      · exact hpy) (fun i j hi hj e => by
    have e : (if i < m - 1 then x0.2.1 (xE.1 i) else if i = m - 1 then p0 else py) = (if j < m - 1 then x0.2.1 (xE.1 j) else if j = m - 1 then p0 else py) := e
    have np : ∀ l, l < m - 1 → x0.2.1 (xE.1 l) ≠ p0 := fun l hl g => by
      have h1 := (pl l hl).2
      rw [g, h0] at h1
      exact (iE l (by omega) (by omega)).2.1 h1.symm
    have ny : ∀ l, l < m - 1 → x0.2.1 (xE.1 l) ≠ py := fun l hl g => by
      have h1 := (pl l hl).2
      rw [g] at h1
      exact hno l hl h1.symm
    by_cases ci : i < m - 1
    · rw [if_pos ci] at e
      by_cases cj : j < m - 1
      · rw [if_pos cj] at e
        have h1 := (pl i ci).2
        rw [e, (pl j cj).2] at h1
        have q1 := (iE i (by omega) (by omega)).1
        have q2 := (iE j (by omega) (by omega)).1
        rw [← h1] at q1
        omega
      · rw [if_neg cj] at e
        by_cases c2 : j = m - 1
        · rw [if_pos c2] at e; exact absurd e (np i ci)
        · rw [if_neg c2] at e; exact absurd e (ny i ci)
    · rw [if_neg ci] at e
      by_cases cj : j < m - 1
      · rw [if_pos cj] at e
        by_cases c2 : i = m - 1
        · rw [if_pos c2] at e; exact absurd e.symm (np j cj)
        · rw [if_neg c2] at e; exact absurd e.symm (ny j cj)
      · rw [if_neg cj] at e
        by_cases c1 : i = m - 1
        · rw [if_pos c1] at e
          by_cases c2 : j = m - 1
          · omega
          · rw [if_neg c2] at e; exact absurd e.symm hne
        · rw [if_neg c1] at e
          by_cases c2 : j = m - 1
          · rw [if_pos c2] at e; exact absurd e hne
          · omega)
  omega
theorem wkT_low {Q : Nat → Bool} {m p : Nat} : ∀ (j q h : Nat) (x : w_T), p < h → h < q → (wkT Q m j q h x).1 p = x.1 p := by
  intro j
  induction j with
  | zero => intro q h x _ _; rfl
  | succ j ih =>
    intro q h x h1 h2
    rw [wkT]
    split
    · rw [ih (q + 1) (q - 1) _ (by omega) (by omega)]
      unfold mvT
      split
      · rfl
      · show (if p = h then _ else x.1 p) = _
        rw [if_neg (by omega)]
    · exact ih (q + 1) h x h1 (by omega)
/-- a member goes, on both sides -/
theorem remove_P {clk x : Nat} (h : simP C F u hz n k) (hF : F 1 = eR E) (hK : okE b E F n clk) (hclk : clk < 1999) (hs : s < n) (hx : x < u) (hC : cOk M a C) (hE : eOk M' b E) (hfr : ∀ q, eA b E q → q < M'.2.1) (hbM : M'.2.2.2 ≤ M'.2.1) :
    ∃ C2 E2 M2 clk2 v, tX5_takeOut a (Int32.ofNat s) (Int32.ofNat x) (cv M a C) = some (v, cv M a C2) ∧ tX12_remove b (b + (2 + 8 * s)) (Int32.ofNat x) (ew M' b E) = some (v, ew M2 b E2) ∧ (M2.2.2.2 = M'.2.2.2 ∧ M'.2.1 ≤ M2.2.1 ∧ M2.2.1 ≤ M'.2.1 + 1 ∧ M2.2.2.1 ≤ M'.2.2.1 + 6 ∧ ∀ q, q < M'.2.1 → M2.1 q = M'.1 q) ∧
      cOk M a C2 ∧ eOk M2 b E2 ∧ kN C C2 ∧ simP C2 (gRow F E2) u hz n k ∧ okE b E2 (gRow F E2) n clk2 ∧ clk ≤ clk2 ∧ clk2 ≤ clk + 1 ∧ E2 42 = E 42 ∧ (∀ c, c < 6 → ∀ l, l ≠ 4 → C2 (44 + c) l = C (44 + c) l) ∧
      (isM F s x → v = 1 ∧ ∀ m, oS F s 0 = Int32.ofNat m → m ≤ 64 → 1 ≤ m ∧ oS (gRow F E2) s 0 = Int32.ofNat (m - 1)) ∧ (¬ isM F s x → v = 0 ∧ C2 = C ∧ E2 = E ∧ M2 = M') ∧ (∀ t, t < 5 → t ≠ s → ∀ w, w < 378 → oS (gRow F E2) t w = oS F t w) ∧ ∀ p0, isM F s x → oS F s (70 + x) = Int32.ofNat p0 → p0 < 64 → ∀ p, p < p0 → oS (gRow F E2) s (6 + p) = oS F s (6 + p) := by
  obtain ⟨sS, sO⟩ := h.2.2.2.2.2 s hs
  have hs5 : s < 5 := by have := h.1.2.2.1.2; omega
  have hn5 := h.1.2.2.1.2
  have hu := h.1.1.2.2
  obtain ⟨hz1, hz60⟩ := h.1.2.1.2
  obtain ⟨c7, e3, eh, c8⟩ := clk_P h hF hK
  have FF : (gRow F E) = F := by
    funext i; unfold gRow; split
    · next g => rw [g, hF]
    · rfl
  by_cases hM : isM F s x
  · obtain ⟨x0, m, ex0, hb, hc0, he0, hmu, e0, f0, c0, val, mem⟩ := rows_P h hF hs
    obtain ⟨p0, p0m, p0x⟩ := (mem x (by omega)).mp hM
    have z1 : x0.2.1 x = p0 := by rw [← p0x]; exact (val p0 p0m).2
    obtain ⟨N, hL⟩ := hK.2.2.2 s hs
    have hN2 : N < 2000 := by have := hL.2.1; omega
    have eKn : oS F s 3 = Int32.ofNat (eK E s) := R_3 hF hs5
    have eKz : eK E s ≤ hz := by unfold eK; rw [eH_of eh hz60]; split <;> omega
    obtain ⟨on, hon⟩ : ∃ on : Nat → Bool, on = fun c => decide (onF F c s) := ⟨_, rfl⟩
    have onF1 : ∀ c, on c = true ↔ onF F c s := fun c => by rw [hon]; exact decide_eq_true_iff
    have onC1 : ∀ c, c < 6 → (on c = true ↔ onC C c s) := fun c hc => (onF1 c).trans (on_eq (h.2.2.2.1 c hc)).symm
    have onE1 : ∀ c, c < 6 → (on c = true ↔ onB b E s c) := fun c hc => (onF1 c).trans (on_E hK.2.2.1 hF hc hn5 hs5)
    obtain ⟨ps, hps⟩ : ∃ ps : Nat → Nat, ps = fun c => (oC F c 2).toNatClampNeg := ⟨_, rfl⟩
    have psF : ∀ c, c < 6 → on c = true → oC F c 2 = Int32.ofNat (ps c) ∧ ps c ≤ m ∧ gt C (44 + c) 4 = Int32.ofNat (ps c) ∧ gt E (44 + c) 2 = Int32.ofNat (ps c) := fun c hc ho => by
      have g := (onF1 c).mp ho
      rcases h.2.2.2.1 c hc with ⟨g1, -⟩ | ⟨-, -, -, -, -, g6, -, -, -, -, -, -, ⟨p, p1, p2⟩, -⟩
      · exact absurd g.1 (by rw [g1]; decide)
      · have : ps c = p := by rw [hps]; show (oC F c 2).toNatClampNeg = p; rw [p2, n_clamp (by omega)]
        rw [this]
        exact ⟨p2, h.2.2.2.2.1 c s p m hc hs g p2 p1 f0 (by omega), by rw [g6, p2], (R_c hF hc).2.2.1.symm.trans p2⟩
    -- the class
    obtain ⟨xE, hxE⟩ : ∃ xE, xE = wkT (atQ on ps) m (m - p0) (p0 + 1) p0 x0 := ⟨_, rfl⟩
    obtain ⟨C1, c1, c2, c3, c4, c5, c6⟩ := c_tk_L (M := M) (a := a) (h0 := p0) (num := Int32.ofNat x) (on := on) (ps := ps) hs5 (show m ≤ 64 by omega) (m - p0) vF (p0 + 1) p0 C x0 hC hc0 hb c0 (by omega) onC1
      (fun c hc ho => by
        obtain ⟨g1, g2, g3, -⟩ := psF c hc ho
        refine ⟨by omega, ?_⟩
        unfold cur; rw [if_neg (by omega)]; exact g3) (by omega) (by omega) (by unfold vF; omega)
    rw [← hxE] at c3
    obtain ⟨C2, hC2⟩ : ∃ C2, C2 = pu (pu C1 (4 + 8 * s) 5 (.int (Int32.ofNat (m - 1)))) 0 7 (.int (gt C 0 7 + 1)) := ⟨_, rfl⟩
    have o1 : cOk M a (pu C1 (4 + 8 * s) 5 (.int (Int32.ofNat (m - 1)))) := cOk_r c2 hs5 (by omega)
    have o2 : cOk M a C2 := hC2 ▸ cOk_0 o1 (by omega)
    have f1C : ∀ j l, j ≠ 4 + 8 * s + 1 → j ≠ 4 + 8 * s + 2 → (j ≠ 0 ∨ (l ≠ 8 ∧ l ≠ 7)) → (j < 44 ∨ l ≠ 4) → (j ≠ 4 + 8 * s ∨ l ≠ 5) → C2 j l = C j l := fun j l g1 g2 g3 g4 g5 => by
      rw [hC2, pu_ne (by omega), pu_ne (by omega), c6 j l g1 g2 (by omega) g4]
    have gC : ∀ j l, j ≠ 4 + 8 * s + 1 → j ≠ 4 + 8 * s + 2 → (j ≠ 0 ∨ (l ≠ 8 ∧ l ≠ 7)) → (j < 44 ∨ l ≠ 4) → (j ≠ 4 + 8 * s ∨ l ≠ 5) → gt C2 j l = gt C j l := fun j l g1 g2 g3 g4 g5 => by
      unfold gt; rw [f1C j l g1 g2 g3 g4 g5]
    have g3 : gt C2 (4 + 8 * s + 4) 3 = Int32.ofNat (eK E s) := by rw [gC _ _ (by omega) (by omega) (by omega) (by omega) (by omega), sS.2.2.2.2.2.1, eKn]
    have stc : gt C 0 7 + 1 = Int32.ofNat (clk + 1) := by rw [c7, n_succ]
    have st : gt E 0 3 + 1 = Int32.ofNat (clk + 1) := by rw [e3, n_succ]
    obtain ⟨C4, k1, k2, k3⟩ := c_note (st := gt C 0 7 + 1) (x := Int32.ofNat x) (k := 1) o2 hs5 g3 eKz hz60 hz1
    have eC : tX5_takeOut a (Int32.ofNat s) (Int32.ofNat x) (cv M a C) = some (1, cv M a C4) := by
      obtain ⟨v, h1, h2⟩ := c_placeOf (x := Int32.ofNat x) hC hs5 sO sS hu
      have hv : v = Int32.ofNat p0 := by
        rcases h2 with ⟨h2, g⟩ | ⟨z, z2, z3, z4, z5⟩
        · exact absurd hM (g x (by omega) rfl)
        · have : x = z := (n_eq (by omega) (by omega)).mp z3
          subst this; rw [z5, R_p hF hs5 (by omega), he0.2.1 x (by omega), z1]
      have g5 : gt C1 (4 + 8 * s) 5 = Int32.ofNat m := by unfold gt; rw [c6 _ _ (by omega) (by omega) (by omega) (by omega)]; exact c0
      have g7 : gt (pu C1 (4 + 8 * s) 5 (.int (Int32.ofNat (m - 1)))) 0 7 = gt C 0 7 := by rw [gt_ne (by omega)]; unfold gt; rw [c6 _ _ (by omega) (by omega) (by omega) (by omega)]
      have g7b : gt C2 0 7 = gt C 0 7 + 1 := by rw [hC2, gt_eq]
      have g4b : gt C2 0 4 = Int32.ofNat hz := by rw [gC _ _ (by omega) (by omega) (by omega) (by omega) (by omega), h.2.1.2.1, h.1.2.1.1]
      rw [tX5_takeOut, cA0 hC, Option.bind_some, cS hC hs5, Option.bind_some, if_pos (c_tagR hs5), h1, Option.bind_some, hv, if_neg (fun g => by have := n_neg (a := p0) (by omega); rw [g] at this; exact this (by decide)), l1, n_add, c1, Option.bind_some]
      rw [c_rF hs5, Option.bind_some, g5, n_sub (by omega), c_rV c2 hs5, Option.bind_some, c_gI0, Option.bind_some, g7, ← l1, c_sV0 o1, Option.bind_some, ← hC2]
      rw [c_rA o2 hs5 (by omega), Option.bind_some, c_gI0, Option.bind_some, c_gI0, Option.bind_some, g7b, g4b, show a + (4 + 8 * s + (3 + 1)) = a + (4 + 8 * s + 4) from rfl, if_pos (c_tagL hs5), k1]
      rfl
    rw [stc] at k3
    -- the law
    obtain ⟨E1, D', q1, q2, q3, q4, q5, q6, q7, q8⟩ := e_remove (M := M') (b := b) (n := n) (m := m) (N := N) (x := x) (p0 := p0) (x0 := x0) (on := on) (ps := ps) hE hs5 hK.2.2.1 hF sO hu (by omega) hM he0 hb z1 p0m e0 (by omega) hL.1 hN2 onE1 (fun c hc ho => ⟨(psF c hc ho).2.2.2, (psF c hc ho).2.1⟩) (fun g => absurd (hfr _ g) (Nat.lt_irrefl _)) hbM
    rw [← hxE] at q4
    rw [st] at q1 q6
    have q8' : ∀ i l, i < 44 → (i < 2 + 8 * s ∨ 2 + 8 * s + 4 ≤ i) → (i ≠ 0 ∨ (l ≠ 3 ∧ l ≠ 4)) → E1 i l = E i l := fun i l h1 h2 h3 => q8 i l (by omega) (by omega) (by omega) (by omega) (.inl h1)
    have q42 : E1 42 = E 42 := funext fun l => q8' _ _ (by omega) (by omega) (by omega)
    -- both
    have i0 : iT u m p0 x x0 x0 := fun p hp hpp => ⟨(val p hp).1, (val p hp).2, fun e => hpp (by have := (val p hp).2; rw [e, z1] at this; exact this.symm), p, hp, rfl⟩
    have iE : iT u m (m - 1) x x0 xE := by
      rw [hxE, show m - p0 = (m - (p0 + 1)) + 1 by omega]
      exact iT_wk _ _ _ _ i0 (by omega) (by omega)
    have bE : bT xE := by rw [hxE]; exact bT_wk (by omega) _ _ _ _ hb (by omega) (by omega) (by omega) (by omega)
    have memE : ∀ y, (∃ p, p < m - 1 ∧ xE.1 p = y) ↔ (∃ p, p < m ∧ x0.1 p = y) ∧ y ≠ x := fun y => by
      constructor
      · rintro ⟨p, p1, p2⟩
        obtain ⟨-, -, w3, p', w4, w5⟩ := iE p (by omega) (by omega)
        exact ⟨⟨p', w4, by rw [w5, p2]⟩, by rw [← p2]; exact w3⟩
      · rintro ⟨⟨p, p1, p2⟩, hne⟩
        have := surj_T (xE := xE) (fun p hp => (val p hp).2) p0m p0x (fun p hp hne => ⟨(iE p hp hne).2.1, (iE p hp hne).2.2.1, (iE p hp hne).2.2.2⟩) p1 (fun e => hne (by rw [← p2, e, p0x]))
        rw [p2] at this; exact this
    have F1 : (gRow F E1) 1 = eR E1 := gRow_1
    have o0 : ∀ t, t < 5 → t ≠ s → oS (gRow F E1) t 0 = oS F t 0 := fun t t5 ht => by
      rw [R_0 F1 t5, R_0 hF t5]; unfold gt; rw [q8' _ _ (by omega) (by omega) (by omega)]
    have ocw : ∀ c w, c < 6 → w < 8 → (w ≠ 2 ∨ on c = false) → oC (gRow F E1) c w = oC F c w := fun c w hc hw hq => by
      rw [R_C F1 hc hw, R_C hF hc hw]
      have gg : ∀ l, (l ≠ 2 ∨ on c = false) → gt E1 (44 + c) l = gt E (44 + c) l := fun l hl => by
        unfold gt; rw [q8 _ _ (by omega) (by omega) (by omega) (by omega) (by
          rcases hl with w | w
          · exact .inr (.inl w)
          · exact .inr (.inr (fun g => by have := g.2; rw [Nat.add_sub_cancel_left, w] at this; cases this)))]
      unfold eV
      rw [q42, gg 1 (by omega), gg 6 (by omega), gg 7 (by omega), gg 3 (by omega), gg 4 (by omega), gg 5 (by omega)]
      by_cases w2 : w = 2
      · rw [gg 2 (hq.resolve_left (fun g => g w2) |> .inr)]
      · rw [if_neg w2, if_neg w2]
    have ocp : ∀ c, c < 6 → on c = true → oC (gRow F E1) c 2 = Int32.ofNat (cur p0 (m + 1) (ps c)) := fun c hc ho => (R_c F1 hc).2.2.1.trans (q7 c hc ho)
    have onE2 : ∀ c t, c < 6 → (onF (gRow F E1) c t ↔ onF F c t) := fun c t hc => by
      unfold onF; rw [ocw c 0 hc (by omega) (by omega), ocw c 3 hc (by omega) (by omega), ocw c 1 hc (by omega) (by omega)]
    have cC4 : ∀ c, c < 6 → ∀ l, (l ≠ 4 ∨ on c = false) → gt C2 (44 + c) l = gt C (44 + c) l := fun c hc l hl => by
      by_cases w : l = 4
      · have ho := hl.resolve_left (fun g => g w)
        rw [w, hC2, gt_ne (by omega), gt_ne (by omega)]
        exact c5 c hc ho
      · exact gC _ _ (by omega) (by omega) (by omega) (by omega) (by omega)
    have key := ev_P (v := bvE (nt1 E1 s N (Int32.ofNat (clk + 1)) (Int32.ofNat x) 1) s (m - 1)) (x := xE) (m := m - 1) (b := b) (by omega) h hF hK hclk hs k3 (fun j l h1 h2 => f1C j l (by omega) (by omega) (by omega) (by omega) (by omega)) (by rw [hC2, gt_eq]; exact stc) (by
        rw [hC2, gt_ne (by omega), gt_ne (by omega), c3.2.2, q4.2.2]) q8' q6 (by unfold gt; rw [q8 _ _ (by omega) (by omega) (by omega) (by omega) (.inl (by omega))]; exact hL.1) hL.1
      ⟨fun p hp => by rw [hC2, gt_ne (by omega), gt_ne (by omega)]; exact c3.1 p hp, fun z hz => by rw [hC2, gt_ne (by omega), gt_ne (by omega)]; exact c3.2.1 z hz, by rw [hC2, gt_ne (by omega), gt_ne (by omega)]; exact c3.2.2⟩ q4 bE (by rw [hC2, gt_ne (by omega), gt_eq]) q5 (by omega) (by
        rw [gC _ _ (by omega) (by omega) (by omega) (by omega) (by omega), sS.2.1, R_1 hF hs5]; unfold gt; rw [q8 _ _ (by omega) (by omega) (by omega) (by omega) (.inl (by omega))])
      (fun p hp => ⟨(iE p (by omega) (by omega)).1, (iE p (by omega) (by omega)).2.1⟩) (fun y hy hy2 => by
        have hm1 := (mem y hy).mpr ((memE y).mp hy2).1
        rw [gC _ _ (by omega) (by omega) (by omega) (by omega) (by omega), sS.2.2.2.2.1 y hy hm1, R_t hF hs5 hy]
        unfold gt; rw [q8 _ _ (by omega) (by omega) (by omega) (by omega) (.inl (by omega))]) rfl (fun y hy => by
        show bt (if (1 : Int32) = 2 then _ else if (1 : Int32) = 0 then _ else _) y = true ↔ _
        rw [if_neg (by decide), if_neg (by decide), bt_and, bt_not _ hy, bt_one _ (by omega) y hy, Bool.and_eq_true, hL.2.2.2.2.2 y hy, mem y hy, memE y, Bool.not_eq_true', decide_eq_false_iff_not])
      (fun c hc => ?_) ?_ q3
    · obtain ⟨w1, w2, w3, w4⟩ := key
      refine ⟨C4, _, dn (nw M' 103 6 6 (fun _ => .int 0)) M'.2.1 D', clk + 1, 1, eC, q1, ⟨rfl, Nat.le_succ _, Nat.le_refl _, Nat.le_refl _, fun q hq => ?_⟩, k2, ntE_ok q2 hs5, fun t ht => ?_, w1, w2, by omega, Nat.le_refl _, ?_, fun c hc l hl => ?_, fun _ => ⟨rfl, fun m' h1 h2 => ?_⟩, fun g => absurd hM g, w4, fun p1 _ hp1 hp64 p hp => ?_⟩
      · rw [dn_ne (by omega)]
        show (if q = M'.2.1 then _ else M'.1 q : vOb) = _
        rw [if_neg (by omega)]
      · rw [hapC_out k3 _ (by omega), f1C _ _ (by omega) (by omega) (by omega) (by omega) (by omega)]
      · funext l; rw [nt_row (by omega), q42]
      · rw [hapC_out k3 _ (by omega), f1C _ _ (by omega) (by omega) (by omega) (.inr hl) (by omega)]
      · have e : m = m' := (n_eq (by omega) (by omega)).mp (f0.symm.trans h1)
        subst e
        refine ⟨by omega, ?_⟩
        rw [R_0 gRow_1 hs5]
        unfold gt; rw [nt_0 (by omega)]; exact q5
      · have e : p1 = p0 := by
          rw [R_p hF hs5 (by omega), he0.2.1 x (by omega), z1] at hp1
          exact ((n_eq (by omega) (by omega)).mp hp1).symm
        subst e
        rw [R_m gRow_1 hs5 (by omega), R_m hF hs5 (by omega), he0.1 p (by omega)]
        rw [show gt (ntE E1 s N (Int32.ofNat (clk + 1)) (Int32.ofNat x) 1 (bvE (nt1 E1 s N (Int32.ofNat (clk + 1)) (Int32.ofNat x) 1) s (m - 1))) (2 + 8 * s + (0 + 1)) p = gt E1 (2 + 8 * s + (0 + 1)) p from by unfold gt; rw [nt_row (by omega)], q4.1 p (by omega), hxE]
        congr 1
        exact wkT_low _ _ _ _ (by omega) (by omega)
    · have hs1 := h.2.2.2.1 c hc
      by_cases ho : on c = true
      · have hon2 := (onF1 c).mp ho
        rcases hs1 with ⟨g1, -⟩ | ⟨g1, g2, g3', g4, g5, g6, g7, g8, g9, g10, g11, g12, g13, g14⟩
        · exact absurd hon2.1 (by rw [g1]; decide)
        · right
          have pc := psF c hc ho
          rw [ocw c 0 hc (by omega) (.inl (by omega)), ocw c 1 hc (by omega) (.inl (by omega)), ocw c 3 hc (by omega) (.inl (by omega)), ocw c 4 hc (by omega) (.inl (by omega)), ocw c 5 hc (by omega) (.inl (by omega)), ocw c 6 hc (by omega) (.inl (by omega)), ocw c 7 hc (by omega) (.inl (by omega)), ocp c hc ho]
          rw [cC4 c hc 0 (.inl (by omega)), cC4 c hc 1 (.inl (by omega)), cC4 c hc 2 (.inl (by omega)), cC4 c hc 3 (.inl (by omega)), cC4 c hc 5 (.inl (by omega)), cC4 c hc 6 (.inl (by omega)), cC4 c hc 7 (.inl (by omega))]
          exact ⟨g1, g2, g3', g4, g5, by rw [hC2, gt_ne (by omega), gt_ne (by omega)]; exact c4 c hc ho, g7, g8, g9, g10, g11, g12, ⟨_, by unfold cur; split <;> omega, rfl⟩, g14⟩
      · have ho' : on c = false := Bool.eq_false_iff.mpr ho
        exact simC_congr (fun w hw => ocw c w hc hw (.inr ho')) (fun l => cC4 c hc l (.inr ho')) hs1
    · intro c t p m' hc ht hon' hp hp64 hm' hm64
      have t5 : t < 5 := by omega
      have g := (onE2 c t hc).mp hon'
      by_cases e : t = s
      · subst e
        have ho := (onF1 c).mpr g
        rw [R_0 F1 t5, q5] at hm'
        have e1 := (n_eq (by omega) (by omega)).mp hm'
        rw [ocp c hc ho] at hp
        have pc := psF c hc ho
        have e2 := (n_eq (by unfold cur; split <;> omega) (by omega)).mp hp
        unfold cur at e2
        split at e2 <;> omega
      · have ho : on c = false := by
          cases e2 : on c
          · rfl
          · have := ((onF1 c).mp e2).2.2
            rw [g.2.2] at this
            exact absurd ((n_eq (by omega) (by omega)).mp this) e
        rw [ocw c 2 hc (by omega) (.inr ho)] at hp
        rw [o0 t t5 e] at hm'
        exact h.2.2.2.2.1 c t p m' hc ht g hp hp64 hm' hm64
  · refine ⟨C, E, M', clk, 0, c_takeOut_no hC hs5 sO sS hu (by omega) hM, e_remove_no hE hs5 hF sO hu (by omega) hM, ⟨rfl, Nat.le_refl _, by omega, by omega, fun _ _ => rfl⟩, hC, hE, fun _ _ => rfl, by rw [FF]; exact h, by rw [FF]; exact hK, Nat.le_refl _, by omega, rfl, fun _ _ _ _ => rfl, fun g => absurd g hM, fun _ => ⟨rfl, rfl, rfl, rfl⟩, fun _ _ _ _ _ => by rw [FF], fun _ g => absurd g hM⟩
end
