section
variable {M : vMe} {b u hz s y n : Nat} {E F : Nat → Nat → Value} {D : Nat → Value}
def hoE (E : Nat → Nat → Value) (s : Nat) (x : w_T) : Prop := (∀ p, p < 64 → gt E (2 + 8 * s + (0 + 1)) p = Int32.ofNat (x.1 p)) ∧ (∀ y, y < 64 → gt E (2 + 8 * s + (1 + 1)) y = Int32.ofNat (x.2.1 y)) ∧ gt E 0 4 = x.2.2
theorem hoE_u {x : w_T} {c k : Nat} {v : Value} (h : hoE E s x) (hs : s < 5) : hoE (pu E (44 + c) k v) s x := ⟨fun p hp => by rw [gt_ne (by omega)]; exact h.1 p hp, fun z hz => by rw [gt_ne (by omega)]; exact h.2.1 z hz, by rw [gt_ne (by omega)]; exact h.2.2⟩
/-- a member moved from place fr into the hole -/
theorem hoE_mv {x : w_T} {fr hl : Nat} (h : hoE E s x) (hs : s < 5) (hne : fr ≠ hl) : hoE (puL E s (x.1 fr) hl) s (mvT x fr hl) := by
  unfold mvT
  rw [if_neg hne]
  refine ⟨fun p hp => ?_, fun z hz => ?_, ?_⟩
  · show _ = Int32.ofNat (if p = hl then x.1 fr else x.1 p)
    rw [puL, gt_ne (by omega), gt_ne (by omega)]
    by_cases e : p = hl
    · rw [if_pos e, e]; exact gt_eq _ _ _
    · rw [if_neg e, gt_ne (by omega)]; exact h.1 p hp
  · show _ = Int32.ofNat (if z = x.1 fr then hl else x.2.1 z)
    rw [puL, gt_ne (by omega)]
    by_cases e : z = x.1 fr
    · rw [if_pos e, e]; exact gt_eq _ _ _
    · rw [if_neg e, gt_ne (by omega), gt_ne (by omega)]; exact h.2.1 z hz
  · show _ = x.2.2 + 2
    rw [puL, gt_eq, h.2.2]
theorem okU_pu {i k : Nat} {v : Value} (h : okU b E n) (hi : i ≠ 42 ∧ (i < 44 ∨ (k ≠ 0 ∧ k ≠ 1 ∧ k ≠ 6 ∧ k ≠ 7))) : okU b (pu E i k v) n := fun c hc => by
  rcases h c hc with g | ⟨q, t, g1, g2, g3, g4, g5, g6⟩
  · exact .inl (by rw [pu_ne (by omega)]; exact g)
  · refine .inr ⟨q, t, by rw [pu_ne (by omega)]; exact g1, g2, by rw [pu_ne (by omega)]; exact g3, by rw [gt_ne (by omega)]; exact g4, by rw [gt_ne (by omega)]; exact g5, by rw [gt_ne (by omega)]; exact g6⟩
theorem onB_pu {i k c : Nat} {v : Value} (hi : i ≠ 42 ∧ (i < 44 ∨ (k ≠ 0 ∧ k ≠ 6))) : onB b (pu E i k v) s c ↔ onB b E s c := by
  unfold onB; rw [pu_ne (by omega), gt_ne (by omega), pu_ne (by omega)]
theorem okU_puL {x p : Nat} (h : okU b E n) (hs : s < 5) : okU b (puL E s x p) n := okU_pu (okU_pu (okU_pu h (by omega)) (by omega)) (by omega)
theorem onB_puL {x p c : Nat} (hs : s < 5) : onB b (puL E s x p) s c ↔ onB b E s c := (onB_pu (by omega)).trans ((onB_pu (by omega)).trans (onB_pu (by omega)))
def unD (on : Nat → Bool) (D : Nat → Value) : Nat → Bool := fun c => on c && decide (vI (D c) = 0)
theorem unD_iff {on : Nat → Bool} {c : Nat} : unD on D c = true ↔ on c = true ∧ vI (D c) = 0 := by simp [unD]
theorem sumU_0 {f : Nat → Bool} : ∀ j k, sumU f j k = 0 → ∀ i, k ≤ i → i < k + j → f i = false := by
  intro j
  induction j with
  | zero => intro k _ i h1 h2; omega
  | succ j ih =>
    intro k h i h1 h2
    rw [sumU] at h
    by_cases e : i = k
    · rw [e]
      by_cases g : f k = true
      · rw [if_pos g] at h; omega
      · exact Bool.eq_false_iff.mpr g
    · exact ih (k + 1) (by omega) i (by omega) (by omega)
/-- the walk of the law's hole over the cursors, the nearest first -/
theorem e_rm_L {m h0 n0 s0 : Nat} {xv : Int32} {on : Nat → Bool} {ps : Nat → Nat} (hs : s < 5) (hm : m ≤ 64) (hh0 : h0 < m) (hyM : M.2.2.2 ≤ y) (hn0 : M.2.1 ≤ n0 + 1 ∧ M.2.2.1 ≤ s0 + 6) : ∀ (j f r p h : Nat) (E : Nat → Nat → Value) (D : Nat → Value) (x : w_T), r + j = 6 → j < f → eOk M b E → ¬ eA b E y → okU b E n → hoE E s x → bT x →
    (∀ c, c < 6 → (on c = true ↔ onB b E s c)) → (∀ c, c < 6 → on c = true → vI (D c) = 0 → gt E (44 + c) 2 = Int32.ofNat (ps c) ∧ ps c ≤ m) → sumU (unD on D) 6 0 ≤ j → h < p → p ≤ m →
    ((∀ c, c < 6 → on c = true → vI (D c) = 0 → p ≤ ps c) ∧ h0 < p ∨ (h = h0 ∧ p = h0 + 1)) →
    (∀ q, p ≤ q → atQ on ps q = true → (∃ c, c < 6 ∧ on c = true ∧ vI (D c) = 0 ∧ ps c = q) ∨ (q = p ∧ h = p - 1)) →
    ∃ h' E1 x' D', tX12_remove_L26 n0 s0 b (b + (2 + 8 * s)) xv y f (Int32.ofNat h) (Int32.ofNat r) (ew (dn M y D) b E) = some (Int32.ofNat h', ew (dn M y D') b E1) ∧ h' < m ∧ eOk M b E1 ∧ okU b E1 n ∧ hoE E1 s x' ∧ bT x' ∧ mvT x' (m - 1) h' = wkT (atQ on ps) m (m + 1 - p) p h x ∧
      (∀ c, c < 6 → on c = true → vI (D c) = 0 → gt E1 (44 + c) 2 = Int32.ofNat (cur h0 (m + 1) (ps c))) ∧ ∀ i l, i ≠ 2 + 8 * s + (0 + 1) → i ≠ 2 + 8 * s + (1 + 1) → (i ≠ 0 ∨ l ≠ 4) → (i < 44 ∨ l ≠ 2 ∨ ¬ (i < 50 ∧ on (i - 44) = true ∧ vI (D (i - 44)) = 0)) → E1 i l = E i l := by
  have fin : ∀ (p h : Nat) (D : Nat → Value) (x : w_T), p ≤ m → (∀ c, c < 6 → ¬ (on c = true ∧ vI (D c) = 0)) → (∀ q, p ≤ q → atQ on ps q = true → (∃ c, c < 6 ∧ on c = true ∧ vI (D c) = 0 ∧ ps c = q) ∨ (q = p ∧ h = p - 1)) → mvT x (m - 1) h = wkT (atQ on ps) m (m + 1 - p) p h x := by
    intro p h D x hpm hno hQ
    rw [show m + 1 - p = 1 + (m - p) by omega, wkT_skip (m - p) 1 p h x (by omega) (fun q h1 h2 g => ?_), show p + (m - p) = m by omega, wkT, if_pos (.inr rfl), wkT]
    rcases hQ q h1 g with ⟨c, c1, c2, c3, -⟩ | g2
    · exact absurd ⟨c2, c3⟩ (hno c c1)
    · exact g2
  intro j
  induction j with
  | zero =>
    intro f r p h E D x hr hf hE hy hU hh b' hon hps hcnt hhp hpm hI hQ
    obtain ⟨f, rfl⟩ : ∃ g, f = g + 1 := ⟨f - 1, by omega⟩
    have hno : ∀ c, c < 6 → ¬ (on c = true ∧ vI (D c) = 0) := fun c hc g => by
      have := sumU_0 (f := unD on D) 6 0 (by omega) c (by omega) (by omega)
      rw [unD_iff.mpr g] at this; cases this
    refine ⟨h, E, x, D, ?_, by omega, hE, hU, hh, b', fin p h D x hpm hno hQ, fun c c1 c2 c3 => absurd ⟨c2, c3⟩ (hno c c1), fun _ _ _ _ _ _ => rfl⟩
    rw [tX12_remove_L26, if_pos (by rw [l6]; exact (n_le (by omega) (by omega)).mpr (by omega))]
  | succ j ih =>
    intro f r p h E D x hr hf hE hy hU hh b' hon hps hcnt hhp hpm hI hQ
    obtain ⟨f, rfl⟩ : ∃ g, f = g + 1 := ⟨f - 1, by omega⟩
    obtain ⟨bs, b1, b2⟩ := e_best (M := M) (D := D) (n0 := n0) (s0 := s0) (xv := xv) (hv := Int32.ofNat h) (rv := Int32.ofNat r) (on := on) (ps := ps) hE hy hU hon (fun c c1 c2 c3 => ⟨(hps c c1 c2 c3).1, by have := (hps c c1 c2 c3).2; omega⟩) 6 vF (-1) (Nat.le_refl _) (by unfold vF; omega) (.inl ⟨rfl, fun c c1 c2 => by omega⟩)
    have b1' : tX12_remove_L39 n0 s0 b (b + (2 + 8 * s)) xv (Int32.ofNat h) y (Int32.ofNat r) vF (-1) 5 (ew (dn M y D) b E) = some (bs, ew (dn M y D) b E) := b1
    rw [tX12_remove_L26, if_neg (by rw [l6]; exact fun g => by have := (n_le (by omega) (by omega)).mp g; omega), b1', Option.bind_some]
    rcases b2 with ⟨rfl, hno⟩ | ⟨e, rfl, e6, eon, ed, emin⟩
    · rw [if_neg (show ¬ (0 : Int32) ≤ -1 by decide)]
      exact ⟨h, E, x, D, rfl, by omega, hE, hU, hh, b', fin p h D x hpm hno hQ, fun c c1 c2 c3 => absurd ⟨c2, c3⟩ (hno c c1), fun _ _ _ _ _ _ => rfl⟩
    · obtain ⟨D1, hD1⟩ : ∃ D1, D1 = updV D e (.int (1 &&& 1)) := ⟨_, rfl⟩
      have d1e : vI (D1 e) = 1 := by rw [hD1]; simp [updV, vI]
      have d1o : ∀ c, c ≠ e → D1 c = D c := fun c hc => by rw [hD1]; simp [updV, hc]
      have cnt1 : sumU (unD on D) 6 0 = sumU (unD on D1) 6 0 + 1 := sumU_ins (x := e) 6 0 (by omega) (by omega) (by unfold unD; rw [d1e]; simp) (unD_iff.mpr ⟨eon, ed⟩) (fun i _ hi => by unfold unD; rw [d1o i hi]) (by omega)
      obtain ⟨q, q1, q2, q3⟩ := (hon e e6).mp eon
      obtain ⟨p1, p2⟩ := hps e e6 eon ed
      rw [if_pos (by rw [l0]; exact (n_le (by omega) (by omega)).mpr (by omega)), d_sA hE hyM hy e6, Option.bind_some, ← hD1, e_A7 (eOk_dn hE), Option.bind_some, e_cA e6 q1, Option.bind_some, e_vI (eOk_dn hE) e6 q1, Option.bind_some, p1]
      by_cases ch : h < ps e
      · -- the cursor goes one place back, and pulls a member into the hole
        obtain ⟨E1, hE1⟩ : ∃ E1, E1 = pu E (44 + e) 2 (.int (Int32.ofNat (ps e - 1))) := ⟨_, rfl⟩
        have o1 : eOk M b E1 := hE1 ▸ eOk_pu hE eFrU
        have y1 : ¬ eA b E1 y := by rw [hE1]; unfold eA; simp only [pu_ne (C := E) (i := 44 + e) (k := 2) (j := 42) (.inl (by omega))]; exact hy
        have U1 : okU b E1 n := hE1 ▸ okU_pu hU (by omega)
        have r1 : E1 42 e = .ref q := by rw [hE1, pu_ne (by omega)]; exact q1
        have on1 : ∀ c, c < 6 → (on c = true ↔ onB b E1 s c) := fun c hc => (hon c hc).trans (by rw [hE1]; exact (onB_pu (by omega)).symm)
        have hh1 : hoE E1 s x := hE1 ▸ hoE_u hh hs
        have pp : p ≤ ps e ∧ h0 < ps e ∧ ∀ c, c < 6 → on c = true → vI (D c) = 0 → ps e ≤ ps c := by
          refine ⟨?_, ?_, emin⟩
          · rcases hI with ⟨w, -⟩ | ⟨w1, w2⟩
            · exact w e e6 eon ed
            · omega
          · rcases hI with ⟨w, w2⟩ | ⟨w1, w2⟩
            · have := w e e6 eon ed; omega
            · omega
        obtain ⟨pp1, pp2, pp3⟩ := pp
        have step : ∀ (E2 : Nat → Nat → Value), eOk M b E2 → ¬ eA b E2 y → okU b E2 n → hoE E2 s (mvT x (ps e - 1) h) → (∀ c, c < 6 → (on c = true ↔ onB b E2 s c)) → E2 42 e = .ref q → (∀ i l, i ≠ 2 + 8 * s + (0 + 1) → i ≠ 2 + 8 * s + (1 + 1) → (i ≠ 0 ∨ l ≠ 4) → E2 i l = E1 i l) →
            ∃ h' E3 x' D', tX12_remove_J210_26 (tX12_remove_L26 n0 s0 b (b + (2 + 8 * s)) xv y f) n0 s0 b (b + (2 + 8 * s)) xv y (Int32.ofNat r) q (ew (dn M y D1) b E2) = some (Int32.ofNat h', ew (dn M y D') b E3) ∧ h' < m ∧ eOk M b E3 ∧ okU b E3 n ∧ hoE E3 s x' ∧ bT x' ∧ mvT x' (m - 1) h' = wkT (atQ on ps) m (m + 1 - p) p h x ∧
              (∀ c, c < 6 → on c = true → vI (D c) = 0 → gt E3 (44 + c) 2 = Int32.ofNat (cur h0 (m + 1) (ps c))) ∧ ∀ i l, i ≠ 2 + 8 * s + (0 + 1) → i ≠ 2 + 8 * s + (1 + 1) → (i ≠ 0 ∨ l ≠ 4) → (i < 44 ∨ l ≠ 2 ∨ ¬ (i < 50 ∧ on (i - 44) = true ∧ vI (D (i - 44)) = 0)) → E3 i l = E i l := by
          intro E2 o2 y2 U2 hh2 on2 r2 fr2
          have g2 : gt E2 (44 + e) 2 = Int32.ofNat (ps e - 1) := by unfold gt; rw [fr2 _ _ (by omega) (by omega) (by omega), hE1, pu_eq]; rfl
          have gc : ∀ c, c < 6 → c ≠ e → gt E2 (44 + c) 2 = gt E (44 + c) 2 := fun c hc hne => by unfold gt; rw [fr2 _ _ (by omega) (by omega) (by omega), hE1, pu_ne (by omega)]
          rw [tX12_remove_J210_26, e_vI (eOk_dn o2) e6 r2, Option.bind_some, g2, tX12_remove_J216_26, n_succ]
          have un1 : ∀ c, c < 6 → on c = true → vI (D1 c) = 0 → c ≠ e ∧ vI (D c) = 0 := fun c c1 c2 c3 => by
            have hne : c ≠ e := fun w => by rw [w, d1e] at c3; exact absurd c3 (by decide)
            exact ⟨hne, by rw [← d1o c hne]; exact c3⟩
          obtain ⟨h', E3, x', D', k1, k2, k3, k4, k5, k6, k7, k8, k9⟩ := ih f (r + 1) (ps e) (ps e - 1) E2 D1 (mvT x (ps e - 1) h) (by omega) (by omega) o2 y2 U2 hh2 (mvT_b b' (by omega) (by omega)) on2
            (fun c c1 c2 c3 => by
              obtain ⟨w1, w2⟩ := un1 c c1 c2 c3
              rw [gc c c1 w1]; exact hps c c1 c2 w2) (by omega) (by omega) (by omega) (.inl ⟨fun c c1 c2 c3 => pp3 c c1 c2 (un1 c c1 c2 c3).2, pp2⟩)
            (fun z h1 g => by
              rcases hQ z (by omega) g with ⟨c, c1, c2, c3, c4⟩ | g2
              · by_cases w : c = e
                · subst w; exact .inr ⟨c4.symm, rfl⟩
                · exact .inl ⟨c, c1, c2, by rw [d1o c w]; exact c3, c4⟩
              · exact .inr ⟨by omega, rfl⟩)
          refine ⟨h', E3, x', D', k1, k2, k3, k4, k5, k6, ?_, fun c c1 c2 c3 => ?_, fun i l i1 i2 i3 i4 => ?_⟩
          · rw [k7, show m + 1 - p = (m + 1 - ps e) + (ps e - p) by omega, wkT_skip (ps e - p) (m + 1 - ps e) p h x (by omega) (fun z h1 h2 g => ?_), show p + (ps e - p) = ps e by omega, show m + 1 - ps e = (m - ps e) + 1 by omega]
            · have hat : atQ on ps (ps e) = true := atQ_iff.mpr ⟨e, e6, eon, rfl⟩
              rw [wkT, wkT, if_pos (.inl hat), if_pos (.inl hat), mvT_self]
            · rcases hQ z h1 g with ⟨c, c1, c2, c3, c4⟩ | g2
              · have := pp3 c c1 c2 c3; omega
              · exact g2
          · by_cases w : c = e
            · subst w
              have : E3 (44 + c) 2 = E2 (44 + c) 2 := k9 _ _ (by omega) (by omega) (by omega) (.inr (.inr (fun g => by have := g.2.2; rw [Nat.add_sub_cancel_left, d1e] at this; exact absurd this (by decide))))
              rw [show gt E3 (44 + c) 2 = gt E2 (44 + c) 2 from by unfold gt; rw [this], g2]
              unfold cur; rw [if_pos (by omega)]
            · exact k8 c c1 c2 (by rw [d1o c w]; exact c3)
          · rw [k9 i l i1 i2 i3 (by
              rcases i4 with g | g | g
              · exact .inl g
              · exact .inr (.inl g)
              · refine .inr (.inr (fun w => g ⟨w.1, w.2.1, ?_⟩))
                by_cases hie : i - 44 = e
                · rw [hie] at w ⊢; exact ed
                · rw [← d1o _ hie]; exact w.2.2), fr2 i l i1 i2 i3, hE1]
            by_cases hie : i = 44 + e ∧ l = 2
            · obtain ⟨rfl, rfl⟩ := hie
              exact absurd i4 (by
                rintro (g | g | g)
                · omega
                · exact g rfl
                · exact g ⟨by omega, by rw [Nat.add_sub_cancel_left]; exact eon, by rw [Nat.add_sub_cancel_left]; exact ed⟩)
            · rw [pu_ne (by omega)]
        rw [if_pos ((n_lt (by omega) (by omega)).mpr ch), Option.bind_some, n_pred (by omega), e_vV (eOk_dn hE) e6 q1, Option.bind_some, ← hE1, e_vI (eOk_dn o1) e6 r1, Option.bind_some, show gt E1 (44 + e) 2 = Int32.ofNat (ps e - 1) from by rw [hE1, gt_eq]]
        by_cases cq : ps e - 1 = h
        · rw [if_pos (by rw [cq])]
          refine step E1 o1 y1 U1 ?_ on1 r1 (fun _ _ _ _ _ => rfl)
          rw [cq, mvT_self]; exact hh1
        · have hn1 : (x.1 (ps e - 1)) < 64 := b'.1 _ (by omega)
          have er : gt E1 (2 + 8 * s + (0 + 1)) (ps e - 1) = Int32.ofNat (x.1 (ps e - 1)) := hh1.1 _ (by omega)
          rw [if_neg (fun g => cq ((n_eq (by omega) (by omega)).mp g)), e_bA (eOk_dn o1) hs (by omega), Option.bind_some, Option.bind_some, e_mI hs (by omega) (by omega), Option.bind_some, er, if_pos (show (ew (dn M y D1) b E1).2.1 + 0 ≤ n0 + 1 ∧ (ew (dn M y D1) b E1).2.2.1 + 0 ≤ s0 + 6 from hn0), if_pos e_t0, e_put (eOk_dn o1) hs hn1 (by omega), Option.bind_some]
          refine step (puL E1 s (x.1 (ps e - 1)) h) (puL_ok o1 hs) ?_ (okU_puL U1 hs) (hoE_mv hh1 hs cq) (fun c hc => (on1 c hc).trans (onB_puL hs).symm) ?_ (fun i l i1 i2 i3 => ?_)
          · unfold eA puL; simp only [pu_ne (C := _) (j := 42) (i := 0) (.inl (by omega)), pu_ne (C := _) (j := 42) (i := 2 + 8 * s + (1 + 1)) (.inl (by omega)), pu_ne (C := _) (j := 42) (i := 2 + 8 * s + (0 + 1)) (.inl (by omega))]; exact y1
          · unfold puL; rw [pu_ne (by omega), pu_ne (by omega), pu_ne (by omega)]; exact r1
          · unfold puL; rw [pu_ne (by omega), pu_ne (by omega), pu_ne (by omega)]
      · -- the cursor stands ahead of the hole
        rw [if_neg (fun g => ch ((n_lt (by omega) (by omega)).mp g)), tX12_remove_J216_26, n_succ]
        have hI2 : h = h0 ∧ p = h0 + 1 := by
          rcases hI with ⟨w, -⟩ | w
          · have := w e e6 eon ed; omega
          · exact w
        have un1 : ∀ c, c < 6 → on c = true → vI (D1 c) = 0 → c ≠ e ∧ vI (D c) = 0 := fun c c1 c2 c3 => by
          have hne : c ≠ e := fun w => by rw [w, d1e] at c3; exact absurd c3 (by decide)
          exact ⟨hne, by rw [← d1o c hne]; exact c3⟩
        obtain ⟨h', E3, x', D', k1, k2, k3, k4, k5, k6, k7, k8, k9⟩ := ih f (r + 1) p h E D1 x (by omega) (by omega) hE hy hU hh b' hon (fun c c1 c2 c3 => hps c c1 c2 (un1 c c1 c2 c3).2) (by omega) hhp hpm (.inr hI2)
          (fun z h1 g => by
            rcases hQ z h1 g with ⟨c, c1, c2, c3, c4⟩ | g2
            · by_cases w : c = e
              · subst w; omega
              · exact .inl ⟨c, c1, c2, by rw [d1o c w]; exact c3, c4⟩
            · exact .inr g2)
        refine ⟨h', E3, x', D', k1, k2, k3, k4, k5, k6, k7, fun c c1 c2 c3 => ?_, fun i l i1 i2 i3 i4 => ?_⟩
        · by_cases w : c = e
          · subst w
            have : E3 (44 + c) 2 = E (44 + c) 2 := k9 _ _ (by omega) (by omega) (by omega) (.inr (.inr (fun g => by have := g.2.2; rw [Nat.add_sub_cancel_left, d1e] at this; exact absurd this (by decide))))
            rw [show gt E3 (44 + c) 2 = gt E (44 + c) 2 from by unfold gt; rw [this], p1]
            unfold cur; rw [if_neg (by omega)]
          · exact k8 c c1 c2 (by rw [d1o c w]; exact c3)
        · refine k9 i l i1 i2 i3 ?_
          rcases i4 with g | g | g
          · exact .inl g
          · exact .inr (.inl g)
          · refine .inr (.inr (fun w => g ⟨w.1, w.2.1, ?_⟩))
            by_cases hie : i - 44 = e
            · rw [hie]; exact ed
            · rw [← d1o _ hie]; exact w.2.2
end
