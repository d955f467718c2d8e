section
variable {M : vMe} {a r : Nat} {C F : Nat → Nat → Value}
theorem n_dec {k : Nat} (h : 1 ≤ k) : Int32.ofNat k + (-1) = Int32.ofNat (k - 1) := by
  have e : Int32.ofNat k = Int32.ofNat (k - 1) + 1 := by rw [l1, n_add, Nat.sub_add_cancel h]
  rw [e, Int32.add_assoc, show (1 : Int32) + (-1) = 0 from by decide, Int32.add_zero]
theorem r_ord {n : Nat} (hn : n < 6) : aI (rv M r F) (r + 6) 101 (Int32.ofNat n) = some (gt F 6 n) := r_aI (i := 6) (by decide) rfl hn
theorem r_ordS {n : Nat} {v : Int32} (h : rOk M r F) (hn : n < 6) : sA (rv M r F) (r + 6) 101 (Int32.ofNat n) (.int v) = some (rv M r (pu F 6 n (.int v))) := r_sA (i := 6) _ h (by decide) rfl hn
theorem rOk6 {n : Nat} {v : Value} (h : rOk M r F) : rOk M r (pu F 6 n v) := pu_ok h (.inl (by decide))
theorem gt_pu6 {n l i : Nat} {v : Value} (hi : i ≠ 6) : gt (pu F 6 n v) i l = gt F i l := gt_ne (.inl hi)
theorem pu_o {i k j : Nat} {v : Value} (hj : j ≠ i) : pu F i k v j = F j := by simp [pu, hj]
/-- the place of cursor c in the order -/
theorem r_ordL25 {c n : Nat} {sv cv0 : Int32} {od ps : Nat → Nat} (hc : c < 6) (hn : n < 6) : ∀ (k f : Nat) (F : Nat → Nat → Value), rOk M r F → k ≤ n → k < f → (∀ i, i < k → gt F 6 i = Int32.ofNat (od i)) → (∀ i, k < i → i ≤ n → gt F 6 i = Int32.ofNat (od (i - 1))) →
    (∀ i, k ≤ i → i < n → ps c < ps (od i)) → (∀ i, i < n → od i < 6 ∧ oC F (od i) 2 = Int32.ofNat (ps (od i)) ∧ ps (od i) ≤ 64) → oC F c 2 = Int32.ofNat (ps c) → ps c ≤ 64 →
    ∃ k' F1, tX10_orders_L25 r sv cv0 (Int32.ofNat c) f (Int32.ofNat k) (rv M r F) = some (Int32.ofNat k', rv M r F1) ∧ rOk M r F1 ∧ k' ≤ k ∧ (∀ i, i ≠ 6 → F1 i = F i) ∧ (∀ i, i < k' → gt F1 6 i = Int32.ofNat (od i)) ∧
      (∀ i, k' < i → i ≤ n → gt F1 6 i = Int32.ofNat (od (i - 1))) ∧ (∀ i, k' ≤ i → i < n → ps c < ps (od i)) ∧ (k' = 0 ∨ ps (od (k' - 1)) ≤ ps c) := by
  intro k
  induction k with
  | zero =>
    intro f F h hk hf h1 h2 h3 h4 h5 h6
    obtain ⟨f, rfl⟩ : ∃ g, f = g + 1 := ⟨f - 1, by omega⟩
    refine ⟨0, F, ?_, h, by omega, fun _ _ => rfl, h1, h2, h3, .inl rfl⟩
    rw [tX10_orders_L25, if_pos (by decide)]
  | succ k ih =>
    intro f F h hk hf h1 h2 h3 h4 h5 h6
    obtain ⟨f, rfl⟩ : ∃ g, f = g + 1 := ⟨f - 1, by omega⟩
    obtain ⟨d1, d2, d3⟩ := h4 k (by omega)
    rw [tX10_orders_L25, if_neg (fun g => by rw [l0] at g; have := (n_le (by omega) (by omega)).mp g; omega)]
    simp only [rA17 h, Option.bind_some, r_tag, if_true]
    rw [l1, n_sub (by omega), Nat.add_sub_cancel, r_ord (by omega), Option.bind_some, h1 k (by omega), l2, r_ofCursor h d1 (by omega), Option.bind_some, r_ofCursor h hc (by omega), Option.bind_some, d2, h5]
    by_cases g : ps (od k) ≤ ps c
    · rw [if_pos ((n_le (by omega) (by omega)).mpr g)]
      exact ⟨k + 1, F, rfl, h, by omega, fun _ _ => rfl, h1, h2, h3, .inr g⟩
    · rw [if_neg (fun q => g ((n_le (by omega) (by omega)).mp q)), Option.bind_some, r_ordS h (by omega), Option.bind_some, ← l1, n_dec (by omega), Nat.add_sub_cancel]
      obtain ⟨k', F1, e1, e2, e3, e4, e5, e6, e7, e8⟩ := ih f (pu F 6 (k + 1) (.int (Int32.ofNat (od k)))) (rOk6 h) (by omega) (by omega) (fun i hi => by rw [gt_ne (by omega)]; exact h1 i (by omega))
        (fun i hi hin => by
          by_cases e : i = k + 1
          · subst e; rw [gt_eq]; rfl
          · rw [gt_ne (by omega)]; exact h2 i (by omega) hin)
        (fun i hi hin => by
          by_cases e : i = k
          · subst e; omega
          · exact h3 i (by omega) hin)
        (fun i hi => by unfold oC; rw [gt_pu6 (by decide)]; exact h4 i hi) (by unfold oC; rw [gt_pu6 (by decide)]; exact h5) h6
      exact ⟨k', F1, e1, e2, by omega, fun i hi => by rw [e4 i hi, pu_o hi], e5, e6, e7, e8⟩
/-- od, the first n of it: the open cursors below c of set s, in the order of their positions -/
def isO (on : Nat → Bool) (ps : Nat → Nat) (c n : Nat) (od : Nat → Nat) : Prop :=
  (∀ i, i < n → od i < c ∧ on (od i) = true) ∧ (∀ d, d < c → on d = true → ∃ i, i < n ∧ od i = d) ∧ ∀ i j, i < j → j < n → ps (od i) ≤ ps (od j) ∧ od i ≠ od j
theorem r_ordL4 {s : Nat} {on : Nat → Bool} {ps : Nat → Nat} : ∀ (j f c n : Nat) (od : Nat → Nat) (F : Nat → Nat → Value), rOk M r F → c + j = 6 → j < f → n ≤ c → isO on ps c n od → (∀ i, i < n → gt F 6 i = Int32.ofNat (od i)) →
    (∀ d, d < 6 → (on d = true ↔ onF F d s)) → (∀ d, d < 6 → on d = true → oC F d 2 = Int32.ofNat (ps d) ∧ ps d ≤ 64) →
    ∃ t od1 F1, tX10_orders_L4 r (Int32.ofNat s) f (Int32.ofNat n) (Int32.ofNat c) (rv M r F) = some (Int32.ofNat t, rv M r F1) ∧ rOk M r F1 ∧ t ≤ 6 ∧ isO on ps 6 t od1 ∧ (∀ i, i < t → gt F1 6 i = Int32.ofNat (od1 i)) ∧ ∀ i, i ≠ 6 → F1 i = F i := by
  intro j
  induction j with
  | zero =>
    intro f c n od F h hc hf hn hO ho hon hps
    obtain ⟨f, rfl⟩ : ∃ g, f = g + 1 := ⟨f - 1, by omega⟩
    obtain rfl : c = 6 := by omega
    refine ⟨n, od, F, ?_, h, hn, hO, ho, fun _ _ => rfl⟩
    rw [tX10_orders_L4, if_pos (by rw [l6]; exact (n_le (by omega) (by omega)).mpr (by omega))]
  | succ j ih =>
    intro f c n od F h hc hf hn hO ho hon hps
    obtain ⟨f, rfl⟩ : ∃ g, f = g + 1 := ⟨f - 1, by omega⟩
    have hc6 : c < 6 := by omega
    rw [tX10_orders_L4, if_neg (by rw [l6]; exact fun g => by have := (n_le (by omega) (by omega)).mp g; omega)]
    simp only [r_tag, if_true]
    rw [r_isOn h hc6, Option.bind_some]
    obtain ⟨o1, o2, o3⟩ := hO
    by_cases g : onF F c s
    · have honc := (hon c hc6).mpr g
      rw [if_pos g, if_neg (by decide)]
      obtain ⟨pc1, pc2⟩ := hps c hc6 honc
      obtain ⟨k', F1, e1, e2, e3, e4, e5, e6, e7, e8⟩ := r_ordL25 (M := M) (r := r) (c := c) (n := n) (sv := Int32.ofNat s) (cv0 := Int32.ofNat n) (od := od) (ps := ps) hc6 (by omega) n vF F h (by omega) (by unfold vF; omega) ho (fun i h1 h2 => by omega) (fun i h1 h2 => by omega)
        (fun i hi => ⟨by have := (o1 i hi).1; omega, hps _ (by have := (o1 i hi).1; omega) (o1 i hi).2⟩) pc1 pc2
      rw [e1, Option.bind_some]
      obtain ⟨od2, hod2⟩ : ∃ od2 : Nat → Nat, od2 = fun i => if i < k' then od i else if i = k' then c else od (i - 1) := ⟨_, rfl⟩
      have q1 : ∀ i, i < k' → od2 i = od i := fun i hi => by rw [hod2]; exact if_pos hi
      have q2 : od2 k' = c := by rw [hod2]; show (if k' < k' then _ else _) = _; rw [if_neg (by omega), if_pos rfl]
      have q3 : ∀ i, k' < i → od2 i = od (i - 1) := fun i hi => by rw [hod2]; show (if i < k' then _ else _) = _; rw [if_neg (by omega), if_neg (by omega)]
      have hO2 : isO on ps (c + 1) (n + 1) od2 := by
        refine ⟨fun i hi => ?_, fun d hd hdo => ?_, fun i l hil hl => ?_⟩
        · rcases Nat.lt_trichotomy i k' with g1 | g1 | g1
          · rw [q1 i g1]; have := o1 i (by omega); exact ⟨by omega, this.2⟩
          · subst g1; rw [q2]; exact ⟨by omega, honc⟩
          · rw [q3 i g1]; have := o1 (i - 1) (by omega); exact ⟨by omega, this.2⟩
        · by_cases e : d = c
          · subst e; exact ⟨k', by omega, q2⟩
          · obtain ⟨i, i1, i2⟩ := o2 d (by omega) hdo
            by_cases g1 : i < k'
            · exact ⟨i, by omega, by rw [q1 i g1]; exact i2⟩
            · exact ⟨i + 1, by omega, by rw [q3 (i + 1) (by omega)]; exact i2⟩
        · rcases Nat.lt_trichotomy i k' with g1 | g1 | g1
          · rw [q1 i g1]
            rcases Nat.lt_trichotomy l k' with g2 | g2 | g2
            · rw [q1 l g2]; exact o3 i l hil (by omega)
            · subst g2; rw [q2]
              refine ⟨?_, by have := (o1 i (by omega)).1; omega⟩
              rcases e8 with e8 | e8
              · omega
              · by_cases e : i = l - 1
                · rw [e]; exact e8
                · have := (o3 i (l - 1) (by omega) (by omega)).1; omega
            · rw [q3 l g2]
              by_cases e : i = l - 1
              · omega
              · exact o3 i (l - 1) (by omega) (by omega)
          · subst g1; rw [q2, q3 l hil]
            have := e7 (l - 1) (by omega) (by omega)
            exact ⟨by omega, by have := (o1 (l - 1) (by omega)).1; omega⟩
          · rw [q3 i g1, q3 l (by omega)]; exact o3 (i - 1) (l - 1) (by omega) (by omega)
      have hk6 : k' < 6 := by omega
      obtain ⟨t, od1, F2, f1, f2, f3, f4, f5, f6⟩ := ih f (c + 1) (n + 1) od2 (pu F1 6 k' (.int (Int32.ofNat c))) (rOk6 e2) (by omega) (by omega) (by omega) hO2
        (fun i hi => by
          rcases Nat.lt_trichotomy i k' with g1 | g1 | g1
          · rw [gt_ne (by omega), q1 i g1]; exact e5 i g1
          · subst g1; rw [gt_eq, q2]
          · rw [gt_ne (by omega), q3 i g1]; exact e6 i g1 (by omega))
        (fun d hd => by unfold onF oC gt; rw [pu_o (by decide), e4 1 (by decide)]; exact hon d hd) (fun d hd hdo => by unfold oC gt; rw [pu_o (by decide), e4 1 (by decide)]; exact hps d hd hdo)
      refine ⟨t, od1, F2, ?_, f2, f3, f4, f5, fun i hi => by rw [f6 i hi, pu_o hi, e4 i hi]⟩
      rw [tX10_orders_J75_4, rA17 e2, Option.bind_some, r_ordS e2 hk6, Option.bind_some, tX10_orders_J86_4, l1, n_add, n_add]
      exact f1
    · rw [if_neg g, if_pos rfl, tX10_orders_J86_4, l1, n_add]
      exact ih f (c + 1) n od F h (by omega) (by omega) (by omega) ⟨fun i hi => ⟨by have := (o1 i hi).1; omega, (o1 i hi).2⟩, fun d hd hdo => by
        by_cases e : d = c
        · subst e; exact absurd ((hon d hc6).mp hdo) g
        · exact o2 d (by omega) hdo, o3⟩ ho hon hps
theorem r_orders {s : Nat} {on : Nat → Bool} {ps : Nat → Nat} (h : rOk M r F) (hon : ∀ d, d < 6 → (on d = true ↔ onF F d s)) (hps : ∀ d, d < 6 → on d = true → oC F d 2 = Int32.ofNat (ps d) ∧ ps d ≤ 64) :
    ∃ t od F1, tX10_orders r (Int32.ofNat s) (rv M r F) = some (Int32.ofNat t, rv M r F1) ∧ rOk M r F1 ∧ t ≤ 6 ∧ isO on ps 6 t od ∧ (∀ i, i < t → gt F1 6 i = Int32.ofNat (od i)) ∧ ∀ i, i ≠ 6 → F1 i = F i := by
  obtain ⟨t, od, F1, e1, e2, e3, e4, e5, e6⟩ := r_ordL4 (M := M) (r := r) (s := s) (on := on) (ps := ps) 6 vF 0 0 (fun _ => 0) F h (by omega) (by unfold vF; omega) (by omega) ⟨fun i hi => by omega, fun d hd => by omega, fun i j _ hj => by omega⟩ (fun i hi => by omega) hon hps
  exact ⟨t, od, F1, by rw [tX10_orders, l0, e1, Option.bind_some], e2, e3, e4, e5, e6⟩
/-- the reference's walk of the hole, cursor by cursor -/
theorem r_gl {s m t : Nat} {xv : Int32} {on : Nat → Bool} {ps od : Nat → Nat} (hs : s < 5) (hm : m ≤ 64) (ht : t ≤ 6) (hO : isO on ps 6 t od) : ∀ (j k f p h : Nat) (F : Nat → Nat → Value) (x : w_T), k + j = t → j < f → rOk M r F → hoF F s x → bT x →
    (∀ i, i < t → gt F 6 i = Int32.ofNat (od i)) → (∀ i, k ≤ i → i < t → oC F (od i) 2 = Int32.ofNat (ps (od i)) ∧ p ≤ ps (od i) ∧ ps (od i) ≤ m) → h < p → p ≤ m →
    (∀ q, p ≤ q → atQ on ps q = true → (∃ i, k ≤ i ∧ i < t ∧ ps (od i) = q) ∨ (q = p ∧ h = p - 1)) →
    ∃ h' F1 x', tX10_goes_L20 r (Int32.ofNat s) xv (Int32.ofNat t) f (Int32.ofNat h) (Int32.ofNat k) (rv M r F) = some (Int32.ofNat h', rv M r F1) ∧ rOk M r F1 ∧ h' < m ∧ hoF F1 s x' ∧ bT x' ∧ mvT x' (m - 1) h' = wkT (atQ on ps) m (m + 1 - p) p h x ∧
      (∀ i, k ≤ i → i < t → oC F1 (od i) 2 = Int32.ofNat (ps (od i) - 1)) ∧ (∀ l, l ≠ 5 → (l < aS s 6 ∨ aS s 134 ≤ l) → (∀ i, k ≤ i → i < t → l ≠ aC (od i) 2) → gt F1 1 l = gt F 1 l) ∧ ∀ i, i ≠ 1 → F1 i = F i := by
  intro j
  induction j with
  | zero =>
    intro k f p h F x hk hf hR hh b ho hps hhp hpm hQ
    obtain ⟨f, rfl⟩ : ∃ g, f = g + 1 := ⟨f - 1, by omega⟩
    refine ⟨h, F, x, ?_, hR, by omega, hh, b, ?_, fun i h1 h2 => by omega, fun _ _ _ _ => rfl, fun _ _ => rfl⟩
    · rw [tX10_goes_L20, if_pos ((n_le (by omega) (by omega)).mpr (by omega))]
    · rw [show m + 1 - p = 1 + (m - p) by omega, wkT_skip (m - p) 1 p h x (by omega) (fun q h1 h2 g => ?_), show p + (m - p) = m by omega, wkT, if_pos (.inr rfl), wkT]
      rcases hQ q h1 g with ⟨i, i1, i2, -⟩ | g2
      · omega
      · exact g2
  | succ j ih =>
    intro k f p h F x hk hf hR hh b ho hps hhp hpm hQ
    obtain ⟨f, rfl⟩ : ∃ g, f = g + 1 := ⟨f - 1, by omega⟩
    have hkt : k < t := by omega
    obtain ⟨d1, d2, d3⟩ := hps k (by omega) hkt
    have d6 := (hO.1 k hkt).1
    have don := (hO.1 k hkt).2
    obtain ⟨q, hq⟩ : ∃ q, q = ps (od k) := ⟨_, rfl⟩
    rw [← hq] at d1 d2 d3
    obtain ⟨F1, m1, m2, m3, m4, m5⟩ := r_mv (fr := q - 1) (h := h) hR hh b hs (by omega) (by omega)
    have eh : oC F1 (od k) 2 = Int32.ofNat q := by rw [oC, m4 _ (by unfold aC; omega) (by unfold aS aC; omega)]; exact d1
    rw [tX10_goes_L20, if_neg (fun g => by have := (n_le (by omega) (by omega)).mp g; omega), rA17 hR, Option.bind_some, r_ord (by omega), Option.bind_some, ho k hkt, if_pos r_tag, l2, r_ofCursor hR d6 (by omega), Option.bind_some, d1,
      if_pos ((n_lt (by omega) (by omega)).mpr (by omega)), if_pos r_tag, l1, n_sub (by omega), m1, Option.bind_some, rA17 m2, Option.bind_some, r_ord (by omega), Option.bind_some]
    rw [show gt F1 6 k = Int32.ofNat (od k) from by unfold gt; rw [m5 6 (by decide)]; exact ho k hkt, if_pos r_tag, r_setsCursor m2 d6 (by omega), Option.bind_some, tX10_goes_J81_20, l1, n_add]
    have bnd : ∀ i, i < t → od i < 6 := fun i hi => (hO.1 i hi).1
    have srt : ∀ i, k ≤ i → i < t → q ≤ ps (od i) := fun i h1 h2 => by
      by_cases e : i = k
      · rw [e, hq]; exact Nat.le_refl _
      · rw [hq]; exact (hO.2.2 k i (by omega) h2).1
    have oth : ∀ i, k < i → i < t → od i ≠ od k := fun i h1 h2 => ((hO.2.2 k i h1 h2).2).symm
    obtain ⟨h', F2, x', e1, e2, e3, e4, e5, e6, e7, e8, e9⟩ := ih (k + 1) f q (q - 1) (sC F1 (od k) 2 (Int32.ofNat (q - 1))) (mvT x (q - 1) h) (by omega) (by omega) (sC_ok m2)
      ⟨fun p' hp' => by rw [oS, sC, gt_pu, if_neg (by unfold aC aS; omega)]; exact m3.1 p' hp', fun y hy => by rw [oS, sC, gt_pu, if_neg (by unfold aC aS; omega)]; exact m3.2.1 y hy, by rw [sC, gt_pu, if_neg (by unfold aC; omega)]; exact m3.2.2⟩
      (mvT_b b (by omega) (by omega)) (fun i hi => by rw [sC, gt_pu, if_neg (by omega)]; unfold gt; rw [m5 6 (by decide)]; exact ho i hi)
      (fun i h1 h2 => by
        have := bnd i h2
        refine ⟨?_, srt i (by omega) h2, (hps i (by omega) h2).2.2⟩
        rw [oC_sC, if_neg (by have := oth i (by omega) h2; unfold aC; omega), oC, m4 _ (by unfold aC; omega) (by unfold aS aC; omega)]
        exact (hps i (by omega) h2).1)
      (by omega) d3
      (fun z h1 g => by
        rcases hQ z (by omega) g with ⟨i, i1, i2, i3⟩ | g2
        · by_cases e : i = k
          · subst e; exact .inr ⟨by omega, rfl⟩
          · exact .inl ⟨i, by omega, i2, i3⟩
        · exact .inr ⟨by omega, rfl⟩)
    refine ⟨h', F2, x', e1, e2, e3, e4, e5, ?_, fun i h1 h2 => ?_, fun l g1 g2 g3 => ?_, fun i hi => by rw [e9 i hi, sC, pu_o hi, m5 i hi]⟩
    · rw [e6, show m + 1 - p = (m + 1 - q) + (q - p) by omega, wkT_skip (q - p) (m + 1 - q) p h x (by omega) (fun z h1 h2 g => ?_), show p + (q - p) = q by omega, show m + 1 - q = (m - q) + 1 by omega]
      · have hat : atQ on ps q = true := atQ_iff.mpr ⟨od k, d6, don, hq.symm⟩
        rw [wkT, wkT, if_pos (.inl hat), if_pos (.inl hat), mvT_self]
      · rcases hQ z h1 g with ⟨i, i1, i2, i3⟩ | g2
        · have := srt i i1 i2; omega
        · exact g2
    · by_cases e : i = k
      · subst e
        rw [oC, e8 _ (by unfold aC; omega) (by unfold aS aC; omega) (fun i' g1 g2 => ?_)]
        · rw [sC, gt_pu, if_pos ⟨rfl, rfl⟩, hq]
        · have := oth i' (by omega) g2; unfold aC; omega
      · exact e7 i (by omega) h2
    · rw [e8 l g1 g2 (fun i h1 h2 => g3 i (by omega) h2), sC, gt_pu, if_neg (fun g => g3 k (by omega) hkt g.2), m4 l g1 g2]
theorem r_gl0 {s m t h0 : Nat} {xv : Int32} {on : Nat → Bool} {ps od : Nat → Nat} (hs : s < 5) (hm : m ≤ 64) (ht : t ≤ 6) (hO : isO on ps 6 t od) (hh0 : h0 < m) (hR : rOk M r F) {x : w_T} (hh : hoF F s x) (b : bT x)
    (ho : ∀ i, i < t → gt F 6 i = Int32.ofNat (od i)) (hps : ∀ i, i < t → oC F (od i) 2 = Int32.ofNat (ps (od i)) ∧ ps (od i) ≤ m) : ∀ (j k f : Nat), k + j = t → j < f → (∀ i, i < k → ps (od i) ≤ h0) →
    ∃ h' F1 x', tX10_goes_L20 r (Int32.ofNat s) xv (Int32.ofNat t) f (Int32.ofNat h0) (Int32.ofNat k) (rv M r F) = some (Int32.ofNat h', rv M r F1) ∧ rOk M r F1 ∧ h' < m ∧ hoF F1 s x' ∧ bT x' ∧ mvT x' (m - 1) h' = wkT (atQ on ps) m (m - h0) (h0 + 1) h0 x ∧
      (∀ c, c < 6 → on c = true → oC F1 c 2 = Int32.ofNat (cur h0 (m + 1) (ps c))) ∧ (∀ l, l ≠ 5 → (l < aS s 6 ∨ aS s 134 ≤ l) → (∀ c, c < 6 → on c = true → l ≠ aC c 2) → gt F1 1 l = gt F 1 l) ∧ ∀ i, i ≠ 1 → F1 i = F i := by
  have fin : ∀ (k f : Nat), k ≤ t → t - k < f → (∀ i, i < k → ps (od i) ≤ h0) → (∀ i, k ≤ i → i < t → h0 < ps (od i)) → 
      ∃ h' F1 x', tX10_goes_L20 r (Int32.ofNat s) xv (Int32.ofNat t) f (Int32.ofNat h0) (Int32.ofNat k) (rv M r F) = some (Int32.ofNat h', rv M r F1) ∧ rOk M r F1 ∧ h' < m ∧ hoF F1 s x' ∧ bT x' ∧ mvT x' (m - 1) h' = wkT (atQ on ps) m (m - h0) (h0 + 1) h0 x ∧
      (∀ c, c < 6 → on c = true → oC F1 c 2 = Int32.ofNat (cur h0 (m + 1) (ps c))) ∧ (∀ l, l ≠ 5 → (l < aS s 6 ∨ aS s 134 ≤ l) → (∀ c, c < 6 → on c = true → l ≠ aC c 2) → gt F1 1 l = gt F 1 l) ∧ ∀ i, i ≠ 1 → F1 i = F i := by
    intro k f hk hf h1 h2
    obtain ⟨h', F1, x', e1, e2, e3, e4, e5, e6, e7, e8, e9⟩ := r_gl (M := M) (r := r) (xv := xv) hs hm ht hO (t - k) k f (h0 + 1) h0 F x (by omega) hf hR hh b ho (fun i i1 i2 => ⟨(hps i i2).1, h2 i i1 i2, (hps i i2).2⟩) (by omega) (by omega)
      (fun q hq g => by
        obtain ⟨c, c1, c2, c3⟩ := atQ_iff.mp g
        obtain ⟨i, i1, i2⟩ := hO.2.1 c c1 c2
        refine .inl ⟨i, ?_, i1, by rw [i2]; exact c3⟩
        by_cases q2 : k ≤ i
        · exact q2
        · have := h1 i (by omega); rw [i2] at this; omega)
    refine ⟨h', F1, x', e1, e2, e3, e4, e5, by rw [e6, show m + 1 - (h0 + 1) = m - h0 by omega], fun c hc hon => ?_, fun l g1 g2 g3 => e8 l g1 g2 (fun i i1 i2 => g3 (od i) (hO.1 i i2).1 (hO.1 i i2).2), e9⟩
    obtain ⟨i, i1, i2⟩ := hO.2.1 c hc hon
    by_cases q : k ≤ i
    · rw [← i2, e7 i q i1]
      have := h2 i q i1
      have := (hps i i1).2
      unfold cur; rw [if_pos (by omega)]
    · have g := h1 i (by omega)
      rw [i2] at g
      have hc2 := (hps i i1).1
      rw [i2] at hc2
      rw [oC, e8 _ (by unfold aC; omega) (by unfold aS aC; omega) (fun i' g1 g2 => ?_)]
      · unfold cur; rw [if_neg (by omega)]; exact hc2
      · have : od i' ≠ c := fun e => by have := h2 i' g1 g2; rw [e] at this; omega
        unfold aC; omega
  intro j
  induction j with
  | zero =>
    intro k f hk hf h1
    exact fin k f (by omega) (by omega) h1 (fun i i1 i2 => by omega)
  | succ j ih =>
    intro k f hk hf h1
    have hkt : k < t := by omega
    by_cases g : ps (od k) ≤ h0
    · obtain ⟨f, rfl⟩ : ∃ g, f = g + 1 := ⟨f - 1, by omega⟩
      obtain ⟨d1, d2⟩ := hps k hkt
      rw [tX10_goes_L20, if_neg (fun g => by have := (n_le (by omega) (by omega)).mp g; omega), rA17 hR, Option.bind_some, r_ord (by omega), Option.bind_some, ho k hkt, if_pos r_tag, l2, r_ofCursor hR (hO.1 k hkt).1 (by omega), Option.bind_some, d1,
        if_neg (fun q => by have := (n_lt (by omega) (by omega)).mp q; omega), tX10_goes_J81_20, l1, n_add]
      exact ih (k + 1) f (by omega) (by omega) (fun i hi => by
        by_cases e : i = k
        · rw [e]; exact g
        · exact h1 i (by omega))
    · exact fin k f (by omega) (by omega) h1 (fun i i1 i2 => by
        by_cases e : i = k
        · rw [e]; omega
        · have := (hO.2.2 k i (by omega) i2).1; omega)
end
