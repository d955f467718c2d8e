section
variable {M : vMe} {b u hz s n : Nat} {E F : Nat → Nat → Value} {D : Nat → Value}
theorem ew_nw {tg len sl : Nat} {f : Nat → Value} (h : eOk M b E) (hq : ¬ eA b E M.2.1) : nw (ew M b E) tg len sl f = ew (nw M tg len sl f) b E := by
  refine Prod.ext (funext fun z => ?_) rfl
  show (if z = M.2.1 then _ else (ew M b E).1 z : vOb) = _
  by_cases hz : z = M.2.1
  · subst hz
    rw [if_pos rfl, ew_out (M := nw M tg len sl f) h hq]
    show _ = (if M.2.1 = M.2.1 then _ else _ : vOb)
    rw [if_pos rfl]
  · rw [if_neg hz]
    by_cases ha : eA b E z
    · show (if b ≤ z ∧ z < b + 44 then _ else _ : vOb) = (if b ≤ z ∧ z < b + 44 then _ else _ : vOb)
      by_cases hb : b ≤ z ∧ z < b + 44
      · rw [if_pos hb, if_pos hb]
      · rw [if_neg hb, if_neg hb]
        rcases ha with g | ⟨c, hc, g⟩
        · exact absurd g hb
        · rw [eC_of h hc g]
    · rw [ew_out h ha, ew_out (M := nw M tg len sl f) h ha]
      show _ = (if z = M.2.1 then _ else _ : vOb)
      rw [if_neg hz]
theorem dn_nw {f : Nat → Value} : dn (nw M 103 6 6 f) M.2.1 f = nw M 103 6 6 f := by
  refine Prod.ext (funext fun z => ?_) rfl
  show (if z = M.2.1 then _ else _ : vOb) = _
  by_cases hz : z = M.2.1
  · rw [if_pos hz]
    show _ = (if z = M.2.1 then _ else _ : vOb)
    rw [if_pos hz]
  · rw [if_neg hz]
/-- what the law's box is before the event of a member that goes -/
theorem e_remove {m N x p0 : Nat} {x0 : w_T} {on : Nat → Bool} {ps : Nat → Nat} (h : eOk M b E) (hs : s < 5) (hU : okU b E n) (hF : F 1 = eR E) (hO : okS F u hz s) (hu : u ≤ 64) (hx : x < 64) (hM : isM F s x) (hh : hoE E s x0) (hb : bT x0) (hp0 : x0.2.1 x = p0) (hpm : p0 < m) (hm : gt E (2 + 8 * s) 0 = Int32.ofNat m) (hm64 : m ≤ 64) (hN : gt E (2 + 8 * s) 2 = Int32.ofNat N) (hN2 : N < 2000)
    (hon : ∀ c, c < 6 → (on c = true ↔ onB b E s c)) (hps : ∀ c, c < 6 → on c = true → gt E (44 + c) 2 = Int32.ofNat (ps c) ∧ ps c ≤ m) (hq : ¬ eA b E M.2.1) (hbM : M.2.2.2 ≤ M.2.1) :
    ∃ E1 D', tX12_remove b (b + (2 + 8 * s)) (Int32.ofNat x) (ew M b E) = some (1, ew (dn (nw M 103 6 6 (fun _ => .int 0)) M.2.1 D') b (ntE E1 s N (gt E 0 3 + 1) (Int32.ofNat x) 1 (bvE (nt1 E1 s N (gt E 0 3 + 1) (Int32.ofNat x) 1) s (m - 1)))) ∧ eOk M b E1 ∧ okU b E1 n ∧ hoE E1 s (wkT (atQ on ps) m (m - p0) (p0 + 1) p0 x0) ∧ gt E1 (2 + 8 * s) 0 = Int32.ofNat (m - 1) ∧ gt E1 0 3 = gt E 0 3 + 1 ∧
      (∀ c, c < 6 → on c = true → gt E1 (44 + c) 2 = Int32.ofNat (cur p0 (m + 1) (ps c))) ∧ ∀ i l, i ≠ 2 + 8 * s + (0 + 1) → i ≠ 2 + 8 * s + (1 + 1) → (i ≠ 0 ∨ (l ≠ 4 ∧ l ≠ 3)) → (i ≠ 2 + 8 * s ∨ l ≠ 0) → (i < 44 ∨ l ≠ 2 ∨ ¬ (i < 50 ∧ on (i - 44) = true)) → E1 i l = E i l := by
  obtain ⟨M1, hM1⟩ : ∃ M1, M1 = nw M 103 6 6 (fun _ => Value.int 0) := ⟨_, rfl⟩
  have h1 : eOk M1 b E := hM1 ▸ h
  have oM : ∀ E', eOk M1 b E' → eOk M b E' := fun E' h => by rw [hM1] at h; exact h
  have hcn : ∀ (D' : Nat → Value) (E' : Nat → Nat → Value), (ew (dn M1 M.2.1 D') b E').2.1 + 0 ≤ M.2.1 + 1 ∧ (ew (dn M1 M.2.1 D') b E').2.2.1 + 0 ≤ M.2.2.1 + 6 := fun D' E' => by
    rw [hM1]; exact ⟨Nat.le_refl _, Nat.le_refl _⟩
  have e0 : nwO (ew M b E) 103 6 6 (fun _ => .int 0) M.2.1 M.2.2.1 1 6 = some (ew (dn M1 M.2.1 (fun _ => .int 0)) b E) := by
    rw [hM1, dn_nw, nwO, if_pos ⟨Nat.le_refl _, Nat.le_refl _, Nat.le_refl _⟩, ew_nw h hq]
  obtain ⟨hl, E1, x', D', k1, k2, k3, k4, k5, k6, k7, k8, k9⟩ := e_rm_L (M := M1) (y := M.2.1) (b := b) (s := s) (n := n) (m := m) (h0 := p0) (n0 := M.2.1) (s0 := M.2.2.1) (xv := Int32.ofNat x) (on := on) (ps := ps) hs hm64 hpm (by rw [hM1]; exact hbM) (by rw [hM1]; exact ⟨Nat.le_refl _, Nat.le_refl _⟩) 6 vF 0 (p0 + 1) p0 E (fun _ => .int 0) x0 (by omega) (by unfold vF; omega) h1 hq hU hh hb hon (fun c c1 c2 _ => hps c c1 c2) (sumU_le _ _ _) (by omega) (by omega) (.inr ⟨rfl, rfl⟩)
    (fun q h1 g => by
      obtain ⟨c, c1, c2, c3⟩ := atQ_iff.mp g
      exact .inl ⟨c, c1, c2, rfl, c3⟩)
  have gB : ∀ l, E1 (2 + 8 * s) l = E (2 + 8 * s) l := fun l => k9 _ _ (by omega) (by omega) (by omega) (.inl (by omega))
  have g0l : ∀ l, l ≠ 4 → E1 0 l = E 0 l := fun l hl => k9 _ _ (by omega) (by omega) (by omega) (.inl (by omega))
  obtain ⟨E2, hE2⟩ : ∃ E2, E2 = pu E1 (2 + 8 * s) 0 (.int (Int32.ofNat (m - 1))) := ⟨_, rfl⟩
  have o2 : eOk M1 b E2 := hE2 ▸ eOk_pu k3 (eFrB hs (by omega))
  have U2 : okU b E2 n := hE2 ▸ okU_pu k4 (by omega)
  have hh2 : hoE E2 s x' := by
    rw [hE2]
    exact ⟨fun p hp => by rw [gt_ne (by omega)]; exact k5.1 p hp, fun z hz => by rw [gt_ne (by omega)]; exact k5.2.1 z hz, by rw [gt_ne (by omega)]; exact k5.2.2⟩
  obtain ⟨xE, hxE⟩ : ∃ xE, xE = wkT (atQ on ps) m (m - p0) (p0 + 1) p0 x0 := ⟨_, rfl⟩
  rw [show m + 1 - (p0 + 1) = m - p0 by omega, ← hxE] at k7
  have J255 : ∀ E3 : Nat → Nat → Value, eOk M1 b E3 → (∀ i l, i ≠ 2 + 8 * s + (0 + 1) → i ≠ 2 + 8 * s + (1 + 1) → (i ≠ 0 ∨ l ≠ 4) → E3 i l = E2 i l) → hoE E3 s xE → okU b E3 n →
      ∃ E4, tX12_remove_J255 M.2.1 M.2.2.1 b (b + (2 + 8 * s)) (Int32.ofNat x) (ew (dn M1 M.2.1 D') b E3) = some (1, ew (dn M1 M.2.1 D') b (ntE E4 s N (gt E 0 3 + 1) (Int32.ofNat x) 1 (bvE (nt1 E4 s N (gt E 0 3 + 1) (Int32.ofNat x) 1) s (m - 1)))) ∧ eOk M b E4 ∧ okU b E4 n ∧ hoE E4 s xE ∧ gt E4 (2 + 8 * s) 0 = Int32.ofNat (m - 1) ∧ gt E4 0 3 = gt E 0 3 + 1 ∧
        (∀ c, c < 6 → on c = true → gt E4 (44 + c) 2 = Int32.ofNat (cur p0 (m + 1) (ps c))) ∧ ∀ i l, i ≠ 2 + 8 * s + (0 + 1) → i ≠ 2 + 8 * s + (1 + 1) → (i ≠ 0 ∨ (l ≠ 4 ∧ l ≠ 3)) → (i ≠ 2 + 8 * s ∨ l ≠ 0) → (i < 44 ∨ l ≠ 2 ∨ ¬ (i < 50 ∧ on (i - 44) = true)) → E4 i l = E i l := by
    intro E3 o3 fr3 hh3 U3
    have c3 : gt E3 0 3 = gt E 0 3 := by unfold gt; rw [fr3 _ _ (by omega) (by omega) (by omega), hE2, pu_ne (by omega), g0l 3 (by omega)]
    obtain ⟨E4, hE4⟩ : ∃ E4, E4 = pu E3 0 3 (.int (gt E 0 3 + 1)) := ⟨_, rfl⟩
    have o4 : eOk M1 b E4 := hE4 ▸ eOk_pu o3 (eFr0 (by omega))
    have s4 : gt E4 (2 + 8 * s) 0 = Int32.ofNat (m - 1) := by rw [hE4, gt_ne (by omega)]; unfold gt; rw [fr3 _ _ (by omega) (by omega) (by omega), hE2, pu_eq]; rfl
    have n4 : gt E4 (2 + 8 * s) 2 = Int32.ofNat N := by rw [hE4, gt_ne (by omega)]; unfold gt; rw [fr3 _ _ (by omega) (by omega) (by omega), hE2, pu_ne (by omega), gB]; exact hN
    have t4 : gt E4 0 3 = gt E 0 3 + 1 := by rw [hE4, gt_eq]
    have b4 : gt (nt1 E4 s N (gt E 0 3 + 1) (Int32.ofNat x) 1) (2 + 8 * s) 0 = Int32.ofNat (m - 1) := by unfold nt1; rw [gt_ne (by omega), gt_ne (by omega), gt_ne (by omega), gt_ne (by omega)]; exact s4
    have hn := e_note (M := dn M1 M.2.1 D') (b := b) (st := gt E 0 3 + 1) (x := Int32.ofNat x) (k := 1) (eOk_dn o4) hs n4 hN2 (e_bits (eOk_dn (nt1_ok o4 hs)) hs b4 (by omega))
    refine ⟨E4, ?_, oM _ o4, hE4 ▸ okU_pu U3 (by omega), ?_, s4, t4, fun c c1 c2 => ?_, fun i l i1 i2 i3 i4 i5 => ?_⟩
    · rw [tX12_remove_J255, e_I0, Option.bind_some, c3, e_S0 (eOk_dn o3), Option.bind_some, ← hE4, e_I0, Option.bind_some, t4, if_pos (hcn _ _), if_pos (e_tB hs), hn, Option.bind_some]
      exact if_pos (hcn D' E4)
    · rw [hE4]
      exact ⟨fun p hp => by rw [gt_ne (by omega)]; exact hh3.1 p hp, fun z hz => by rw [gt_ne (by omega)]; exact hh3.2.1 z hz, by rw [gt_ne (by omega)]; exact hh3.2.2⟩
    · rw [hE4, gt_ne (by omega)]
      rw [show gt E3 (44 + c) 2 = gt E1 (44 + c) 2 from by unfold gt; rw [fr3 _ _ (by omega) (by omega) (by omega), hE2, pu_ne (by omega)]]
      exact k8 c c1 c2 rfl
    · rw [hE4, pu_ne (by omega), fr3 i l i1 i2 (by omega), hE2, pu_ne (by omega), k9 i l i1 i2 (by omega) (by
        rcases i5 with g | g | g
        · exact .inl g
        · exact .inr (.inl g)
        · exact .inr (.inr (fun w => g ⟨w.1, w.2.1⟩)))]
  have J222 : ∃ E4, tX12_remove_J222 M.2.1 M.2.2.1 b (b + (2 + 8 * s)) (Int32.ofNat x) (Int32.ofNat hl) (ew (dn M1 M.2.1 D') b E1) = some (1, ew (dn M1 M.2.1 D') b (ntE E4 s N (gt E 0 3 + 1) (Int32.ofNat x) 1 (bvE (nt1 E4 s N (gt E 0 3 + 1) (Int32.ofNat x) 1) s (m - 1)))) ∧ eOk M b E4 ∧ okU b E4 n ∧ hoE E4 s xE ∧ gt E4 (2 + 8 * s) 0 = Int32.ofNat (m - 1) ∧ gt E4 0 3 = gt E 0 3 + 1 ∧
        (∀ c, c < 6 → on c = true → gt E4 (44 + c) 2 = Int32.ofNat (cur p0 (m + 1) (ps c))) ∧ ∀ i l, i ≠ 2 + 8 * s + (0 + 1) → i ≠ 2 + 8 * s + (1 + 1) → (i ≠ 0 ∨ (l ≠ 4 ∧ l ≠ 3)) → (i ≠ 2 + 8 * s ∨ l ≠ 0) → (i < 44 ∨ l ≠ 2 ∨ ¬ (i < 50 ∧ on (i - 44) = true)) → E4 i l = E i l := by
    rw [tX12_remove_J222, e_bI hs, Option.bind_some, show gt E1 (2 + 8 * s) 0 = Int32.ofNat m from by unfold gt; rw [gB]; exact hm, n_pred (by omega), e_bV (eOk_dn k3) hs, Option.bind_some, ← hE2, e_bI hs, Option.bind_some, show gt E2 (2 + 8 * s) 0 = Int32.ofNat (m - 1) from by rw [hE2, gt_eq]]
    by_cases c : m - 1 = hl
    · rw [if_pos (by rw [c])]
      rw [c, mvT_self] at k7
      exact J255 E2 o2 (fun _ _ _ _ _ => rfl) (k7 ▸ hh2) U2
    · have hy64 : x'.1 (m - 1) < 64 := k6.1 _ (by omega)
      rw [if_neg (fun g => c ((n_eq (by omega) (by omega)).mp g)), e_bA (eOk_dn o2) hs (by omega), Option.bind_some, Option.bind_some, e_mI hs (by omega) (by omega), Option.bind_some, hh2.1 (m - 1) (by omega), if_pos (hcn _ _), if_pos e_t0, e_put (eOk_dn o2) hs hy64 (by omega), Option.bind_some]
      refine J255 (puL E2 s (x'.1 (m - 1)) hl) (puL_ok o2 hs) (fun i l i1 i2 i3 => by unfold puL; rw [pu_ne (by omega), pu_ne (by omega), pu_ne (by omega)]) ?_ (okU_puL U2 hs)
      rw [← k7]; exact hoE_mv hh2 hs c
  obtain ⟨E4, f1, f2⟩ := J222
  refine ⟨E4, D', ?_, hxE ▸ f2⟩
  rw [← hM1, tX12_remove, if_pos (show (ew M b E).2.1 + 0 ≤ (ew M b E).2.1 + 1 ∧ (ew M b E).2.2.1 + 0 ≤ (ew M b E).2.2.1 + 6 from ⟨Nat.le_add_right _ _, Nat.le_add_right _ _⟩), if_pos (e_tB hs), (e_has h hs hF hO hu hx).1 hM, Option.bind_some, if_neg n10, e_bA h hs (by omega), Option.bind_some, e_mI hs (by omega) hx, Option.bind_some, hh.2.1 x hx, hp0]
  show ((nwO (ew M b E) 103 6 6 (fun _ => .int 0) M.2.1 M.2.2.1 1 6).bind _) = _
  rw [e0, Option.bind_some]
  show ((tX12_remove_L26 M.2.1 M.2.2.1 b (b + (2 + 8 * s)) (Int32.ofNat x) M.2.1 vF (Int32.ofNat p0) (Int32.ofNat 0) _).bind _) = _
  rw [k1, Option.bind_some]
  exact f1
theorem e_remove_no {x : Nat} (h : eOk M b E) (hs : s < 5) (hF : F 1 = eR E) (hO : okS F u hz s) (hu : u ≤ 64) (hx : x < 64) (hM : ¬ isM F s x) : tX12_remove b (b + (2 + 8 * s)) (Int32.ofNat x) (ew M b E) = some (0, ew M b E) := by
  rw [tX12_remove, if_pos (show (ew M b E).2.1 + 0 ≤ (ew M b E).2.1 + 1 ∧ (ew M b E).2.2.1 + 0 ≤ (ew M b E).2.2.1 + 6 from ⟨Nat.le_add_right _ _, Nat.le_add_right _ _⟩), if_pos (e_tB hs), (e_has h hs hF hO hu hx).2 hM, Option.bind_some, if_pos rfl, if_pos ⟨Nat.le_add_right _ _, Nat.le_add_right _ _⟩]
end
