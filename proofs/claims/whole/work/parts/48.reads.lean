section
variable {M : vMe} {x r a d : Nat} {G F C : Nat → Nat → Value} {u hz n k : Nat}
def SimX (x r : Nat) (M : vMe) : Prop := ∃ G F a d C u hz n k, simD M x r G F a d C u hz n k
/-- a call on both sides: what the class answers, or throws, the reference answers, or tells -/
def opR {α : Type} (x r : Nat) (M : vMe) (tc : Option ((α ⊕ Nat) × vMe)) (tr : vMe → Option (α × vMe)) (mp : Nat → Int32) : Prop :=
  ∃ z M1, tc = some (z, M1) ∧ M1.2.2.2 = M.2.2.2 ∧ M.2.1 ≤ M1.2.1 ∧ zk x r M M1 ∧ (M1.1 r).1 = 12 ∧ (∀ j, z = .inr j → mp j ≠ 0) ∧ ∀ N, slk r M1 N → ∃ b M2, tr N = some (b, M2) ∧ M2.2 = N.2 ∧ zk x r N M2 ∧ SimX x r M2 ∧ gI M2 r 12 0 = some (Sum.elim (fun _ => 0) mp z) ∧ ∀ v, z = .inl v → b = v
theorem T_r (h : hR M r F) : (M.1 r).1 = 12 := by have := h 0 (by omega); rw [Nat.add_zero] at this; rw [this]; rfl
/-- a call that alters nothing -/
theorem opR_read {α : Type} {tc : Option ((α ⊕ Nat) × vMe)} {tr : vMe → Option (α × vMe)} {mp : Nat → Int32} {z : α ⊕ Nat} {b : α} {c : Int32} (h : simD M x r G F a d C u hz n k) (htc : tc = some (z, M)) (htr : ∀ M', rOk M' r F → tr (rv M' r F) = some (b, rv M' r (Fth F c)))
    (hc : c = Sum.elim (fun _ => 0) mp z) (hv : ∀ v, z = .inl v → b = v) (hne : ∀ j, z = .inr j → mp j ≠ 0 := by intro j e; cases e <;> decide) : opR x r M tc tr mp := by
  have a5 : x + 8 ≤ r := h.1.2.2.2.2.1
  refine ⟨z, M, htc, rfl, Nat.le_refl _, fun _ _ => rfl, T_r h.1.2.2.1, hne, fun N hs => ⟨b, rv N r (Fth F c), ?_, rfl, fun q hq => rv_out (by omega), ⟨G, Fth F c, a, d, C, u, hz, n, k, ?_⟩, ?_, hv⟩⟩
  · have e : rv N r F = N := hR.eq (M := N) (hs.hR h.1.2.2.1)
    have := htr N (hs.ok h.1.2.2.2.1)
    rw [e] at this; exact this
  · exact simD_slk (simD_F0 h (Fth_ok h.1.2.2.2.1) (Fth_gt (.inr (by omega))) (Fth_gt (.inr (by omega))) (Fth_gt (.inr (by omega))) (fun i hi => Fth_r hi)) hs
  · rw [r_gI, Fth_at, hc]
def mpA : Nat → Int32 := fun j => if j = 1 then 1 else if j = 0 then 2 else 0
def mpC : Nat → Int32 := fun j => if j = 1 then 1 else if j = 2 then 2 else 0
def mp0 : Nat → Int32 := fun j => if j = 0 then 1 else 0
def mp1 : Nat → Int32 := fun j => if j = 1 then 1 else 0
def mp2 : Nat → Int32 := fun j => if j = 2 then 1 else 0
theorem inv_ne {s : Int32} {m : Nat} (hm : m < 2147483648) (h : s < 0 ∨ ¬ s < Int32.ofNat m) {j : Nat} (hj : j < m) : s ≠ Int32.ofNat j := fun e => by
  subst e
  rcases h with g | g
  · exact n_neg (by omega) g
  · exact g ((n_lt (by omega) hm).mpr hj)
theorem inv_w {s : Int32} {m : Nat} (hm : m < 2147483648) (h1 : 1 ≤ m) (h : s < 0 ∨ ¬ s < Int32.ofNat m) : s < 0 ∨ Int32.ofNat (m - 1) < s := by
  by_cases h0 : s < 0
  · exact .inl h0
  · right
    have e := h.resolve_left h0
    rw [Int32.lt_iff_toInt_lt, n_toInt (by omega)] at e ⊢
    omega
theorem n10 : ¬ (1 : Int32) = 0 := by decide
theorem ok1 (M : vMe) : M.2.1 ≤ M.2.1 + 1 ∧ M.2.2.1 ≤ M.2.2.1 + 6 := ⟨Nat.le_add_right _ _, Nat.le_add_right _ _⟩
theorem ok2 (M : vMe) : M.2.1 + 1 ≤ M.2.1 + 1 ∧ M.2.2.1 + 6 ≤ M.2.2.1 + 6 := ⟨Nat.le_refl _, Nat.le_refl _⟩
theorem ok0 (M : vMe) : M.2.1 + 0 ≤ M.2.1 + 1 ∧ M.2.2.1 + 0 ≤ M.2.2.1 + 6 := ⟨Nat.le_add_right _ _, Nat.le_add_right _ _⟩
theorem H_cnt (h : simD M x r G F a d C u hz n k) : gI M (x + 3) 10 2 = some (gt F 0 18) := by
  obtain ⟨a1, -, -, -, -, -, -, -, ⟨nx, cnt, j1, j2, j3, j4, j5, j6⟩, -⟩ := h
  rw [← a1.1.eq, g_h, j4, j5]
theorem r_n0 {l : Nat} (h : rOk M r F) (hl : l < 1952) {c : Int32} : aI (rv M r (Fth F c)) (r + 1) 101 (Int32.ofNat l) = some (gt F 1 l) := by rw [r_now hl, Fth_gt (.inl (by omega))]
/-- size -/
theorem O_size (h : simD M x r G F a d C u hz n k) (w : Int32) : opR x r M (tX9_size x w M) (fun M' => tX10_size r w M') mp0 := by
  have hP := D_p h
  have hb := D_b h
  have hh := hP.2.1
  rcases arg_c w (n := 8) (by omega) with ⟨j, hj, rfl⟩ | g
  · have rd : ∀ (M' : vMe), rOk M' r F → tX10_size r (Int32.ofNat j) (rv M' r F) = tX10_size_J21 r (Int32.ofNat j) r 0 (rv M' r (Fth F 0)) := fun M' hr => by
      rw [tX10_size, r_th0 hr, Option.bind_some, l7, r_in (n_neg (by omega)) (n_nlt (by omega) (by omega) (by omega)), Option.bind_some, if_neg (by decide)]
    have J : ∀ (M' : vMe) (w : Int32), tX10_size_J21 r w r 0 (rv M' r (Fth F 0)) = if (5 : Int32) ≤ w then (if w = (5 : Int32) then (if ((rv M' r (Fth F 0)).1 r).1 = 12 then ((tX10_cursorsMany r (rv M' r (Fth F 0))).bind fun z8 => some (z8, rv M' r (Fth F 0))) else none) else (if w = (6 : Int32) then
        ((gA (rv M' r (Fth F 0)) r 12 1).bind fun a10 => (aI (rv M' r (Fth F 0)) a10 101 5).bind fun v11 => some (v11, rv M' r (Fth F 0))) else ((gI (rv M' r (Fth F 0)) r 12 18).bind fun v12 => some (v12, rv M' r (Fth F 0))))) else ((gA (rv M' r (Fth F 0)) r 12 1).bind fun a13 => (aI (rv M' r (Fth F 0)) a13 101 w).bind fun v14 => some (v14, rv M' r (Fth F 0))) := fun M' w => by
      rw [tX10_size_J21, if_pos r_tag, r_thr0, Option.bind_some, if_pos rfl]
    have lo : ∀ l, l < 5 → ∀ (M' : vMe), rOk M' r F → tX10_size r (Int32.ofNat l) (rv M' r F) = some (gt F 1 l, rv M' r (Fth F 0)) := fun l hl M' hr => by
      rw [tX10_size, r_th0 hr, Option.bind_some, l7, r_in (n_neg (by omega)) (n_nlt (by omega) (by omega) (by omega)), Option.bind_some, if_neg (by decide), J, if_neg (fun g => by rw [l5] at g; have := (n_le (by omega) (by omega)).mp g; omega), rA1 (Fth_ok hr), Option.bind_some, r_n0 hr (by omega), Option.bind_some]
    have cn : ∀ c, c < 6 → simC C (Fth F 0) n c := fun c hc => simC_congr (fun w _ => Fth_C) (fun _ => rfl) (hP.2.2.2.1 c hc)
    have hu : inU (Fth F 0) = inU F := by funext c; unfold inU; rw [Fth_C]
    rcases (show j = 0 ∨ j = 1 ∨ j = 2 ∨ j = 3 ∨ j = 4 ∨ j = 5 ∨ j = 6 ∨ j = 7 by omega) with rfl | rfl | rfl | rfl | rfl | rfl | rfl | rfl
    · exact opR_read (z := .inl (gt F 1 0)) (c := 0) h (by rw [tX9_size, if_pos (by decide), A_no h, Option.bind_some, B_I0 hb, Option.bind_some, if_pos (ok1 M), hh.2.2.1]) (lo 0 (by omega)) rfl (fun v e => Sum.inl.inj e)
    · exact opR_read (z := .inl (gt F 1 1)) (c := 0) h (by rw [tX9_size, if_neg (by decide), if_pos (by decide), A_no h, Option.bind_some, B_I0 hb, Option.bind_some, if_pos (ok1 M), hh.1]) (lo 1 (by omega)) rfl (fun v e => Sum.inl.inj e)
    · exact opR_read (z := .inl (gt F 1 2)) (c := 0) h (by rw [tX9_size, if_neg (by decide), if_neg (by decide), if_pos (by decide), A_no h, Option.bind_some, B_I0 hb, Option.bind_some, if_pos (ok1 M), hh.2.1]) (lo 2 (by omega)) rfl (fun v e => Sum.inl.inj e)
    · exact opR_read (z := .inl (gt F 1 3)) (c := 0) h (by rw [tX9_size, if_neg (by decide), if_neg (by decide), if_neg (by decide), if_pos (by decide), A_no h, Option.bind_some, B_I0 hb, Option.bind_some, if_pos (ok1 M), hh.2.2.2.2.1]) (lo 3 (by omega)) rfl (fun v e => Sum.inl.inj e)
    · exact opR_read (z := .inl (gt F 1 4)) (c := 0) h (by rw [tX9_size, if_neg (by decide), if_neg (by decide), if_neg (by decide), if_neg (by decide), if_pos (by decide), A_no h, Option.bind_some, B_I0 hb, Option.bind_some, if_pos (ok1 M), hh.2.2.2.1]) (lo 4 (by omega)) rfl (fun v e => Sum.inl.inj e)
    · refine opR_read (z := .inl (Int32.ofNat (sumU (inU F) 6 0))) (c := 0) h ?_ (fun M' hr => ?_) rfl (fun v e => Sum.inl.inj e)
      · have := c_countCursors (M := M) (D_c h) hP.2.2.2.1
        rw [hb.eq] at this
        rw [tX9_size, if_neg (by decide), if_neg (by decide), if_neg (by decide), if_neg (by decide), if_neg (by decide), if_pos (by decide), A_no h, Option.bind_some, if_pos (ok0 M), if_pos (T_b hb), this, Option.bind_some, if_pos (ok1 M)]
      · rw [rd M' hr, J, if_pos (by decide), if_pos (by decide), if_pos r_tag, r_cursorsMany (Fth_ok hr) cn, Option.bind_some, hu]
    · refine opR_read (z := .inl (gt F 1 5)) (c := 0) h ?_ (fun M' hr => ?_) rfl (fun v e => Sum.inl.inj e)
      · rw [tX9_size, if_neg (by decide), if_neg (by decide), if_neg (by decide), if_neg (by decide), if_neg (by decide), if_neg (by decide), if_pos (by decide), A_no h, Option.bind_some, B_I0 hb, Option.bind_some, if_pos (ok1 M), hh.2.2.2.2.2]
      · rw [rd M' hr, J, if_pos (by decide), if_neg (by decide), if_pos (by decide), rA1 (Fth_ok hr), Option.bind_some, l5, r_n0 hr (by omega), Option.bind_some]
    · refine opR_read (z := .inl (gt F 0 18)) (c := 0) h ?_ (fun M' hr => ?_) rfl (fun v e => Sum.inl.inj e)
      · rw [tX9_size, if_neg (by decide), if_neg (by decide), if_neg (by decide), if_neg (by decide), if_neg (by decide), if_neg (by decide), if_neg (by decide), if_pos (by decide), A_hi h, Option.bind_some, H_cnt h, Option.bind_some, if_pos (ok1 M)]
      · rw [rd M' hr, J, if_pos (by decide), if_neg (by decide), if_neg (by decide), r_gI, Option.bind_some, Fth_gt (.inr (by omega))]
  · have ne : ∀ j, j < 8 → w ≠ Int32.ofNat j := fun j hj => inv_ne (by omega) g hj
    refine opR_read (z := .inr 0) (b := 0) (c := 1) h ?_ (fun M' hr => ?_) rfl (fun v e => by cases e)
    · rw [tX9_size, if_neg (show ¬ w = 0 from ne 0 (by omega)), if_neg (show ¬ w = 1 from ne 1 (by omega)), if_neg (show ¬ w = 2 from ne 2 (by omega)), if_neg (show ¬ w = 3 from ne 3 (by omega)), if_neg (show ¬ w = 4 from ne 4 (by omega)), if_neg (show ¬ w = 5 from ne 5 (by omega)), if_neg (show ¬ w = 6 from ne 6 (by omega)), if_neg (show ¬ w = 7 from ne 7 (by omega)), if_pos (ok2 M)]
    · rw [tX10_size, r_th0 hr, Option.bind_some, r_out (show w < 0 ∨ (7 : Int32) < w from inv_w (m := 8) (by omega) (by omega) g), Option.bind_some, if_pos rfl, tX10_size_J21, if_pos r_tag, r_thr1 hr (by decide), Option.bind_some, if_neg n10]
/-- marked -/
theorem O_marked (h : simD M x r G F a d C u hz n k) (w : Int32) : opR x r M ((tX9_marked x w M).bind fun v => some (Sum.inl v, M)) (fun M' => tX10_marked r w M') mp0 := by
  have hP := D_p h
  have hb := D_b h
  have hk8 := hP.1.2.2.2.2
  have e4 := hP.1.2.2.2.1
  have e6 : gI M a 8 6 = some (Int32.ofNat k) := by rw [B_I0 hb, hP.2.1.2.2.2.1, e4]
  rcases arg_c w (n := k) (by omega) with ⟨j, hj, rfl⟩ | g
  · refine opR_read (z := .inl (gt F 1 (6 + j))) (c := 0) h ?_ (fun M' hr => ?_) rfl (fun v e => Sum.inl.inj e)
    · rw [tX9_marked, if_neg (n_neg (by omega)), A_no h, Option.bind_some, e6, Option.bind_some, if_neg (fun g => by have := (n_le (by omega) (by omega)).mp g; omega), Option.bind_some, B_A2 hb (D_c h), Option.bind_some, B_mk hb (by omega), Option.bind_some, hP.2.2.1 j hj, Option.bind_some]
    · rw [tX10_marked, r_th0 hr, Option.bind_some, rA1 (Fth_ok hr), Option.bind_some, l4, r_n0 hr (by omega), Option.bind_some, e4, n_pred (by omega), r_in (n_neg (by omega)) (n_nlt (by omega) (by omega) (by omega)), Option.bind_some, if_neg (by decide), Option.bind_some, l6, n_add, r_n0 hr (by omega), Option.bind_some]
  · refine opR_read (z := .inl (-1)) (c := 0) h ?_ (fun M' hr => ?_) rfl (fun v e => Sum.inl.inj e)
    · rw [tX9_marked]
      by_cases g0 : w < 0
      · rw [if_pos g0, Option.bind_some]
      · rw [if_neg g0, A_no h, Option.bind_some, e6, Option.bind_some, if_pos (Int32.not_lt.mp (g.resolve_left g0)), Option.bind_some]
    · have wo : w < 0 ∨ Int32.ofNat k - 1 < w := by
        by_cases k0 : 1 ≤ k
        · rw [n_pred k0]; exact inv_w (by omega) k0 g
        · have : k = 0 := by omega
          subst this
          by_cases g0 : w < 0
          · exact .inl g0
          · right
            rw [show Int32.ofNat 0 - 1 = -1 from by decide]
            rw [Int32.lt_iff_toInt_lt] at g0 ⊢
            have e1 : (0 : Int32).toInt = 0 := rfl
            have e2 : (-1 : Int32).toInt = -1 := by decide
            omega
      rw [tX10_marked, r_th0 hr, Option.bind_some, rA1 (Fth_ok hr), Option.bind_some, l4, r_n0 hr (by omega), Option.bind_some, e4, r_out wo, Option.bind_some, if_pos rfl]
theorem O_error (h : simD M x r G F a d C u hz n k) : opR x r M ((tX9_errorPosition x M).bind fun v => some (Sum.inl v, M)) (fun M' => tX10_errorPosition r M') mp0 := by
  have e : gI M x 11 5 = some (gt F 0 12) := by rw [← h.1.1.eq, show gI (gv M x G) x 11 5 = some (gt G 0 5) from g_gI (i := 0) (by omega) rfl, h.2.2.2.2.2.2.2.1]
  refine opR_read (z := .inl (gt F 0 12)) (c := 0) h ?_ (fun M' hr => ?_) rfl (fun v e => Sum.inl.inj e)
  · rw [tX9_errorPosition, e, Option.bind_some, Option.bind_some]
  · rw [tX10_errorPosition, r_th0 hr, Option.bind_some, r_gI, Option.bind_some, Fth_gt (.inr (by omega))]
/-- a set that isn't there -/
theorem r_noSetS (h : simD M x r G F a d C u hz n k) {M' : vMe} (hr : rOk M' r F) (s : Int32) : (∀ j, j < n → s = Int32.ofNat j → tX10_noSet r s (rv M' r F) = some (0, rv M' r (Fth F 0))) ∧ ((s < 0 ∨ ¬ s < Int32.ofNat n) → tX10_noSet r s (rv M' r F) = some (1, rv M' r (Fth F 1))) :=
  r_noSet hr s (D_p h).1.2.2.1.2 (D_p h).1.2.2.1.1
theorem r_thJ (hr : rOk M r F) : tX10_throwsIf r 1 2 (rv M r (Fth F 0)) = some (1, rv M r (Fth F 2)) := r_thr1 hr (by decide)
/-- set -/
theorem O_set (h : simD M x r G F a d C u hz n k) (s w : Int32) : opR x r M (tX9_set x s w M) (fun M' => tX10_set r s w M') mpA := by
  have hP := D_p h
  have hb := D_b h
  have hc := D_c h
  have hn5 := hP.1.2.2.1.2
  rcases arg_c s (n := n) (by omega) with ⟨j, hj, rfl⟩ | g
  · have hj5 : j < 5 := by omega
    have cr := (c_rowsOf h (Int32.ofNat j)).1 j hj rfl
    obtain ⟨sS, sO⟩ := hP.2.2.2.2.2 j hj
    rcases arg_c w (n := 5) (by omega) with ⟨l, hl, rfl⟩ | g
    · have rd : ∀ (M' : vMe), rOk M' r F → tX10_set r (Int32.ofNat j) (Int32.ofNat l) (rv M' r F) = tX10_set_J23 r (Int32.ofNat j) (Int32.ofNat l) r 0 (rv M' r (Fth F 0)) := fun M' hr => by
        rw [tX10_set, if_pos r_tag, (r_noSetS h hr _).1 j hj rfl, Option.bind_some, if_pos rfl, l4, r_in (n_neg (by omega)) (n_nlt (by omega) (by omega) (by omega)), Option.bind_some, if_neg (by decide)]
      have lo : ∀ l, l < 4 → ∀ (M' : vMe), rOk M' r F → tX10_set_J23 r (Int32.ofNat j) (Int32.ofNat l) r 0 (rv M' r (Fth F 0)) = some (oS F j l, rv M' r (Fth F 0)) := fun l hl M' hr => by
        rw [tX10_set_J23, if_pos r_tag, r_thr0, Option.bind_some, if_pos rfl, if_neg (fun g => by rw [l4] at g; have := (n_eq (by omega) (by omega)).mp g; omega), if_pos r_tag, r_of (Fth_ok hr) hj5 (by omega), Option.bind_some, Fth_S]
      rcases (show l = 0 ∨ l = 1 ∨ l = 2 ∨ l = 3 ∨ l = 4 by omega) with rfl | rfl | rfl | rfl | rfl
      · refine opR_read (z := .inl (oS F j 0)) (c := 0) h ?_ (fun M' hr => by rw [rd M' hr, lo 0 (by omega) M' hr]) rfl (fun v e => Sum.inl.inj e)
        rw [tX9_set, if_pos (ok2 M), if_pos (T_x h.1.1), cr, Option.bind_some]
        simp only [Sum.elim_inl]
        rw [if_pos (by decide), B_rI hb hj5, Option.bind_some, if_pos (ok1 M), sS.1]
      · refine opR_read (z := .inl (oS F j 1)) (c := 0) h ?_ (fun M' hr => by rw [rd M' hr, lo 1 (by omega) M' hr]) rfl (fun v e => Sum.inl.inj e)
        rw [tX9_set, if_pos (ok2 M), if_pos (T_x h.1.1), cr, Option.bind_some]
        simp only [Sum.elim_inl]
        rw [if_neg (by decide), if_pos (by decide), B_rI hb hj5, Option.bind_some, if_pos (ok1 M), sS.2.1]
      · refine opR_read (z := .inl (oS F j 2)) (c := 0) h ?_ (fun M' hr => by rw [rd M' hr, lo 2 (by omega) M' hr]) rfl (fun v e => Sum.inl.inj e)
        rw [tX9_set, if_pos (ok2 M), if_pos (T_x h.1.1), cr, Option.bind_some]
        simp only [Sum.elim_inl]
        rw [if_neg (by decide), if_neg (by decide), if_pos (by decide), B_rA hb hc hj5 (by omega), Option.bind_some, show a + (4 + 8 * j + (3 + 1)) = a + (4 + 8 * j + 4) from rfl, B_lI hb hj5, Option.bind_some, if_pos (ok1 M), sS.2.2.2.2.2.2.1]
      · refine opR_read (z := .inl (oS F j 3)) (c := 0) h ?_ (fun M' hr => by rw [rd M' hr, lo 3 (by omega) M' hr]) rfl (fun v e => Sum.inl.inj e)
        rw [tX9_set, if_pos (ok2 M), if_pos (T_x h.1.1), cr, Option.bind_some]
        simp only [Sum.elim_inl]
        rw [if_neg (by decide), if_neg (by decide), if_neg (by decide), if_pos (by decide), B_rA hb hc hj5 (by omega), Option.bind_some, show a + (4 + 8 * j + (3 + 1)) = a + (4 + 8 * j + 4) from rfl, B_lI hb hj5, Option.bind_some, if_pos (ok1 M), sS.2.2.2.2.2.1]
      · refine opR_read (z := .inl (Int32.ofNat (sumU (onU F j) 6 0))) (c := 0) h ?_ (fun M' hr => ?_) rfl (fun v e => Sum.inl.inj e)
        · have := c_countOpen (M := M) (s := j) hc hP.2.2.2.1
          rw [hb.eq] at this
          rw [tX9_set, if_pos (ok2 M), if_pos (T_x h.1.1), cr, Option.bind_some]
          simp only [Sum.elim_inl]
          rw [if_neg (by decide), if_neg (by decide), if_neg (by decide), if_neg (by decide), if_pos (by decide), A_no h, Option.bind_some, if_pos (ok0 M), if_pos (T_b hb), this, Option.bind_some, if_pos (ok1 M)]
        · have hu : onU (Fth F 0) j = onU F j := by funext c; unfold onU onF; rw [Fth_C, Fth_C, Fth_C]
          rw [rd M' hr, tX10_set_J23, if_pos r_tag, r_thr0, Option.bind_some, if_pos rfl, if_pos (by decide), if_pos r_tag, r_openOn (Fth_ok hr), Option.bind_some, hu]
    · have ne : ∀ l, l < 5 → w ≠ Int32.ofNat l := fun l hl => inv_ne (by omega) g hl
      refine opR_read (z := .inr 0) (b := 0) (c := 2) h ?_ (fun M' hr => ?_) rfl (fun v e => by cases e)
      · rw [tX9_set, if_pos (ok2 M), if_pos (T_x h.1.1), cr, Option.bind_some]
        simp only [Sum.elim_inl]
        rw [if_neg (show ¬ w = 0 from ne 0 (by omega)), if_neg (show ¬ w = 1 from ne 1 (by omega)), if_neg (show ¬ w = 2 from ne 2 (by omega)), if_neg (show ¬ w = 3 from ne 3 (by omega)), if_neg (show ¬ w = 4 from ne 4 (by omega)), if_pos (ok2 M)]
      · rw [tX10_set, if_pos r_tag, (r_noSetS h hr _).1 j hj rfl, Option.bind_some, if_pos rfl, r_out (show w < 0 ∨ (4 : Int32) < w from inv_w (m := 5) (by omega) (by omega) g), Option.bind_some, if_pos rfl, tX10_set_J23, if_pos r_tag, r_thJ hr, Option.bind_some, if_neg n10]
  · refine opR_read (z := .inr 1) (b := 0) (c := 1) h ?_ (fun M' hr => ?_) rfl (fun v e => by cases e)
    · rw [tX9_set, if_pos (ok2 M), if_pos (T_x h.1.1), (c_rowsOf h s).2 g, Option.bind_some]; rfl
    · rw [tX10_set, if_pos r_tag, (r_noSetS h hr _).2 g, Option.bind_some, if_neg n10]
/-- cell -/
theorem O_cell (h : simD M x r G F a d C u hz n k) (s w pl : Int32) : opR x r M (tX9_cell x s w pl M) (fun M' => tX10_cell r s w pl M') mpA := by
  have hP := D_p h
  have hb := D_b h
  have hc := D_c h
  have hn5 := hP.1.2.2.1.2
  have hu := hP.1.1.2
  rcases arg_c s (n := n) (by omega) with ⟨j, hj, rfl⟩ | g
  · have hj5 : j < 5 := by omega
    have cr := (c_rowsOf h (Int32.ofNat j)).1 j hj rfl
    obtain ⟨sS, sO⟩ := hP.2.2.2.2.2 j hj
    rcases arg_c w (n := u) (by omega) with ⟨l, hl, rfl⟩ | g
    · have cl : tX9_cell x (Int32.ofNat j) (Int32.ofNat l) pl M = some (.inl (if pl = 0 then oS F j (6 + l) else oS F j (70 + l)), M) := by
        rw [tX9_cell, if_pos (ok2 M), if_pos (T_x h.1.1), cr, Option.bind_some]
        show ((gA M x 11 3).bind _) = _
        rw [A_no h, Option.bind_some, if_pos (ok0 M), if_pos (T_b hb), (c_hasNumber hb hP _).1 l hl rfl, Option.bind_some, if_neg (by decide)]
        by_cases q : pl = 0
        · rw [if_pos q, if_pos q, B_rA hb hc hj5 (by omega), Option.bind_some, B_mI hb hj5 (by omega) (by omega), Option.bind_some, if_pos (ok1 M), show gt C (4 + 8 * j + (0 + 1)) l = oS F j (6 + l) from sS.2.2.1 l (by omega)]
        · rw [if_neg q, if_neg q, B_rA hb hc hj5 (by omega), Option.bind_some, B_mI hb hj5 (by omega) (by omega), Option.bind_some, if_pos (ok1 M), show gt C (4 + 8 * j + (1 + 1)) l = oS F j (70 + l) from sS.2.2.2.1 l (by omega)]
      refine opR_read (z := _) (c := 0) h cl (fun M' hr => ?_) rfl (fun v e => Sum.inl.inj e)
      rw [tX10_cell, if_pos r_tag, (r_noSetS h hr _).1 j hj rfl, Option.bind_some, if_pos rfl, if_pos r_tag, (r_isInside (Fth_ok hr) _ hu.1 hu.2 (by rw [Fth_gt (.inl (by omega))]; exact hP.1.1.1)).1 l hl rfl, Option.bind_some, if_neg (by decide), tX10_cell_J22, if_pos r_tag, r_thr0, Option.bind_some, if_pos rfl]
      by_cases q : pl = 0
      · rw [if_pos q, if_pos q, tX10_cell_J44, if_pos r_tag, l6, n_add, r_of (Fth_ok hr) hj5 (by omega), Option.bind_some, Fth_S]
      · rw [if_neg q, if_neg q, tX10_cell_J44, if_pos r_tag, l70, n_add, r_of (Fth_ok hr) hj5 (by omega), Option.bind_some, Fth_S]
    · refine opR_read (z := .inr 0) (b := 0) (c := 2) h ?_ (fun M' hr => ?_) rfl (fun v e => by cases e)
      · rw [tX9_cell, if_pos (ok2 M), if_pos (T_x h.1.1), cr, Option.bind_some]
        show ((gA M x 11 3).bind _) = _
        rw [A_no h, Option.bind_some, if_pos (ok0 M), if_pos (T_b hb), (c_hasNumber hb hP _).2 g, Option.bind_some, if_pos rfl, if_pos (ok2 M)]
      · rw [tX10_cell, if_pos r_tag, (r_noSetS h hr _).1 j hj rfl, Option.bind_some, if_pos rfl, if_pos r_tag, (r_isInside (Fth_ok hr) _ hu.1 hu.2 (by rw [Fth_gt (.inl (by omega))]; exact hP.1.1.1)).2 g, Option.bind_some, if_pos rfl, tX10_cell_J22, if_pos r_tag, r_thJ hr, Option.bind_some, if_neg n10]
  · refine opR_read (z := .inr 1) (b := 0) (c := 1) h ?_ (fun M' hr => ?_) rfl (fun v e => by cases e)
    · rw [tX9_cell, if_pos (ok2 M), if_pos (T_x h.1.1), (c_rowsOf h s).2 g, Option.bind_some]; rfl
    · rw [tX10_cell, if_pos r_tag, (r_noSetS h hr _).2 g, Option.bind_some, if_neg n10]
theorem r_isMS (h : simD M x r G F a d C u hz n k) {M' : vMe} (hr : rOk M' r F) {s y : Nat} (hs : s < n) (hy : y < 64) {c : Int32} : (isM F s y → tX10_isMember r (Int32.ofNat s) (Int32.ofNat y) (rv M' r (Fth F c)) = some 1) ∧ (¬ isM F s y → tX10_isMember r (Int32.ofNat s) (Int32.ofNat y) (rv M' r (Fth F c)) = some 0) := by
  have hP := D_p h
  have e : isM (Fth F c) s y ↔ isM F s y := isM_congr (fun _ _ => Fth_S) hy
  have := r_isM (x := y) (Fth_ok (c := c) hr) (s := s) (by have := hP.1.2.2.1.2; omega) hy (okS_congr (fun _ _ => Fth_S) hP.1.1.2.2 (hP.2.2.2.2.2 s hs).2) hP.1.1.2.2
  exact ⟨fun g => this.1 (e.mpr g), fun g => this.2 (fun q => g (e.mp q))⟩
theorem c_pl (h : simD M x r G F a d C u hz n k) {s : Nat} (hs : s < n) (w : Int32) : ∃ v, tX7_placeOf (a + (4 + 8 * s)) w M = some v ∧ ((v = -1 ∧ ∀ y, y < 64 → w = Int32.ofNat y → ¬ isM F s y) ∨ (∃ y, y < 64 ∧ w = Int32.ofNat y ∧ isM F s y ∧ v = oS F s (70 + y))) := by
  have hP := D_p h
  have := c_placeOf (M := M) (x := w) (D_c h) (s := s) (by have := hP.1.2.2.1.2; omega) (hP.2.2.2.2.2 s hs).2 (hP.2.2.2.2.2 s hs).1 hP.1.1.2.2
  rw [(D_b h).eq] at this; exact this
theorem isM_pl {u hz s y : Nat} (hO : okS F u hz s) (h : isM F s y) : ∃ p, p < 64 ∧ oS F s (70 + y) = Int32.ofNat p := by
  obtain ⟨p, m, e1, e2, e3, e4, e5⟩ := h
  exact ⟨p, by omega, e1⟩
theorem c_hasW (h : simD M x r G F a d C u hz n k) {s : Nat} (hs : s < n) (w : Int32) : (tX7_has (a + (4 + 8 * s)) w M = some 0 ∧ ∀ y, y < 64 → w = Int32.ofNat y → ¬ isM F s y) ∨ (∃ y, y < 64 ∧ w = Int32.ofNat y ∧ isM F s y ∧ tX7_has (a + (4 + 8 * s)) w M = some 1) := by
  have hP := D_p h
  have hs5 : s < 5 := by have := hP.1.2.2.1.2; omega
  obtain ⟨v, v1, v2⟩ := c_pl h hs w
  have st : tX7_has (a + (4 + 8 * s)) w M = if v = -1 then some 0 else some 1 := by
    simp only [tX7_has]
    rw [if_pos (B_tR (D_b h) hs5), v1, Option.bind_some]
  rcases v2 with ⟨e, g⟩ | ⟨y, y1, y2, y3, y4⟩
  · exact .inl ⟨by rw [st, if_pos e], g⟩
  · refine .inr ⟨y, y1, y2, y3, ?_⟩
    obtain ⟨p, p1, p2⟩ := isM_pl (hP.2.2.2.2.2 s hs).2 y3
    rw [st, if_neg]
    rw [y4, p2]
    intro e
    have := n_neg (a := p) (by omega)
    rw [e] at this
    exact this (by decide)
theorem r_insS (h : simD M x r G F a d C u hz n k) {M' : vMe} (hr : rOk M' r F) (w : Int32) {c : Int32} : (∀ j, j < u → w = Int32.ofNat j → tX10_isInside r w (rv M' r (Fth F c)) = some 1) ∧ ((w < 0 ∨ ¬ w < Int32.ofNat u) → tX10_isInside r w (rv M' r (Fth F c)) = some 0) := by
  have hP := D_p h
  exact r_isInside (Fth_ok hr) w hP.1.1.2.1 hP.1.1.2.2 (by rw [Fth_gt (.inl (by omega))]; exact hP.1.1.1)
/-- place -/
theorem O_place (h : simD M x r G F a d C u hz n k) (s w : Int32) : opR x r M (tX9_place x s w M) (fun M' => tX10_place r s w M') mp1 := by
  have hP := D_p h
  have hb := D_b h
  have hn5 := hP.1.2.2.1.2
  have hu := hP.1.1.2
  rcases arg_c s (n := n) (by omega) with ⟨j, hj, rfl⟩ | g
  · have hj5 : j < 5 := by omega
    have cr := (c_rowsOf h (Int32.ofNat j)).1 j hj rfl
    obtain ⟨sS, sO⟩ := hP.2.2.2.2.2 j hj
    obtain ⟨v, v1, v2⟩ := c_pl h hj w
    refine opR_read (z := .inl v) (b := v) (c := 0) h ?_ (fun M' hr => ?_) rfl (fun v e => Sum.inl.inj e)
    · rw [tX9_place, if_pos (ok2 M), if_pos (T_x h.1.1), cr, Option.bind_some]
      show (if M.2.1 + 0 ≤ M.2.1 + 1 ∧ M.2.2.1 + 0 ≤ M.2.2.1 + 6 then _ else _) = _
      rw [if_pos (ok0 M), if_pos (B_tR hb hj5), v1, Option.bind_some, if_pos (ok1 M)]
    · rw [tX10_place, if_pos r_tag, (r_noSetS h hr _).1 j hj rfl, Option.bind_some, if_pos rfl, if_pos r_tag]
      rcases arg_c w (n := u) (by omega) with ⟨l, hl, rfl⟩ | g
      · rw [(r_insS h hr _).1 l hl rfl, Option.bind_some, if_neg (by decide), if_pos r_tag]
        rcases v2 with ⟨e, g⟩ | ⟨y, y1, y2, y3, y4⟩
        · rw [(r_isMS h hr hj (by omega)).2 (g l (by omega) rfl), Option.bind_some, if_pos rfl, e]
        · have : l = y := (n_eq (by omega) (by omega)).mp y2
          subst this
          rw [(r_isMS h hr hj (by omega)).1 y3, Option.bind_some, if_neg (by decide), if_pos r_tag, l70, n_add, r_of (Fth_ok hr) hj5 (by omega), Option.bind_some, Fth_S, y4]
      · rw [(r_insS h hr _).2 g, Option.bind_some, if_pos rfl]
        rcases v2 with ⟨e, -⟩ | ⟨y, y1, y2, y3, y4⟩
        · rw [e]
        · exact absurd y2 (inv_ne (by omega) g (isM_lt sO hu.2 y1 y3))
  · refine opR_read (z := .inr 1) (b := 0) (c := 1) h ?_ (fun M' hr => ?_) rfl (fun v e => by cases e)
    · rw [tX9_place, if_pos (ok2 M), if_pos (T_x h.1.1), (c_rowsOf h s).2 g, Option.bind_some]; rfl
    · rw [tX10_place, if_pos r_tag, (r_noSetS h hr _).2 g, Option.bind_some, if_neg n10]
/-- stampOf -/
theorem O_stampOf (h : simD M x r G F a d C u hz n k) (s w : Int32) : opR x r M (tX9_stampOf x s w M) (fun M' => tX10_stampOf r s w M') mp1 := by
  have hP := D_p h
  have hb := D_b h
  have hc := D_c h
  have hn5 := hP.1.2.2.1.2
  have hu := hP.1.1.2
  rcases arg_c s (n := n) (by omega) with ⟨j, hj, rfl⟩ | g
  · have hj5 : j < 5 := by omega
    have cr := (c_rowsOf h (Int32.ofNat j)).1 j hj rfl
    obtain ⟨sS, sO⟩ := hP.2.2.2.2.2 j hj
    have st : tX9_stampOf x (Int32.ofNat j) w M = (tX7_has (a + (4 + 8 * j)) w M).bind fun z4 => if z4 = 0 then (if M.2.1 ≤ M.2.1 + 1 ∧ M.2.2.1 ≤ M.2.2.1 + 6 then some (Sum.inl (-1), M) else none) else
        ((gA M (a + (4 + 8 * j)) 9 2).bind fun a6 => (aI M a6 101 w).bind fun v7 => if M.2.1 ≤ M.2.1 + 1 ∧ M.2.2.1 ≤ M.2.2.1 + 6 then some (Sum.inl v7, M) else none) := by
      rw [tX9_stampOf, if_pos (ok2 M), if_pos (T_x h.1.1), cr, Option.bind_some]
      show (if M.2.1 + 0 ≤ M.2.1 + 1 ∧ M.2.2.1 + 0 ≤ M.2.2.1 + 6 then _ else _) = _
      rw [if_pos (ok0 M), if_pos (B_tR hb hj5)]
    rcases c_hasW h hj w with ⟨e, g⟩ | ⟨y, y1, rfl, y3, e⟩
    · refine opR_read (z := .inl (-1)) (c := 0) h (by rw [st, e, Option.bind_some, if_pos rfl, if_pos (ok1 M)]) (fun M' hr => ?_) rfl (fun v e => Sum.inl.inj e)
      rw [tX10_stampOf, if_pos r_tag, (r_noSetS h hr _).1 j hj rfl, Option.bind_some, if_pos rfl, if_pos r_tag]
      rcases arg_c w (n := u) (by omega) with ⟨l, hl, rfl⟩ | g2
      · rw [(r_insS h hr _).1 l hl rfl, Option.bind_some, if_neg (by decide), if_pos r_tag, (r_isMS h hr hj (by omega)).2 (g l (by omega) rfl), Option.bind_some, if_pos rfl]
      · rw [(r_insS h hr _).2 g2, Option.bind_some, if_pos rfl]
    · have yu := isM_lt sO hu.2 y1 y3
      refine opR_read (z := .inl (oS F j (134 + y))) (c := 0) h ?_ (fun M' hr => ?_) rfl (fun v e => Sum.inl.inj e)
      · rw [st, e, Option.bind_some, if_neg (by decide), B_rA hb hc hj5 (by omega), Option.bind_some, B_mI hb hj5 (by omega) y1, Option.bind_some, if_pos (ok1 M), show gt C (4 + 8 * j + (2 + 1)) y = oS F j (134 + y) from sS.2.2.2.2.1 y y1 y3]
      · rw [tX10_stampOf, if_pos r_tag, (r_noSetS h hr _).1 j hj rfl, Option.bind_some, if_pos rfl, if_pos r_tag, (r_insS h hr _).1 y yu rfl, Option.bind_some, if_neg (by decide), if_pos r_tag, (r_isMS h hr hj y1).1 y3, Option.bind_some, if_neg (by decide), if_pos r_tag, l134, n_add, r_of (Fth_ok hr) hj5 (by omega), Option.bind_some, Fth_S]
  · refine opR_read (z := .inr 1) (b := 0) (c := 1) h ?_ (fun M' hr => ?_) rfl (fun v e => by cases e)
    · rw [tX9_stampOf, if_pos (ok2 M), if_pos (T_x h.1.1), (c_rowsOf h s).2 g, Option.bind_some]; rfl
    · rw [tX10_stampOf, if_pos r_tag, (r_noSetS h hr _).2 g, Option.bind_some, if_neg n10]
end
