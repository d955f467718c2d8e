section
variable {M M' : vMe} {x y r a d : Nat} {G F C : Nat → Nat → Value} {P : Nat → Value} {T : Nat → Nat} {len : Nat}
def hY (M : vMe) (y : Nat) (P : Nat → Value) : Prop := M.1 y = (6, 0, P)
theorem hY.eq (h : hY M y P) : pv M y P = M := by
  refine Prod.ext (funext fun q => ?_) rfl
  by_cases g : q = y
  · rw [g, pv_at, h]
  · rw [pv_out g]
theorem hY_pv : hY (pv M y P) y P := pv_at
/-! the reference's runs -/
theorem f8 : ∀ j, rFld j ≠ 8 := fun j => by unfold rFld; split <;> omega
theorem f9 : ∀ j, rFld j ≠ 9 := fun j => by unfold rFld; split <;> omega
theorem if_c {α : Type} {t b : Nat} {v : Int32} {p q : α} (hv : v = Int32.ofNat b) (h : t < 2147483648) (hb : b < 2147483648) : (if Int32.ofNat t = v then p else q) = if t = b then p else q := by
  subst hv
  by_cases g : t = b
  · rw [if_pos g, if_pos (by rw [g])]
  · rw [if_neg g, if_neg (fun y => g ((n_eq h hb).mp y))]
theorem if_le {α : Type} {t b : Nat} {v : Int32} {p q : α} (hv : v = Int32.ofNat b) (h : t < 2147483648) (hb : b < 2147483648) : (if Int32.ofNat t ≤ v then p else q) = if t ≤ b then p else q := by
  subst hv
  by_cases g : t ≤ b
  · rw [if_pos g, if_pos ((n_le h hb).mpr g)]
  · rw [if_neg g, if_neg (fun y => g ((n_le h hb).mp y))]
theorem if_ge {α : Type} {t b : Nat} {v : Int32} {p q : α} (hv : v = Int32.ofNat b) (h : t < 2147483648) (hb : b < 2147483648) : (if v ≤ Int32.ofNat t then p else q) = if b ≤ t then p else q := by
  subst hv
  by_cases g : b ≤ t
  · rw [if_pos g, if_pos ((n_le hb h).mpr g)]
  · rw [if_neg g, if_neg (fun y => g ((n_le hb h).mp y))]
theorem r_bl_L (hl : len ≤ 600) : ∀ (q f e : Nat) (F : Nat → Nat → Value), rOk M r F → tX F T → gt F 0 5 = Int32.ofNat len → gt F 0 7 = Int32.ofNat e → e + q = len → q < f →
    ∃ e2 F2, tX10_advance_L0 r f (rv M r F) = some ((), rv M r F2) ∧ rOk M r F2 ∧ gt F2 0 7 = Int32.ofNat e2 ∧ run isB T len e e2 ∧ (∀ i, i ≠ 0 → F2 i = F i) ∧ ∀ l, l ≠ 7 → F2 0 l = F 0 l := by
  intro q
  induction q with
  | zero =>
    intro f e F hr hT h5 h7 hq hf
    obtain ⟨f, rfl⟩ : ∃ g, f = g + 1 := ⟨f - 1, by omega⟩
    refine ⟨e, F, ?_, hr, h7, ⟨Nat.le_refl _, by omega, fun i i1 i2 => by omega, fun c => by omega⟩, fun _ _ => rfl, fun _ _ => rfl⟩
    rw [tX10_advance_L0, r_gI, Option.bind_some, h7, if_pos r_tag, r_byteAt hr h5 hl (by omega) hT, Option.bind_some, if_neg (show ¬ e < len by omega), if_neg (by decide), Option.bind_some, if_pos r_tag, r_byteAt hr h5 hl (by omega) hT, Option.bind_some, if_neg (show ¬ e < len by omega), if_neg (by decide)]
  | succ q ih =>
    intro f e F hr hT h5 h7 hq hf
    obtain ⟨f, rfl⟩ : ∃ g, f = g + 1 := ⟨f - 1, by omega⟩
    have hTe := hT e (by omega)
    have c256 : T e < 256 := by rw [← hTe.2]; exact cd_lt hTe.1
    have J : tX10_advance_J26_0 (tX10_advance_L0 r f) r (rv M r F) = tX10_advance_L0 r f (rv M r (pu F 0 7 (.int (Int32.ofNat (e + 1))))) := by
      rw [tX10_advance_J26_0, r_gI, Option.bind_some, h7, n_succ, r_sV _ hr, Option.bind_some]
    have st : tX10_advance_L0 r (f + 1) (rv M r F) = if T e = 32 then tX10_advance_L0 r f (rv M r (pu F 0 7 (.int (Int32.ofNat (e + 1))))) else if T e = 10 then tX10_advance_L0 r f (rv M r (pu F 0 7 (.int (Int32.ofNat (e + 1))))) else some ((), rv M r F) := by
      rw [tX10_advance_L0, r_gI, Option.bind_some, h7, if_pos r_tag, r_byteAt hr h5 hl (by omega) hT, Option.bind_some, if_pos (show e < len by omega), if_c (v := 32) (b := 32) rfl (by omega) (by omega), Option.bind_some, if_pos r_tag, r_byteAt hr h5 hl (by omega) hT, Option.bind_some, if_pos (show e < len by omega), if_c (v := 10) (b := 10) rfl (by omega) (by omega), J]
    have go : isB (T e) → ∃ e2 F2, tX10_advance_L0 r f (rv M r (pu F 0 7 (.int (Int32.ofNat (e + 1))))) = some ((), rv M r F2) ∧ rOk M r F2 ∧ gt F2 0 7 = Int32.ofNat e2 ∧ run isB T len e e2 ∧ (∀ i, i ≠ 0 → F2 i = F i) ∧ ∀ l, l ≠ 7 → F2 0 l = F 0 l := fun g => by
      obtain ⟨e2, F2, q1, q2, q3, q4, q5, q6⟩ := ih f (e + 1) (pu F 0 7 (.int (Int32.ofNat (e + 1)))) (rOk_0 hr f7) (hT.row (pu_o (by omega))) (by rw [gt_ne (by omega)]; exact h5) (gt_eq _ _ _) (by omega) (by omega)
      exact ⟨e2, F2, q1, q2, q3, run_st (by omega) (fun i i1 i2 => by rw [show i = e by omega]; exact g) q4, fun i hi => by rw [q5 i hi, pu_o hi], fun l hl => by rw [q6 l hl, pu_ne (by omega)]⟩
    rw [st]
    by_cases g : T e = 32
    · rw [if_pos g]; exact go (.inl g)
    · rw [if_neg g]
      by_cases g2 : T e = 10
      · rw [if_pos g2]; exact go (.inr g2)
      · rw [if_neg g2]
        exact ⟨e, F, rfl, hr, h7, ⟨Nat.le_refl _, by omega, fun i i1 i2 => by omega, fun _ c => by rcases c with c | c <;> contradiction⟩, fun _ _ => rfl, fun _ _ => rfl⟩
theorem r_dg_L {p : Nat} (hl : len ≤ 600) : ∀ (q f e : Nat) (F : Nat → Nat → Value), rOk M r F → tX F T → gt F 0 5 = Int32.ofNat len → gt F 0 6 = Int32.ofNat p → gt F 0 7 = Int32.ofNat e → gt F 0 9 = Int32.ofNat (dv (fun i => T (p + i)) (if e - p < 3 then e - p else 3)) → p ≤ e → e + q = len → q < f →
    ∃ e2 F2, tX10_advance_L126 r f (rv M r F) = some ((), rv M r F2) ∧ rOk M r F2 ∧ gt F2 0 7 = Int32.ofNat e2 ∧ run isD T len e e2 ∧ gt F2 0 9 = Int32.ofNat (dv (fun i => T (p + i)) (if e2 - p < 3 then e2 - p else 3)) ∧ (∀ i, i ≠ 0 → F2 i = F i) ∧ ∀ l, l ≠ 7 → l ≠ 9 → F2 0 l = F 0 l := by
  intro q
  induction q with
  | zero =>
    intro f e F hr hT h5 h6 h7 h9 hp hq hf
    obtain ⟨f, rfl⟩ : ∃ g, f = g + 1 := ⟨f - 1, by omega⟩
    refine ⟨e, F, ?_, hr, h7, ⟨Nat.le_refl _, by omega, fun i i1 i2 => by omega, fun c => by omega⟩, h9, fun _ _ => rfl, fun _ _ _ => rfl⟩
    rw [tX10_advance_L126, r_gI, Option.bind_some, h7, if_pos r_tag, r_byteAt hr h5 hl (by omega) hT, Option.bind_some, if_neg (show ¬ e < len by omega), show (48 : Int32) = Int32.ofNat 48 from rfl, show (57 : Int32) = Int32.ofNat 57 from rfl, r_wN (by omega), Option.bind_some, if_pos rfl]
  | succ q ih =>
    intro f e F hr hT h5 h6 h7 h9 hp hq hf
    obtain ⟨f, rfl⟩ : ∃ g, f = g + 1 := ⟨f - 1, by omega⟩
    have hTe := hT e (by omega)
    have c256 : T e < 256 := by rw [← hTe.2]; exact cd_lt hTe.1
    have J : ∀ v, tX10_advance_J184_126 (tX10_advance_L126 r f) r r v (rv M r F) = tX10_advance_L126 r f (rv M r (pu (pu F 0 9 (.int v)) 0 7 (.int (Int32.ofNat (e + 1))))) := fun v => by
      rw [tX10_advance_J184_126, r_sV _ hr, Option.bind_some, r_gI, Option.bind_some, gt_ne (by omega), h7, n_succ, r_sV _ (rOk_0 hr f9), Option.bind_some]
    have st : tX10_advance_L126 r (f + 1) (rv M r F) = if 48 ≤ T e ∧ T e ≤ 57 then (if 3 ≤ e - p then tX10_advance_J184_126 (tX10_advance_L126 r f) r r (gt F 0 9) (rv M r F) else tX10_advance_J184_126 (tX10_advance_L126 r f) r r (((10 * gt F 0 9) + Int32.ofNat (T e)) - 48) (rv M r F)) else some ((), rv M r F) := by
      rw [tX10_advance_L126, r_gI, Option.bind_some, h7, if_pos r_tag, r_byteAt hr h5 hl (by omega) hT, Option.bind_some, if_pos (show e < len by omega), show tX10_within (Int32.ofNat (T e)) 48 57 (rv M r F) = _ from r_wL (lo := 48) (hi := 57) c256 (by omega) (by omega), Option.bind_some]
      by_cases g : 48 ≤ T e ∧ T e ≤ 57
      · rw [if_pos g, if_pos g, if_neg n10, Option.bind_some, r_gI, Option.bind_some, h6, n_sub hp, if_ge (v := 3) (b := 3) rfl (by omega) (by omega), r_gI, Option.bind_some, Option.bind_some, Option.bind_some, if_pos r_tag, r_byteAt hr h5 hl (by omega) hT, Option.bind_some, if_pos (show e < len by omega)]
      · rw [if_neg g, if_neg g, if_pos rfl]
    rw [st]
    by_cases g : 48 ≤ T e ∧ T e ≤ 57
    · rw [if_pos g]
      obtain ⟨v, hv1, hv2⟩ : ∃ v, (if 3 ≤ e - p then tX10_advance_J184_126 (tX10_advance_L126 r f) r r (gt F 0 9) (rv M r F) else tX10_advance_J184_126 (tX10_advance_L126 r f) r r (((10 * gt F 0 9) + Int32.ofNat (T e)) - 48) (rv M r F)) = tX10_advance_L126 r f (rv M r (pu (pu F 0 9 (.int v)) 0 7 (.int (Int32.ofNat (e + 1))))) ∧ v = Int32.ofNat (dv (fun i => T (p + i)) (if e + 1 - p < 3 then e + 1 - p else 3)) := by
        by_cases g3 : 3 ≤ e - p
        · rw [if_pos g3]
          exact ⟨_, J _, by rw [h9, if_neg (by omega), if_neg (by omega)]⟩
        · rw [if_neg g3]
          refine ⟨_, J _, ?_⟩
          rw [h9, if_pos (by omega), show (if e + 1 - p < 3 then e + 1 - p else 3) = (e - p) + 1 by split <;> omega, dv, show p + (e - p) = e by omega, show (10 : Int32) = Int32.ofNat 10 from rfl, show (48 : Int32) = Int32.ofNat 48 from rfl, ← Int32.ofNat_mul, n_add, n_sub (by omega), Nat.add_sub_assoc g.1]
      rw [hv1]
      obtain ⟨F1, hF1⟩ : ∃ F1, F1 = pu (pu F 0 9 (.int v)) 0 7 (.int (Int32.ofNat (e + 1))) := ⟨_, rfl⟩
      rw [← hF1]
      have row : ∀ i, i ≠ 0 → F1 i = F i := fun i hi => by rw [hF1, pu_o hi, pu_o hi]
      have col : ∀ l, l ≠ 7 → l ≠ 9 → F1 0 l = F 0 l := fun l h1 h2 => by rw [hF1, pu_ne (by omega), pu_ne (by omega)]
      obtain ⟨e2, F2, q1, q2, q3, q4, q5, q6, q7⟩ := ih f (e + 1) F1 (by rw [hF1]; exact rOk_0 (rOk_0 hr f9) f7) (hT.row (row 3 (by omega))) (by rw [show gt F1 0 5 = gt F 0 5 from by unfold gt; rw [col 5 (by omega) (by omega)]]; exact h5) (by rw [show gt F1 0 6 = gt F 0 6 from by unfold gt; rw [col 6 (by omega) (by omega)]]; exact h6)
        (by rw [hF1, gt_eq]) (by rw [hF1, gt_ne (by omega), gt_eq]; exact hv2) (by omega) (by omega) (by omega)
      exact ⟨e2, F2, q1, q2, q3, run_st (by omega) (fun i i1 i2 => by rw [show i = e by omega]; exact g) q4, q5, fun i hi => by rw [q6 i hi, row i hi], fun l h1 h2 => by rw [q7 l h1 h2, col l h1 h2]⟩
    · rw [if_neg g]
      exact ⟨e, F, rfl, hr, h7, ⟨Nat.le_refl _, by omega, fun i i1 i2 => by omega, fun _ => g⟩, h9, fun _ _ => rfl, fun _ _ _ => rfl⟩
end
