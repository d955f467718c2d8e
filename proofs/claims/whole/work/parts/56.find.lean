section
variable {M : vMe} {x r a d : Nat} {G F C : Nat → Nat → Value} {u hz n k : Nat}
/-- bytes are bytes -/
def wb (M : vMe) : Prop := ∀ q, (M.1 q).1 = 102 → ∀ k, k < (M.1 q).2.1 → fits .byte ((M.1 q).2.2 k) = true
/-- the text of the reference -/
def tX (F : Nat → Nat → Value) (T : Nat → Nat) : Prop := ∀ i, i < 600 → fits .byte (.int (gt F 3 i)) = true ∧ cd (gt F 3 i) = T i
def isL (c : Nat) : Prop := 97 ≤ c ∧ c ≤ 122
theorem wb_tX (w : wb M) (hg : hG M x G) (hb : ∀ i, i < 600 → gt G 2 i = gt F 3 i) : tX F (fun i => cd (gt F 3 i)) := fun i hi => by
  have e := hg 2 (by omega)
  have g := w (x + 2) (by rw [e]; rfl) i (by rw [e]; exact hi)
  rw [e] at g
  have g2 := vI_of g (.inr (.inr rfl))
  refine ⟨?_, rfl⟩
  rw [← hb i hi]; unfold gt
  rw [← g2]; exact g
theorem tX.row {F2 : Nat → Nat → Value} {T : Nat → Nat} (h : tX F T) (e : F2 3 = F 3) : tX F2 T := fun i hi => by rw [gt_row e]; exact h i hi
/-! the reference -/
theorem r_gJ (M : vMe) (r k : Nat) (F : Nat → Nat → Value) : gJ (rv M r F) r 12 k = some (vJ (F 0 k)) := by simp [gJ, rv_at0]
theorem r_byteAt {T : Nat → Nat} {len i : Nat} (hr : rOk M r F) (h5 : gt F 0 5 = Int32.ofNat len) (hl : len ≤ 600) (hi : i < 2147483648) (hT : tX F T) : tX10_byteAt r (Int32.ofNat i) (rv M r F) = some (if i < len then Int32.ofNat (T i) else -1) := by
  rw [tX10_byteAt, r_gI, Option.bind_some, h5]
  by_cases g : i < len
  · rw [if_neg (fun q => by have := (n_le (by omega) (by omega)).mp q; omega), rA3 hr, Option.bind_some, r_tI (by omega), Option.bind_some, if_pos g, cd_and (hT i (by omega)).1, (hT i (by omega)).2]
  · rw [if_pos ((n_le (by omega) (by omega)).mpr (by omega)), if_neg g]
theorem r_wL {c lo hi : Nat} (hc : c < 256) (h1 : lo < 256) (h2 : hi < 256) : tX10_within (Int32.ofNat c) (Int32.ofNat lo) (Int32.ofNat hi) M = some (if lo ≤ c ∧ c ≤ hi then 1 else 0) := by
  rw [tX10_within]
  by_cases g1 : c < lo
  · rw [if_pos ((n_lt (by omega) (by omega)).mpr g1), if_neg (by omega)]
  · rw [if_neg (fun q => g1 ((n_lt (by omega) (by omega)).mp q))]
    by_cases g2 : hi < c
    · rw [if_pos ((n_lt (by omega) (by omega)).mpr g2), if_neg (by omega)]
    · rw [if_neg (fun q => g2 ((n_lt (by omega) (by omega)).mp q)), if_pos (by omega)]
theorem r_wN {lo hi : Nat} (h1 : lo < 256) : tX10_within (-1) (Int32.ofNat lo) (Int32.ofNat hi) M = some 0 := by
  rw [tX10_within, if_pos]
  rw [Int32.lt_iff_toInt_lt, n_toInt (by omega)]
  have : (-1 : Int32).toInt = -1 := by decide
  omega
/-- what a run of letters does to the reference's fields -/
def lR (F F2 : Nat → Nat → Value) (T : Nat → Nat) (len p e2 : Nat) : Prop := gt F2 0 7 = Int32.ofNat e2 ∧ vJ (F2 0 10) = pk (fun i => T (p + i)) (if e2 - p < 8 then e2 - p else 8) ∧ p ≤ e2 ∧ e2 ≤ len ∧ (∀ i, p ≤ i → i < e2 → isL (T i)) ∧ (e2 < len → ¬ isL (T e2)) ∧ (∀ i, i ≠ 0 → F2 i = F i) ∧ ∀ l, l ≠ 7 → l ≠ 10 → F2 0 l = F 0 l
theorem f7 : ∀ j, rFld j ≠ 7 := fun j => by unfold rFld; split <;> omega
theorem f10 : ∀ j, rFld j ≠ 10 := fun j => by unfold rFld; split <;> omega
theorem vJ_pu {i k : Nat} {v : Int64} : vJ (pu F i k (.long v) i k) = v := by rw [pu_eq]; rfl
theorem r_tl_L {T : Nat → Nat} {len p : Nat} (hl : len ≤ 600) : ∀ (q f e : Nat) (F : Nat → Nat → Value), rOk M r F → tX F T → gt F 0 5 = Int32.ofNat len → gt F 0 6 = Int32.ofNat p → gt F 0 7 = Int32.ofNat e → vJ (F 0 10) = pk (fun i => T (p + i)) (if e - p < 8 then e - p else 8) → (∀ i, p ≤ i → i < e → isL (T i)) → p ≤ e → e + q = len → q < f →
    ∃ e2 F2, tX10_takesLetters_L5 r f (rv M r F) = some ((), rv M r F2) ∧ rOk M r F2 ∧ lR F F2 T len p e2 := by
  intro q
  induction q with
  | zero =>
    intro f e F hr hT h5 h6 h7 h10 hL hp hq hf
    obtain ⟨f, rfl⟩ : ∃ g, f = g + 1 := ⟨f - 1, by omega⟩
    refine ⟨e, F, ?_, hr, h7, h10, hp, by omega, hL, fun g => by omega, fun _ _ => rfl, fun _ _ _ => rfl⟩
    rw [tX10_takesLetters_L5, r_gI, Option.bind_some, h7, if_pos r_tag, r_byteAt hr h5 hl (by omega) hT, Option.bind_some, if_neg (by omega), show (97 : Int32) = Int32.ofNat 97 from rfl, show (122 : Int32) = Int32.ofNat 122 from rfl, r_wN (by omega), Option.bind_some, if_pos rfl]
  | succ q ih =>
    intro f e F hr hT h5 h6 h7 h10 hL hp hq hf
    obtain ⟨f, rfl⟩ : ∃ g, f = g + 1 := ⟨f - 1, by omega⟩
    have hTe := hT e (by omega)
    have c256 : T e < 256 := by rw [← hTe.2]; exact cd_lt hTe.1
    have st : tX10_takesLetters_L5 r (f + 1) (rv M r F) = if 97 ≤ T e ∧ T e ≤ 122 then (if (8 : Int32) ≤ (Int32.ofNat e - Int32.ofNat p) then tX10_takesLetters_J62_5 (tX10_takesLetters_L5 r f) r r (vJ (F 0 10)) (rv M r F) else tX10_takesLetters_J62_5 (tX10_takesLetters_L5 r f) r r ((vJ (F 0 10) <<< ((8 : Int32).toInt64 &&& 63)) ||| (Int32.ofNat (T e)).toInt64) (rv M r F)) else some ((), rv M r F) := by
      rw [tX10_takesLetters_L5, r_gI, Option.bind_some, h7, if_pos r_tag, r_byteAt hr h5 hl (by omega) hT, Option.bind_some, if_pos (by omega), show (97 : Int32) = Int32.ofNat 97 from rfl, show (122 : Int32) = Int32.ofNat 122 from rfl, r_wL c256 (by omega) (by omega), Option.bind_some]
      by_cases g : 97 ≤ T e ∧ T e ≤ 122
      · rw [if_pos g, if_pos g, if_neg n10, Option.bind_some, r_gI, Option.bind_some, h6, r_gJ, Option.bind_some, Option.bind_some, Option.bind_some, if_pos r_tag, r_byteAt hr h5 hl (by omega) hT, Option.bind_some, if_pos (show e < len by omega)]
      · rw [if_neg g, if_neg g, if_pos rfl]
    by_cases g : 97 ≤ T e ∧ T e ≤ 122
    · have J : ∀ v, tX10_takesLetters_J62_5 (tX10_takesLetters_L5 r f) r r v (rv M r F) = tX10_takesLetters_L5 r f (rv M r (pu (pu F 0 10 (.long v)) 0 7 (.int (Int32.ofNat (e + 1))))) := fun v => by
        rw [tX10_takesLetters_J62_5, r_sV _ hr, Option.bind_some, r_gI, Option.bind_some, gt_ne (by omega), h7, n_succ, r_sV _ (rOk_0 hr f10), Option.bind_some]
      obtain ⟨v, hv1, hv2⟩ : ∃ v, tX10_takesLetters_L5 r (f + 1) (rv M r F) = tX10_takesLetters_L5 r f (rv M r (pu (pu F 0 10 (.long v)) 0 7 (.int (Int32.ofNat (e + 1))))) ∧ v = pk (fun i => T (p + i)) (if e + 1 - p < 8 then e + 1 - p else 8) := by
        rw [st, if_pos g]
        have es : Int32.ofNat e - Int32.ofNat p = Int32.ofNat (e - p) := n_sub hp
        rw [es]
        by_cases g8 : 8 ≤ e - p
        · rw [if_pos (show (8 : Int32) ≤ Int32.ofNat (e - p) from (n_le (a := 8) (by omega) (by omega)).mpr g8)]
          exact ⟨_, J _, by rw [h10, if_neg (by omega), if_neg (by omega)]⟩
        · rw [if_neg (show ¬ (8 : Int32) ≤ Int32.ofNat (e - p) from fun q => g8 ((n_le (a := 8) (by omega) (by omega)).mp q))]
          refine ⟨_, J _, ?_⟩
          rw [h10, if_pos (by omega), show (if e + 1 - p < 8 then e + 1 - p else 8) = (e - p) + 1 by split <;> omega, pk, show p + (e - p) = e by omega]
      obtain ⟨F1, hF1⟩ : ∃ F1, F1 = pu (pu F 0 10 (.long v)) 0 7 (.int (Int32.ofNat (e + 1))) := ⟨_, rfl⟩
      rw [← hF1] at hv1
      have o1 : rOk M r F1 := by rw [hF1]; exact rOk_0 (rOk_0 hr f10) f7
      have row : ∀ i, i ≠ 0 → F1 i = F i := fun i hi => by rw [hF1, pu_o hi, pu_o hi]
      have col : ∀ l, l ≠ 7 → l ≠ 10 → F1 0 l = F 0 l := fun l h1 h2 => by rw [hF1, pu_ne (by omega), pu_ne (by omega)]
      obtain ⟨e2, F2, q1, q2, q3, q4, q5, q6, q7, q8, q9, q10⟩ := ih f (e + 1) F1 o1 (hT.row (row 3 (by omega))) (by rw [show gt F1 0 5 = gt F 0 5 from by unfold gt; rw [col 5 (by omega) (by omega)]]; exact h5) (by rw [show gt F1 0 6 = gt F 0 6 from by unfold gt; rw [col 6 (by omega) (by omega)]]; exact h6)
        (by rw [hF1, gt_eq]) (by rw [hF1, pu_ne (by omega), vJ_pu]; exact hv2) (fun i i1 i2 => by
          by_cases q : i = e
          · rw [q]; exact g
          · exact hL i i1 (by omega)) (by omega) (by omega) (by omega)
      exact ⟨e2, F2, by rw [hv1]; exact q1, q2, q3, q4, q5, q6, q7, q8, fun i hi => by rw [q9 i hi, row i hi], fun l h1 h2 => by rw [q10 l h1 h2, col l h1 h2]⟩
    · refine ⟨e, F, by rw [st, if_neg g], hr, h7, h10, hp, by omega, hL, fun _ => g, fun _ _ => rfl, fun _ _ _ => rfl⟩
theorem r_letters {T : Nat → Nat} {len p : Nat} (hl : len ≤ 600) (hp : p ≤ len) (hr : rOk M r F) (hT : tX F T) (h5 : gt F 0 5 = Int32.ofNat len) (h6 : gt F 0 6 = Int32.ofNat p) (h7 : gt F 0 7 = Int32.ofNat p) :
    ∃ e2 F2, tX10_takesLetters r (rv M r F) = some ((), rv M r F2) ∧ rOk M r F2 ∧ lR F F2 T len p e2 := by
  have col : ∀ l, l ≠ 10 → gt (pu F 0 10 (.long 0)) 0 l = gt F 0 l := fun l hl => gt_ne (by omega)
  obtain ⟨e2, F2, q1, q2, q3, q4, q5, q6, q7, q8, q9, q10⟩ := r_tl_L (M := M) (r := r) (T := T) (p := p) hl (len - p) vF p (pu F 0 10 (.long 0)) (rOk_0 hr f10) (hT.row (pu_o (by omega))) (by rw [col 5 (by omega)]; exact h5) (by rw [col 6 (by omega)]; exact h6) (by rw [col 7 (by omega)]; exact h7) (by rw [vJ_pu, if_pos (by omega), Nat.sub_self]; rfl) (fun i i1 i2 => by omega) (Nat.le_refl _) (by omega) (by unfold vF; omega)
  exact ⟨e2, F2, by rw [tX10_takesLetters, r_sV _ hr, Option.bind_some, q1, Option.bind_some], q2, q3, q4, q5, q6, q7, q8, fun i hi => by rw [q9 i hi, pu_o hi], fun l h1 h2 => by rw [q10 l h1 h2, pu_ne (by omega)]⟩
end
