section
variable {M M' N : vMe} {x y r a d u hz n k : Nat} {G F C D : Nat → Nat → Value} {P : Nat → Value} {T : Nat → Nat} {len : Nat} {Gs : Nat → Nat}
theorem fld11 : ∀ j, rFld j ≠ 11 := fun j => by unfold rFld; split <;> omega
theorem fld12 : ∀ j, rFld j ≠ 12 := fun j => by unfold rFld; split <;> omega
/-- the reference's parse, up to its first token -/
theorem r_pre {v : Nat} (h : rOk M r F) (h4 : gt F 0 4 = Int32.ofNat len) (hv : v ≤ len) (hl : len ≤ 600) :
    ∃ F3, tX10_parse Gs r (Int32.ofNat v) (rv M r F) = rHd Gs r (rv M r F3) ∧ rOk M r F3 ∧ gt F3 0 0 = 0 ∧ gt F3 0 4 = 0 ∧ gt F3 0 5 = Int32.ofNat v ∧ gt F3 0 7 = 0 ∧ gt F3 0 11 = 0 ∧ gt F3 0 12 = -1 ∧ gt F3 0 18 = gt F 0 18 ∧ (∀ l, l < 1952 → gt F3 1 l = 0) ∧ (∀ l, l < 1952 → gt F3 4 l = gt F 1 l) ∧ ∀ i, i ≠ 0 → i ≠ 1 → i ≠ 4 → F3 i = F i := by
  obtain ⟨A, hA⟩ : ∃ A, A = pu (pu (pu (pu (pu (Fth F 0) 0 5 (.int (Int32.ofNat v))) 0 4 (.int 0)) 0 7 (.int 0)) 0 11 (.int 0)) 0 12 (.int (-1)) := ⟨_, rfl⟩
  have o0 : rOk M r (Fth F 0) := Fth_ok h
  have o1 : rOk M r (pu (Fth F 0) 0 5 (.int (Int32.ofNat v))) := rOk_0 o0 f5
  have o2 : rOk M r (pu (pu (Fth F 0) 0 5 (.int (Int32.ofNat v))) 0 4 (.int 0)) := rOk_0 o1 f4
  have o3 : rOk M r (pu (pu (pu (Fth F 0) 0 5 (.int (Int32.ofNat v))) 0 4 (.int 0)) 0 7 (.int 0)) := rOk_0 o2 f7
  have o4 : rOk M r (pu (pu (pu (pu (Fth F 0) 0 5 (.int (Int32.ofNat v))) 0 4 (.int 0)) 0 7 (.int 0)) 0 11 (.int 0)) := rOk_0 o3 fld11
  have o5 : rOk M r A := by rw [hA]; exact rOk_0 o4 fld12
  obtain ⟨F1, p1, p2, p3, p4⟩ := r_copies (i := 1) (j := 4) (x := 0) (y := 0) o5 rfl rfl (by omega) (by omega) (by show _ ≤ 1952; omega) (by show _ ≤ 1952; omega) (.inl (by omega))
  obtain ⟨F2, q1, q2, q3, q4, q5⟩ := r_blank_L (M := M) (r := r) 1952 vF 0 F1 p2 (by omega) (by unfold vF; omega)
  have c0 : ∀ l, gt F2 0 l = gt A 0 l := fun l => by rw [gt_row (q5 0 (by omega)), gt_row (p4 0 (by omega))]
  refine ⟨F2, ?_, q2, ?_, ?_, ?_, ?_, ?_, ?_, ?_, fun l hl => q3 l (Nat.zero_le _) hl, fun l hl => ?_, fun i i0 i1 i4 => ?_⟩
  · rw [tX10_parse, r_th0 h, Option.bind_some, r_gI, Option.bind_some, Fth_gt (.inr (by omega)), h4, r_in (n_neg (by omega)) (n_nlt (by omega) (by omega) hv), Option.bind_some, if_neg n10, tX10_parse_J23, if_pos r_tag, r_thr0, Option.bind_some, if_pos rfl, r_sV _ o0, Option.bind_some, r_sV _ o1, Option.bind_some, r_sV _ o2, Option.bind_some, r_sV _ o3, Option.bind_some, r_sV _ o4, Option.bind_some, ← hA, rA1 o5, Option.bind_some, rA14 o5, Option.bind_some, show tX10_copies (r + 1) 0 (r + 4) 0 (rv M r A) = some ((), rv M r F1) from p1, Option.bind_some, show tX10_parse_L72 r vF 0 (rv M r F1) = some ((), rv M r F2) from q1, Option.bind_some, if_pos r_tag]
    rfl
  · rw [c0, hA, gt_ne (by omega), gt_ne (by omega), gt_ne (by omega), gt_ne (by omega), gt_ne (by omega), Fth_at]
  · rw [c0, hA, gt_ne (by omega), gt_ne (by omega), gt_ne (by omega), gt_eq]
  · rw [c0, hA, gt_ne (by omega), gt_ne (by omega), gt_ne (by omega), gt_ne (by omega), gt_eq]
  · rw [c0, hA, gt_ne (by omega), gt_ne (by omega), gt_eq]
  · rw [c0, hA, gt_ne (by omega), gt_eq]
  · rw [c0, hA, gt_eq]
  · rw [c0, hA, gt_ne (by omega), gt_ne (by omega), gt_ne (by omega), gt_ne (by omega), gt_ne (by omega), Fth_gt (.inr (by omega))]
  · rw [gt_row (q5 4 (by omega)), p3, if_pos (by omega), Nat.zero_add, Nat.sub_zero, hA, gt_ne (by omega), gt_ne (by omega), gt_ne (by omega), gt_ne (by omega), gt_ne (by omega), Fth_gt (.inl (by omega))]
  · rw [q5 i i1, p4 i i4, hA, pu_o i0, pu_o i0, pu_o i0, pu_o i0, pu_o i0, Fth_r i0]
/-- the reference's end of a parse that failed -/
theorem r_bad (h : rOk M r F) : ∃ F5, tX10_parse_J179 r 0 (rv M r F) = some (gt F 0 11, rv M r F5) ∧ rOk M r F5 ∧ (∀ l, l < 1952 → gt F5 1 l = gt F 4 l) ∧ ∀ i, i ≠ 1 → F5 i = F i := by
  obtain ⟨F1, p1, p2, p3, p4⟩ := r_copies (i := 4) (j := 1) (x := 0) (y := 0) h rfl rfl (by omega) (by omega) (by show _ ≤ 1952; omega) (by show _ ≤ 1952; omega) (.inl (by omega))
  refine ⟨F1, ?_, p2, fun l hl => by rw [p3, if_pos (by omega), Nat.zero_add, Nat.sub_zero], p4⟩
  rw [tX10_parse_J179, if_pos rfl, rA14 h, Option.bind_some, rA1 h, Option.bind_some, show tX10_copies (r + 4) 0 (r + 1) 0 (rv M r F) = some ((), rv M r F1) from p1, Option.bind_some, r_gI, Option.bind_some, gt_row (p4 0 (by omega))]
/-- the reference's end of a good parse -/
theorem r_good (h : rOk M r F) : ∃ F5, tX10_parse_J179 r 1 (rv M r F) = some (0, rv M r F5) ∧ rOk M r F5 ∧ gt F5 0 18 = 0 ∧ (∀ j, j < 2 → gt F5 9 j = 0) ∧ (∀ l, l < 5 → vJ (F5 2 l) = vJ (F 5 l)) ∧ (∀ i, i ≠ 0 → i ≠ 2 → i ≠ 9 → F5 i = F i) ∧ ∀ l, l ≠ 18 → F5 0 l = F 0 l := by
  obtain ⟨F2, q1, q2, q3, q4, q5⟩ := r_names_L (M := M) (r := r) 5 vF 0 F h (by omega) (by unfold vF; omega)
  have o1 : rOk M r (pu F2 0 18 (.int 0)) := rOk_0 q2 f18
  have o2 : rOk M r (pu (pu F2 0 18 (.int 0)) 9 0 (.int 0)) := pu_ok o1 (.inl (by omega))
  have o3 : rOk M r (pu (pu (pu F2 0 18 (.int 0)) 9 0 (.int 0)) 9 1 (.int 0)) := pu_ok o2 (.inl (by omega))
  have s0 : sA (rv M r (pu F2 0 18 (.int 0))) (r + 9) 103 0 (.int (0 &&& 1)) = some (rv M r (pu (pu F2 0 18 (.int 0)) 9 0 (.int 0))) := r_sA (i := 9) (n := 0) _ o1 (by omega) rfl (by show _ < 2; omega)
  have s1 : sA (rv M r (pu (pu F2 0 18 (.int 0)) 9 0 (.int 0))) (r + 9) 103 1 (.int (0 &&& 1)) = some (rv M r (pu (pu (pu F2 0 18 (.int 0)) 9 0 (.int 0)) 9 1 (.int 0))) := r_sA (i := 9) (n := 1) _ o2 (by omega) rfl (by show _ < 2; omega)
  refine ⟨_, ?_, o3, ?_, fun j hj => ?_, fun l hl => ?_, fun i i0 i2 i9 => ?_, fun l hl => ?_⟩
  · rw [tX10_parse_J179, if_neg n10, show tX10_parse_L203 r vF 0 (rv M r F) = some ((), rv M r F2) from q1, Option.bind_some, r_sV _ q2, Option.bind_some, rA21 o1, Option.bind_some, s0, Option.bind_some, rA21 o2, Option.bind_some, s1, Option.bind_some]
  · rw [gt_ne (by omega), gt_ne (by omega), gt_eq]
  · by_cases e : j = 1
    · rw [e, gt_eq]
    · rw [gt_ne (by omega), show j = 0 by omega, gt_eq]
  · rw [pu_ne (by omega), pu_ne (by omega), pu_ne (by omega), q3 l (Nat.zero_le _) hl]
  · rw [pu_o i9, pu_o i9, pu_o i0, q5 i i2]
  · rw [pu_ne (by omega), pu_ne (by omega), pu_ne (by omega), q5 0 (by omega)]
/-- the text, the draft and what lies outside have changed; the row now by its numbers -/
theorem simD_tx2 {M2 : vMe} {G2 F2 : Nat → Nat → Value} (h : simD M x r G F a d C u hz n k) (g0 : ∀ i, i ≠ 0 → i ≠ 1 → i ≠ 2 → G2 i = G i) (g00 : ∀ l, l ≠ 5 → G2 0 l = G 0 l) (g10 : G2 1 0 = G 1 0) (hG2 : hG M2 x G2) (hR2 : hR M2 r F2) (rO : rOk M2 r F2) (hb : M2.2.2.2 = M.2.2.2) (hm : M.2.1 ≤ M2.2.1)
    (ob : ∀ i b E, i < 14 → i ≠ 1 → bkG G i = some b → x + 8 ≤ b → b + 50 ≤ M.2.1 → (b + 50 ≤ r ∨ r + 12 ≤ b) → hB M b E → hB M2 b E) (hd : ∃ E, hB M2 d E ∧ cOk M d E) (tx : ∀ q, ¬ own x r G q → q < M.2.1 → M2.1 q = M.1 q)
    (eL : ∃ len, len ≤ 600 ∧ gt G2 1 1 = Int32.ofNat len ∧ gt F2 0 4 = Int32.ofNat len) (eB : ∀ i, i < 600 → gt G2 2 i = gt F2 3 i) (eE : gt G2 0 5 = gt F2 0 12) (e18 : gt F2 0 18 = gt F 0 18) (e1 : ∀ l, l < 1952 → gt F2 1 l = gt F 1 l) (eR : ∀ i, i = 2 ∨ i = 7 ∨ i = 8 ∨ i = 9 → F2 i = F i) : simD M2 x r G2 F2 a d C u hz n k := by
  obtain ⟨A, hA⟩ : ∃ A : Nat → Nat → Value, A = fun i => if i = 1 then F 1 else F2 i := ⟨_, rfl⟩
  have A1 : A 1 = F 1 := by rw [hA]; exact if_pos rfl
  have Ao : ∀ i, i ≠ 1 → A i = F2 i := fun i hi => by rw [hA]; exact if_neg hi
  have oA : rOk (rv M2 r A) r A := ⟨rO.1, fun i i1 i2 => by rw [Ao 0 (by omega)]; exact rO.2 i i1 i2⟩
  have ra : x + 8 ≤ r := h.1.2.2.2.2.1
  have S := simD_txt (M2 := rv M2 r A) (G2 := G2) (F2 := A) h g0 g00 g10 (hG2.rv (.inl ra)) hR_rv oA hb hm (fun i b E hi hne hbk b0 bm br hE => (ob i b E hi hne hbk b0 bm br hE).rv (by omega)) ?_ (fun q hq hm' => by rw [rv_out (fun g => hq (.inr (.inl (ow g))))]; exact tx q hq hm') (by rw [gt_row (Ao 0 (by omega))]; exact eL) (fun i hi => by rw [gt_row (Ao 3 (by omega))]; exact eB i hi) (by rw [gt_row (Ao 0 (by omega))]; exact eE) (by rw [gt_row (Ao 0 (by omega))]; exact e18) (fun i hi => by
      by_cases i1 : i = 1
      · rw [i1]; exact A1
      · rw [Ao i i1]; exact eR i (by omega))
  · have ka := bk0 S.2.1.1
    obtain ⟨⟨q1, q2, q3⟩, -⟩ := S.2.2.1 0 a (by omega) ka
    have st : ∀ b E, (b + 50 ≤ r ∨ r + 12 ≤ b) → hB (rv M2 r A) b E → hB M2 b E := fun b E br hE i hi => by
      have := hE i hi
      rw [rv_out (by omega)] at this; exact this
    exact simD_gen (M2 := M2) S hG2 hR2 rO rfl (Nat.le_refl _) (fun b E _ _ br _ hE => st b E br hE) (st a C q3 (D_b S)) (D_c S) (simP_row (D_p S) (fun l hl => by rw [e1 l hl, gt_row A1])) (fun _ _ => rfl) (fun q hq _ => by rw [rv_out (fun g => hq (.inr (.inl (ow g))))]) (by rw [gt_row (Ao 0 (by omega))]) (by rw [gt_row (Ao 0 (by omega))]) (by rw [gt_row (Ao 0 (by omega))]) (fun i hi => by rw [Ao i (by omega)])
  · obtain ⟨E, p1, p2⟩ := hd
    obtain ⟨⟨q1, q2, q3⟩, -⟩ := h.2.2.1 1 d (by omega) (bk1 h.2.1.2.1)
    exact ⟨E, p1.rv (by omega), p2⟩
end
