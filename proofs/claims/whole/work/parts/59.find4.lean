section
variable {M : vMe} {x r a d : Nat} {G F C : Nat → Nat → Value} {u hz n k : Nat}
theorem f4 : ∀ j, rFld j ≠ 4 := fun j => by unfold rFld; split <;> omega
theorem f5 : ∀ j, rFld j ≠ 5 := fun j => by unfold rFld; split <;> omega
theorem f6 : ∀ j, rFld j ≠ 6 := fun j => by unfold rFld; split <;> omega
theorem if_32 {α : Type} {t : Nat} {p q : α} (h : t < 256) : (if Int32.ofNat t = 32 then p else q) = if t = 32 then p else q := by
  by_cases g : t = 32
  · rw [if_pos g, if_pos (by rw [g]; rfl)]
  · have c : ¬ Int32.ofNat t = 32 := fun y => g ((n_eq (b := 32) (by omega) (by omega)).mp y)
    rw [if_neg g, if_neg c]
theorem if_8 {α : Type} {t : Nat} {p q : α} (h : t < 2147483648) : (if (8 : Int32) < Int32.ofNat t then p else q) = if 8 < t then p else q := by
  by_cases g : 8 < t
  · have c : (8 : Int32) < Int32.ofNat t := (n_lt (a := 8) (by omega) h).mpr g
    rw [if_pos g, if_pos c]
  · have c : ¬ (8 : Int32) < Int32.ofNat t := fun y => g ((n_lt (a := 8) (by omega) h).mp y)
    rw [if_neg g, if_neg c]
/-- the spaces behind a word -/
theorem r_sp_L {T : Nat → Nat} {len w : Nat} {v8 : Int32} (hl : len ≤ 600) : ∀ (q f e : Nat) (F : Nat → Nat → Value), rOk M r F → tX F T → gt F 0 5 = Int32.ofNat len → gt F 0 7 = Int32.ofNat e → (∀ i, w ≤ i → i < e → T i = 32) → w ≤ e → e + q = len → q < f →
    ∃ e2 F2, tX10_find_L37 r v8 f (rv M r F) = some ((), rv M r F2) ∧ rOk M r F2 ∧ gt F2 0 7 = Int32.ofNat e2 ∧ e2 ≤ len ∧ w ≤ e2 ∧ (∀ i, w ≤ i → i < e2 → T i = 32) ∧ (e2 < len → T e2 ≠ 32) ∧ (∀ i, i ≠ 0 → F2 i = F i) ∧ ∀ l, l ≠ 7 → F2 0 l = F 0 l := by
  intro q
  induction q with
  | zero =>
    intro f e F hr hT h5 h7 hL hw hq hf
    obtain ⟨f, rfl⟩ : ∃ g, f = g + 1 := ⟨f - 1, by omega⟩
    refine ⟨e, F, ?_, hr, h7, by omega, hw, hL, fun g => by omega, fun _ _ => rfl, fun _ _ => rfl⟩
    rw [tX10_find_L37, r_gI, Option.bind_some, h7, if_pos r_tag, r_byteAt hr h5 hl (by omega) hT, Option.bind_some, if_neg (show ¬ e < len by omega), if_neg (by decide)]
  | succ q ih =>
    intro f e F hr hT h5 h7 hL hw hq hf
    obtain ⟨f, rfl⟩ : ∃ g, f = g + 1 := ⟨f - 1, by omega⟩
    have hTe := hT e (by omega)
    have c256 : T e < 256 := by rw [← hTe.2]; exact cd_lt hTe.1
    have st : tX10_find_L37 r v8 (f + 1) (rv M r F) = if T e = 32 then tX10_find_L37 r v8 f (rv M r (pu F 0 7 (.int (Int32.ofNat (e + 1))))) else some ((), rv M r F) := by
      rw [tX10_find_L37, r_gI, Option.bind_some, h7, if_pos r_tag, r_byteAt hr h5 hl (by omega) hT, Option.bind_some, if_pos (show e < len by omega), if_32 c256]
      by_cases g : T e = 32
      · rw [if_pos g, if_pos g, Option.bind_some, n_succ, r_sV _ hr, Option.bind_some]
      · rw [if_neg g, if_neg g]
    rw [st]
    by_cases g : T e = 32
    · rw [if_pos g]
      obtain ⟨e2, F2, q1, q2, q3, q4, q5, q6, q7, q8, q9⟩ := ih f (e + 1) (pu F 0 7 (.int (Int32.ofNat (e + 1)))) (rOk_0 hr f7) (hT.row (pu_o (by omega))) (by rw [gt_ne (by omega)]; exact h5) (gt_eq _ _ _) (fun i i1 i2 => by
          by_cases q : i = e
          · rw [q]; exact g
          · exact hL i i1 (by omega)) (by omega) (by omega) (by omega)
      exact ⟨e2, F2, q1, q2, q3, q4, q5, q6, q7, fun i hi => by rw [q8 i hi, pu_o hi], fun l hl => by rw [q9 l hl, pu_ne (by omega)]⟩
    · rw [if_neg g]
      exact ⟨e, F, rfl, hr, h7, by omega, hw, hL, fun _ => g, fun _ _ => rfl, fun _ _ => rfl⟩
/-- find -/
theorem O_find {Gs : Nat → Nat} (h : simD M x r G F a d C u hz n k) (w : wb M) : opR x r M ((tX9_find Gs x M).bind fun z => some (Sum.inl z.1, z.2)) (fun M' => tX10_find r M') mp0 := by
  obtain ⟨⟨a1, a2, a3, a4, a5, a6⟩, ⟨b1, b2, b3, b4⟩, c1, d1, ⟨f1, f2, f3, fn⟩, ⟨len, g1, g2, g3⟩, gby, i1, -, -⟩ := id h
  have ka := bk0 b1
  obtain ⟨⟨xa, am, ar⟩, -⟩ := c1 0 a (by omega) ka
  obtain ⟨T, hT⟩ : ∃ T, tX F T := ⟨_, wb_tX w a1 gby⟩
  have hX := tX_gX hT gby
  obtain ⟨m, m1, m2, m3, m4⟩ := c_trim_L (M := M) (x := x) a2 hX len vF len rfl g1 (by unfold vF; omega)
  rw [a1.eq] at m2
  obtain ⟨lf, hlf⟩ := nm_f fn
  have hn5 := f3.1.2.2.1.2
  have h5 := (simP_cnt f3).2.1
  obtain ⟨z, z1, z2⟩ := c_named (Gs := Gs) (s0 := 0) (e := m) a1 a2 hX f1 f2 h5 hn5 (fun s hs => (hlf s hs).1) (by omega) (by omega)
  have q0 : gA M x 11 0 = some (x + 1) := by rw [← a1.eq]; exact g_x0 a2
  have q1 : gI M (x + 1) 4 1 = some (Int32.ofNat len) := by rw [← a1.eq, g_t1, g2]
  have q2 : sV M (x + 1) 4 1 (.int 0) = some (gv M x (pu G 1 1 (.int 0))) := by
    have := g_ts (M := M) (x := x) (G := G) (v := .int 0) a2
    rw [a1.eq] at this; exact this
  have q3 : tX1_lengthWithoutLastSpaces (x + 1) M = some (Int32.ofNat m) := by
    rw [tX1_lengthWithoutLastSpaces, q1, Option.bind_some, m2, Option.bind_some]
  refine opR_chg (w0 := 0) (Mc := gv M x (pu G 1 1 (.int 0))) (v := z) ?_ rfl (Nat.le_refl _) (fun q hq => by rw [gv_out (by omega)]) a5 (a3.gv (.inl a5)) a4 (fun N hs => ?_)
  · rw [tX9_find, A_no h, Option.bind_some, q0, Option.bind_some, Option.bind_some, if_pos (T_in a1), q3, Option.bind_some, if_pos (T_b f1), show tX5_setNamed Gs a (x + 1) 0 (Int32.ofNat m) M = some (z, M) from z1, Option.bind_some]
    show (((gA M x 11 0).bind _).bind _) = _
    rw [q0, Option.bind_some]
    show (((sV M (x + 1) 4 1 (.int 0)).bind _).bind _) = _
    rw [q2, Option.bind_some, Option.bind_some]
  · have rM : rOk N r F := hs.ok (M := gv M x (pu G 1 1 (.int 0))) a4
    obtain ⟨Fa, hFa⟩ : ∃ Fa, Fa = pu (pu (pu (pu (Fth F 0) 0 5 (.int (Int32.ofNat len))) 0 4 (.int 0)) 0 6 (.int 0)) 0 7 (.int 0) := ⟨_, rfl⟩
    have o1 := Fth_ok (c := 0) rM
    have o2 := rOk_0 (v := .int (Int32.ofNat len)) o1 f5
    have o3 := rOk_0 (v := .int 0) o2 f4
    have o4 := rOk_0 (v := .int 0) o3 f6
    have oa : rOk N r Fa := by rw [hFa]; exact rOk_0 o4 f7
    have ra : ∀ i, i ≠ 0 → Fa i = F i := fun i hi => by rw [hFa, pu_o hi, pu_o hi, pu_o hi, pu_o hi, Fth_r hi]
    have ca : ∀ l, l ≠ 0 → l ≠ 4 → l ≠ 5 → l ≠ 6 → l ≠ 7 → gt Fa 0 l = gt F 0 l := fun l l0 l4 l5 l6 l7 => by rw [hFa, gt_ne (by omega), gt_ne (by omega), gt_ne (by omega), gt_ne (by omega), Fth_gt (.inr l0)]
    have ca0 : gt Fa 0 0 = 0 := by rw [hFa, gt_ne (by omega), gt_ne (by omega), gt_ne (by omega), gt_ne (by omega), Fth_at]
    have ca4 : gt Fa 0 4 = 0 := by rw [hFa, gt_ne (by omega), gt_ne (by omega), gt_eq]
    have ca5 : gt Fa 0 5 = Int32.ofNat len := by rw [hFa, gt_ne (by omega), gt_ne (by omega), gt_ne (by omega), gt_eq]
    have ca6 : gt Fa 0 6 = Int32.ofNat 0 := by rw [hFa, gt_ne (by omega), gt_eq]; rfl
    have ca7 : gt Fa 0 7 = Int32.ofNat 0 := by rw [hFa, gt_eq]; rfl
    obtain ⟨e, Fb, t1, t2, t3, t4, t5, t6, t7, t8, t9, t10⟩ := r_letters (M := N) (r := r) (p := 0) g1 (Nat.zero_le _) oa (hT.row (ra 3 (by omega))) ca5 ca6 ca7
    have cb : ∀ l, l ≠ 7 → l ≠ 10 → gt Fb 0 l = gt Fa 0 l := fun l h7 h10 => by unfold gt; rw [t10 l h7 h10]
    obtain ⟨e2, Fc, s1, s2, s3, s4, s5, s6, s7, s8, s9⟩ := r_sp_L (M := N) (r := r) (w := e) (v8 := Int32.ofNat e) g1 (len - e) vF e Fb t2 (hT.row ((t9 3 (by omega)).trans (ra 3 (by omega)))) (by rw [cb 5 (by omega) (by omega)]; exact ca5) t3 (fun i i1 i2 => by omega) (Nat.le_refl _) (by omega) (by unfold vF; omega)
    have cc : ∀ l, l ≠ 7 → gt Fc 0 l = gt Fb 0 l := fun l h7 => by unfold gt; rw [s9 l h7]
    have rc : ∀ i, i ≠ 0 → Fc i = F i := fun i hi => by rw [s8 i hi, t9 i hi, ra i hi]
    have j10 : vJ (Fc 0 10) = vJ (Fb 0 10) := by rw [s9 10 (by omega)]
    have c1' : gt Fc 1 0 = Int32.ofNat n := by rw [gt_row (rc 1 (by omega))]; exact f3.1.2.2.1.1
    have cnt0 : aI (rv N r Fc) (r + 1) 101 0 = some (Int32.ofNat n) := by
      have := r_now (M := N) (r := r) (F := Fc) (n := 0) (by omega)
      rw [c1'] at this; exact this
    obtain ⟨zr, y1, y2⟩ := r_named (M := N) (r := r) (F := Fc) (j := 2) (v := vJ (Fc 0 10)) (by omega) rfl rfl hn5
    -- the answer of the reference
    have ans : tX10_find r (rv N r F) = some (if e = 0 ∨ 8 < e ∨ e2 < len then -1 else zr, rv N r Fc) := by
      rw [tX10_find, r_th0 rM, Option.bind_some, r_gI, Option.bind_some, Fth_gt (.inr (by omega)), g3, r_sV _ o1, Option.bind_some, r_sV _ o2, Option.bind_some, r_sV _ o3, Option.bind_some, r_sV _ o4, Option.bind_some, if_pos r_tag, ← hFa, t1, Option.bind_some, r_gI, Option.bind_some, t3, s1, Option.bind_some]
      by_cases g0 : e = 0
      · rw [if_pos (n_z0 g0), if_pos (.inl g0)]
      · rw [if_neg (n_z (by omega) g0), if_8 (by omega)]
        by_cases g8 : 8 < e
        · rw [if_pos g8, if_pos (.inr (.inl g8))]
        · rw [if_neg g8, r_gI, Option.bind_some, r_gI, Option.bind_some, s3, cc 5 (by omega), cb 5 (by omega) (by omega), ca5]
          by_cases ge : e2 < len
          · rw [if_neg (fun y => by have := (n_le (by omega) (by omega)).mp y; omega), if_pos (.inr (.inr ge))]
          · rw [if_pos ((n_le (by omega) (by omega)).mpr (by omega)), rA2 s2, Option.bind_some, rA1 s2, Option.bind_some, cnt0, Option.bind_some, r_gJ, Option.bind_some, y1, Option.bind_some, if_neg (by omega)]
    -- both name the same set
    have hz' : (if e = 0 ∨ 8 < e ∨ e2 < len then -1 else zr) = z := by
      by_cases g : e = 0 ∨ 8 < e ∨ e2 < len
      · rw [if_pos g]
        refine (fst1_no z2 (fun s hs hh => ?_)).symm
        obtain ⟨h1, h2⟩ := hh
        obtain ⟨w1, w2, w3⟩ := (hlf s hs).2.1
        rw [Nat.sub_zero] at h1
        have hl : ∀ i, i < m → isL (T i) := fun i hi => by
          have := h2 i (by omega)
          rw [Nat.zero_add] at this
          unfold isL; rw [this]; exact w3 i (by omega)
        have em : m ≤ e := by
          by_cases c : m ≤ e
          · exact c
          · exact absurd (hl e (by omega)) (t8 (by omega))
        have me : e ≤ m := by
          by_cases c : e ≤ m
          · exact c
          · have i1 := t7 m (by omega) (by omega)
            have i2 := m3 m (Nat.le_refl _) (by omega)
            rw [i2] at i1; unfold isL at i1; omega
        have l2 : ¬ e2 < len := fun c => s7 c (m3 e2 (by omega) c)
        omega
      · rw [if_neg g]
        have em : e = m := by
          have i1 := t7 (e - 1) (by omega) (by omega)
          have c1 : e ≤ m := by
            by_cases c : e ≤ m
            · exact c
            · have i2 := m3 (e - 1) (by omega) (by omega)
              rw [i2] at i1; unfold isL at i1; omega
          have c2 : m ≤ e := by
            by_cases c : m ≤ e
            · exact c
            · exact absurd (s6 (m - 1) (by omega) (by omega)) (m4 (by omega))
          omega
        refine fst1_u y2 z2 (fun s hs => ?_)
        rw [rc 2 (by omega), (hlf s hs).2.2, j10, t4]
        have := nm_pk (T := T) (p := 0) (e := m) (hlf s hs).2.1 (by omega) (fun i i1 i2 => t7 i i1 (by omega))
        rw [this, em, Nat.sub_zero]
        rw [show (if m < 8 then m else 8) = m by split <;> omega]
    refine ⟨Fc, ?_, ?_, ?_⟩
    · rw [ans, hz']
    · have S := simD_txt (M2 := rv (gv M x (pu G 1 1 (.int 0))) r Fc) (G2 := pu G 1 1 (.int 0)) (F2 := Fc) h (fun i _ h1 _ => pu_o h1) (fun l _ => pu_ne (by omega)) (pu_ne (by omega)) (hG_gv.rv (.inl a5)) hR_rv ⟨a4.1, s2.2⟩ rfl (Nat.le_refl _)
        (fun i b E hi hne hbk b0 bm br hE => (hE.gv (.inl b0)).rv (by omega)) ?_ (fun q hq _ => by rw [rv_out (fun g => hq (.inr (.inl (ow g)))), gv_out (fun g => hq (.inl g))]) ⟨0, by omega, gt_eq _ _ _, ?_⟩ (fun i hi => ?_) ?_ ?_ (fun i hi => rc i (by omega))
      · exact ⟨_, _, _, _, _, _, _, _, _, simD_slk S hs⟩
      · obtain ⟨⟨q1, q2, q3⟩, E, q4, q5⟩ := c1 1 d (by omega) (bk1 b2)
        exact ⟨E, (q4.gv (.inl q1)).rv (by omega), q5⟩
      · rw [cc 4 (by omega), cb 4 (by omega) (by omega), ca4]; rfl
      · rw [gt_row (rc 3 (by omega)), show gt (pu G 1 1 (.int 0)) 2 i = gt G 2 i from gt_ne (by omega)]; exact gby i hi
      · rw [cc 12 (by omega), cb 12 (by omega) (by omega), ca 12 (by omega) (by omega) (by omega) (by omega) (by omega), show gt (pu G 1 1 (.int 0)) 0 5 = gt G 0 5 from gt_ne (by omega)]; exact i1
      · rw [cc 18 (by omega), cb 18 (by omega) (by omega), ca 18 (by omega) (by omega) (by omega) (by omega) (by omega)]
    · rw [cc 0 (by omega), cb 0 (by omega) (by omega), ca0]
end
