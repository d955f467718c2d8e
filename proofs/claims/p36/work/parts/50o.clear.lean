section
variable {M M' : vMe} {a b u hz n k s : Nat} {C C0 Ca C2 E E1 F : Nat → Nat → Value}
theorem pu_congr {A B : Nat → Nat → Value} {i k j : Nat} {v : Value} (h : A j = B j) : pu A i k v j = pu B i k v j := by
  unfold pu
  by_cases c : j = i
  · rw [if_pos c, if_pos c, ← c, h]
  · rw [if_neg c, if_neg c, h]
theorem nt1_congr {A B : Nat → Nat → Value} {N j : Nat} {st x kd : Int32} (h : A j = B j) : nt1 A s N st x kd j = nt1 B s N st x kd j := pu_congr (pu_congr (pu_congr (pu_congr h)))
theorem ntE_congr {A B : Nat → Nat → Value} {N j : Nat} {st x kd : Int32} {v : Int64} (h : A j = B j) : ntE A s N st x kd v j = ntE B s N st x kd v j := pu_congr (nt1_congr h)
theorem cE_congr {A B : Nat → Nat → Value} {N j : Nat} {st x kd : Int32} (h : A j = B j) : cE A s N st x kd j = cE B s N st x kd j := pu_congr (pu_congr (pu_congr (pu_congr h)))
/-- the log of one, all else of another -/
def mixC (A B : Nat → Nat → Value) (s : Nat) : Nat → Nat → Value := fun j => if 4 + 8 * s + 4 ≤ j ∧ j < 4 + 8 * s + 8 then A j else B j
theorem mixC_l {A B : Nat → Nat → Value} {j : Nat} (h : 4 + 8 * s + 4 ≤ j ∧ j < 4 + 8 * s + 8) : mixC A B s j = A j := if_pos h
theorem mixC_o {A B : Nat → Nat → Value} {j : Nat} (h : ¬ (4 + 8 * s + 4 ≤ j ∧ j < 4 + 8 * s + 8)) : mixC A B s j = B j := if_neg h
theorem hapC_mv {m : Nat} {st x kd : Int32} (h : hapC C0 Ca s m hz st x kd) (e : ∀ j, 4 + 8 * s + 4 ≤ j → j < 4 + 8 * s + 8 → C2 j = Ca j) : hapC (mixC C0 C2 s) C2 s m hz st x kd := by
  obtain ⟨C', n', h1, h2⟩ := h
  refine ⟨mixC C' C2 s, n', ?_, ?_⟩
  · rcases h1 with ⟨g1, g2, g3⟩ | ⟨g1, g2, f1, f2, f3, f4, f5⟩
    · exact .inl ⟨g1, g2, by rw [g3]⟩
    · refine .inr ⟨g1, g2, ?_, ?_, ?_, fun w hw l hl => ?_, fun j hj => by rw [mixC_o (by omega), mixC_o (by omega)]⟩
      · unfold gt at f1 ⊢; rw [mixC_l (by omega), mixC_l (by omega)]; exact f1
      · unfold gt at f2 ⊢; rw [mixC_l (by omega), mixC_l (by omega), mixC_l (by omega), mixC_l (by omega)]; exact f2
      · unfold gt at f3 ⊢; rw [mixC_l (by omega)]; exact f3
      · have := f4 w hw l hl
        unfold gt at this ⊢; rw [mixC_l (by omega), mixC_l (by omega)]; exact this
  · funext j
    by_cases c : 4 + 8 * s + 4 ≤ j ∧ j < 4 + 8 * s + 8
    · rw [e j c.1 c.2, h2]
      exact cE_congr (mixC_l c).symm
    · have : cE (mixC C' C2 s) s n' st x kd j = mixC C' C2 s j := by
        funext l; unfold cE; rw [pu_ne (by omega), pu_ne (by omega), pu_ne (by omega), pu_ne (by omega)]
      rw [this, mixC_o c]
/-- cursor c is one of the box at bs -/
abbrev clU (E : Nat → Nat → Value) (bs c : Nat) : Prop := vR (E 42 c) ≠ none ∧ vR (E (44 + c) 0) = some bs
/-- the law closes the cursors of a box -/
theorem e_clr_L {v : Int32} {bs : Nat} (hbs : bs = b + (2 + 8 * s)) : ∀ (j f k : Nat) (E : Nat → Nat → Value), eOk M b E → okU b E n → k + j = 6 → j < f →
    ∃ E1, tX12_clear_L56 b bs v f (Int32.ofNat k) (ew M b E) = some ((), ew M b E1) ∧ eOk M b E1 ∧ okU b E1 n ∧
      (∀ c, c < 6 → gt E1 (44 + c) 6 = if k ≤ c ∧ clU E bs c then 0 else gt E (44 + c) 6) ∧ ∀ i l, (i < 44 ∨ l ≠ 6) → E1 i l = E i l := by
  intro j
  induction j with
  | zero =>
    intro f k E h hU hk hf
    obtain ⟨f, rfl⟩ : ∃ g, f = g + 1 := ⟨f - 1, by omega⟩
    refine ⟨E, ?_, h, hU, fun c hc => ?_, fun _ _ _ => rfl⟩
    · rw [tX12_clear_L56, if_pos (by rw [l6]; exact (n_le (by omega) (by omega)).mpr (by omega))]
    · rw [if_neg (by omega)]
  | succ j ih =>
    intro f k E h hU hk hf
    obtain ⟨f, rfl⟩ : ∃ g, f = g + 1 := ⟨f - 1, by omega⟩
    have hk6 : k < 6 := by omega
    have skip : ¬ clU E bs k → ∃ E1, tX12_clear_L56 b bs v f (Int32.ofNat (k + 1)) (ew M b E) = some ((), ew M b E1) ∧ eOk M b E1 ∧ okU b E1 n ∧
        (∀ c, c < 6 → gt E1 (44 + c) 6 = if k ≤ c ∧ clU E bs c then 0 else gt E (44 + c) 6) ∧ ∀ i l, (i < 44 ∨ l ≠ 6) → E1 i l = E i l := fun g => by
      obtain ⟨E1, e1, e2, e3, e4, e5⟩ := ih f (k + 1) E h hU (by omega) (by omega)
      refine ⟨E1, e1, e2, e3, fun d hd => ?_, e5⟩
      rw [e4 d hd]
      by_cases e : d = k
      · subst e
        rw [if_neg (by omega), if_neg (fun w => g w.2)]
      · by_cases w : k + 1 ≤ d ∧ clU E bs d
        · rw [if_pos w, if_pos ⟨by omega, w.2⟩]
        · rw [if_neg w, if_neg (fun q => w ⟨by omega, q.2⟩)]
    rw [tX12_clear_L56, if_neg (by rw [l6]; exact fun g => by have := (n_le (by omega) (by omega)).mp g; omega), e_A7 h, Option.bind_some, e_cR hk6, Option.bind_some]
    rcases hU k hk6 with g | ⟨q, t, g1, g2, g3, g4, g5, g6⟩
    · rw [g, if_pos (show vR Value.null = none from rfl), tX12_clear_J94_56, n_succ]
      exact skip (fun w => w.1 (by rw [g]; rfl))
    · rw [g1, if_neg (by show ¬ (some q = none); exact fun w => by cases w), Option.bind_some, e_cA hk6 g1, Option.bind_some, e_vA h hk6 g1 g3, Option.bind_some]
      by_cases ct : b + (2 + 8 * t) = bs
      · rw [if_pos ct, Option.bind_some, e_cA hk6 g1, Option.bind_some, e_vV h hk6 g1, Option.bind_some, tX12_clear_J94_56, n_succ]
        obtain ⟨E1, e1, e2, e3, e4, e5⟩ := ih f (k + 1) (pu E (44 + k) 6 (.int 0)) (eOk_pu h eFrU) (fun c hc => by
          rcases hU c hc with w | ⟨q', t', w1, w2, w3, w4, w5, w6⟩
          · exact .inl (by rw [pu_ne (by omega)]; exact w)
          · refine .inr ⟨q', t', by rw [pu_ne (by omega)]; exact w1, w2, by rw [pu_ne (by omega)]; exact w3, by rw [gt_ne (by omega)]; exact w4, ?_, by rw [gt_ne (by omega)]; exact w6⟩
            by_cases e : c = k
            · rw [e]; exact .inl (gt_eq _ _ _)
            · rw [gt_ne (by omega)]; exact w5) (by omega) (by omega)
        refine ⟨E1, e1, e2, e3, fun d hd => ?_, fun i l hi => by rw [e5 i l hi, pu_ne (by omega)]⟩
        have ec : clU (pu E (44 + k) 6 (.int 0)) bs d ↔ clU E bs d := by unfold clU; rw [pu_ne (by omega), pu_ne (by omega)]
        rw [e4 d hd]
        by_cases e : d = k
        · subst e
          rw [if_neg (by omega), gt_eq, if_pos ⟨Nat.le_refl _, show clU E bs d from ⟨by rw [g1]; exact fun h => (by cases h), by rw [g3, ct]; rfl⟩⟩]
        · by_cases w : k + 1 ≤ d ∧ clU E bs d
          · rw [if_pos ⟨w.1, ec.mpr w.2⟩, if_pos ⟨by omega, w.2⟩]
          · rw [if_neg (fun q => w ⟨q.1, ec.mp q.2⟩), if_neg (fun q => w ⟨by omega, q.2⟩), gt_ne (by omega)]
      · rw [if_neg ct, tX12_clear_J94_56, n_succ]
        exact skip (fun w => ct (by have h9 := w.2; rw [g3] at h9; exact Option.some.inj h9))
/-- the cursors behind a clear -/
theorem clr_U {c : Nat} (h : simP C F u hz n k) (hF : F 1 = eR E) (hU : okU b E n) (hs : s < n) (hc : c < 6) (fC : ∀ l, l ≠ 1 → gt C2 (44 + c) l = gt C (44 + c) l) (g1 : gt C2 (44 + c) 1 = if onC C c s then 0 else gt C (44 + c) 1) (r42 : E1 42 c = E 42 c) (fE : ∀ l, l ≠ 6 → gt E1 (44 + c) l = gt E (44 + c) l) (g6 : gt E1 (44 + c) 6 = if clU E (b + (2 + 8 * s)) c then 0 else gt E (44 + c) 6) :
    simC C2 (gRow F E1) n c ∧ (∀ t, onF (gRow F E1) c t → onF F c t ∧ oC (gRow F E1) c 2 = oC F c 2 ∧ Int32.ofNat t ≠ Int32.ofNat s) := by
  have hn5 := h.1.2.2.1.2
  obtain ⟨r0, r1, r2, r3, r4, r5, r6, r7⟩ := R_c hF hc
  obtain ⟨q0, q1, q2, q3, q4, q5, q6, q7⟩ := R_c (F := gRow F E1) gRow_1 hc
  rcases hU c hc with g | ⟨q, t, w1, w2, w3, w4, w5, w6⟩
  · have o0 : oC F c 0 = 0 := by rw [r0, g, if_pos (show vR Value.null = none from rfl)]
    have o0' : oC (gRow F E1) c 0 = 0 := by rw [q0, r42, g, if_pos (show vR Value.null = none from rfl)]
    rcases h.2.2.2.1 c hc with ⟨-, a2, a3⟩ | ⟨a1, -⟩
    · refine ⟨.inl ⟨o0', by rw [fC 0 (by omega)]; exact a2, by
        rw [g1]; split
        · rfl
        · exact a3⟩, fun t hon => ?_⟩
      have := hon.1
      rw [o0'] at this; exact absurd this (by decide)
    · rw [o0] at a1; exact absurd a1 (by decide)
  · obtain ⟨⟨b0, b1, b2, b3, b4, b5, b6, b7⟩, w12, w13, w14, o0⟩ := cu_F h hF hc w1
    have key : onC C c s ∨ gt E (44 + c) 6 = 0 ∨ t ≠ s := by
      by_cases e : gt E (44 + c) 6 = 0
      · exact .inr (.inl e)
      · by_cases e2 : t = s
        · exact .inl ⟨by rw [b1]; exact e, by rw [b3, w4, e2]⟩
        · exact .inr (.inr e2)
    have v6 : gt C2 (44 + c) 1 = gt E1 (44 + c) 6 := by
      rw [g1, g6]
      by_cases e2 : t = s
      · rw [if_pos (show clU E (b + (2 + 8 * s)) c from ⟨by rw [w1]; exact fun h => (by cases h), by rw [w3, e2]; rfl⟩)]
        by_cases e : onC C c s
        · rw [if_pos e]
        · rw [if_neg e, b1]
          rcases key with k1 | k1 | k1
          · exact absurd k1 e
          · exact k1
          · exact absurd e2 k1
      · rw [if_neg (show ¬ clU E (b + (2 + 8 * s)) c from fun w => e2 (by have h9 := w.2; rw [w3] at h9; have h8 : b + (2 + 8 * t) = b + (2 + 8 * s) := Option.some.inj h9; omega)), if_neg (fun w => e2 (by
          have := w.2
          rw [b3, w4] at this
          exact (n_eq (by omega) (by omega)).mp this)), b1]
    have v66 : gt E1 (44 + c) 6 = 0 ∨ gt E1 (44 + c) 6 = 1 := by
      rw [g6]; split
      · exact .inl rfl
      · exact w5
    refine ⟨mk_simC hc (by rw [r42]; exact w1) ⟨by rw [fC _ (by omega)]; exact b0, v6, by rw [fC _ (by omega), fE _ (by omega)]; exact b2, by rw [fC _ (by omega), fE _ (by omega)]; exact b3, by rw [fC _ (by omega), fE _ (by omega)]; exact b4, by rw [fC _ (by omega), fE _ (by omega)]; exact b5, by rw [fC _ (by omega), fE _ (by omega)]; exact b6, by rw [fC _ (by omega), fE _ (by omega)]; exact b7⟩ v66 (by rw [fE _ (by omega)]; exact w6) (by rw [fE _ (by omega)]; exact w12) (by rw [fE _ (by omega)]; exact w13) (by rw [fE _ (by omega)]; exact w14), fun t' hon => ?_⟩
    obtain ⟨h1, h2, h3⟩ := hon
    rw [q3, g6] at h2
    rw [q1, fE _ (by omega), w4] at h3
    by_cases e2 : t = s
    · rw [if_pos (show clU E (b + (2 + 8 * s)) c from ⟨by rw [w1]; exact fun h => (by cases h), by rw [w3, e2]; rfl⟩)] at h2
      exact absurd h2 (by decide)
    · rw [if_neg (show ¬ clU E (b + (2 + 8 * s)) c from fun w => e2 (by have h9 := w.2; rw [w3] at h9; have h8 : b + (2 + 8 * t) = b + (2 + 8 * s) := Option.some.inj h9; omega))] at h2
      refine ⟨⟨o0, by rw [r3]; exact h2, by rw [r1, w4]; exact h3⟩, by rw [q2, fE _ (by omega), r2], fun hw => ?_⟩
      exact absurd ((n_eq (by omega) (by omega)).mp (h3.trans hw)) e2
end
