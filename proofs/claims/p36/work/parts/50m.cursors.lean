section
variable {M M' : vMe} {a b u hz n k s : Nat} {C C2 E E2 F : Nat → Nat → Value}
/-- one cursor has changed, and the cost -/
theorem cu_P {clk c : Nat} (h : simP C F u hz n k) (hF : F 1 = eR E) (hK : okE b E F n clk) (hc : c < 6) (fC : ∀ j l, j ≠ 44 + c → (j ≠ 0 ∨ l ≠ 8) → C2 j l = C j l) (fE : ∀ i l, i ≠ 44 + c → (i ≠ 42 ∨ l ≠ c) → (i ≠ 0 ∨ l ≠ 4) → E2 i l = E i l) (h8 : gt C2 0 8 = gt E2 0 4) (hcu : simC C2 (gRow F E2) n c)
    (hpo : ∀ s p m, s < n → onF (gRow F E2) c s → oC (gRow F E2) c 2 = Int32.ofNat p → p ≤ 64 → oS F s 0 = Int32.ofNat m → m ≤ 64 → p ≤ m) (hU : E2 42 c = .null ∨ ∃ q s, E2 42 c = .ref q ∧ s < n ∧ E2 (44 + c) 0 = .ref (b + (2 + 8 * s)) ∧ gt E2 (44 + c) 1 = Int32.ofNat s ∧ (gt E2 (44 + c) 6 = 0 ∨ gt E2 (44 + c) 6 = 1) ∧ (gt E2 (44 + c) 7 = 0 ∨ gt E2 (44 + c) 7 = 1)) :
    simP C2 (gRow F E2) u hz n k ∧ okE b E2 (gRow F E2) n clk ∧ ∀ t, t < n → ∀ w, w < 378 → oS (gRow F E2) t w = oS F t w := by
  have hF2 : (gRow F E2) 1 = eR E2 := gRow_1
  have hn5 := h.1.2.2.1.2
  have oc : ∀ d w, d < 6 → d ≠ c → w < 8 → oC (gRow F E2) d w = oC F d w := fun d w hd hne hw => by
    rw [R_C hF2 hd hw, R_C hF hd hw]
    have gg : ∀ l, gt E2 (44 + d) l = gt E (44 + d) l := fun l => by unfold gt; rw [fE _ _ (by omega) (by omega) (by omega)]
    unfold eV
    rw [gg, gg, gg, gg, gg, gg, gg, fE 42 d (by omega) (by omega) (by omega)]
  have o0 : ∀ t, t < 5 → oS (gRow F E2) t 0 = oS F t 0 := fun t t5 => by rw [R_0 hF2 t5, R_0 hF t5]; unfold gt; rw [fE _ _ (by omega) (by omega) (by omega)]
  have key := ne_P (C2 := C2) (E2 := E2) (k2 := k) h hF hK (fun j l h1 h2 _ => by unfold gt; rw [fC j l (by omega) (by omega)]) (fun t _ => fC _ _ (by omega) (by omega)) (fun i l h1 h2 _ => by unfold gt; rw [fE i l (by omega) (by omega) (by omega)]) (fun t ht l => fE _ _ (by omega) (by omega) (by omega)) (fun t ht => by
      have e1 := (h.2.2.2.2.2 t ht).1.2.1
      rw [R_1 hF (by omega)] at e1
      unfold gt at e1 ⊢
      rw [fC _ _ (by omega) (by omega), fE _ _ (by omega) (by omega) (by omega)]; exact e1)
    (fun l hl => fC _ _ (by omega) (by omega)) h8 ⟨by
        have := h.2.1.2.2.2.1.trans h.1.2.2.2.1
        unfold gt at this ⊢
        rw [fC _ _ (by omega) (by omega)]; exact this, by
        have := (R_h hF).2.2.2.2.1.symm.trans h.1.2.2.2.1
        unfold gt at this ⊢
        rw [fE _ _ (by omega) (by omega) (by omega)]; exact this, h.1.2.2.2.2⟩ (fun i hi => by
      have h9 := h.1.2.2.2.2
      have := (h.2.2.1 i hi).trans (R_k hF (by omega))
      unfold gt at this ⊢
      rw [fC _ _ (by omega) (by omega), fE _ _ (by omega) (by omega) (by omega)]; exact this) (fun l hl => fE _ _ (by omega) (by omega) (by omega))
    (fun d hd => by
      by_cases e : d = c
      · rw [e]; exact hcu
      · exact simC_congr (fun w hw => oc d w hd e hw) (fun l => by unfold gt; rw [fC _ _ (by omega) (by omega)]) (h.2.2.2.1 d hd)) (fun d t p m' hd ht hon hp hp64 hm' hm64 => by
      rw [o0 t (by omega)] at hm'
      by_cases e : d = c
      · subst e; exact hpo t p m' ht hon hp hp64 hm' hm64
      · unfold onF at hon
        rw [oc d 0 hd e (by omega), oc d 3 hd e (by omega), oc d 1 hd e (by omega)] at hon
        rw [oc d 2 hd e (by omega)] at hp
        exact h.2.2.2.2.1 d t p m' hd ht hon hp hp64 hm' hm64) (fun d hd => by
      by_cases e : d = c
      · rw [e]; exact hU
      · rcases hK.2.2.1 d hd with q | ⟨q, t, q1, q2, q3, q4, q5, q6⟩
        · exact .inl (by rw [fE _ _ (by omega) (by omega) (by omega)]; exact q)
        · have gu : ∀ l, gt E2 (44 + d) l = gt E (44 + d) l := fun l => by unfold gt; rw [fE _ _ (by omega) (by omega) (by omega)]
          exact .inr ⟨q, t, by rw [fE _ _ (by omega) (by omega) (by omega)]; exact q1, q2, by rw [fE _ _ (by omega) (by omega) (by omega)]; exact q3, by rw [gu]; exact q4, by rw [gu]; exact q5, by rw [gu]; exact q6⟩)
  refine ⟨key.1, key.2.1, fun t ht w hw => ?_⟩
  by_cases e : w = 1
  · rw [e, R_1 hF2 (by omega), R_1 hF (by omega)]; unfold gt; rw [fE _ _ (by omega) (by omega) (by omega)]
  · exact key.2.2 t ht w hw e
/-- a cursor of the law's is there just where one of the class's is in use -/
theorem use_P {c : Nat} (h : simP C F u hz n k) (hF : F 1 = eR E) (hc : c < 6) : (vR (E 42 c) = none → oC F c 0 = 0) ∧ (vR (E 42 c) ≠ none → oC F c 0 = 1) := by
  obtain ⟨r0, -⟩ := R_c hF hc
  rw [r0]
  exact ⟨fun g => if_pos g, fun g => if_neg g⟩
def opE (E : Nat → Nat → Value) (c q : Nat) (K : Nat → Value) : Nat → Nat → Value := fun i => if i = 42 then updV (E 42) c (.ref q) else if i = 44 + c then K else E i
theorem opE_o {c q i l : Nat} {K : Nat → Value} (h1 : i ≠ 44 + c) (h2 : i ≠ 42 ∨ l ≠ c) : opE E c q K i l = E i l := by
  unfold opE
  by_cases e : i = 42
  · rw [if_pos e, e]; unfold updV; rw [if_neg (by omega)]
  · rw [if_neg e, if_neg h1]
theorem opE_r {c q : Nat} {K : Nat → Value} : opE E c q K 42 c = .ref q := by unfold opE; rw [if_pos rfl]; simp [updV]
theorem opE_k {c q : Nat} {K : Nat → Value} : opE E c q K (44 + c) = K := by unfold opE; rw [if_neg (by omega), if_pos rfl]
theorem opE_ok {c q : Nat} {K : Nat → Value} (h : eOk M b E) (hc : c < 6) (hq : b + 44 ≤ q) (hn : ¬ eA b E q) : eOk M b (opE E c q K) := by
  obtain ⟨h1, ⟨h2, h3, h4⟩, h5, h6, h7, h8⟩ := h
  refine ⟨h1, ⟨?_, ?_, ?_⟩, fun s hs => ?_, fun s hs j hj => ?_, fun d hd => ?_, fun d d' z hd hd' e1 e2 => ?_⟩
  · rw [opE_o (by omega) (by omega)]; exact h2
  · rw [opE_o (by omega) (by omega)]; exact h3
  · rw [opE_o (by omega) (by omega)]; exact h4
  · rw [opE_o (by omega) (by omega)]; exact h5 s hs
  · rw [opE_o (by omega) (by omega)]; exact h6 s hs j hj
  · by_cases e : d = c
    · subst e; rw [opE_r]; exact .inr ⟨q, rfl, hq⟩
    · rw [opE_o (by omega) (by omega)]; exact h7 d hd
  · by_cases g1 : d = c
    · subst g1
      rw [opE_r] at e1
      by_cases g2 : d' = d
      · exact g2.symm
      · rw [opE_o (by omega) (by omega)] at e2
        cases e1
        exact absurd (.inr ⟨d', hd', e2⟩) hn
    · rw [opE_o (by omega) (by omega)] at e1
      by_cases g2 : d' = c
      · subst g2
        rw [opE_r] at e2
        cases e2
        exact absurd (.inr ⟨d, hd, e1⟩) hn
      · rw [opE_o (by omega) (by omega)] at e2
        exact h8 d d' z hd hd' e1 e2
/-- a cursor is opened, on both sides -/
theorem open_E {clk c q : Nat} {st : Int32} {K : Nat → Value} (h : simP C F u hz n k) (hF : F 1 = eR E) (hK : okE b E F n clk) (hc : c < 6) (hs : s < n) (hst : st = 0 ∨ st = 1) (hC : cOk M a C) (k0 : K 0 = .ref (b + (2 + 8 * s))) (k1 : vI (K 1) = Int32.ofNat s) (k2 : vI (K 2) = 0) (k3 : vI (K 3) = gt E 0 3) (k4 : vI (K 4) = 0) (k5 : vI (K 5) = -1) (k6 : vI (K 6) = 1) (k7 : vI (K 7) = st) :
    simP (cBeg C c (Int32.ofNat s) st (gt C 0 7)) (gRow F (opE E c q K)) u hz n k ∧ okE b (opE E c q K) (gRow F (opE E c q K)) n clk ∧ ∀ t, t < n → ∀ w, w < 378 → oS (gRow F (opE E c q K)) t w = oS F t w := by
  obtain ⟨c7, e3, eh, c8⟩ := clk_P h hF hK
  have hF2 : (gRow F (opE E c q K)) 1 = eR (opE E c q K) := gRow_1
  have gk : ∀ l, gt (opE E c q K) (44 + c) l = vI (K l) := fun l => by unfold gt; rw [opE_k]
  obtain ⟨r0, r1, r2, r3, r4, r5, r6, r7⟩ := R_c hF2 hc
  rw [opE_r, if_neg (show ¬ vR (Value.ref q) = none from fun g => by cases g)] at r0
  rw [gk] at r1 r2 r3 r4 r5 r6 r7
  have fb : ∀ j l, j ≠ 44 + c → cBeg C c (Int32.ofNat s) st (gt C 0 7) j l = C j l := fun j l hj => by
    unfold cBeg; rw [pu_ne (by omega), pu_ne (by omega), pu_ne (by omega), pu_ne (by omega), pu_ne (by omega), pu_ne (by omega), pu_ne (by omega), pu_ne (by omega)]
  have hn5 := h.1.2.2.1.2
  refine cu_P h hF hK hc (fun j l h1 _ => fb j l h1) (fun i l h1 h2 _ => opE_o h1 h2) (by
      show vI (cBeg C c (Int32.ofNat s) st (gt C 0 7) 0 8) = vI (opE E c q K 0 4)
      rw [fb _ _ (by omega), opE_o (by omega) (by omega)]; exact c8) ?_ (fun t p m ht hon hp hp64 _ _ => by
      rw [r2, k2] at hp
      have := (n_eq (a := 0) (by omega) (by omega)).mp hp
      omega) (.inr ⟨q, s, opE_r, hs, by rw [opE_k]; exact k0, by rw [gk]; exact k1, by rw [gk, k6]; exact .inr rfl, by rw [gk, k7]; exact hst⟩)
  right
  rw [r0, r1, r2, r3, r4, r5, r6, r7, k1, k2, k3, k4, k5, k6, k7]
  have v : ∀ l, gt (cBeg C c (Int32.ofNat s) st (gt C 0 7)) (44 + c) l = if l = 7 then -1 else if l = 6 then 0 else if l = 5 then gt C 0 7 else if l = 4 then 0 else if l = 3 then Int32.ofNat s else if l = 2 then st else if l = 1 then 1 else if l = 0 then 1 else gt C (44 + c) l := fun l => by
    unfold cBeg
    simp only [gt_pu, true_and]
  refine ⟨rfl, by rw [v]; rfl, by rw [v]; rfl, by rw [v]; rfl, by rw [v]; rfl, by rw [v]; rfl, ?_, by rw [v]; rfl, by rw [v]; rfl, .inr rfl, hst, ⟨s, hs, rfl⟩, ⟨0, by omega, rfl⟩, 0, by omega, rfl⟩
  rw [v]
  show gt C 0 7 = _
  rw [c7, e3]
/-- a cursor is closed, on both sides -/
theorem close_E {clk c : Nat} (h : simP C F u hz n k) (hF : F 1 = eR E) (hK : okE b E F n clk) (hc : c < 6) :
    simP (pu (pu C (44 + c) 0 (.int 0)) (44 + c) 1 (.int 0)) (gRow F (pu E 42 c .null)) u hz n k ∧ okE b (pu E 42 c .null) (gRow F (pu E 42 c .null)) n clk ∧ ∀ t, t < n → ∀ w, w < 378 → oS (gRow F (pu E 42 c .null)) t w = oS F t w := by
  obtain ⟨c7, e3, eh, c8⟩ := clk_P h hF hK
  have hF2 : (gRow F (pu E 42 c .null)) 1 = eR (pu E 42 c .null) := gRow_1
  obtain ⟨r0, -⟩ := R_c hF2 hc
  rw [pu_eq, if_pos (show vR Value.null = none from rfl)] at r0
  refine cu_P h hF hK hc (fun j l h1 _ => by rw [pu_ne (by omega), pu_ne (by omega)]) (fun i l h1 h2 _ => pu_ne h2) (by rw [gt_ne (by omega), gt_ne (by omega), gt_ne (by omega)]; exact c8) (.inl ⟨r0, by rw [gt_ne (by omega), gt_eq], gt_eq _ _ _⟩) (fun t p m ht hon => ?_) (.inl (pu_eq _ _ _))
  have := hon.1
  rw [r0] at this
  exact absurd this (by decide)
end
