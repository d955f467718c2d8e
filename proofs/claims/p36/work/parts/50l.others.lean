section
variable {M M' : vMe} {a b u hz n k s : Nat} {C C2 E E2 F : Nat → Nat → Value}
/-- a change without an event, in the class's state and in the law's sets -/
theorem ne_P {clk k2 : Nat} (h : simP C F u hz n k) (hF : F 1 = eR E) (hK : okE b E F n clk)
    (fC : ∀ j l, 4 ≤ j → j < 44 → (∀ s, s < n → ¬ (j = 4 + 8 * s ∧ l = 6)) → gt C2 j l = gt C j l) (fCt : ∀ s, s < n → C2 (4 + 8 * s + 4) 5 = C (4 + 8 * s + 4) 5) (fE : ∀ i l, 2 ≤ i → i < 42 → (∀ s, s < n → ¬ (i = 2 + 8 * s ∧ l = 1)) → gt E2 i l = gt E i l) (fEt : ∀ s, s < n → ∀ l, E2 (2 + 8 * s + (6 + 1)) l = E (2 + 8 * s + (6 + 1)) l) (hg : ∀ s, s < n → gt C2 (4 + 8 * s) 6 = gt E2 (2 + 8 * s) 1)
    (hC0 : ∀ l, (l = 3 ∨ l = 4 ∨ l = 5 ∨ l = 7) → C2 0 l = C 0 l) (h8 : gt C2 0 8 = gt E2 0 4) (hk : gt C2 0 6 = Int32.ofNat k2 ∧ gt E2 0 5 = Int32.ofNat k2 ∧ k2 ≤ 8) (hm : ∀ i, i < k2 → gt C2 3 i = gt E2 43 i) (hE0 : ∀ l, l < 4 → E2 0 l = E 0 l)
    (hcu : ∀ c, c < 6 → simC C2 (gRow F E2) n c) (hpo : posB (gRow F E2) n) (hU : okU b E2 n) :
    simP C2 (gRow F E2) u hz n k2 ∧ okE b E2 (gRow F E2) n clk ∧ ∀ t, t < n → ∀ w, w < 378 → w ≠ 1 → oS (gRow F E2) t w = oS F t w := by
  obtain ⟨k1, k2', k3, k4⟩ := hK
  have hn5 := h.1.2.2.1.2
  have hF2 : (gRow F E2) 1 = eR E2 := gRow_1
  obtain ⟨r0, r1, r2, r3, r4, r5⟩ := R_h hF
  obtain ⟨q0, q1, q2, q3, q4, q5⟩ := R_h hF2
  have e0 : ∀ l, l < 4 → gt E2 0 l = gt E 0 l := fun l hl => by unfold gt; rw [hE0 l hl]
  have gb : ∀ t, t < n → ∀ i l, i < 8 → (i ≠ 0 ∨ l ≠ 1) → gt E2 (2 + 8 * t + i) l = gt E (2 + 8 * t + i) l := fun t ht i l hi hil => fE _ _ (by omega) (by omega) (fun s _ g => by omega)
  have ow : ∀ t, t < n → ∀ w, w < 378 → w ≠ 1 → oS (gRow F E2) t w = oS F t w := fun t ht w hw hw1 => by
    rw [R_S hF2 (by omega) hw, R_S hF (by omega) hw]
    have n1 : eN E2 t = eN E t := by unfold eN; rw [show gt E2 (2 + 8 * t) 2 = gt E (2 + 8 * t) 2 from gb t ht 0 2 (by omega) (by omega)]
    have n2 : eH E2 = eH E := by unfold eH; rw [e0 2 (by omega)]
    have n3 : eK E2 t = eK E t := by unfold eK; rw [n1, n2]
    unfold eW
    rw [n1, n2, n3, show gt E2 (2 + 8 * t) 0 = gt E (2 + 8 * t) 0 from gb t ht 0 0 (by omega) (by omega), if_neg hw1, if_neg hw1, gb t ht (3 + 1) _ (by omega) (by omega), fEt t ht _, gb t ht (0 + 1) _ (by omega) (by omega), gb t ht (1 + 1) _ (by omega) (by omega), gb t ht (2 + 1) _ (by omega) (by omega), gb t ht (3 + (w - 198) % 3 + 1) _ (by omega) (by omega)]
  have mem : ∀ t, t < n → ∀ y, y < 64 → (isM (gRow F E2) t y ↔ isM F t y) := fun t ht y hy => by
    unfold isM
    constructor
    · rintro ⟨p, m, a1, a2, a3, a4, a5⟩
      exact ⟨p, m, by rw [← ow t ht _ (by omega) (by omega)]; exact a1, by rw [← ow t ht _ (by omega) (by omega)]; exact a2, a3, a4, by rw [← ow t ht _ (by omega) (by omega)]; exact a5⟩
    · rintro ⟨p, m, a1, a2, a3, a4, a5⟩
      exact ⟨p, m, by rw [ow t ht _ (by omega) (by omega)]; exact a1, by rw [ow t ht _ (by omega) (by omega)]; exact a2, a3, a4, by rw [ow t ht _ (by omega) (by omega)]; exact a5⟩
  obtain ⟨⟨⟨a1, a2⟩, ⟨b1, b2⟩, ⟨c1, c2⟩, ⟨d1, d2⟩⟩, ⟨g1, g2, g3, g4, g5, g6⟩, hm', -, -, hst⟩ := h
  have gC0 : ∀ l, (l = 3 ∨ l = 4 ∨ l = 5 ∨ l = 7) → gt C2 0 l = gt C 0 l := fun l hl => by unfold gt; rw [hC0 l hl]
  refine ⟨⟨⟨⟨by rw [q1, e0 1 (by omega), ← r1]; exact a1, a2⟩, ⟨by rw [q2, e0 2 (by omega), ← r2]; exact b1, b2⟩, ⟨by rw [q0, e0 0 (by omega), ← r0]; exact c1, c2⟩, ⟨by rw [q4]; exact hk.2.1, hk.2.2⟩⟩,
    ⟨by rw [gC0 3 (by omega), g1, q1, e0 1 (by omega), r1], by rw [gC0 4 (by omega), g2, q2, e0 2 (by omega), r2], by rw [gC0 5 (by omega), g3, q0, e0 0 (by omega), r0], by rw [hk.1, q4, hk.2.1], by rw [gC0 7 (by omega), g5, q3, e0 3 (by omega), r3], by rw [h8, q5]⟩,
    fun i hi => by rw [R_k hF2 (by omega)]; exact hm i hi, hcu, hpo, fun t ht => ?_⟩, ⟨by rw [e0 3 (by omega)]; exact k1, k2', hU, fun t ht => ?_⟩, ow⟩
  · obtain ⟨⟨s1, s2, s3, s4, s5, s6, s7, s8, s9⟩, ⟨m, m1, m2, m3⟩, hp, hx, n', n1, n2⟩ := hst t ht
    have gg : ∀ i l, i < 8 → (i ≠ 0 ∨ l ≠ 6) → gt C2 (4 + 8 * t + i) l = gt C (4 + 8 * t + i) l := fun i l hi hil => fC _ _ (by omega) (by omega) (fun s _ g => by omega)
    refine ⟨⟨?_, ?_, fun y hy => ?_, fun y hy => ?_, fun y hy hmy => ?_, ?_, ?_, ?_, fun j n'' h2 h3 h4 w hw => ?_⟩, ⟨m, m1, by rw [ow t ht _ (by omega) (by omega)]; exact m2, fun p hp => ?_⟩, fun y hy => by rw [ow t ht _ (by omega) (by omega)]; exact hp y hy, fun y hy => by rw [ow t ht _ (by omega) (by omega)]; exact hx y hy, n', n1, by rw [ow t ht _ (by omega) (by omega)]; exact n2⟩
    · rw [ow t ht _ (by omega) (by omega), ← s1]; exact gg 0 5 (by omega) (by omega)
    · rw [R_1 hF2 (by omega)]; exact hg t ht
    · rw [ow t ht _ (by omega) (by omega), ← s3 y hy]; exact gg 1 y (by omega) (by omega)
    · rw [ow t ht _ (by omega) (by omega), ← s4 y hy]; exact gg 2 y (by omega) (by omega)
    · rw [ow t ht _ (by omega) (by omega), ← s5 y hy ((mem t ht y hy).mp hmy)]; exact gg 3 y (by omega) (by omega)
    · rw [ow t ht _ (by omega) (by omega), ← s6]; exact gg 4 3 (by omega) (by omega)
    · rw [ow t ht _ (by omega) (by omega), ← s7]; exact gg 4 4 (by omega) (by omega)
    · rw [ow t ht _ (by omega) (by omega), ow t ht _ (by omega) (by omega), ← s8, fCt t ht]
    · rw [ow t ht _ (by omega) (by omega)] at h2
      rw [ow t ht _ (by omega) (by omega), ← s9 j n'' h2 h3 h4 w hw]; exact gg (5 + w) j (by omega) (by omega)
    · obtain ⟨y, y1, y2, y3⟩ := m3 p hp
      exact ⟨y, y1, by rw [ow t ht _ (by omega) (by omega)]; exact y2, by rw [ow t ht _ (by omega) (by omega)]; exact y3⟩
  · obtain ⟨N, l1, l2, l3, l4, ⟨tt, t1, t2⟩, l6⟩ := k4 t ht
    refine ⟨N, (gb t ht 0 2 (by omega) (by omega)).trans l1, l2, by rw [fEt t ht _]; exact l3, fun j hj => ?_, ⟨tt, fun j hj => ?_, t2⟩, fun y hy => ?_⟩
    · rw [fEt t ht _, fEt t ht _, gb t ht (3 + 1 + 1) _ (by omega) (by omega), gb t ht (3 + 2 + 1) _ (by omega) (by omega)]; exact l4 j hj
    · rw [gb t ht (3 + 1) _ (by omega) (by omega)]; exact t1 j hj
    · rw [fEt t ht _, mem t ht y hy]; exact l6 y hy
/-- a mark, on both sides -/
theorem mark_E {clk : Nat} (h : simP C F u hz n k) (hF : F 1 = eR E) (hK : okE b E F n clk) (hk : k < 8) (hC : cOk M a C) :
    ∃ C2, tX5_makeMark a (cv M a C) = some ((), cv M a C2) ∧ cOk M a C2 ∧ kN C C2 ∧ gt C2 0 6 = Int32.ofNat (k + 1) ∧ (∀ c, c < 6 → C2 (44 + c) = C (44 + c)) ∧ simP C2 (gRow F (pu (pu E 43 k (.int (gt E 0 3))) 0 5 (.int (Int32.ofNat (k + 1))))) u hz n (k + 1) ∧ okE b (pu (pu E 43 k (.int (gt E 0 3))) 0 5 (.int (Int32.ofNat (k + 1)))) (gRow F (pu (pu E 43 k (.int (gt E 0 3))) 0 5 (.int (Int32.ofNat (k + 1))))) n clk := by
  obtain ⟨c7, e3, eh, c8⟩ := clk_P h hF hK
  have ck : gt C 0 6 = Int32.ofNat k := h.2.1.2.2.2.1.trans h.1.2.2.2.1
  have o1 : cOk M a (pu C 3 k (.int (gt C 0 7))) := cOk_k hC
  obtain ⟨E2, hE2⟩ : ∃ E2, E2 = pu (pu E 43 k (.int (gt E 0 3))) 0 5 (.int (Int32.ofNat (k + 1))) := ⟨_, rfl⟩
  obtain ⟨C2, hC2⟩ : ∃ C2, C2 = pu (pu C 3 k (.int (gt C 0 7))) 0 6 (.int (Int32.ofNat (k + 1))) := ⟨_, rfl⟩
  rw [← hE2]
  have gC : ∀ j l, j ≠ 3 → (j ≠ 0 ∨ l ≠ 6) → C2 j l = C j l := fun j l h1 h2 => by rw [hC2, pu_ne (by omega), pu_ne (by omega)]
  have gE : ∀ i l, i ≠ 43 → (i ≠ 0 ∨ l ≠ 5) → E2 i l = E i l := fun i l h1 h2 => by rw [hE2, pu_ne (by omega), pu_ne (by omega)]
  have hF2 : (gRow F E2) 1 = eR E2 := gRow_1
  have oc : ∀ c w, c < 6 → w < 8 → oC (gRow F E2) c w = oC F c w := fun c w hc hw => oC_same hF2 hF hc hw (funext fun l => gE _ _ (by omega) (by omega)) (funext fun l => gE _ _ (by omega) (by omega))
  have o0 : ∀ t, t < 5 → oS (gRow F E2) t 0 = oS F t 0 := fun t t5 => by rw [R_0 hF2 t5, R_0 hF t5]; unfold gt; rw [gE _ _ (by omega) (by omega)]
  have key := ne_P (C2 := C2) (E2 := E2) (k2 := k + 1) h hF hK (fun j l h1 h2 _ => by unfold gt; rw [gC j l (by omega) (by omega)]) (fun t _ => gC _ _ (by omega) (by omega)) (fun i l h1 h2 _ => by unfold gt; rw [gE i l (by omega) (by omega)]) (fun t ht l => gE _ _ (by have := h.1.2.2.1.2; omega) (by omega)) (fun t ht => by
      have h5 : t < 5 := by have := h.1.2.2.1.2; omega
      have e1 := (h.2.2.2.2.2 t ht).1.2.1
      rw [R_1 hF h5] at e1
      unfold gt at e1 ⊢
      rw [gC _ _ (by omega) (by omega), gE _ _ (by omega) (by omega)]; exact e1)
    (fun l hl => gC _ _ (by omega) (by omega)) (by
      unfold gt at c8 ⊢
      rw [gC _ _ (by omega) (by omega), gE _ _ (by omega) (by omega)]; exact c8) ⟨by rw [hC2, gt_eq], by rw [hE2, gt_eq], by omega⟩ (fun i hi => ?_) (fun l hl => gE _ _ (by omega) (by omega))
    (fun c hc => simC_congr (fun w hw => oc c w hc hw) (fun l => by unfold gt; rw [gC _ _ (by omega) (by omega)]) (h.2.2.2.1 c hc)) (fun c t p m' hc ht hon hp hp64 hm' hm64 => by
      have t5 : t < 5 := by have := h.1.2.2.1.2; omega
      unfold onF at hon
      rw [oc c 0 hc (by omega), oc c 3 hc (by omega), oc c 1 hc (by omega)] at hon
      rw [oc c 2 hc (by omega)] at hp
      rw [o0 t t5] at hm'
      exact h.2.2.2.2.1 c t p m' hc ht hon hp hp64 hm' hm64) (fun c hc => by
      rcases hK.2.2.1 c hc with q | ⟨q, t, q1, q2, q3, q4, q5, q6⟩
      · exact .inl (by rw [gE _ _ (by omega) (by omega)]; exact q)
      · have gu : ∀ l, gt E2 (44 + c) l = gt E (44 + c) l := fun l => by unfold gt; rw [gE _ _ (by omega) (by omega)]
        exact .inr ⟨q, t, by rw [gE _ _ (by omega) (by omega)]; exact q1, q2, by rw [gE _ _ (by omega) (by omega)]; exact q3, by rw [gu]; exact q4, by rw [gu]; exact q5, by rw [gu]; exact q6⟩)
  · refine ⟨C2, ?_, hC2 ▸ cOk_0 o1 (by omega), fun t ht => gC _ _ (by omega) (by omega), by rw [hC2, gt_eq], fun c hc => funext fun l => gC _ _ (by omega) (by omega), key.1, key.2.1⟩
    rw [tX5_makeMark, c_gI0, Option.bind_some, ck, if_neg (fun g => by rw [l8] at g; have := (n_le (by omega) (by omega)).mp g; omega), cA2 hC, Option.bind_some, Option.bind_some, c_gI0, Option.bind_some, cMkS hC hk, Option.bind_some, c_gI0, Option.bind_some, gt_ne (by omega), ck, n_succ, c_sV0 o1, Option.bind_some, hC2]
  · rw [hC2, hE2, gt_ne (by omega), gt_ne (show (43 : Nat) ≠ 0 ∨ i ≠ 5 by omega)]
    by_cases e : i = k
    · rw [e, gt_eq, gt_eq, c7, e3]
    · rw [gt_ne (by omega), gt_ne (by omega), h.2.2.1 i (by omega), R_k hF (by omega)]
end
