section
/-! THE LAW'S OWN SETS: 44 cells from b on (the object, its row of boxes, five boxes of eight cells each, the row of cursors, the marks), and the cells of the cursors that there are -/
def eT (i : Nat) : Nat × Nat := if i = 0 then (14, 0) else if i = 1 then (109, 5) else if i = 42 then (110, 6) else if i = 43 then (101, 8) else if i % 8 = 2 then (12, 0) else if i % 8 = 1 then (104, 2001) else if 3 ≤ i % 8 ∧ i % 8 ≤ 5 then (101, 64) else (101, 2000)
def eC (E : Nat → Nat → Value) (q : Nat) : Option Nat := (List.range 6).find? fun c => vR (E 42 c) == some q
def ew (M : vMe) (b : Nat) (E : Nat → Nat → Value) : vMe := (fun q => if b ≤ q ∧ q < b + 44 then ((eT (q - b)).1, (eT (q - b)).2, E (q - b)) else match eC E q with
  | some c => (13, 0, E (44 + c))
  | none => M.1 q, M.2)
def eOk (M : vMe) (b : Nat) (E : Nat → Nat → Value) : Prop := M.2.2.2 ≤ b ∧ (E 0 6 = .ref (b + 1) ∧ E 0 7 = .ref (b + 42) ∧ E 0 8 = .ref (b + 43)) ∧ (∀ s, s < 5 → E 1 s = .ref (b + (2 + 8 * s))) ∧ (∀ s, s < 5 → ∀ j, j < 7 → E (2 + 8 * s) (j + 3) = .ref (b + (2 + 8 * s + (j + 1)))) ∧
  (∀ c, c < 6 → E 42 c = .null ∨ ∃ q, E 42 c = .ref q ∧ b + 44 ≤ q) ∧ ∀ c c' q, c < 6 → c' < 6 → E 42 c = .ref q → E 42 c' = .ref q → c = c'
variable {M : vMe} {b : Nat} {E : Nat → Nat → Value}
theorem eT_b {s : Nat} (hs : s < 5) : eT (2 + 8 * s) = (12, 0) := by unfold eT; rw [if_neg (by omega), if_neg (by omega), if_neg (by omega), if_neg (by omega), if_pos (by omega)]
theorem eT_m {s j : Nat} (hs : s < 5) (hj : j < 3) : eT (2 + 8 * s + (j + 1)) = (101, 64) := by unfold eT; rw [if_neg (by omega), if_neg (by omega), if_neg (by omega), if_neg (by omega), if_neg (by omega), if_neg (by omega), if_pos (by omega)]
theorem eT_e {s j : Nat} (hs : s < 5) (h3 : 3 ≤ j) (hj : j < 6) : eT (2 + 8 * s + (j + 1)) = (101, 2000) := by unfold eT; rw [if_neg (by omega), if_neg (by omega), if_neg (by omega), if_neg (by omega), if_neg (by omega), if_neg (by omega), if_neg (by omega)]
theorem eT_t {s : Nat} (hs : s < 5) : eT (2 + 8 * s + (6 + 1)) = (104, 2001) := by unfold eT; rw [if_neg (by omega), if_neg (by omega), if_neg (by omega), if_neg (by omega), if_neg (by omega), if_pos (by omega)]
theorem ew_2 : (ew M b E).2 = M.2 := rfl
theorem ew_at {i : Nat} (hi : i < 44) : (ew M b E).1 (b + i) = ((eT i).1, (eT i).2, E i) := by simp [ew, hi]
theorem ew_at0 : (ew M b E).1 b = (14, 0, E 0) := ew_at (M := M) (i := 0) (by omega)
theorem eC_of {q c : Nat} (h : eOk M b E) (hc : c < 6) (hq : E 42 c = .ref q) : eC E q = some c := by
  unfold eC
  have h1 : ((List.range 6).find? fun c => vR (E 42 c) == some q).isSome := by
    rw [List.find?_isSome]
    exact ⟨c, List.mem_range.mpr hc, by rw [hq]; simp [vR]⟩
  obtain ⟨c', h2⟩ := Option.isSome_iff_exists.mp h1
  have h3 := List.find?_some h2
  have h4 := List.mem_range.mp (List.mem_of_find?_eq_some h2)
  rw [h2]
  have h5 : vR (E 42 c') = some q := by simpa using h3
  have h6 : E 42 c' = .ref q := by
    rcases h.2.2.2.2.1 c' h4 with g | ⟨p, g, -⟩
    · rw [g] at h5; cases h5
    · rw [g] at h5 ⊢
      exact congrArg Value.ref (Option.some.inj h5)
  rw [h.2.2.2.2.2 c' c q h4 hc h6 hq]
theorem eC_no {q : Nat} (hq : ∀ c, c < 6 → E 42 c ≠ .ref q) (h5 : ∀ c, c < 6 → E 42 c = .null ∨ ∃ q, E 42 c = .ref q ∧ b + 44 ≤ q) : eC E q = none := by
  unfold eC
  rw [List.find?_eq_none]
  intro c hc
  have hc := List.mem_range.mp hc
  rcases h5 c hc with g | ⟨p, g, -⟩
  · rw [g]; simp [vR]
  · rw [g]
    have : p ≠ q := fun e => hq c hc (by rw [g, e])
    simp [vR, this]
theorem eC_congr {E1 : Nat → Nat → Value} {q : Nat} (h : ∀ c, c < 6 → E1 42 c = E 42 c) : eC E1 q = eC E q := by
  have e : ∀ (L : List Nat), (∀ c ∈ L, c < 6) → (L.find? fun c => vR (E1 42 c) == some q) = L.find? fun c => vR (E 42 c) == some q := by
    intro L
    induction L with
    | nil => intro _; rfl
    | cons c L ih =>
      intro hL
      rw [List.find?_cons, List.find?_cons, h c (hL c List.mem_cons_self), ih (fun d hd => hL d (List.mem_cons_of_mem _ hd))]
  exact e _ (fun c hc => List.mem_range.mp hc)
theorem ew_cu {q c : Nat} (h : eOk M b E) (hc : c < 6) (hq : E 42 c = .ref q) : (ew M b E).1 q = (13, 0, E (44 + c)) := by
  have hb : b + 44 ≤ q := by
    rcases h.2.2.2.2.1 c hc with g | ⟨p, g, g2⟩
    · rw [g] at hq; cases hq
    · rw [g] at hq; cases hq; exact g2
  show (if b ≤ q ∧ q < b + 44 then _ else _ : vOb) = _
  rw [if_neg (by omega), eC_of h hc hq]
/-- what the law's sets take up -/
def eA (b : Nat) (E : Nat → Nat → Value) (q : Nat) : Prop := (b ≤ q ∧ q < b + 44) ∨ ∃ c, c < 6 ∧ E 42 c = .ref q
theorem ew_out {q : Nat} (h : eOk M b E) (hq : ¬ eA b E q) : (ew M b E).1 q = M.1 q := by
  show (if b ≤ q ∧ q < b + 44 then _ else _ : vOb) = _
  rw [if_neg (fun g => hq (.inl g)), eC_no (fun c hc g => hq (.inr ⟨c, hc, g⟩)) h.2.2.2.2.1]
theorem ew_wr {i k : Nat} {v : Value} (hi : i < 44) (h42 : i ≠ 42) : wr (ew M b E) (b + i) k v = ew M b (pu E i k v) := by
  unfold wr pt
  rw [ew_at hi]
  refine Prod.ext (funext fun q => ?_) rfl
  dsimp only
  have hC : eC (pu E i k v) q = eC E q := eC_congr (fun c _ => pu_ne (.inl (Ne.symm h42)))
  by_cases hq : q = b + i
  · subst hq
    simp [ew, pu, hi]
  · rw [if_neg hq]
    show (if b ≤ q ∧ q < b + 44 then _ else _ : vOb) = (if b ≤ q ∧ q < b + 44 then _ else _ : vOb)
    by_cases hb : b ≤ q ∧ q < b + 44
    · rw [if_pos hb, if_pos hb]
      have : q - b ≠ i := by omega
      simp [pu, this]
    · rw [if_neg hb, if_neg hb, hC]
      cases hc : eC E q with
      | none => rfl
      | some c =>
        have : 44 + c ≠ i := by omega
        simp [pu, this]
theorem eC_is {q c : Nat} (h5 : ∀ c, c < 6 → E 42 c = .null ∨ ∃ q, E 42 c = .ref q ∧ b + 44 ≤ q) (h : eC E q = some c) : c < 6 ∧ E 42 c = .ref q := by
  have h3 := List.find?_some h
  have h4 := List.mem_range.mp (List.mem_of_find?_eq_some h)
  have h5' : vR (E 42 c) = some q := by simpa using h3
  refine ⟨h4, ?_⟩
  rcases h5 c h4 with g | ⟨p, g, -⟩
  · rw [g] at h5'; cases h5'
  · rw [g] at h5' ⊢
    exact congrArg Value.ref (Option.some.inj h5')
theorem ew_wrc {q c k : Nat} {v : Value} (h : eOk M b E) (hc : c < 6) (hq : E 42 c = .ref q) : wr (ew M b E) q k v = ew M b (pu E (44 + c) k v) := by
  have hb : b + 44 ≤ q := by
    rcases h.2.2.2.2.1 c hc with g | ⟨p, g, g2⟩
    · rw [g] at hq; cases hq
    · rw [g] at hq; cases hq; exact g2
  unfold wr pt
  rw [ew_cu h hc hq]
  refine Prod.ext (funext fun z => ?_) rfl
  dsimp only
  have hC : eC (pu E (44 + c) k v) z = eC E z := eC_congr (fun c' _ => pu_ne (.inl (by omega)))
  by_cases hz : z = q
  · subst hz
    rw [if_pos rfl]
    show _ = (if b ≤ z ∧ z < b + 44 then _ else _ : vOb)
    rw [if_neg (by omega), hC, eC_of h hc hq]
    simp [pu]
  · rw [if_neg hz]
    show (if b ≤ z ∧ z < b + 44 then _ else _ : vOb) = (if b ≤ z ∧ z < b + 44 then _ else _ : vOb)
    by_cases hbz : b ≤ z ∧ z < b + 44
    · rw [if_pos hbz, if_pos hbz]
      have : z - b ≠ 44 + c := by omega
      simp [pu, this]
    · rw [if_neg hbz, if_neg hbz, hC]
      cases hcz : eC E z with
      | none => rfl
      | some c' =>
        obtain ⟨h6, h7⟩ := eC_is h.2.2.2.2.1 hcz
        have hne : c' ≠ c := fun e => by
          rw [e, hq] at h7
          cases h7; exact hz rfl
        show _ = (13, 0, pu E (44 + c) k v (44 + c'))
        unfold pu
        rw [if_neg (by omega)]
def eFree (i k : Nat) : Prop := i ≠ 1 ∧ i ≠ 42 ∧ (i = 0 → k < 6) ∧ (i < 42 → i % 8 = 2 → k < 3)
theorem eOk_pu {i k : Nat} {v : Value} (h : eOk M b E) (hf : eFree i k) : eOk M b (pu E i k v) := by
  obtain ⟨h1, ⟨h2, h3, h4⟩, h5, h6, h7, h8⟩ := h
  obtain ⟨f1, f2, f3, f4⟩ := hf
  refine ⟨h1, ⟨?_, ?_, ?_⟩, fun s hs => ?_, fun s hs j hj => ?_, fun c hc => ?_, fun c c' q hc hc' => ?_⟩
  · rw [pu_ne (by omega)]; exact h2
  · rw [pu_ne (by omega)]; exact h3
  · rw [pu_ne (by omega)]; exact h4
  · rw [pu_ne (by omega)]; exact h5 s hs
  · rw [pu_ne (by omega)]; exact h6 s hs j hj
  · rw [pu_ne (.inl (Ne.symm f2))]; exact h7 c hc
  · rw [pu_ne (.inl (Ne.symm f2)), pu_ne (.inl (Ne.symm f2))]; exact h8 c c' q hc hc'
/-! reading and writing -/
theorem e_gI {i k t : Nat} (hi : i < 44) (ht : (eT i).1 = t) : gI (ew M b E) (b + i) t k = some (gt E i k) := by simp [gI, ew_at hi, ht, gt]
theorem e_gA {i k t v : Nat} (hi : i < 44) (ht : (eT i).1 = t) (hv : E i k = .ref v) : gA (ew M b E) (b + i) t k = some v := by simp [gA, ew_at hi, ht, hv, vR]
theorem e_sV {i k t : Nat} {v : Value} (h : M.2.2.2 ≤ b) (hi : i < 44) (h42 : i ≠ 42) (ht : (eT i).1 = t) : sV (ew M b E) (b + i) t k v = some (ew M b (pu E i k v)) := by
  have hb : (ew M b E).2.2.2 ≤ b + i := by rw [ew_2]; omega
  simp only [sV, ew_at hi, ht, hb, ew_wr hi h42]; simp
theorem e_aI {i n len : Nat} (hi : i < 44) (ht : eT i = (101, len)) (hn : n < len) (hl : len < 2147483648) : aI (ew M b E) (b + i) 101 (Int32.ofNat n) = some (gt E i n) := by
  simp only [aI, ew_at hi, ht, n_clamp (show n < 2147483648 by omega), n_neg (show n < 2147483648 by omega), gt]; simp [hn]
theorem e_sA {i n len tg : Nat} {v : Value} (h : M.2.2.2 ≤ b) (hi : i < 44) (h42 : i ≠ 42) (ht : eT i = (tg, len)) (hn : n < len) (hl : len < 2147483648) : sA (ew M b E) (b + i) tg (Int32.ofNat n) v = some (ew M b (pu E i n v)) := by
  have hb : (ew M b E).2.2.2 ≤ b + i := by rw [ew_2]; omega
  simp only [sA, ew_at hi, ht, n_clamp (show n < 2147483648 by omega), n_neg (show n < 2147483648 by omega), ew_wr hi h42, hb]; simp [hn]
theorem e_tag {i : Nat} (hi : i < 44) : ((ew M b E).1 (b + i)).1 = (eT i).1 := by rw [ew_at hi]
theorem e_t0 : ((ew M b E).1 b).1 = 14 := by rw [ew_at0]
theorem e_tB {s : Nat} (hs : s < 5) : ((ew M b E).1 (b + (2 + 8 * s))).1 = 12 := by rw [e_tag (by omega), eT_b hs]
theorem e_I0 {k : Nat} : gI (ew M b E) b 14 k = some (gt E 0 k) := e_gI (M := M) (i := 0) (by omega) rfl
theorem e_S0 {k : Nat} {v : Value} (h : eOk M b E) : sV (ew M b E) b 14 k v = some (ew M b (pu E 0 k v)) := e_sV (M := M) (i := 0) h.1 (by omega) (by omega) rfl
theorem e_A6 (h : eOk M b E) : gA (ew M b E) b 14 6 = some (b + 1) := e_gA (M := M) (i := 0) (by omega) rfl h.2.1.1
theorem e_A7 (h : eOk M b E) : gA (ew M b E) b 14 7 = some (b + 42) := e_gA (M := M) (i := 0) (by omega) rfl h.2.1.2.1
theorem e_A8 (h : eOk M b E) : gA (ew M b E) b 14 8 = some (b + 43) := e_gA (M := M) (i := 0) (by omega) rfl h.2.1.2.2
theorem e_bI {s k : Nat} (hs : s < 5) : gI (ew M b E) (b + (2 + 8 * s)) 12 k = some (gt E (2 + 8 * s) k) := e_gI (by omega) (by rw [eT_b hs])
theorem e_bV {s k : Nat} {v : Value} (h : eOk M b E) (hs : s < 5) : sV (ew M b E) (b + (2 + 8 * s)) 12 k v = some (ew M b (pu E (2 + 8 * s) k v)) := e_sV h.1 (by omega) (by omega) (by rw [eT_b hs])
theorem e_bA {s j : Nat} (h : eOk M b E) (hs : s < 5) (hj : j < 7) : gA (ew M b E) (b + (2 + 8 * s)) 12 (j + 3) = some (b + (2 + 8 * s + (j + 1))) := e_gA (by omega) (by rw [eT_b hs]) (h.2.2.2.1 s hs j hj)
theorem e_mI {s j n : Nat} (hs : s < 5) (hj : j < 3) (hn : n < 64) : aI (ew M b E) (b + (2 + 8 * s + (j + 1))) 101 (Int32.ofNat n) = some (gt E (2 + 8 * s + (j + 1)) n) := e_aI (by omega) (eT_m hs hj) hn (by omega)
theorem e_eI {s j n : Nat} (hs : s < 5) (h3 : 3 ≤ j) (hj : j < 6) (hn : n < 2000) : aI (ew M b E) (b + (2 + 8 * s + (j + 1))) 101 (Int32.ofNat n) = some (gt E (2 + 8 * s + (j + 1)) n) := e_aI (by omega) (eT_e hs h3 hj) hn (by omega)
theorem e_mS {s j n : Nat} {v : Value} (h : eOk M b E) (hs : s < 5) (hj : j < 3) (hn : n < 64) : sA (ew M b E) (b + (2 + 8 * s + (j + 1))) 101 (Int32.ofNat n) v = some (ew M b (pu E (2 + 8 * s + (j + 1)) n v)) := e_sA h.1 (by omega) (by omega) (eT_m hs hj) hn (by omega)
theorem e_eS {s j n : Nat} {v : Value} (h : eOk M b E) (hs : s < 5) (h3 : 3 ≤ j) (hj : j < 6) (hn : n < 2000) : sA (ew M b E) (b + (2 + 8 * s + (j + 1))) 101 (Int32.ofNat n) v = some (ew M b (pu E (2 + 8 * s + (j + 1)) n v)) := e_sA h.1 (by omega) (by omega) (eT_e hs h3 hj) hn (by omega)
theorem e_tJ {s n : Nat} (hs : s < 5) (hn : n < 2001) : aJ (ew M b E) (b + (2 + 8 * s + (6 + 1))) 104 (Int32.ofNat n) = some (vJ (E (2 + 8 * s + (6 + 1)) n)) := by
  simp only [aJ, ew_at (M := M) (b := b) (E := E) (show 2 + 8 * s + (6 + 1) < 44 by omega), eT_t hs, n_clamp (show n < 2147483648 by omega), n_neg (show n < 2147483648 by omega)]; simp [hn]
theorem e_tS {s n : Nat} {v : Value} (h : eOk M b E) (hs : s < 5) (hn : n < 2001) : sA (ew M b E) (b + (2 + 8 * s + (6 + 1))) 104 (Int32.ofNat n) v = some (ew M b (pu E (2 + 8 * s + (6 + 1)) n v)) := e_sA h.1 (by omega) (by omega) (eT_t hs) hn (by omega)
theorem e_box {s : Nat} (h : eOk M b E) (hs : s < 5) : aA (ew M b E) (b + 1) 109 (Int32.ofNat s) = some (b + (2 + 8 * s)) := by
  simp only [aA, ew_at (M := M) (b := b) (E := E) (show 1 < 44 by omega), show eT 1 = (109, 5) from rfl, n_clamp (show s < 2147483648 by omega), n_neg (show s < 2147483648 by omega), h.2.2.1 s hs, vR]; simp [hs]
theorem e_cR {c : Nat} (hc : c < 6) : aR (ew M b E) (b + 42) 110 (Int32.ofNat c) = some (vR (E 42 c)) := by
  simp only [aR, ew_at (M := M) (b := b) (E := E) (show 42 < 44 by omega), show eT 42 = (110, 6) from rfl, n_clamp (show c < 2147483648 by omega), n_neg (show c < 2147483648 by omega)]; simp [hc]
theorem e_cA {c q : Nat} (hc : c < 6) (hq : E 42 c = .ref q) : aA (ew M b E) (b + 42) 110 (Int32.ofNat c) = some q := by
  simp only [aA, ew_at (M := M) (b := b) (E := E) (show 42 < 44 by omega), show eT 42 = (110, 6) from rfl, n_clamp (show c < 2147483648 by omega), n_neg (show c < 2147483648 by omega), hq, vR]; simp [hc]
theorem e_kI {i : Nat} (hi : i < 8) : aI (ew M b E) (b + 43) 101 (Int32.ofNat i) = some (gt E 43 i) := e_aI (by omega) (len := 8) rfl hi (by omega)
theorem e_kS {i : Nat} {v : Value} (h : eOk M b E) (hi : i < 8) : sA (ew M b E) (b + 43) 101 (Int32.ofNat i) v = some (ew M b (pu E 43 i v)) := e_sA h.1 (by omega) (by omega) (len := 8) rfl hi (by omega)
theorem e_vI {c q k : Nat} (h : eOk M b E) (hc : c < 6) (hq : E 42 c = .ref q) : gI (ew M b E) q 13 k = some (gt E (44 + c) k) := by simp [gI, ew_cu h hc hq, gt]
theorem e_vA {c q k v : Nat} (h : eOk M b E) (hc : c < 6) (hq : E 42 c = .ref q) (hv : E (44 + c) k = .ref v) : gA (ew M b E) q 13 k = some v := by simp [gA, ew_cu h hc hq, hv, vR]
theorem e_vT {c q : Nat} (h : eOk M b E) (hc : c < 6) (hq : E 42 c = .ref q) : ((ew M b E).1 q).1 = 13 := by rw [ew_cu h hc hq]
theorem e_vV {c q k : Nat} {v : Value} (h : eOk M b E) (hc : c < 6) (hq : E 42 c = .ref q) : sV (ew M b E) q 13 k v = some (ew M b (pu E (44 + c) k v)) := by
  have hb : (ew M b E).2.2.2 ≤ q := by
    rw [ew_2]
    have := h.1
    rcases h.2.2.2.2.1 c hc with g | ⟨p, g, g2⟩
    · rw [g] at hq; cases hq
    · rw [g] at hq; cases hq; omega
  simp only [sV, ew_cu h hc hq, ew_wrc h hc hq, hb]; simp
theorem eFr0 {k : Nat} (hk : k < 6) : eFree 0 k := ⟨by omega, by omega, fun _ => hk, fun _ h => by omega⟩
theorem eFrB {s k : Nat} (hs : s < 5) (hk : k < 3) : eFree (2 + 8 * s) k := ⟨by omega, by omega, by omega, fun _ _ => hk⟩
theorem eFrR {s j k : Nat} (hs : s < 5) (hj : j < 7) : eFree (2 + 8 * s + (j + 1)) k := ⟨by omega, by omega, by omega, fun _ _ => by omega⟩
theorem eFrK {k : Nat} : eFree 43 k := ⟨by omega, by omega, by omega, fun _ _ => by omega⟩
theorem eFrU {c k : Nat} : eFree (44 + c) k := ⟨by omega, by omega, by omega, fun _ _ => by omega⟩
end
