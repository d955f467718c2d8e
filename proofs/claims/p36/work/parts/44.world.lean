section
/-! THE WHOLE MEMORY: the object of the class and what it holds in eight cells from x on (the object, input, its bytes, history, its states, slots, their states, isFull); the State blocks; the reference's ten cells from r on -/
def gT (i : Nat) : Nat × Nat := if i = 0 then (11, 0) else if i = 1 then (4, 0) else if i = 2 then (102, 600) else if i = 3 then (10, 0) else if i = 4 then (106, 10) else if i = 5 then (7, 0) else if i = 6 then (106, 2) else (103, 2)
def gv (M : vMe) (x : Nat) (G : Nat → Nat → Value) : vMe := (fun q => if x ≤ q ∧ q < x + 8 then ((gT (q - x)).1, (gT (q - x)).2, G (q - x)) else M.1 q, M.2)
def gOk (M : vMe) (x : Nat) (G : Nat → Nat → Value) : Prop := M.2.2.2 ≤ x ∧ G 0 0 = .ref (x + 1) ∧ G 0 1 = .ref (x + 3) ∧ G 0 2 = .ref (x + 5) ∧ G 1 0 = .ref (x + 2) ∧ G 3 0 = .ref (x + 4) ∧ G 5 0 = .ref (x + 6) ∧ G 5 1 = .ref (x + 7)
variable {M : vMe} {x r a b : Nat} {G F C E : Nat → Nat → Value}
theorem gv_at (i : Nat) (hi : i < 8) : (gv M x G).1 (x + i) = ((gT i).1, (gT i).2, G i) := by simp [gv, hi]
theorem gv_at0 : (gv M x G).1 x = (11, 0, G 0) := gv_at 0 (by omega)
theorem gv_out {q : Nat} (h : ¬ (x ≤ q ∧ q < x + 8)) : (gv M x G).1 q = M.1 q := by simp [gv, h]
theorem gv_2 : (gv M x G).2 = M.2 := rfl
theorem gv_wr {i k : Nat} {v : Value} (hi : i < 8) : wr (gv M x G) (x + i) k v = gv M x (pu G i k v) := by
  unfold wr pt
  rw [gv_at i hi]
  refine Prod.ext (funext fun q => ?_) rfl
  dsimp only
  by_cases hq : q = x + i
  · subst hq
    simp [gv, pu, hi]
  · rw [if_neg hq]
    by_cases hb : x ≤ q ∧ q < x + 8
    · have : ¬ q - x = i := by omega
      simp [gv, hb, pu, this]
    · simp [gv, hb]
theorem g_gI {i k t : Nat} (hi : i < 8) (ht : (gT i).1 = t) : gI (gv M x G) (x + i) t k = some (gt G i k) := by simp [gI, gv_at i hi, ht, gt]
theorem g_gA {i k t v : Nat} (hi : i < 8) (ht : (gT i).1 = t) (hv : G i k = .ref v) : gA (gv M x G) (x + i) t k = some v := by simp [gA, gv_at i hi, ht, hv, vR]
theorem g_sV {i k t : Nat} {v : Value} (h : M.2.2.2 ≤ x) (hi : i < 8) (ht : (gT i).1 = t) : sV (gv M x G) (x + i) t k v = some (gv M x (pu G i k v)) := by
  have hb : (gv M x G).2.2.2 ≤ x + i := by rw [gv_2]; omega
  simp only [sV, gv_at i hi, ht, hb, gv_wr hi]; simp
theorem g_aI {i n tg len : Nat} (hi : i < 8) (ht : gT i = (tg, len)) (hn : n < len) (hl : len < 2147483648) : aI (gv M x G) (x + i) tg (Int32.ofNat n) = some (gt G i n) := by
  simp only [aI, gv_at i hi, ht, n_clamp (show n < 2147483648 by omega), n_neg (show n < 2147483648 by omega), gt]; simp [hn]
theorem g_sA {i n tg len : Nat} {v : Value} (h : M.2.2.2 ≤ x) (hi : i < 8) (ht : gT i = (tg, len)) (hn : n < len) (hl : len < 2147483648) : sA (gv M x G) (x + i) tg (Int32.ofNat n) v = some (gv M x (pu G i n v)) := by
  have hb : (gv M x G).2.2.2 ≤ x + i := by rw [gv_2]; omega
  simp only [sA, gv_at i hi, ht, n_clamp (show n < 2147483648 by omega), n_neg (show n < 2147483648 by omega), gv_wr hi, hb]; simp [hn]
theorem g_aR {i n tg len : Nat} (hi : i < 8) (ht : gT i = (tg, len)) (hn : n < len) (hl : len < 2147483648) : aR (gv M x G) (x + i) tg (Int32.ofNat n) = some (vR (G i n)) := by
  simp only [aR, gv_at i hi, ht, n_clamp (show n < 2147483648 by omega), n_neg (show n < 2147483648 by omega)]; simp [hn]
theorem g_aA {i n tg len v : Nat} (hi : i < 8) (ht : gT i = (tg, len)) (hn : n < len) (hl : len < 2147483648) (hv : G i n = .ref v) : aA (gv M x G) (x + i) tg (Int32.ofNat n) = some v := by
  simp only [aA, gv_at i hi, ht, n_clamp (show n < 2147483648 by omega), n_neg (show n < 2147483648 by omega), hv, vR]; simp [hn]
theorem g_sQ {i n tg len v et : Nat} (h : M.2.2.2 ≤ x) (hi : i < 8) (ht : gT i = (tg, len)) (hn : n < len) (hl : len < 2147483648) (hv : ((gv M x G).1 v).1 = et) : sQ (gv M x G) (x + i) tg (Int32.ofNat n) v et = some (gv M x (pu G i n (.ref v))) := by
  have hb : (gv M x G).2.2.2 ≤ x + i := by rw [gv_2]; omega
  simp only [sQ, gv_at i hi, ht, hv, n_clamp (show n < 2147483648 by omega), n_neg (show n < 2147483648 by omega), gv_wr hi, hb]; simp [hn]
/-! what a memory holds -/
def hB (M : vMe) (a : Nat) (C : Nat → Nat → Value) : Prop := ∀ i, i < 50 → M.1 (a + i) = ((cT i).1, (cT i).2, C i)
def hG (M : vMe) (x : Nat) (G : Nat → Nat → Value) : Prop := ∀ i, i < 8 → M.1 (x + i) = ((gT i).1, (gT i).2, G i)
theorem hB.eq (h : hB M a C) : cv M a C = M := by
  refine Prod.ext (funext fun q => ?_) rfl
  by_cases g : a ≤ q ∧ q < a + 50
  · have := h (q - a) (by omega)
    rw [show a + (q - a) = q by omega] at this
    rw [this]; simp [cv, g]
  · rw [cv_out g]
theorem hG.eq (h : hG M x G) : gv M x G = M := by
  refine Prod.ext (funext fun q => ?_) rfl
  by_cases g : x ≤ q ∧ q < x + 8
  · have := h (q - x) (by omega)
    rw [show x + (q - x) = q by omega] at this
    rw [this]; simp [gv, g]
  · rw [gv_out g]
theorem hB_cv : hB (cv M a C) a C := fun i hi => cv_at M a i C hi
theorem hG_gv : hG (gv M x G) x G := fun i hi => gv_at i hi
theorem hB.cv (h : hB M b E) (d : apart a b) : hB (cv M a C) b E := fun i hi => by rw [cv_out (by unfold apart at d; omega)]; exact h i hi
theorem hB.gv (h : hB M b E) (d : x + 8 ≤ b ∨ b + 50 ≤ x) : hB (gv M x G) b E := fun i hi => by rw [gv_out (by omega)]; exact h i hi
theorem hG.cv (h : hG M x G) (d : x + 8 ≤ a ∨ a + 50 ≤ x) : hG (cv M a C) x G := fun i hi => by rw [cv_out (by omega)]; exact h i hi
def hR (_ : vMe) (_ : Nat) (_ : Nat → Nat → Value) : Prop := True
theorem hR.eq (_ : hR M r F) : rv M r F = M := rfl
theorem hR_rv : hR (rv M r F) r F := trivial
theorem hB.rv (h : hB M b E) (_ : r + 0 ≤ b ∨ b + 50 ≤ r) : hB (rv M r F) b E := h
theorem hG.rv (h : hG M x G) (_ : x + 8 ≤ r ∨ r + 0 ≤ x) : hG (rv M r F) x G := h
theorem hR.cv (h : hR M r F) (_ : r + 0 ≤ a ∨ a + 50 ≤ r) : hR (cv M a C) r F := h
theorem hR.gv (h : hR M r F) (_ : x + 8 ≤ r ∨ r + 0 ≤ x) : hR (gv M x G) r F := h
theorem hB.same {E2 : Nat → Nat → Value} (h : hB M b E) (g : hB M b E2) : ∀ i, i < 50 → E2 i = E i := fun i hi => by
  have := (h i hi).symm.trans (g i hi)
  have := congrArg (fun o : vOb => o.2.2) this
  exact this.symm
/-- the blocks: now, draft, those of the history, those of the slots -/
def bkG (G : Nat → Nat → Value) (i : Nat) : Option Nat := if i = 0 then vR (G 0 3) else if i = 1 then vR (G 0 4) else if i < 12 then vR (G 4 (i - 2)) else vR (G 6 (i - 12))
def own (x r : Nat) (G : Nat → Nat → Value) (q : Nat) : Prop := (x ≤ q ∧ q < x + 8) ∨ (r ≤ q ∧ q < r + 0) ∨ ∃ i b, i < 14 ∧ bkG G i = some b ∧ b ≤ q ∧ q < b + 50
theorem ow {r q : Nat} (g : r ≤ q ∧ q < r + 0) : r ≤ q ∧ q < r + 0 := ⟨g.1, by omega⟩
/-- a text in the memory -/
def tAt (M : vMe) (q p : Nat) (l : List Nat) : Prop := ∃ S B, M.1 q = (1, 0, S) ∧ S 0 = .ref p ∧ vI (S 1) = 0 ∧ M.1 p = (102, l.length, B) ∧ l.length < 65536 ∧ ∀ i, i < l.length → vI (B i) = Int32.ofNat (l.getD i 0) ∧ l.getD i 0 < 128
theorem tAt.same {M2 : vMe} {q p : Nat} {l : List Nat} (h : tAt M q p l) (h1 : M2.1 q = M.1 q) (h2 : M2.1 p = M.1 p) : tAt M2 q p l := by
  obtain ⟨S, B, g1, g2, g3, g4, g5⟩ := h
  exact ⟨S, B, by rw [h1]; exact g1, g2, g3, by rw [h2]; exact g4, g5⟩
/-- a text that no written cell touches -/
def nmAt (M : vMe) (x r : Nat) (G : Nat → Nat → Value) (q : Nat) (l : List Nat) : Prop := ∃ p, tAt M q p l ∧ ¬ own x r G q ∧ ¬ own x r G p ∧ q < M.2.1 ∧ p < M.2.1
def isWd (l : List Nat) : Prop := 1 ≤ l.length ∧ l.length ≤ 8 ∧ ∀ i, i < l.length → 97 ≤ l.getD i 0 ∧ l.getD i 0 ≤ 122
def pkL (l : List Nat) : Int64 := l.foldl (fun c b => (c <<< ((8 : Int32).toInt64 &&& 63)) ||| (Int32.ofNat b).toInt64) 0
/-- the names of the sets of a block against row i of the reference -/
def simNm (M : vMe) (x r : Nat) (G C F : Nat → Nat → Value) (i n : Nat) : Prop := ∀ s, s < n → ∃ q l, C (4 + 8 * s) 4 = .ref q ∧ nmAt M x r G q l ∧ isWd l ∧ vJ (F i s) = pkL l
/-- the reference's state that lies at z of row i -/
def rwF (F : Nat → Nat → Value) (i z : Nat) : Nat → Nat → Value := fun j => if j = 1 then fun l => F i (z + l) else F j
theorem gt_rw {i z l : Nat} : gt (rwF F i z) 1 l = gt F i (z + l) := by simp [gt, rwF]
theorem simP_row {F1 : Nat → Nat → Value} {u hz n k : Nat} (h : simP C F u hz n k) (e : ∀ l, l < 1952 → gt F1 1 l = gt F 1 l) : simP C F1 u hz n k := by
  have hP := h
  obtain ⟨hH, hh, hmk, hcu, hpos, hst⟩ := h
  have hn5 := hH.2.2.1.2
  have es : ∀ s, s < 5 → ∀ w, w < 378 → oS F1 s w = oS F s w := fun s hs w hw => e _ (by unfold aS; omega)
  have ec : ∀ c, c < 6 → ∀ w, w < 8 → oC F1 c w = oC F c w := fun c hc w hw => e _ (by unfold aC; omega)
  refine ⟨?_, ?_, fun i hi => by rw [e _ (by have := hH.2.2.2.2; omega)]; exact hmk i hi, fun c hc => simC_congr (ec c hc) (fun _ => rfl) (hcu c hc), ?_, fun s hs => ⟨simS_congr (es s (by omega)) (fun _ _ _ => rfl) (hst s hs).1, okS_congr (fun w hw => es s (by omega) w (by omega)) hH.1.2.2 (hst s hs).2⟩⟩
  · unfold okH; rw [e 1 (by omega), e 2 (by omega), e 0 (by omega), e 4 (by omega)]; exact hH
  · unfold simH; rw [e 1 (by omega), e 2 (by omega), e 0 (by omega), e 4 (by omega), e 3 (by omega), e 5 (by omega)]; exact hh
  · intro c s p m hc hs hon hp hp64 hm hm64
    unfold onF at hon
    rw [ec c hc 0 (by omega), ec c hc 3 (by omega), ec c hc 1 (by omega)] at hon
    rw [ec c hc 2 (by omega)] at hp
    rw [es s (by omega) 0 (by omega)] at hm
    exact hpos c s p m hc hs hon hp hp64 hm hm64
theorem simP_blk {C1 : Nat → Nat → Value} {u hz n k : Nat} (h : simP C F u hz n k) (e : ∀ j, j < 50 → C1 j = C j) : simP C1 F u hz n k := by
  obtain ⟨hH, hh, hmk, hcu, hpos, hst⟩ := h
  have hn5 := hH.2.2.1.2
  have g : ∀ j, j < 50 → ∀ l, gt C1 j l = gt C j l := fun j hj l => gt_row (e j hj) l
  refine ⟨hH, ?_, fun i hi => by rw [g 3 (by omega)]; exact hmk i hi, fun c hc => simC_congr (fun _ _ => rfl) (fun l => g _ (by omega) l) (hcu c hc), hpos, fun s hs => ⟨simS_congr (fun _ _ => rfl) (fun j h1 h2 => e j (by omega)) (hst s hs).1, (hst s hs).2⟩⟩
  unfold simH; rw [g 0 (by omega), g 0 (by omega), g 0 (by omega), g 0 (by omega), g 0 (by omega), g 0 (by omega)]; exact hh
/-- THE TWO OBJECTS AS ONE -/
def simD (M : vMe) (x r : Nat) (G F : Nat → Nat → Value) (a d : Nat) (C : Nat → Nat → Value) (u hz n k : Nat) : Prop :=
  (hG M x G ∧ gOk M x G ∧ hR M r F ∧ rOk M r F ∧ x + 8 ≤ r ∧ r + 0 ≤ M.2.1) ∧
  (G 0 3 = .ref a ∧ G 0 4 = .ref d ∧ (∀ i, i < 10 → G 4 i = .null ∨ ∃ b, G 4 i = .ref b) ∧ ∀ i, i < 2 → G 6 i = .null ∨ ∃ b, G 6 i = .ref b) ∧
  (∀ i b, i < 14 → bkG G i = some b → (x + 8 ≤ b ∧ b + 50 ≤ M.2.1 ∧ (b + 50 ≤ r ∨ r + 0 ≤ b)) ∧ ∃ E, hB M b E ∧ cOk M b E) ∧
  (∀ i j b c, i < 14 → j < 14 → i ≠ j → bkG G i = some b → bkG G j = some c → apart b c) ∧
  (hB M a C ∧ cOk M a C ∧ simP C F u hz n k ∧ simNm M x r G C F 2 n) ∧
  (∃ len, len ≤ 600 ∧ gt G 1 1 = Int32.ofNat len ∧ gt F 0 4 = Int32.ofNat len) ∧ (∀ i, i < 600 → gt G 2 i = gt F 3 i) ∧
  gt G 0 5 = gt F 0 12 ∧
  (∃ nx cnt, nx < 10 ∧ cnt ≤ 10 ∧ gt G 3 1 = Int32.ofNat nx ∧ gt G 3 2 = Int32.ofNat cnt ∧ gt F 0 18 = Int32.ofNat cnt ∧
    ∀ i, i < cnt → ∃ b E k', G 4 ((nx + 10 - cnt + i) % 10) = .ref b ∧ hB M b E ∧ simP E (rwF F 7 (1952 * i)) u hz n k' ∧ simNm M x r G E F 2 n) ∧
  ∀ j, j < 2 → (gt G 7 j = 0 ∧ gt F 9 j = 0) ∨ (gt G 7 j = 1 ∧ gt F 9 j = 1 ∧ ∃ b E k', G 6 j = .ref b ∧ hB M b E ∧ simP E (rwF F 8 (1952 * j)) u hz n k' ∧ simNm M x r G E F 2 n)
end
