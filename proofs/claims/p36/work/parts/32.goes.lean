section
/-! rows of a set: members, places, the cost; the walk of the hole -/
abbrev w_T : Type := (Nat → Nat) × (Nat → Nat) × Int32
def lyT (x : w_T) (y p : Nat) : w_T := (fun q => if q = p then y else x.1 q, fun z => if z = y then p else x.2.1 z, x.2.2 + 2)
def mvT (x : w_T) (fr hole : Nat) : w_T := if fr = hole then x else lyT x (x.1 fr) hole
def wkT (Q : Nat → Bool) (m : Nat) : Nat → Nat → Nat → w_T → w_T
  | 0, _, _, x => x
  | j + 1, p, h, x => if Q p = true ∨ p = m then wkT Q m j (p + 1) (p - 1) (mvT x (p - 1) h) else wkT Q m j (p + 1) h x
def bT (x : w_T) : Prop := (∀ p, p < 64 → x.1 p < 64) ∧ ∀ y, y < 64 → x.2.1 y < 64
theorem mvT_b {x : w_T} {fr h : Nat} (b : bT x) (h1 : fr < 64) (h2 : h < 64) : bT (mvT x fr h) := by
  unfold mvT
  by_cases c : fr = h
  · rw [if_pos c]; exact b
  · rw [if_neg c]
    refine ⟨fun p hp => ?_, fun y hy => ?_⟩
    · show (if p = h then x.1 fr else x.1 p) < 64
      by_cases e : p = h
      · rw [if_pos e]; exact b.1 _ h1
      · rw [if_neg e]; exact b.1 _ hp
    · show (if y = x.1 fr then h else x.2.1 y) < 64
      by_cases e : y = x.1 fr
      · rw [if_pos e]; exact h2
      · rw [if_neg e]; exact b.2 _ hy
theorem mvT_self (x : w_T) (h : Nat) : mvT x h h = x := if_pos rfl
/-- the walk passes a place where nothing is done -/
theorem wkT_pass {Q : Nat → Bool} {m j p h : Nat} {x : w_T} (hm : p ≠ m) (hq : Q p = true → h = p - 1) : wkT Q m (j + 1) p h x = wkT Q m j (p + 1) h x := by
  rw [wkT]
  by_cases c : Q p = true
  · rw [if_pos (.inl c), ← hq c, mvT_self]
  · rw [if_neg (fun g => g.elim c hm)]
theorem wkT_skip {Q : Nat → Bool} {m : Nat} : ∀ (d j p h : Nat) (x : w_T), p + d ≤ m → (∀ q, p ≤ q → q < p + d → Q q = true → q = p ∧ h = p - 1) → wkT Q m (j + d) p h x = wkT Q m j (p + d) h x := by
  intro d
  induction d with
  | zero => intro j p h x _ _; rfl
  | succ d ih =>
    intro j p h x hm hq
    rw [show j + (d + 1) = (j + d) + 1 by omega, wkT_pass (by omega) (fun g => (hq p (by omega) (by omega) g).2), ih j (p + 1) h x (by omega) (fun q h1 h2 g => ?_)]
    · rw [show p + (d + 1) = p + 1 + d by omega]
    · have := (hq q (by omega) (by omega) g).1; omega
/-- what holds of the rows while the hole is at h -/
def iT (u m h y0 : Nat) (x0 x : w_T) : Prop := ∀ p, p < m → p ≠ h → x.1 p < u ∧ x.2.1 (x.1 p) = p ∧ x.1 p ≠ y0 ∧ ∃ p', p' < m ∧ x0.1 p' = x.1 p
theorem iT_mv {u m h f y0 : Nat} {x0 x : w_T} (i : iT u m h y0 x0 x) (hf : f < m) : iT u m f y0 x0 (mvT x f h) := by
  unfold mvT
  by_cases c : f = h
  · rw [if_pos c]; subst c; exact i
  · rw [if_neg c]
    intro p hp hpf
    obtain ⟨f1, f2, f3, f4⟩ := i f hf c
    show (if p = h then x.1 f else x.1 p) < u ∧ (if (if p = h then x.1 f else x.1 p) = x.1 f then h else x.2.1 (if p = h then x.1 f else x.1 p)) = p ∧ (if p = h then x.1 f else x.1 p) ≠ y0 ∧ ∃ p', p' < m ∧ x0.1 p' = (if p = h then x.1 f else x.1 p)
    by_cases e : p = h
    · rw [if_pos e, if_pos rfl]
      exact ⟨f1, e.symm, f3, f4⟩
    · rw [if_neg e]
      obtain ⟨g1, g2, g3, g4⟩ := i p hp e
      refine ⟨g1, ?_, g3, g4⟩
      rw [if_neg (fun q => by rw [q] at g2; omega), g2]
theorem iT_wk {Q : Nat → Bool} {u m y0 : Nat} {x0 : w_T} : ∀ (j p h : Nat) (x : w_T), iT u m h y0 x0 x → p + j = m → h < p → iT u m (m - 1) y0 x0 (wkT Q m (j + 1) p h x) := by
  intro j
  induction j with
  | zero =>
    intro p h x i hp hh
    have e : p = m := by omega
    subst e
    rw [wkT, if_pos (.inr rfl), wkT]
    exact iT_mv i (by omega)
  | succ j ih =>
    intro p h x i hp hh
    rw [wkT]
    by_cases c : Q p = true ∨ p = m
    · rw [if_pos c]
      exact ih (p + 1) (p - 1) _ (iT_mv i (by omega)) (by omega) (by omega)
    · rw [if_neg c]
      exact ih (p + 1) h x i (by omega) (by omega)
theorem bT_wk {Q : Nat → Bool} {m : Nat} (hm : m ≤ 64) : ∀ (j p h : Nat) (x : w_T), bT x → p + j = m + 1 → h < p → p ≤ m + 1 → h < 64 → bT (wkT Q m j p h x) := by
  intro j
  induction j with
  | zero => intro p h x b _ _ _ _; exact b
  | succ j ih =>
    intro p h x b hp hh hpm h64
    rw [wkT]
    by_cases c : Q p = true ∨ p = m
    · rw [if_pos c]
      exact ih (p + 1) (p - 1) _ (mvT_b b (by omega) (by omega)) (by omega) (by omega) (by omega) (by omega)
    · rw [if_neg c]
      exact ih (p + 1) h x b (by omega) (by omega) (by omega) (by omega)
def cur (h0 p q : Nat) : Nat := if h0 < q ∧ q < p then q - 1 else q
theorem cur_ne {h0 p q : Nat} (h : cur h0 p q ≠ p) (hp : h0 < p) : cur h0 (p + 1) q = cur h0 p q := by
  unfold cur at *
  by_cases a : h0 < q ∧ q < p
  · rw [if_pos a, if_pos ⟨a.1, by omega⟩]
  · rw [if_neg a] at h ⊢; rw [if_neg (by omega)]
theorem cur_eq {h0 p q : Nat} (h : cur h0 p q = p) (hp : h0 < p) : cur h0 (p + 1) q = p - 1 ∧ q = p := by
  unfold cur at *
  by_cases a : h0 < q ∧ q < p
  · rw [if_pos a] at h; omega
  · rw [if_neg a] at h; rw [if_pos (by omega)]; omega
theorem cur_le {h0 p q m : Nat} (h : q ≤ m) : cur h0 p q ≤ m := by
  unfold cur; split <;> omega
theorem cur_big {h0 p q : Nat} (h : ¬ (h0 < q ∧ q < p)) : cur h0 p q = q := if_neg h
def atQ (on : Nat → Bool) (ps : Nat → Nat) (p : Nat) : Bool := (List.range 6).any fun c => on c && (ps c == p)
theorem atQ_iff {on : Nat → Bool} {ps : Nat → Nat} {p : Nat} : atQ on ps p = true ↔ ∃ c, c < 6 ∧ on c = true ∧ ps c = p := by
  simp [atQ, List.any_eq_true, List.mem_range]
end
section
variable {M : vMe} {a r : Nat} {C F : Nat → Nat → Value}
def hoF (F : Nat → Nat → Value) (s : Nat) (x : w_T) : Prop := (∀ p, p < 64 → oS F s (6 + p) = Int32.ofNat (x.1 p)) ∧ (∀ y, y < 64 → oS F s (70 + y) = Int32.ofNat (x.2.1 y)) ∧ gt F 1 5 = x.2.2
def hoC (C : Nat → Nat → Value) (s : Nat) (x : w_T) : Prop := (∀ p, p < 64 → gt C (4 + 8 * s + 1) p = Int32.ofNat (x.1 p)) ∧ (∀ y, y < 64 → gt C (4 + 8 * s + 2) y = Int32.ofNat (x.2.1 y)) ∧ gt C 0 8 = x.2.2
theorem c_mv {s fr h : Nat} {x : w_T} (hC : cOk M a C) (hh : hoC C s x) (b : bT x) (hs : s < 5) (h1 : fr < 64) (h2 : h < 64) :
    ∃ C1, tX5_moveMember a (a + (4 + 8 * s)) (Int32.ofNat fr) (Int32.ofNat h) (cv M a C) = some ((), cv M a C1) ∧ cOk M a C1 ∧ hoC C1 s (mvT x fr h) ∧ ∀ j l, j ≠ 4 + 8 * s + 1 → j ≠ 4 + 8 * s + 2 → (j ≠ 0 ∨ l ≠ 8) → C1 j l = C j l := by
  unfold mvT
  by_cases c : fr = h
  · refine ⟨C, ?_, hC, ?_, fun _ _ _ _ _ => rfl⟩
    · rw [tX5_moveMember, if_pos (by rw [c])]
    · rw [if_pos c]; exact hh
  · have b1 := b.1 fr h1
    refine ⟨cL C s (x.1 fr) h, ?_, cL_ok hC hs, ?_, fun j l g1 g2 g3 => ?_⟩
    · rw [tX5_moveMember, if_neg (fun g => c ((n_eq (by omega) (by omega)).mp g)), c_rA hC hs (by omega), Option.bind_some, c_mI hs (by omega) h1, Option.bind_some, if_pos c_tag0]
      rw [show gt C (4 + 8 * s + (0 + 1)) fr = Int32.ofNat (x.1 fr) from hh.1 fr h1, c_writeMember hC hs b1 h2]
      rfl
    · rw [if_neg c]
      refine ⟨fun p hp => ?_, fun y hy => ?_, ?_⟩
      · show _ = Int32.ofNat (if p = h then x.1 fr else x.1 p)
        rw [cL, gt_ne (by omega), gt_ne (by omega)]
        by_cases e : p = h
        · rw [if_pos e, e]; exact gt_eq _ _ _
        · rw [if_neg e, gt_ne (by omega)]; exact hh.1 p hp
      · show _ = Int32.ofNat (if y = x.1 fr then h else x.2.1 y)
        rw [cL, gt_ne (by omega)]
        by_cases e : y = x.1 fr
        · rw [if_pos e, e]; exact gt_eq _ _ _
        · rw [if_neg e, gt_ne (by omega), gt_ne (by omega)]; exact hh.2.1 y hy
      · show _ = x.2.2 + 2
        rw [cL, gt_eq, hh.2.2]
    · rw [cL, pu_ne (by omega), pu_ne (by omega), pu_ne (by omega)]
/-- the class pulls the cursors of a position back -/
theorem c_pull_L {s p : Nat} (hp1 : 1 ≤ p) (hp : p ≤ 64) : ∀ (j f k : Nat) (C : Nat → Nat → Value) (v : Int32), cOk M a C → k + j = 6 → j < f →
    ∃ C1 v1, tX5_pullCursorsBack_L5 a (Int32.ofNat s) (Int32.ofNat p) f v (Int32.ofNat k) (cv M a C) = some (v1, cv M a C1) ∧ cOk M a C1 ∧
      ((∃ c, k ≤ c ∧ c < 6 ∧ onC C c s ∧ gt C (44 + c) 4 = Int32.ofNat p) → v1 = 1) ∧ ((¬ ∃ c, k ≤ c ∧ c < 6 ∧ onC C c s ∧ gt C (44 + c) 4 = Int32.ofNat p) → v1 = v) ∧
      (∀ c, c < 6 → gt C1 (44 + c) 4 = if k ≤ c ∧ onC C c s ∧ gt C (44 + c) 4 = Int32.ofNat p then Int32.ofNat (p - 1) else gt C (44 + c) 4) ∧ ∀ j l, (j < 44 ∨ l ≠ 4) → C1 j l = C j l := by
  intro j
  induction j with
  | zero =>
    intro f k C v h hk hf
    obtain ⟨f, rfl⟩ : ∃ g, f = g + 1 := ⟨f - 1, by omega⟩
    refine ⟨C, v, ?_, h, ?_, fun _ => rfl, fun c hc => ?_, fun _ _ _ => rfl⟩
    · rw [tX5_pullCursorsBack_L5, if_pos (by rw [l6]; exact (n_le (by omega) (by omega)).mpr (by omega))]
    · rintro ⟨c, h1, h2, -⟩; omega
    · rw [if_neg (by omega)]
  | succ j ih =>
    intro f k C v h hk hf
    obtain ⟨f, rfl⟩ : ∃ g, f = g + 1 := ⟨f - 1, by omega⟩
    have hk6 : k < 6 := by omega
    have st : tX5_pullCursorsBack_L5 a (Int32.ofNat s) (Int32.ofNat p) (f + 1) v (Int32.ofNat k) (cv M a C) =
        if onC C k s ∧ gt C (44 + k) 4 = Int32.ofNat p then tX5_pullCursorsBack_L5 a (Int32.ofNat s) (Int32.ofNat p) f 1 (Int32.ofNat (k + 1)) (cv M a (pu C (44 + k) 4 (.int (Int32.ofNat (p - 1)))))
        else tX5_pullCursorsBack_L5 a (Int32.ofNat s) (Int32.ofNat p) f v (Int32.ofNat (k + 1)) (cv M a C) := by
      rw [tX5_pullCursorsBack_L5, if_neg (by rw [l6]; exact fun g => by have := (n_le (by omega) (by omega)).mp g; omega)]
      rw [cA1 h, Option.bind_some, cU h hk6, Option.bind_some, if_pos (uT hk6), c_isOpenOn hk6, Option.bind_some]
      by_cases c1 : onC C k s
      · rw [if_pos c1, if_neg (by decide), Option.bind_some, cU h hk6, Option.bind_some, uI hk6, Option.bind_some]
        by_cases c2 : gt C (44 + k) 4 = Int32.ofNat p
        · rw [if_pos c2, if_pos ⟨c1, c2⟩, Option.bind_some, cU h hk6, Option.bind_some, n_pred hp1, uV h hk6, Option.bind_some, tX5_pullCursorsBack_J55_5, n_succ]
        · rw [if_neg c2, if_neg (fun g => c2 g.2), tX5_pullCursorsBack_J55_5, n_succ]
      · rw [if_neg c1, if_pos rfl, if_neg (fun g => c1 g.1), tX5_pullCursorsBack_J55_5, n_succ]
    rw [st]
    by_cases c : onC C k s ∧ gt C (44 + k) 4 = Int32.ofNat p
    · rw [if_pos c]
      obtain ⟨C1, v1, e1, e2, e3, e4, e5, e6⟩ := ih f (k + 1) (pu C (44 + k) 4 (.int (Int32.ofNat (p - 1)))) 1 (cOk_u h hk6) (by omega) (by omega)
      have eo : ∀ d, onC (pu C (44 + k) 4 (.int (Int32.ofNat (p - 1)))) d s ↔ onC C d s := fun d => by
        unfold onC; rw [gt_ne (by omega), gt_ne (by omega)]
      refine ⟨C1, v1, e1, e2, fun _ => ?_, fun g => absurd ⟨k, by omega, hk6, c.1, c.2⟩ g, fun d hd => ?_, fun j l hj => by rw [e6 j l hj, pu_ne (by omega)]⟩
      · by_cases g : ∃ d, k + 1 ≤ d ∧ d < 6 ∧ onC (pu C (44 + k) 4 (.int (Int32.ofNat (p - 1)))) d s ∧ gt (pu C (44 + k) 4 (.int (Int32.ofNat (p - 1)))) (44 + d) 4 = Int32.ofNat p
        · exact e3 g
        · exact e4 g
      · rw [e5 d hd]
        by_cases e : d = k
        · subst e
          rw [if_neg (by omega), gt_eq, if_pos ⟨by omega, c⟩]
        · rw [gt_ne (by omega)]
          by_cases g : k + 1 ≤ d ∧ onC C d s ∧ gt C (44 + d) 4 = Int32.ofNat p
          · rw [if_pos ⟨g.1, (eo d).mpr g.2.1, g.2.2⟩, if_pos ⟨by omega, g.2⟩]
          · rw [if_neg (fun q => g ⟨q.1, (eo d).mp q.2.1, q.2.2⟩), if_neg (fun q => g ⟨by omega, q.2⟩)]
    · rw [if_neg c]
      obtain ⟨C1, v1, e1, e2, e3, e4, e5, e6⟩ := ih f (k + 1) C v h (by omega) (by omega)
      refine ⟨C1, v1, e1, e2, fun g => ?_, fun g => ?_, fun d hd => ?_, e6⟩
      · obtain ⟨d, g1, g2, g3⟩ := g
        refine e3 ⟨d, ?_, g2, g3⟩
        by_cases e : d = k
        · subst e; exact absurd g3 c
        · omega
      · exact e4 (fun ⟨d, g1, g2, g3⟩ => g ⟨d, by omega, g2, g3⟩)
      · rw [e5 d hd]
        by_cases e : d = k
        · subst e
          rw [if_neg (by omega), if_neg (fun q => c q.2)]
        · by_cases g : k + 1 ≤ d ∧ onC C d s ∧ gt C (44 + d) 4 = Int32.ofNat p
          · rw [if_pos g, if_pos ⟨by omega, g.2⟩]
          · rw [if_neg g, if_neg (fun q => g ⟨by omega, q.2⟩)]
theorem c_pull {s p : Nat} (hC : cOk M a C) (hp1 : 1 ≤ p) (hp : p ≤ 64) :
    ∃ C1 v1, tX5_pullCursorsBack a (Int32.ofNat s) (Int32.ofNat p) (cv M a C) = some (v1, cv M a C1) ∧ cOk M a C1 ∧
      ((∃ c, c < 6 ∧ onC C c s ∧ gt C (44 + c) 4 = Int32.ofNat p) → v1 = 1) ∧ ((¬ ∃ c, c < 6 ∧ onC C c s ∧ gt C (44 + c) 4 = Int32.ofNat p) → v1 = 0) ∧
      (∀ c, c < 6 → gt C1 (44 + c) 4 = if onC C c s ∧ gt C (44 + c) 4 = Int32.ofNat p then Int32.ofNat (p - 1) else gt C (44 + c) 4) ∧ ∀ j l, (j < 44 ∨ l ≠ 4) → C1 j l = C j l := by
  obtain ⟨C1, v1, e1, e2, e3, e4, e5, e6⟩ := c_pull_L (M := M) (a := a) (s := s) hp1 hp 6 vF 0 C 0 hC (by omega) (by unfold vF; omega)
  have hv : v1 = 1 ∨ v1 = 0 := by
    by_cases g : ∃ c, 0 ≤ c ∧ c < 6 ∧ onC C c s ∧ gt C (44 + c) 4 = Int32.ofNat p
    · exact .inl (e3 g)
    · exact .inr (e4 g)
  refine ⟨C1, v1, ?_, e2, fun ⟨c, g⟩ => e3 ⟨c, by omega, g⟩, fun g => e4 (fun ⟨c, _, q⟩ => g ⟨c, q⟩), fun c hc => ?_, e6⟩
  · rw [tX5_pullCursorsBack, show tX5_pullCursorsBack_L5 a (Int32.ofNat s) (Int32.ofNat p) vF 0 0 (cv M a C) = some (v1, cv M a C1) from e1, Option.bind_some, if_pos (show fits FieldType.boolean (Value.int v1) = true from by rcases hv with e | e <;> (rw [e]; decide))]
  · rw [e5 c hc]
    by_cases g : onC C c s ∧ gt C (44 + c) 4 = Int32.ofNat p
    · rw [if_pos ⟨by omega, g⟩, if_pos g]
    · rw [if_neg (fun q => g q.2), if_neg g]
/-- the class's walk of the hole -/
theorem c_tk_L {s m h0 : Nat} {num : Int32} {on : Nat → Bool} {ps : Nat → Nat} (hs : s < 5) (hm : m ≤ 64) : ∀ (j f p h : Nat) (C : Nat → Nat → Value) (x : w_T), cOk M a C → hoC C s x → bT x → gt C (4 + 8 * s) 5 = Int32.ofNat m → h0 < p →
    (∀ c, c < 6 → (on c = true ↔ onC C c s)) → (∀ c, c < 6 → on c = true → ps c ≤ 64 ∧ gt C (44 + c) 4 = Int32.ofNat (cur h0 p (ps c))) → h < p → p + j = m + 1 → j < f →
    ∃ C1, tX5_takeOut_L32 a (Int32.ofNat s) num (a + (4 + 8 * s)) f (Int32.ofNat h) (Int32.ofNat p) (cv M a C) = some ((), cv M a C1) ∧ cOk M a C1 ∧ hoC C1 s (wkT (atQ on ps) m j p h x) ∧
      (∀ c, c < 6 → on c = true → gt C1 (44 + c) 4 = Int32.ofNat (cur h0 (m + 1) (ps c))) ∧ (∀ c, c < 6 → on c = false → gt C1 (44 + c) 4 = gt C (44 + c) 4) ∧
      ∀ i l, i ≠ 4 + 8 * s + 1 → i ≠ 4 + 8 * s + 2 → (i ≠ 0 ∨ l ≠ 8) → (i < 44 ∨ l ≠ 4) → C1 i l = C i l := by
  intro j
  induction j with
  | zero =>
    intro f p h C x hC hh b hsz h0p hon hps hhp hpj hf
    obtain ⟨f, rfl⟩ : ∃ g, f = g + 1 := ⟨f - 1, by omega⟩
    refine ⟨C, ?_, hC, hh, fun c hc ho => ?_, fun _ _ _ => rfl, fun _ _ _ _ _ _ => rfl⟩
    · rw [tX5_takeOut_L32, c_rF hs, Option.bind_some, hsz, if_pos ((n_lt (by omega) (by omega)).mpr (by omega))]
    · rw [(hps c hc ho).2, show p = m + 1 by omega]
  | succ j ih =>
    intro f p h C x hC hh b hsz h0p hon hps hhp hpj hf
    obtain ⟨f, rfl⟩ : ∃ g, f = g + 1 := ⟨f - 1, by omega⟩
    obtain ⟨C1, v1, e1, e2, e3, e4, e5, e6⟩ := c_pull (s := s) hC (show 1 ≤ p by omega) (show p ≤ 64 by omega)
    have hh1 : hoC C1 s x := ⟨fun q hq => by rw [gt_row (funext fun l => e6 _ l (by omega))]; exact hh.1 q hq, fun q hq => by rw [gt_row (funext fun l => e6 _ l (by omega))]; exact hh.2.1 q hq, by rw [gt_row (funext fun l => e6 _ l (by omega))]; exact hh.2.2⟩
    have hsz1 : gt C1 (4 + 8 * s) 5 = Int32.ofNat m := by rw [gt_row (funext fun l => e6 _ l (by omega))]; exact hsz
    have hon1 : ∀ c, c < 6 → (on c = true ↔ onC C1 c s) := fun c hc => by
      unfold onC
      rw [show gt C1 (44 + c) 1 = gt C (44 + c) 1 from by unfold gt; rw [e6 _ _ (by omega)], show gt C1 (44 + c) 3 = gt C (44 + c) 3 from by unfold gt; rw [e6 _ _ (by omega)]]
      exact hon c hc
    have hex : (∃ c, c < 6 ∧ onC C c s ∧ gt C (44 + c) 4 = Int32.ofNat p) ↔ atQ on ps p = true := by
      rw [atQ_iff]
      constructor
      · rintro ⟨c, h1, h2, h3⟩
        have ho := (hon c h1).mpr h2
        obtain ⟨g1, g2⟩ := hps c h1 ho
        rw [g2] at h3
        have := (n_eq (by have := cur_le (h0 := h0) (p := p) g1; omega) (by omega)).mp h3
        exact ⟨c, h1, ho, (cur_eq this (by omega)).2⟩
      · rintro ⟨c, h1, h2, h3⟩
        refine ⟨c, h1, (hon c h1).mp h2, ?_⟩
        rw [(hps c h1 h2).2, h3]
        unfold cur
        rw [if_neg (by omega)]
    have hps1 : ∀ c, c < 6 → on c = true → ps c ≤ 64 ∧ gt C1 (44 + c) 4 = Int32.ofNat (cur h0 (p + 1) (ps c)) := fun c hc ho => by
      obtain ⟨g1, g2⟩ := hps c hc ho
      refine ⟨g1, ?_⟩
      rw [e5 c hc]
      by_cases q : gt C (44 + c) 4 = Int32.ofNat p
      · rw [if_pos ⟨(hon c hc).mp ho, q⟩]
        rw [g2] at q
        have := (n_eq (by have := cur_le (h0 := h0) (p := p) g1; omega) (by omega)).mp q
        rw [(cur_eq this (by omega)).1]
      · rw [if_neg (fun g => q g.2), g2]
        rw [g2] at q
        have q' : cur h0 p (ps c) ≠ p := fun g => q (by rw [g])
        rw [cur_ne q' (by omega)]
    have J : ∀ C0 : Nat → Nat → Value, ∀ h' : Nat, h' < p + 1 → ∀ x', bT x' → cOk M a C0 → hoC C0 s x' → (∀ i l, i ≠ 4 + 8 * s + 1 → i ≠ 4 + 8 * s + 2 → (i ≠ 0 ∨ l ≠ 8) → C0 i l = C1 i l) → 
        ∃ C2, tX5_takeOut_J77_32 (tX5_takeOut_L32 a (Int32.ofNat s) num (a + (4 + 8 * s)) f) a (Int32.ofNat s) num (a + (4 + 8 * s)) (Int32.ofNat h') (Int32.ofNat p) (cv M a C0) = some ((), cv M a C2) ∧ cOk M a C2 ∧ hoC C2 s (wkT (atQ on ps) m j (p + 1) h' x') ∧
          (∀ c, c < 6 → on c = true → gt C2 (44 + c) 4 = Int32.ofNat (cur h0 (m + 1) (ps c))) ∧ (∀ c, c < 6 → on c = false → gt C2 (44 + c) 4 = gt C (44 + c) 4) ∧
          ∀ i l, i ≠ 4 + 8 * s + 1 → i ≠ 4 + 8 * s + 2 → (i ≠ 0 ∨ l ≠ 8) → (i < 44 ∨ l ≠ 4) → C2 i l = C i l := by
      intro C0 h' hh' x' b' hC0 hh0 hfr
      have gu : ∀ c l, c < 6 → gt C0 (44 + c) l = gt C1 (44 + c) l := fun c l hc => by unfold gt; rw [hfr _ _ (by omega) (by omega) (by omega)]
      obtain ⟨C2, k1, k2, k3, k4, k5, k6⟩ := ih f (p + 1) h' C0 x' hC0 hh0 b' (by unfold gt; rw [hfr _ _ (by omega) (by omega) (by omega)]; exact hsz1) (by omega)
        (fun c hc => by unfold onC; rw [gu c _ hc, gu c _ hc]; exact hon1 c hc) (fun c hc ho => by rw [gu c _ hc]; exact hps1 c hc ho) hh' (by omega) (by omega)
      refine ⟨C2, ?_, k2, k3, k4, fun c hc ho => ?_, fun i l g1 g2 g3 g4 => by rw [k6 i l g1 g2 g3 g4, hfr i l g1 g2 g3, e6 i l g4]⟩
      · rw [tX5_takeOut_J77_32, l1, n_add]; exact k1
      · rw [k5 c hc ho, gu c _ hc, e5 c hc, if_neg]
        rintro ⟨g, -⟩
        have := (hon c hc).mpr g
        rw [ho] at this; cases this
    have J60 : atQ on ps p = true ∨ p = m → ∃ C2, tX5_takeOut_J60_32 (tX5_takeOut_L32 a (Int32.ofNat s) num (a + (4 + 8 * s)) f) a (Int32.ofNat s) num (a + (4 + 8 * s)) (Int32.ofNat h) (Int32.ofNat p) (cv M a C1) = some ((), cv M a C2) ∧ cOk M a C2 ∧ hoC C2 s (wkT (atQ on ps) m (j + 1) p h x) ∧
          (∀ c, c < 6 → on c = true → gt C2 (44 + c) 4 = Int32.ofNat (cur h0 (m + 1) (ps c))) ∧ (∀ c, c < 6 → on c = false → gt C2 (44 + c) 4 = gt C (44 + c) 4) ∧
          ∀ i l, i ≠ 4 + 8 * s + 1 → i ≠ 4 + 8 * s + 2 → (i ≠ 0 ∨ l ≠ 8) → (i < 44 ∨ l ≠ 4) → C2 i l = C i l := by
      intro hq
      obtain ⟨C0, m1, m2, m3, m4⟩ := c_mv (fr := p - 1) (h := h) e2 hh1 b hs (by omega) (by omega)
      obtain ⟨C2, k1, k2⟩ := J C0 (p - 1) (by omega) _ (mvT_b b (by omega) (by omega)) m2 m3 m4
      refine ⟨C2, ?_, ?_⟩
      · rw [tX5_takeOut_J60_32, if_pos c_tag0, l1, n_sub (by omega), m1, Option.bind_some]; exact k1
      · rw [wkT, if_pos hq]; exact k2
    rw [tX5_takeOut_L32, c_rF hs, Option.bind_some, hsz, if_neg (fun g => by have := (n_lt (by omega) (by omega)).mp g; omega), if_pos c_tag0, e1, Option.bind_some]
    by_cases c : atQ on ps p = true
    · rw [e3 (hex.mpr c), if_neg (show ¬ ((1 : Int32) = 0) from by decide)]
      exact J60 (.inl c)
    · rw [e4 (fun g => c (hex.mp g)), if_pos rfl, c_rF hs, Option.bind_some, hsz1]
      by_cases cm : p = m
      · rw [if_pos (by rw [cm])]
        exact J60 (.inr cm)
      · rw [if_neg (fun g => cm ((n_eq (by omega) (by omega)).mp g)), wkT, if_neg (fun g => g.elim c cm)]
        exact J C1 h (by omega) x b e2 hh1 (fun _ _ _ _ _ => rfl)
end
