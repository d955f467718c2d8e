section
variable {x r : Nat} {M M1 N : vMe} {M0 : Nat → vOb}
/-- what holds at the head of the law's loop -/
def lI (x r : Nat) (M0 : Nat → vOb) (M : vMe) : Prop := SimX x r M ∧ M.2.2.2 = x ∧ (∃ f, M.1 (r + 10) = (104, 1, f)) ∧ (∃ f, M.1 (r + 11) = (105, 1, f)) ∧ ∀ q, q < x → M.1 q = M0 q
theorem pL_slk {out : Nat} {w : Option Value} (ho : out = r + 10 ∨ out = r + 11) (h : pL M1 out w N) : slk r M1 N := by
  cases w with
  | some v =>
    have h : N = wr M1 out 0 v := h
    rw [h]
    refine ⟨rfl, Nat.le_refl _, fun q h1 h2 => ?_⟩
    show (if q = out then _ else M1.1 q) = _
    rw [if_neg (by omega)]
  | none =>
    obtain ⟨A, B, h1, h2, h3⟩ := h
    rw [h3]
    exact ⟨rfl, h1, fun _ _ _ => rfl⟩
theorem pL_at {out tg : Nat} {f : Nat → Value} {w : Option Value} (h : pL M1 out w N) (ho : M1.1 out = (tg, 1, f)) : ∃ f', N.1 out = (tg, 1, f') ∧ ∀ v, w = some v → f' 0 = v := by
  cases w with
  | some v =>
    have h : N = wr M1 out 0 v := h
    rw [h]
    refine ⟨updV f 0 v, ?_, fun v' e => by cases e; exact if_pos rfl⟩
    show (if out = out then ((M1.1 out).1, (M1.1 out).2.1, updV (M1.1 out).2.2 0 v) else M1.1 out) = _
    rw [if_pos rfl, ho]
  | none =>
    obtain ⟨A, B, h1, h2, h3⟩ := h
    rw [h3]
    exact ⟨f, ho, fun v e => by cases e⟩
theorem pL_ne {out q : Nat} {w : Option Value} (h : pL M1 out w N) (hq : q ≠ out) : N.1 q = M1.1 q := by
  cases w with
  | some v =>
    have h : N = wr M1 out 0 v := h
    rw [h]
    show (if q = out then _ else M1.1 q) = _
    rw [if_neg hq]
  | none =>
    obtain ⟨A, B, h1, h2, h3⟩ := h
    rw [h3]
theorem slk_rf : slk r M M := ⟨rfl, Nat.le_refl _, fun _ _ _ => rfl⟩
theorem lI_go {α : Type} {tc : Option ((α ⊕ Nat) × vMe)} {tr : vMe → Option (α × vMe)} {mp : Nat → Int32} (I : lI x r M0 M) (h : opR x r M tc tr mp) : ∃ z M1, tc = some (z, M1) ∧ M1.2.2.2 = x ∧ (∀ j, z = .inr j → mp j ≠ 0) ∧ (∃ f, M1.1 (r + 10) = (104, 1, f)) ∧ (∃ f, M1.1 (r + 11) = (105, 1, f)) ∧ x + 8 ≤ r ∧ (M1.1 r).1 = 12 ∧
    ∀ N, slk r M1 N → (∃ f, N.1 (r + 10) = (104, 1, f)) → (∃ f, N.1 (r + 11) = (105, 1, f)) → (N.1 r).1 = 12 ∧ ∃ b M2, tr N = some (b, M2) ∧ lI x r M0 M2 ∧ gI M2 r 12 0 = some (Sum.elim (fun _ => 0) mp z) ∧ (∀ v, z = .inl v → b = v) ∧ M2.1 (r + 10) = N.1 (r + 10) ∧ M2.1 (r + 11) = N.1 (r + 11) := by
  obtain ⟨⟨G, F, a, d, C, u, hz, n, k, hD⟩, i2, ⟨f1, i3⟩, ⟨f2, i4⟩, i5⟩ := I
  have hx : x + 8 ≤ r := hD.1.2.2.2.2.1
  obtain ⟨z, M1, h1, h2, h3, h4, h5, h6, h7⟩ := h
  refine ⟨z, M1, h1, by rw [h2]; exact i2, h6, ⟨f1, by rw [h4 _ (by omega)]; exact i3⟩, ⟨f2, by rw [h4 _ (by omega)]; exact i4⟩, hx, h5, fun N hs g1 g2 => ⟨by rw [hs.2.2 r (by omega) (by omega)]; exact h5, ?_⟩⟩
  obtain ⟨b, M2, k1, k2, k3, k4, k5, k6⟩ := h7 N hs
  have e10 : M2.1 (r + 10) = N.1 (r + 10) := k3 _ (by omega)
  have e11 : M2.1 (r + 11) = N.1 (r + 11) := k3 _ (by omega)
  exact ⟨b, M2, k1, ⟨k4, by rw [k2, hs.1, h2]; exact i2, by rw [e10]; exact g1, by rw [e11]; exact g2, fun q hq => by rw [k3 q (by omega), hs.2.2 q (by omega) (by omega), h4 q (by omega)]; exact i5 q hq⟩, k5, k6, e10, e11⟩
/-- the law's static things: tokens, texts -/
def sT (M0 : Nat → vOb) (x q : Nat) (l : List Nat) : Prop := ∃ p, tAt (M0, 0, 0, 0) q p l ∧ q < x ∧ p < x
def lS (D : vD) (x : Nat) (M0 : Nat → vOb) : Prop := D.2.2.2.1 = x ∧ tkD D.2.2.2.2 ∧ ∃ (wl : Nat → List Nat) (ws : List Nat), (∀ i, i < 5 → sT M0 x (D.2.2.2.2 (14 + i)) (wl i)) ∧ sT M0 x (D.2.2.2.2 13) ws ∧ (∀ i, i < 5 → sT M0 x (D.2.2.2.2 (20 + i)) (wl i)) ∧ sT M0 x (D.2.2.2.2 25) ws
theorem sT_nm {G F C : Nat → Nat → Value} {a d u hz n k q : Nat} {l : List Nat} (h : simD M x r G F a d C u hz n k) (e : ∀ q, q < x → M.1 q = M0 q) (t : sT M0 x q l) : nmAt M x r G q l := by
  obtain ⟨p, t1, t2, t3⟩ := t
  have no : ∀ q, q < x → ¬ own x r G q := fun q hq g => by
    have hx : x + 8 ≤ r := h.1.2.2.2.2.1
    rcases g with g | g | ⟨i, b, hi, hb, g1, g2⟩
    · omega
    · omega
    · have := (h.2.2.1 i b hi hb).1.1; omega
  have hm : x < M.2.1 := by have := h.1.2.2.2.2; omega
  exact ⟨p, t1.same (e q t2) (e p t3), no q t2, no p t3, by omega, by omega⟩
theorem wf_R {D : vD} {H : Heap} (hR : vRp D M H) : wf M := fun q hq k hk => by
  obtain ⟨rr, h1, -, h3⟩ := (hR.1 q).1 (by omega) (by omega)
  rw [hq] at h1 h3
  cases Option.some.inj h1
  have := h3 k (show k < 8 by omega)
  rcases (show k = 0 ∨ k = 1 ∨ k = 2 by omega) with rfl | rfl | rfl <;> exact this
theorem wb_R {D : vD} {H : Heap} (hR : vRp D M H) : wb M := fun q hq k hk => by
  obtain ⟨-, -, -, h⟩ := (hR.1 q).2 (by omega)
  rw [hq] at h
  exact h k hk
end
section VI
variable {p : Program} {l : Launch} {e : Env} {R : Room} {s : State} {m : MethodId} {args : Array Value} {below : List Frame} {meth : Method} {c : Code} {n k : Nat} {Q : State → Prop}
variable {D : vD} {M : vMe} {cc : ByteArray} {pc : Nat} {ls : Array Slot} {rest : List Value}
theorem vV.know {g : JFrame} (kk : ∀ H, vRp D M H → vV D p l e R s m args below meth c n k Q M g) : vV D p l e R s m args below meth c n k Q M g := fun H locs hR hS => kk H hR H locs hR hS
theorem w_sld {b L j : Nat} {xs : Nat → Int32} {i : Int32} (hx : p.tables.exec = Jvm.exec) (hb : c.code = cc) (hX : va_X b L xs s s.heap) (hbl : b < s.heap.size) (hbA : ¬ vA D b) (hi : i = Int32.ofNat j) (hj : j < L) (hL : L ≤ 3072) (hdg : decode cc pc = .ok (.iaload, 1))
    (kk : vV D p l e R s m args below meth c n k Q M (F0 m (pc + 1) ls (.int (xs j) :: rest))) : vV D p l e R s m args below meth c n k Q M (F0 m pc ls (.int i :: .ref b :: rest)) := by
  intro H locs hR hS
  subst hi
  have e : (Int32.ofNat j).toNatClampNeg = j := n_clamp (by omega)
  have hin : vp_in (Int32.ofNat j) L := fun g => g.elim (n_neg (by omega)) (fun g => by rw [e] at g; omega)
  have := kk H locs hR hS
  rw [← e] at this
  exact va_sld hx hb hX hbl hbA hS hin hdg this
/-- a number of the script -/
theorem w_arg {b L i : Nat} {xs : Nat → Int32} {z : Int} (j : Nat) (hx : p.tables.exec = Jvm.exec) (hb : c.code = cc) (hX : va_X b L xs s s.heap) (hbl : b < s.heap.size) (hbA : ¬ vA D b) (hL : L ≤ 3072) (hj : i + j < L) {q : Fin 4} (hq : (q : Nat) = 0) (h0 : ls[0]? = some (.val (.ref b))) (h5 : ls[5]? = some (.val (.int (Int32.ofNat i)))) (hz : Int32.ofInt z = Int32.ofNat j)
    (d0 : decode cc pc = .ok (.aload_n q, 1)) (d1 : decode cc (pc + 1) = .ok (.iload 5, 2)) (d2 : decode cc (pc + 3) = .ok (.iconst z, 1)) (d3 : decode cc (pc + 4) = .ok (.iadd, 1)) (d4 : decode cc (pc + 5) = .ok (.iaload, 1))
    (kk : vV D p l e R s m args below meth c n k Q M (F0 m (pc + 6) ls (.int (xs (i + j)) :: rest))) : vV D p l e R s m args below meth c n k Q M (F0 m pc ls rest) := by
  refine w_aload_n hx hb d0 hq h0 ?_
  refine w_iload hx hb d1 h5 ?_
  refine w_iconst hx hb d2 hz ?_
  refine w_iadd hx hb d3 ?_
  exact w_sld hx hb hX hbl hbA (n_add i j) hj hL d4 kk
/-- is it not 0 ? -/
theorem w_bool {v : Int32} (hx : p.tables.exec = Jvm.exec) (hb : c.code = cc) (d0 : decode cc pc = .ok (.ifCond .eq 7, 3)) (d1 : decode cc (pc + 3) = .ok (.iconst 1, 1)) (d2 : decode cc (pc + 4) = .ok (.goto 4, 3)) (d3 : decode cc (pc + 7) = .ok (.iconst 0, 1))
    (kk : vV D p l e R s m args below meth c n k Q M (F0 m (pc + 8) ls (.int (if v = 0 then 0 else 1) :: rest))) : vV D p l e R s m args below meth c n k Q M (F0 m pc ls (.int v :: rest)) := by
  refine w_if_eq (tgt := pc + 7) hx hb d0 (by omega) (fun g => ?_) (fun g => ?_)
  · rw [if_pos g] at kk
    exact w_iconst (v := 0) hx hb d3 (by decide) kk
  · rw [if_neg g] at kk
    refine w_iconst (v := 1) hx hb d1 (by decide) ?_
    exact w_goto (tgt := pc + 8) hx hb d2 (by omega) kk
theorem w_boolL {v : Int32} (hx : p.tables.exec = Jvm.exec) (hb : c.code = cc) (d0 : decode cc pc = .ok (.ifCond .eq 7, 3)) (d1 : decode cc (pc + 3) = .ok (.lconst 1, 1)) (d2 : decode cc (pc + 4) = .ok (.goto 4, 3)) (d3 : decode cc (pc + 7) = .ok (.lconst 0, 1))
    (kk : vV D p l e R s m args below meth c n k Q M (F0 m (pc + 8) ls (.long (if v = 0 then 0 else 1) :: rest))) : vV D p l e R s m args below meth c n k Q M (F0 m pc ls (.int v :: rest)) := by
  refine w_if_eq (tgt := pc + 7) hx hb d0 (by omega) (fun g => ?_) (fun g => ?_)
  · rw [if_pos g] at kk
    exact w_lconst (v := 0) hx hb d3 (by decide) kk
  · rw [if_neg g] at kk
    refine w_lconst (v := 1) hx hb d1 (by decide) ?_
    exact w_goto (tgt := pc + 8) hx hb d2 (by omega) kk
theorem lg_self (v : Int64) : lg_cmp v v = 0 := by
  have h : ¬ v > v := fun g => by
    rw [gt_iff_lt, Int64.lt_iff_toInt_lt] at g
    omega
  unfold lg_cmp
  rw [if_neg h, if_pos rfl]
theorem w_b01 (v : Int32) : (if v = 0 then (0 : Int32) else 1) = 0 ∨ (if v = 0 then (0 : Int32) else 1) = 1 := by
  by_cases g : v = 0
  · rw [if_pos g]; exact .inl rfl
  · rw [if_neg g]; exact .inr rfl
end VI
