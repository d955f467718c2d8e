/-! THE CLAIM OUT OF ONE WALK OF THE LAW'S BODY -/
def R_law : String := "TwinSetsLaw"
def lw_P (b : Addr) (xs : List Int32) (args : Array Value) (s : State) : Prop := args = #[.ref b] ∧ s.IntsAt b xs ∧ xs.length ≤ 260 ∧ (Jvm.Cond.and given_1 narrow_1).before args s = true
theorem lw_closed {s t : State} {o : Outcome} {d0 : Drawn} {L : List Loc} {k n : Nat} (hd0 : s.drawn.sameBut d0 lw_cs) (hv : ∃ v, o = .returned v) (hW : (s.setDrawn d0).WarmedH t.vm) (hs : (s.setDrawn d0).sameButNew ({ t with vm := s.vm } : State) L k n) : State.butDraws s t lw_cs (fun t1 => Framed s o t1 L k n) := by
  have h2 : t.drawn = d0 := congrArg State.drawn hs.1
  refine ⟨⟨hv, hW, State.sameButNew.setDrawn hs s.drawn⟩, ?_, by decide⟩
  rw [h2]
  exact hd0
def lw_Q (_ : Array Value) (s : State) (o : Outcome) (t : State) : Prop := o = .returned (some (.int 1)) ∧ State.butDraws s t lw_cs (fun t1 => Framed s o t1 [] 321920 8135940)
def lw_Z (below : List Frame) (a : Array Value) (s : State) : State → Prop := fun t => ∃ o, t.status = .running ∧ Ended t below o ∧ lw_Q a s o t
theorem lw_ret {p : Program} {l : Launch} {e : Env} {s : State} {m : MethodId} {below : List Frame} {meth : Method} {c : Code} {b : Nat} {d0 : Drawn} (hd0 : s.drawn.sameBut d0 lw_cs) (hx : p.tables.exec = Jvm.exec) (hb : c.code = code) (hr : meth.sig.returnType = ret) (hlocks : meth.locks = false) {pc : Nat} {H : Heap} {ls : Array Slot} (hdg : decode code pc = .ok (.ireturn, 1)) : W p l e room_1 (s.setDrawn d0) m #[Value.ref b] below meth c H [] 321920 8135940 (lw_Z below #[Value.ref b] s) (F0 m pc ls [.int 1]) := by
  intro T hT X
  obtain ⟨fs, hret, hrun, hended, hW, hframe⟩ := X.leave (v := some (.int 1)) (hlocks := hlocks) (fun h => by rw [hr] at h; cases h)
  have hmeth' : T.vm.method? m = some meth := X.method'
  refine ⟨T.setFrames fs, ?_, .returned (some (.int 1)), hrun, hended, rfl, lw_closed hd0 ⟨_, rfl⟩ hW hframe⟩
  jvm_step X.here [X.here.top, hx, hb, hdg, hmeth', hr, ret, narrow_b1]
  (try refine ⟨rfl, ?_⟩); (try refine ⟨rfl, ?_⟩)
  first | (intro acts; rw [hret _ acts rfl rfl rfl]) | rw [hret _ _ rfl rfl rfl]
  exact Steps.refl _
def lw_At (p : Program) (s : State) (m : MethodId) (meth : Method) (c : Code) (b L : Nat) (xs : Nat → Int32) : Prop :=
  p.tables.exec = Jvm.exec ∧ c.code = code ∧ meth.sig.returnType = ret ∧ c.maxLocals = 4 ∧ s.vm.findClass R_law = some m.cls ∧ (∀ w ∈ lw_tbl, w.before #[Value.ref b] s = true) ∧ va_X b L xs s s.heap ∧ b < s.heap.size ∧ meth.locks = false ∧ (Jvm.Cond.and given_1 narrow_1).before #[Value.ref b] s = true
section VI
variable {p : Program} {l : Launch} {e : Env} {R : Room} {s : State} {m : MethodId} {args : Array Value} {below : List Frame} {meth : Method} {c : Code} {n k : Nat} {Q : State → Prop}
variable {D : vD} {M : vMe} {cc : ByteArray} {pc : Nat} {ls : Array Slot} {rest : List Value}
theorem vV.know {g : JFrame} (kk : ∀ H, vRp D M H → vV D p l e R s m args below meth c n k Q M g) : vV D p l e R s m args below meth c n k Q M g := fun H locs hR hS => kk H hR H locs hR hS
theorem w_sld {b L j : Nat} {xs : Nat → Int32} {i : Int32} (hx : p.tables.exec = Jvm.exec) (hb : c.code = cc) (hX : va_X b L xs s s.heap) (hbl : b < s.heap.size) (hbA : ¬ vA D b) (hi : i = Int32.ofNat j) (hj : j < L) (hL : L ≤ 3072) (hdg : decode cc pc = .ok (.iaload, 1))
    (kk : vV D p l e R s m args below meth c n k Q M (F0 m (pc + 1) ls (.int (xs j) :: rest))) : vV D p l e R s m args below meth c n k Q M (F0 m pc ls (.int i :: .ref b :: rest)) := by
  intro H locs hR hS
  subst hi
  have e : (Int32.ofNat j).toNatClampNeg = j := n_clamp (by omega)
  have hin : vp_in (Int32.ofNat j) L := fun g => g.elim (n_neg (by omega)) (fun g => by rw [e] at g; omega)
  have := kk H locs hR hS
  rw [← e] at this
  exact va_sld hx hb hX hbl hbA hS hin hdg this
theorem w_slen {b L : Nat} {xs : Nat → Int32} (hx : p.tables.exec = Jvm.exec) (hb : c.code = cc) (hX : va_X b L xs s s.heap) (hbl : b < s.heap.size) (hbA : ¬ vA D b) (hdg : decode cc pc = .ok (.arraylength, 1))
    (kk : vV D p l e R s m args below meth c n k Q M (F0 m (pc + 1) ls (.int (Int32.ofNat L) :: rest))) : vV D p l e R s m args below meth c n k Q M (F0 m pc ls (.ref b :: rest)) := fun H locs hR hS => va_slen hx hb hX hbl hbA hS hdg (kk H locs hR hS)
end VI
theorem wf_R {D : vD} {M : vMe} {H : Heap} (hR : vRp D M H) : wf M := fun q hq k hk => by
  obtain ⟨rr, h1, -, h3⟩ := (hR.1 q).1 (by omega) (by omega)
  rw [hq] at h1 h3
  cases Option.some.inj h1
  have := h3 k (show k < 8 by omega)
  rcases (show k = 0 ∨ k = 1 ∨ k = 2 by omega) with rfl | rfl | rfl <;> exact this
theorem wb_R {D : vD} {M : vMe} {H : Heap} (hR : vRp D M H) : wb M := fun q hq k hk => by
  obtain ⟨-, -, -, h⟩ := (hR.1 q).2 (by omega)
  rw [hq] at h
  exact h k hk
/-- the law's end -/
theorem k_end {p : Program} {l : Launch} {e : Env} {s : State} {m : MethodId} {below : List Frame} {meth : Method} {c : Code} {D : vD} {b : Nat} (hx : p.tables.exec = Jvm.exec) (hb : c.code = code) (hr : meth.sig.returnType = ret) (hlk : meth.locks = false) (hD : D.2.2.2.1 = s.heap.size) {n k : Nat} {M : vMe} {ls : Array Slot} (hn : n ≤ 321920) (hk : k ≤ 8135940) : vV D p l e room_1 s m #[.ref b] below meth c n k (lw_Z below #[.ref b] s) M (F0 m 47 ls []) := by
  refine w_iconst (v := 1) hx hb dL_law_47 (by decide) ?_
  intro H locs hR hS
  exact va_forget (fun q hq => by have h : D.2.2.2.1 ≤ q.base := hS.2.2 q hq; omega) (W.widen hn hk (lw_ret (d0 := s.drawn) (Drawn.sameBut.refl _ _) hx hb hr hlk dL_law_48))
set_option maxHeartbeats 4000000 in
set_option maxRecDepth 100000 in
/-- the plays -/
theorem k_loop {KK : Nat → vOb} {p : Program} {l : Launch} {e : Env} {s : State} {m : MethodId} {below : List Frame} {meth : Method} {c : Code} {D : vD} {b L : Nat} {xs : Nat → Int32} {x r : Nat} (hfl : l.stackTraces = false) (hx : p.tables.exec = Jvm.exec) (hb : c.code = code) (hr : meth.sig.returnType = ret) (hlk : meth.locks = false) (hml : c.maxLocals = 4) (hown : s.vm.findClass RL = some m.cls) (hts : ∀ w ∈ TB, w.before #[.ref b] s = true) (hSS : vS D s) (hX : va_X b L xs s s.heap) (hbl : b < s.heap.size) (hbA : ¬ vA D b) (hD : D.2.2.2.1 = s.heap.size) (hDx : D.2.2.2.1 = x) (S : stK KK x D.2.2.2.2) (hL : L ≤ 260) : ∀ (t i n k : Nat) (M : vMe) (ls : Array Slot), OW KK M x r → 3 ≤ i + t → i ≤ 3 → n + 4001 * t ≤ 321920 → k + 200001 * t ≤ 8135940 → lv_has ls 4 [(0, .ref b), (1, .ref x), (2, .int (Int32.ofNat L)), (3, .int (Int32.ofNat i))] → vV D p l e room_1 s m #[.ref b] below meth c n k (lw_Z below #[.ref b] s) M (F0 m 13 ls []) := by
  have hK := hSS.1
  intro t
  induction t with
  | zero =>
    intro i n k M ls I h1 h2 h3 h4 hl
    refine w_iload_n hx hb dL_law_13 rfl (lv_at hl 3 rfl) ?_
    refine w_iload_n hx hb dL_law_14 rfl (lv_at hl 2 rfl) ?_
    refine w_icmp_ge (tgt := 47) hx hb dL_law_15 (by decide) (fun _ => ?_) (fun _ => ?_)
    · exact k_end hx hb hr hlk hD (by omega) (by omega)
    refine w_iload_n hx hb dL_law_18 rfl (lv_at hl 3 rfl) ?_
    refine w_iconst (v := 3) hx hb dL_law_19 (by decide) ?_
    refine w_icmp_ge (tgt := 47) hx hb dL_law_20 (by decide) (fun _ => ?_) (fun g => ?_)
    · exact k_end hx hb hr hlk hD (by omega) (by omega)
    · exact absurd (show (3 : Int32) ≤ Int32.ofNat i from (n_le (a := 3) (by omega) (by omega)).mpr (by omega)) g
  | succ t ih =>
    intro i n k M ls I h1 h2 h3 h4 hl
    refine w_iload_n hx hb dL_law_13 rfl (lv_at hl 3 rfl) ?_
    refine w_iload_n hx hb dL_law_14 rfl (lv_at hl 2 rfl) ?_
    refine w_icmp_ge (tgt := 47) hx hb dL_law_15 (by decide) (fun _ => ?_) (fun g1 => ?_)
    · exact k_end hx hb hr hlk hD (by omega) (by omega)
    refine w_iload_n hx hb dL_law_18 rfl (lv_at hl 3 rfl) ?_
    refine w_iconst (v := 3) hx hb dL_law_19 (by decide) ?_
    refine w_icmp_ge (tgt := 47) hx hb dL_law_20 (by decide) (fun _ => ?_) (fun g2 => ?_)
    · exact k_end hx hb hr hlk hD (by omega) (by omega)
    have hiL : i < L := Nat.lt_of_not_le (fun g => g1 ((n_le (by omega) (by omega)).mpr g))
    have hi3 : i < 3 := Nat.lt_of_not_le (fun g => g2 (show (3 : Int32) ≤ Int32.ofNat i from (n_le (a := 3) (by omega) (by omega)).mpr g))
    refine w_aload_n hx hb dL_law_23 rfl (lv_at hl 1 rfl) ?_
    refine w_iconst (v := 1) hx hb dL_law_24 (by decide) ?_
    refine v_newa (tg := 101) (N := 1) (x := 1) (atype := .int) hx hb hK (hts _ kz8) (by decide) (by decide) rfl (by decide) (by decide) (by decide) (by show n + 1 ≤ 321920; omega) (by show k + 1 ≤ 8135940; omega) dL_law_25 ?_
    refine w_dup hx hb dL_law_27 rfl ?_
    refine w_iconst (v := 0) hx hb dL_law_28 (by decide) ?_
    refine w_aload_n hx hb dL_law_29 rfl (lv_at hl 0 rfl) ?_
    refine w_iload_n hx hb dL_law_30 rfl (lv_at hl 3 rfl) ?_
    refine w_sld (j := i) hx hb hX hbl hbA rfl hiL (by omega) dL_law_31 ?_
    obtain ⟨M2, e1, e2, e3⟩ := PW_of (v := xs i) I
    refine v_iast (M1 := M2) hx hb hK e1 dL_law_32 ?_
    refine vV.know (fun H hR => ?_)
    obtain ⟨N9, p1, p2, p3, u, hz, n9, clk, E, p4⟩ := plays_P (e3 (wf_R hR)) S (wb_R hR) (wf_R hR)
    have fn : n + 1 + 4000 ≤ 321920 := by omega
    have fk : k + 1 + 200000 ≤ 8135940 := Nat.le_trans (by rw [Nat.mul_succ, Nat.add_assoc]; exact Nat.add_le_add_left (Nat.le_add_left _ _) k) h4
    refine v_call1 (v := .int 1) (M1 := N9) (mc := 4000) (ms := 200000) (fun H locs hR hS => va_runS (As := [.ref x, .ref M.2.1]) (rest := []) ⟨hx, hb, hml, hown, hts⟩ (mL_plays l hfl D x M.2.1 M2 (1, N9) p1) (va_cwS 2 hts (gdS kz5 kz6 kz9 kz7) rfl rfl rfl (by decide +kernel) ⟨Nat.le_of_ble_eq_true rfl, Nat.le_of_ble_eq_true rfl⟩) (v_preS hSS hR hS [.ref x, .ref M.2.1]) rfl rfl hl.1 rfl (lv_room (Nat.le_of_ble_eq_true rfl)) dL_law_33 ⟨fn, fk⟩) ?_
    refine w_if_ne (tgt := 41) hx hb dL_law_36 (by decide) (fun g => absurd g n10) (fun _ => ?_)
    refine vV.know (fun H hR => ?_)
    refine w_iinc (v := Int32.ofNat (i + 1)) hx hb dL_law_41 hl (j := 3) rfl (n_add i 1) (by decide) rfl (fun ls3 hl3 => ?_)
    refine w_goto (tgt := 13) hx hb dL_law_44 (by decide) ?_
    exact ih (i + 1) (n + 1 + 4000) (k + 1 + 200000) N9 ls3 (OW_of p4 (hR.2.2.2.1.trans hDx)) (by omega) (by omega) (by omega) (by omega) (lv_sub hl3 [1, 2, 3, 0] rfl)
set_option maxHeartbeats 4000000 in
set_option maxRecDepth 100000 in
/-- the law from its entry -/
theorem k_entry {p : Program} {l : Launch} {e : Env} {s : State} {m : MethodId} {below : List Frame} {meth : Method} {c : Code} {D : vD} {b L : Nat} {xs : Nat → Int32} (hfl : l.stackTraces = false) (hx : p.tables.exec = Jvm.exec) (hb : c.code = code) (hr : meth.sig.returnType = ret) (hlk : meth.locks = false) (hml : c.maxLocals = 4) (hown : s.vm.findClass RL = some m.cls) (hts : ∀ w ∈ TB, w.before #[.ref b] s = true) (hSS : vS D s) (hX : va_X b L xs s s.heap) (hbl : b < s.heap.size) (hbA : ¬ vA D b) (hD : D.2.2.2.1 = s.heap.size) (hL : L ≤ 260) {M : vMe} {ls : Array Slot} (hDx : D.2.2.2.1 = M.2.1) (S : stK M.1 M.2.1 D.2.2.2.2) (d3 : M.2.2.2 = M.2.1) (hl : lv_has ls 4 [(0, .ref b)]) : vV D p l e room_1 s m #[.ref b] below meth c 0 0 (lw_Z below #[.ref b] s) M (F0 m 0 ls []) := by
  have hK := hSS.1
  obtain ⟨V, hV⟩ : ∃ V : Nat → Value, V = fun i => defaultValue (vTy 10 i) := ⟨_, rfl⟩
  obtain ⟨M1, e1, I⟩ := o_init (M := M) (Gs := D.2.2.2.2) (V := V) d3
  refine v_new (ci := 10) (N := 6) (nn := 6) (f := V) hx hb hts iwX9 hown hK tyX9_ok rfl (hts _ kz0) (hts _ kz1) (hts _ kz10) (fun i _ => by rw [hV]) (by rw [hV]; decide) (by decide) (by show 0 + 1 ≤ 321920; omega) (by show 0 + 6 ≤ 8135940; omega) dL_law_0 ?_
  refine w_dup hx hb dL_law_3 rfl ?_
  refine v_call0 (M1 := M1) (mc := 120) (ms := 5000) (fun H locs hR hS => va_runI (As := []) (rest := [.ref M.2.1]) ⟨hx, hb, hml, hown, hts⟩ (mX9_init l hfl D M.2.1 (nw M 11 0 6 V) ((), M1) e1) (cwI 0 hts (gdI kz4) rfl rfl rfl (hts _ kz10) (hts _ kz2) (hts _ kz3) rfl (by decide +kernel) ⟨Nat.le_of_ble_eq_true rfl, Nat.le_of_ble_eq_true rfl⟩) (v_preS hSS hR hS [.ref M.2.1]) rfl rfl hl.1 rfl (lv_room (Nat.le_of_ble_eq_true rfl)) dL_law_4 ⟨by show 0 + 1 + 120 ≤ 321920; omega, by show 0 + 6 + 5000 ≤ 8135940; omega⟩) ?_
  refine w_astore_n (i := 1) hx hb dL_law_7 rfl hl (by decide) rfl (fun ls1 hl1 => ?_)
  have hl1 : lv_has ls1 4 [(1, .ref M.2.1), (0, .ref b)] := hl1
  refine w_aload_n hx hb dL_law_8 rfl (lv_at hl1 1 rfl) ?_
  refine w_slen hx hb hX hbl hbA dL_law_9 ?_
  refine w_istore_n (i := 2) hx hb dL_law_10 rfl hl1 (by decide) rfl (fun ls2 hl2 => ?_)
  have hl2 : lv_has ls2 4 [(2, .int (Int32.ofNat L)), (1, .ref M.2.1), (0, .ref b)] := hl2
  refine w_iconst (v := 0) hx hb dL_law_11 (by decide) ?_
  refine w_istore_n (i := 3) hx hb dL_law_12 rfl hl2 (by decide) rfl (fun ls3 hl3 => ?_)
  exact k_loop hfl hx hb hr hlk hml hown hts hSS hX hbl hbA hD hDx S hL 3 0 _ _ _ ls3 I (by omega) (by omega) (by omega) (by omega) (lv_sub hl3 [3, 2, 1, 0] rfl)
theorem whole_start {p : Program} {e : Env} {s : State} {m : MethodId} {below : List Frame} {meth : Method} {c : Code} (l : Launch) (hflags : l.flags = flags0) {b L : Nat} {xs : Nat → Int32} (hL : L ≤ 260) (C0 : lw_At p s m meth c b L xs) : W p l e room_1 s m #[Value.ref b] below meth c s.heap [] 0 0 (lw_Z below #[Value.ref b] s) (entryFrame m ([Value.ref b] : List Value).toArray 4) := by
  have hfl : l.stackTraces = false := by unfold Launch.stackTraces; rw [hflags]; decide
  obtain ⟨hx, hb, hr, hml, hown, h0, hX, hbl, hlk, hg⟩ := C0
  obtain ⟨hts, D, M, d1, d2, d3, hSS, hR, hS⟩ := l_world h0 hg
  have hl := lv_entry [Value.ref b] (n := 4) (Nat.le_of_ble_eq_true rfl)
  rw [lg_entry_eq]
  exact k_entry (L := L) (xs := xs) hfl hx hb hr hlk hml hown hts hSS hX hbl (fun h => by have h9 : D.2.2.2.1 ≤ b := h; omega) d1 hL (d1.trans d2.symm) (by rw [d2]; exact hS) (d3.trans d2.symm) hl s.heap [] hR va_S.rf
