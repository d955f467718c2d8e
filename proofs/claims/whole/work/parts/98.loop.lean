/-! THE CLAIM OUT OF ONE WALK OF THE LAW'S BODY. Your part is whole_start (and what it stands on); all else here is the same for every law, but numbers. -/
def R_law : String := "TwinSetsLaw"
def lw_P (b : Addr) (xs : List Int32) (args : Array Value) (s : State) : Prop := args = #[.ref b] ∧ s.IntsAt b xs ∧ xs.length ≤ 3072 ∧ (Jvm.Cond.and given_1 narrow_1).before args s = true
/-- what a walk over the start with the record d0 says of its end, said of the start itself -/
theorem lw_closed {s t : State} {o : Outcome} {d0 : Drawn} {L : List Loc} {k n : Nat} (hd0 : s.drawn.sameBut d0 lw_cs) (hv : ∃ v, o = .returned v) (hW : (s.setDrawn d0).WarmedH t.vm) (hs : (s.setDrawn d0).sameButNew ({ t with vm := s.vm } : State) L k n) : State.butDraws s t lw_cs (fun t1 => Framed s o t1 L k n) := by
  have h2 : t.drawn = d0 := congrArg State.drawn hs.1
  refine ⟨⟨hv, hW, State.sameButNew.setDrawn hs s.drawn⟩, ?_, by decide⟩
  rw [h2]
  exact hd0
def lw_Q (_ : Array Value) (s : State) (o : Outcome) (t : State) : Prop := o = .returned (some (.int 1)) ∧ State.butDraws s t lw_cs (fun t1 => Framed s o t1 [] 601024 7293034)
def lw_Z (below : List Frame) (a : Array Value) (s : State) : State → Prop := fun t => ∃ o, t.status = .running ∧ Ended t below o ∧ lw_Q a s o t
/-- the law's own end, with 1 on the stack, nothing written that was there before, its room as the claim has it; d0: the record of draws at this point (at the entry s.drawn: begin with 'refine W.base ?_' and 'have hd0 := Drawn.sameBut.refl s.drawn lw_cs') -/
theorem lw_ret {p : Program} {l : Launch} {e : Env} {s : State} {m : MethodId} {below : List Frame} {meth : Method} {c : Code} {b : Nat} {d0 : Drawn} (hd0 : s.drawn.sameBut d0 lw_cs) (hx : p.tables.exec = Jvm.exec) (hb : c.code = code) (hr : meth.sig.returnType = ret) (hlocks : meth.locks = false) {pc : Nat} {H : Heap} {ls : Array Slot} (hdg : decode code pc = .ok (.ireturn, 1)) : W p l e room_1 (s.setDrawn d0) m #[Value.ref b] below meth c H [] 601024 7293034 (lw_Z below #[Value.ref b] s) (F0 m pc ls [.int 1]) := by
  intro T hT X
  obtain ⟨fs, hret, hrun, hended, hW, hframe⟩ := X.leave (v := some (.int 1)) (hlocks := hlocks) (fun h => by rw [hr] at h; cases h)
  have hmeth' : T.vm.method? m = some meth := X.method'
  refine ⟨T.setFrames fs, ?_, .returned (some (.int 1)), hrun, hended, rfl, lw_closed hd0 ⟨_, rfl⟩ hW hframe⟩
  jvm_step X.here [X.here.top, hx, hb, hdg, hmeth', hr, ret, narrow_b1]
  (try refine ⟨rfl, ?_⟩); (try refine ⟨rfl, ?_⟩)
  first | (intro acts; rw [hret _ acts rfl rfl rfl]) | rw [hret _ _ rfl rfl rfl]
  exact Steps.refl _
/-- what holds at the law's entry: the machine, the code, the tables' words (any of lw_tbl by 'hts w (by decide +kernel)'), the script of L ints xs at the cell b, what the Statement gives of the start (any of its parts by flat_of_before) -/
def lw_At (p : Program) (s : State) (m : MethodId) (meth : Method) (c : Code) (b L : Nat) (xs : Nat → Int32) : Prop :=
  p.tables.exec = Jvm.exec ∧ c.code = code ∧ meth.sig.returnType = ret ∧ c.maxLocals = 9 ∧ s.vm.findClass R_law = some m.cls ∧ (∀ w ∈ lw_tbl, w.before #[Value.ref b] s = true) ∧ va_X b L xs s s.heap ∧ b < s.heap.size ∧ meth.locks = false ∧ (Jvm.Cond.and given_1 narrow_1).before #[Value.ref b] s = true
theorem kz108 : Cond.classLink RL 8 RX9 ∈ TB := mTB (List.mem_of_getElem? (i := 108) (by decide +kernel)) rfl
theorem kz109 : Cond.instantiable RX9 6 ∈ TB := mTB (List.mem_of_getElem? (i := 109) (by decide +kernel)) rfl
theorem kz110 : Cond.methodLink RL 110 yX9_init ∈ TB := mTB (List.mem_of_getElem? (i := 110) (by decide +kernel)) rfl
theorem kz111 : Cond.instanceMethod yX9_init ∈ TB := mTB (List.mem_of_getElem? (i := 111) (by decide +kernel)) rfl
theorem kz112 : Cond.code yX9_init cX9_init 1 none ∈ TB := mTB (List.mem_of_getElem? (i := 112) (by decide +kernel)) rfl
theorem kz1329 : Cond.classLink RL 111 RX10 ∈ TB := mTB (List.mem_of_getElem? (i := 1329) (by decide +kernel)) rfl
theorem kz1330 : Cond.instantiable RX10 22 ∈ TB := mTB (List.mem_of_getElem? (i := 1330) (by decide +kernel)) rfl
theorem kz1331 : Cond.methodLink RL 113 yX10_init ∈ TB := mTB (List.mem_of_getElem? (i := 1331) (by decide +kernel)) rfl
theorem kz1332 : Cond.instanceMethod yX10_init ∈ TB := mTB (List.mem_of_getElem? (i := 1332) (by decide +kernel)) rfl
theorem kz1333 : Cond.code yX10_init cX10_init 1 none ∈ TB := mTB (List.mem_of_getElem? (i := 1333) (by decide +kernel)) rfl
theorem kz1757 : Cond.arrayClass .double ∈ TB := mTB (List.mem_of_getElem? (i := 1757) (by decide +kernel)) rfl
theorem w_slen {p : Program} {l : Launch} {e : Env} {R : Room} {s : State} {m : MethodId} {args : Array Value} {below : List Frame} {meth : Method} {c : Code} {n k : Nat} {Q : State → Prop} {D : vD} {M : vMe} {cc : ByteArray} {pc : Nat} {ls : Array Slot} {rest : List Value} {b L : Nat} {xs : Nat → Int32} (hx : p.tables.exec = Jvm.exec) (hb : c.code = cc) (hX : va_X b L xs s s.heap) (hbl : b < s.heap.size) (hbA : ¬ vA D b) (hdg : decode cc pc = .ok (.arraylength, 1))
    (kk : vV D p l e R s m args below meth c n k Q M (F0 m (pc + 1) ls (.int (Int32.ofNat L) :: rest))) : vV D p l e R s m args below meth c n k Q M (F0 m pc ls (.ref b :: rest)) := fun H locs hR hS => va_slen hx hb hX hbl hbA hS hdg (kk H locs hR hS)
theorem z_gt {i L : Nat} (hi : i ≤ 3072) (hL : L ≤ 3072) (h : ¬ Int32.ofNat L - 6 < Int32.ofNat i) : i + 6 ≤ L := by
  refine Nat.not_lt.mp (fun g => h ?_)
  rw [Int32.lt_iff_toInt_lt, Int32.toInt_sub, n_toInt (by omega), n_toInt (by omega), show (6 : Int32).toInt = 6 by decide, Int.bmod_eq_of_le (by omega) (by omega)]
  omega
/-- the law's end -/
theorem k_end {p : Program} {l : Launch} {e : Env} {s : State} {m : MethodId} {below : List Frame} {meth : Method} {c : Code} {D : vD} {b L : Nat} {xs : Nat → Int32} {x r : Nat} {M0 : Nat → vOb} (hfl : l.stackTraces = false) (hx : p.tables.exec = Jvm.exec) (hb : c.code = code) (hr : meth.sig.returnType = ret) (hlk : meth.locks = false) (hml : c.maxLocals = 9) (hown : s.vm.findClass RL = some m.cls) (hts : ∀ w ∈ TB, w.before #[.ref b] s = true) (hSS : vS D s) (hX : va_X b L xs s s.heap) (hbl : b < s.heap.size) (hbA : ¬ vA D b) (hD : D.2.2.2.1 = s.heap.size) (S : lS D x M0) (hL : L ≤ 3072) {n k : Nat} {M : vMe} {ls : Array Slot} (hn : n ≤ 601024) (hk : k ≤ 7293034) : vV D p l e room_1 s m #[.ref b] below meth c n k (lw_Z below #[.ref b] s) M (F0 m 2232 ls []) := by
  refine w_iconst (v := 1) hx hb dL_law_2232 (by decide) ?_
  intro H locs hR hS
  exact va_forget (fun q hq => by have h : D.2.2.2.1 ≤ q.base := hS.2.2 q hq; omega) (W.widen hn hk (lw_ret (d0 := s.drawn) (Drawn.sameBut.refl _ _) hx hb hr hlk dL_law_2233))
/-- the head of the loop -/
theorem k_head {p : Program} {l : Launch} {e : Env} {s : State} {m : MethodId} {below : List Frame} {meth : Method} {c : Code} {D : vD} {b L : Nat} {xs : Nat → Int32} {x r : Nat} {M0 : Nat → vOb} (hfl : l.stackTraces = false) (hx : p.tables.exec = Jvm.exec) (hb : c.code = code) (hr : meth.sig.returnType = ret) (hlk : meth.locks = false) (hml : c.maxLocals = 9) (hown : s.vm.findClass RL = some m.cls) (hts : ∀ w ∈ TB, w.before #[.ref b] s = true) (hSS : vS D s) (hX : va_X b L xs s s.heap) (hbl : b < s.heap.size) (hbA : ¬ vA D b) (hD : D.2.2.2.1 = s.heap.size) (S : lS D x M0) (hL : L ≤ 3072) {i n k : Nat} {M : vMe} {ls : Array Slot} (hi : i ≤ 3072) (hn : n ≤ 601024) (hk : k ≤ 7293034) (hl : lv_has ls 9 [(0, .ref b), (1, .ref x), (2, .ref r), (3, .ref (r + 10)), (4, .ref (r + 11)), (5, .int (Int32.ofNat i))]) (K : i + 6 ≤ L → vV D p l e room_1 s m #[.ref b] below meth c n k (lw_Z below #[.ref b] s) M (F0 m 38 ls [])) : vV D p l e room_1 s m #[.ref b] below meth c n k (lw_Z below #[.ref b] s) M (F0 m 28 ls []) := by
  refine w_iload hx hb dL_law_28 (lv_at hl 5 rfl) ?_
  refine w_aload_n hx hb dL_law_30 rfl (lv_at hl 0 rfl) ?_
  refine w_slen hx hb hX hbl hbA dL_law_31 ?_
  refine w_bipush (v := 6) hx hb dL_law_32 (by decide) ?_
  refine w_isub hx hb dL_law_34 ?_
  refine w_icmp_gt (tgt := 2232) hx hb dL_law_35 (by decide) (fun _ => ?_) (fun g => ?_)
  · exact k_end (r := r) hfl hx hb hr hlk hml hown hts hSS hX hbl hbA hD S hL hn hk
  · exact K (z_gt hi hL g)
set_option maxHeartbeats 4000000 in
set_option maxRecDepth 100000 in
/-- one call -/
theorem k_one {p : Program} {l : Launch} {e : Env} {s : State} {m : MethodId} {below : List Frame} {meth : Method} {c : Code} {D : vD} {b L : Nat} {xs : Nat → Int32} {x r : Nat} {M0 : Nat → vOb} (hfl : l.stackTraces = false) (hx : p.tables.exec = Jvm.exec) (hb : c.code = code) (hr : meth.sig.returnType = ret) (hlk : meth.locks = false) (hml : c.maxLocals = 9) (hown : s.vm.findClass RL = some m.cls) (hts : ∀ w ∈ TB, w.before #[.ref b] s = true) (hSS : vS D s) (hX : va_X b L xs s s.heap) (hbl : b < s.heap.size) (hbA : ¬ vA D b) (hD : D.2.2.2.1 = s.heap.size) (S : lS D x M0) (hL : L ≤ 3072) {i n k : Nat} {M : vMe} {ls : Array Slot} (I : lI x r M0 M) (h6 : i + 6 ≤ L) (hn : n + 60 ≤ 601024) (hk : k + 2100 ≤ 7293034) (hl : lv_has ls 9 [(0, .ref b), (1, .ref x), (2, .ref r), (3, .ref (r + 10)), (4, .ref (r + 11)), (5, .int (Int32.ofNat i))]) (K : ∀ M2, lI x r M0 M2 → ∀ ls : Array Slot, lv_has ls 9 [(0, .ref b), (1, .ref x), (2, .ref r), (3, .ref (r + 10)), (4, .ref (r + 11)), (5, .int (Int32.ofNat i))] → vV D p l e room_1 s m #[.ref b] below meth c (n + 60) (k + 2100) (lw_Z below #[.ref b] s) M2 (F0 m 2226 ls [])) : vV D p l e room_1 s m #[.ref b] below meth c n k (lw_Z below #[.ref b] s) M (F0 m 38 ls []) := by
  refine w_aload_n hx hb dL_law_38 rfl (lv_at hl 0 rfl) ?_
  refine w_iload hx hb dL_law_39 (lv_at hl 5 rfl) ?_
  refine w_sld hx hb hX hbl hbA rfl (by omega) hL dL_law_41 ?_
  refine w_bipush (v := 63) hx hb dL_law_42 (by decide) ?_
  refine w_iand hx hb dL_law_44 ?_
  by_cases c0 : (xs i &&& 63).toInt = 0
  · refine w_tabIn (tgt := 192) (off := 147) hx hb dL_law_45 (by rw [c0]; decide) (by rw [c0]; decide) (by rw [c0]; rfl) (by decide) ?_
    exact kC_0 hfl hx hb hml hown hts hSS hX hbl hbA S I h6 hL hn hk hl K
  by_cases c1 : (xs i &&& 63).toInt = 1
  · refine w_tabIn (tgt := 265) (off := 220) hx hb dL_law_45 (by rw [c1]; decide) (by rw [c1]; decide) (by rw [c1]; rfl) (by decide) ?_
    exact kC_1 hfl hx hb hml hown hts hSS hX hbl hbA S I h6 hL hn hk hl K
  by_cases c2 : (xs i &&& 63).toInt = 2
  · refine w_tabIn (tgt := 321) (off := 276) hx hb dL_law_45 (by rw [c2]; decide) (by rw [c2]; decide) (by rw [c2]; rfl) (by decide) ?_
    exact kC_2 hfl hx hb hml hown hts hSS hX hbl hbA S I h6 hL hn hk hl K
  by_cases c3 : (xs i &&& 63).toInt = 3
  · refine w_tabIn (tgt := 334) (off := 289) hx hb dL_law_45 (by rw [c3]; decide) (by rw [c3]; decide) (by rw [c3]; rfl) (by decide) ?_
    exact kC_3 hfl hx hb hml hown hts hSS hX hbl hbA S I h6 hL hn hk hl K
  by_cases c4 : (xs i &&& 63).toInt = 4
  · refine w_tabIn (tgt := 390) (off := 345) hx hb dL_law_45 (by rw [c4]; decide) (by rw [c4]; decide) (by rw [c4]; rfl) (by decide) ?_
    exact kC_4 hfl hx hb hml hown hts hSS hX hbl hbA S I h6 hL hn hk hl K
  by_cases c5 : (xs i &&& 63).toInt = 5
  · refine w_tabIn (tgt := 403) (off := 358) hx hb dL_law_45 (by rw [c5]; decide) (by rw [c5]; decide) (by rw [c5]; rfl) (by decide) ?_
    exact kC_5 hfl hx hb hml hown hts hSS hX hbl hbA S I h6 hL hn hk hl K
  by_cases c6 : (xs i &&& 63).toInt = 6
  · refine w_tabIn (tgt := 428) (off := 383) hx hb dL_law_45 (by rw [c6]; decide) (by rw [c6]; decide) (by rw [c6]; rfl) (by decide) ?_
    exact kC_6 hfl hx hb hml hown hts hSS hX hbl hbA S I h6 hL hn hk hl K
  by_cases c7 : (xs i &&& 63).toInt = 7
  · refine w_tabIn (tgt := 496) (off := 451) hx hb dL_law_45 (by rw [c7]; decide) (by rw [c7]; decide) (by rw [c7]; rfl) (by decide) ?_
    exact kC_7 hfl hx hb hml hown hts hSS hX hbl hbA S I h6 hL hn hk hl K
  by_cases c8 : (xs i &&& 63).toInt = 8
  · refine w_tabIn (tgt := 592) (off := 547) hx hb dL_law_45 (by rw [c8]; decide) (by rw [c8]; decide) (by rw [c8]; rfl) (by decide) ?_
    exact kC_8 hfl hx hb hml hown hts hSS hX hbl hbA S I h6 hL hn hk hl K
  by_cases c9 : (xs i &&& 63).toInt = 9
  · refine w_tabIn (tgt := 660) (off := 615) hx hb dL_law_45 (by rw [c9]; decide) (by rw [c9]; decide) (by rw [c9]; rfl) (by decide) ?_
    exact kC_9 hfl hx hb hml hown hts hSS hX hbl hbA S I h6 hL hn hk hl K
  by_cases c10 : (xs i &&& 63).toInt = 10
  · refine w_tabIn (tgt := 728) (off := 683) hx hb dL_law_45 (by rw [c10]; decide) (by rw [c10]; decide) (by rw [c10]; rfl) (by decide) ?_
    exact kC_10 hfl hx hb hml hown hts hSS hX hbl hbA S I h6 hL hn hk hl K
  by_cases c11 : (xs i &&& 63).toInt = 11
  · refine w_tabIn (tgt := 808) (off := 763) hx hb dL_law_45 (by rw [c11]; decide) (by rw [c11]; decide) (by rw [c11]; rfl) (by decide) ?_
    exact kC_11 hfl hx hb hml hown hts hSS hX hbl hbA S I h6 hL hn hk hl K
  by_cases c12 : (xs i &&& 63).toInt = 12
  · refine w_tabIn (tgt := 875) (off := 830) hx hb dL_law_45 (by rw [c12]; decide) (by rw [c12]; decide) (by rw [c12]; rfl) (by decide) ?_
    exact kC_12 hfl hx hb hml hown hts hSS hX hbl hbA S I h6 hL hn hk hl K
  by_cases c13 : (xs i &&& 63).toInt = 13
  · refine w_tabIn (tgt := 983) (off := 938) hx hb dL_law_45 (by rw [c13]; decide) (by rw [c13]; decide) (by rw [c13]; rfl) (by decide) ?_
    exact kC_13 hfl hx hb hml hown hts hSS hX hbl hbA S I h6 hL hn hk hl K
  by_cases c14 : (xs i &&& 63).toInt = 14
  · refine w_tabIn (tgt := 1051) (off := 1006) hx hb dL_law_45 (by rw [c14]; decide) (by rw [c14]; decide) (by rw [c14]; rfl) (by decide) ?_
    exact kC_14 hfl hx hb hml hown hts hSS hX hbl hbA S I h6 hL hn hk hl K
  by_cases c15 : (xs i &&& 63).toInt = 15
  · refine w_tabIn (tgt := 1107) (off := 1062) hx hb dL_law_45 (by rw [c15]; decide) (by rw [c15]; decide) (by rw [c15]; rfl) (by decide) ?_
    exact kC_15 hfl hx hb hml hown hts hSS hX hbl hbA S I h6 hL hn hk hl K
  by_cases c16 : (xs i &&& 63).toInt = 16
  · refine w_tabIn (tgt := 1175) (off := 1130) hx hb dL_law_45 (by rw [c16]; decide) (by rw [c16]; decide) (by rw [c16]; rfl) (by decide) ?_
    exact kC_16 hfl hx hb hml hown hts hSS hX hbl hbA S I h6 hL hn hk hl K
  by_cases c17 : (xs i &&& 63).toInt = 17
  · refine w_tabIn (tgt := 1231) (off := 1186) hx hb dL_law_45 (by rw [c17]; decide) (by rw [c17]; decide) (by rw [c17]; rfl) (by decide) ?_
    exact kC_17 hfl hx hb hml hown hts hSS hX hbl hbA S I h6 hL hn hk hl K
  by_cases c18 : (xs i &&& 63).toInt = 18
  · refine w_tabIn (tgt := 1299) (off := 1254) hx hb dL_law_45 (by rw [c18]; decide) (by rw [c18]; decide) (by rw [c18]; rfl) (by decide) ?_
    exact kC_18 hfl hx hb hml hown hts hSS hX hbl hbA S I h6 hL hn hk hl K
  by_cases c19 : (xs i &&& 63).toInt = 19
  · refine w_tabIn (tgt := 1374) (off := 1329) hx hb dL_law_45 (by rw [c19]; decide) (by rw [c19]; decide) (by rw [c19]; rfl) (by decide) ?_
    exact kC_19 hfl hx hb hml hown hts hSS hX hbl hbA S I h6 hL hn hk hl K
  by_cases c20 : (xs i &&& 63).toInt = 20
  · refine w_tabIn (tgt := 1463) (off := 1418) hx hb dL_law_45 (by rw [c20]; decide) (by rw [c20]; decide) (by rw [c20]; rfl) (by decide) ?_
    exact kC_20 hfl hx hb hml hown hts hSS hX hbl hbA S I h6 hL hn hk hl K
  by_cases c21 : (xs i &&& 63).toInt = 21
  · refine w_tabIn (tgt := 1531) (off := 1486) hx hb dL_law_45 (by rw [c21]; decide) (by rw [c21]; decide) (by rw [c21]; rfl) (by decide) ?_
    exact kC_21 hfl hx hb hml hown hts hSS hX hbl hbA S I h6 hL hn hk hl K
  by_cases c22 : (xs i &&& 63).toInt = 22
  · refine w_tabIn (tgt := 1606) (off := 1561) hx hb dL_law_45 (by rw [c22]; decide) (by rw [c22]; decide) (by rw [c22]; rfl) (by decide) ?_
    exact kC_22 hfl hx hb hml hown hts hSS hX hbl hbA S I h6 hL hn hk hl K
  by_cases c23 : (xs i &&& 63).toInt = 23
  · refine w_tabIn (tgt := 1662) (off := 1617) hx hb dL_law_45 (by rw [c23]; decide) (by rw [c23]; decide) (by rw [c23]; rfl) (by decide) ?_
    exact kC_23 hfl hx hb hml hown hts hSS hX hbl hbA S I h6 hL hn hk hl K
  by_cases c24 : (xs i &&& 63).toInt = 24
  · refine w_tabIn (tgt := 1706) (off := 1661) hx hb dL_law_45 (by rw [c24]; decide) (by rw [c24]; decide) (by rw [c24]; rfl) (by decide) ?_
    exact kC_24 hfl hx hb hml hown hts hSS hX hbl hbA S I h6 hL hn hk hl K
  by_cases c25 : (xs i &&& 63).toInt = 25
  · refine w_tabIn (tgt := 1790) (off := 1745) hx hb dL_law_45 (by rw [c25]; decide) (by rw [c25]; decide) (by rw [c25]; rfl) (by decide) ?_
    exact kC_25 hfl hx hb hml hown hts hSS hX hbl hbA S I h6 hL hn hk hl K
  by_cases c26 : (xs i &&& 63).toInt = 26
  · refine w_tabIn (tgt := 1846) (off := 1801) hx hb dL_law_45 (by rw [c26]; decide) (by rw [c26]; decide) (by rw [c26]; rfl) (by decide) ?_
    exact kC_26 hfl hx hb hml hown hts hSS hX hbl hbA S I h6 hL hn hk hl K
  by_cases c27 : (xs i &&& 63).toInt = 27
  · refine w_tabIn (tgt := 1902) (off := 1857) hx hb dL_law_45 (by rw [c27]; decide) (by rw [c27]; decide) (by rw [c27]; rfl) (by decide) ?_
    exact kC_27 hfl hx hb hml hown hts hSS hX hbl hbA S I h6 hL hn hk hl K
  by_cases c28 : (xs i &&& 63).toInt = 28
  · refine w_tabIn (tgt := 1958) (off := 1913) hx hb dL_law_45 (by rw [c28]; decide) (by rw [c28]; decide) (by rw [c28]; rfl) (by decide) ?_
    exact kC_28 hfl hx hb hml hown hts hSS hX hbl hbA S I h6 hL hn hk hl K
  by_cases c29 : (xs i &&& 63).toInt = 29
  · refine w_tabIn (tgt := 2026) (off := 1981) hx hb dL_law_45 (by rw [c29]; decide) (by rw [c29]; decide) (by rw [c29]; rfl) (by decide) ?_
    exact kC_29 hfl hx hb hml hown hts hSS hX hbl hbA S I h6 hL hn hk hl K
  by_cases c30 : (xs i &&& 63).toInt = 30
  · refine w_tabIn (tgt := 2094) (off := 2049) hx hb dL_law_45 (by rw [c30]; decide) (by rw [c30]; decide) (by rw [c30]; rfl) (by decide) ?_
    exact kC_30 hfl hx hb hml hown hts hSS hX hbl hbA S I h6 hL hn hk hl K
  by_cases c31 : (xs i &&& 63).toInt = 31
  · refine w_tabIn (tgt := 2107) (off := 2062) hx hb dL_law_45 (by rw [c31]; decide) (by rw [c31]; decide) (by rw [c31]; rfl) (by decide) ?_
    exact kC_31 hfl hx hb hml hown hts hSS hX hbl hbA S I h6 hL hn hk hl K
  by_cases c32 : (xs i &&& 63).toInt = 32
  · refine w_tabIn (tgt := 2170) (off := 2125) hx hb dL_law_45 (by rw [c32]; decide) (by rw [c32]; decide) (by rw [c32]; rfl) (by decide) ?_
    exact kC_32 hfl hx hb hml hown hts hSS hX hbl hbA S I h6 hL hn hk hl K
  refine w_tabOut (tgt := 2226) hx hb dL_law_45 (v_sw _ (fun v h1 h2 => ?_)) (by decide) ?_
  · rcases (show v = 0 ∨ v = 1 ∨ v = 2 ∨ v = 3 ∨ v = 4 ∨ v = 5 ∨ v = 6 ∨ v = 7 ∨ v = 8 ∨ v = 9 ∨ v = 10 ∨ v = 11 ∨ v = 12 ∨ v = 13 ∨ v = 14 ∨ v = 15 ∨ v = 16 ∨ v = 17 ∨ v = 18 ∨ v = 19 ∨ v = 20 ∨ v = 21 ∨ v = 22 ∨ v = 23 ∨ v = 24 ∨ v = 25 ∨ v = 26 ∨ v = 27 ∨ v = 28 ∨ v = 29 ∨ v = 30 ∨ v = 31 ∨ v = 32 by omega) with rfl | rfl | rfl | rfl | rfl | rfl | rfl | rfl | rfl | rfl | rfl | rfl | rfl | rfl | rfl | rfl | rfl | rfl | rfl | rfl | rfl | rfl | rfl | rfl | rfl | rfl | rfl | rfl | rfl | rfl | rfl | rfl | rfl
    · exact c0
    · exact c1
    · exact c2
    · exact c3
    · exact c4
    · exact c5
    · exact c6
    · exact c7
    · exact c8
    · exact c9
    · exact c10
    · exact c11
    · exact c12
    · exact c13
    · exact c14
    · exact c15
    · exact c16
    · exact c17
    · exact c18
    · exact c19
    · exact c20
    · exact c21
    · exact c22
    · exact c23
    · exact c24
    · exact c25
    · exact c26
    · exact c27
    · exact c28
    · exact c29
    · exact c30
    · exact c31
    · exact c32
  · exact vV.widen (n' := n + 60) (k' := k + 2100) (by omega) (by omega) (K M I ls hl)
set_option maxHeartbeats 4000000 in
set_option maxRecDepth 100000 in
/-- the loop -/
theorem k_loop {p : Program} {l : Launch} {e : Env} {s : State} {m : MethodId} {below : List Frame} {meth : Method} {c : Code} {D : vD} {b L : Nat} {xs : Nat → Int32} {x r : Nat} {M0 : Nat → vOb} (hfl : l.stackTraces = false) (hx : p.tables.exec = Jvm.exec) (hb : c.code = code) (hr : meth.sig.returnType = ret) (hlk : meth.locks = false) (hml : c.maxLocals = 9) (hown : s.vm.findClass RL = some m.cls) (hts : ∀ w ∈ TB, w.before #[.ref b] s = true) (hSS : vS D s) (hX : va_X b L xs s s.heap) (hbl : b < s.heap.size) (hbA : ¬ vA D b) (hD : D.2.2.2.1 = s.heap.size) (S : lS D x M0) (hL : L ≤ 3072) : ∀ (t i n k : Nat) (M : vMe) (ls : Array Slot), lI x r M0 M → L ≤ i + 6 * t → i ≤ 3072 → n + 60 * t ≤ 601024 → k + 2100 * t ≤ 7293034 → lv_has ls 9 [(0, .ref b), (1, .ref x), (2, .ref r), (3, .ref (r + 10)), (4, .ref (r + 11)), (5, .int (Int32.ofNat i))] → vV D p l e room_1 s m #[.ref b] below meth c n k (lw_Z below #[.ref b] s) M (F0 m 28 ls []) := by
  intro t
  induction t with
  | zero =>
    intro i n k M ls I h1 h2 h3 h4 hl
    exact k_head hfl hx hb hr hlk hml hown hts hSS hX hbl hbA hD S hL h2 (by omega) (by omega) hl (fun g => absurd g (by omega))
  | succ t ih =>
    intro i n k M ls I h1 h2 h3 h4 hl
    refine k_head hfl hx hb hr hlk hml hown hts hSS hX hbl hbA hD S hL h2 (by omega) (by omega) hl (fun g => ?_)
    refine k_one hfl hx hb hr hlk hml hown hts hSS hX hbl hbA hD S hL I g (by omega) (by omega) hl (fun M2 I2 ls2 hl2 => ?_)
    refine w_iinc (v := Int32.ofNat (i + 6)) hx hb dL_law_2226 hl2 (j := 5) rfl (n_add i 6) (by decide) rfl (fun ls3 hl3 => ?_)
    refine w_goto (tgt := 28) hx hb dL_law_2229 (by decide) ?_
    exact ih (i + 6) (n + 60) (k + 2100) M2 ls3 I2 (by omega) (by omega) (by omega) (by omega) (lv_sub hl3 [1, 2, 3, 4, 5, 0] rfl)
