set_option maxHeartbeats 4000000 in
set_option maxRecDepth 100000 in
theorem k_e0 {p : Program} {l : Launch} {e : Env} {s : State} {m : MethodId} {below : List Frame} {meth : Method} {c : Code} {D : vD} {b L : Nat} {xs : Nat → Int32} {x : Nat} {Q : State → Prop} {n k : Nat} {M M1 : vMe} {V : Nat → Value} {ls : Array Slot} (hfl : l.stackTraces = false) (hx : p.tables.exec = Jvm.exec) (hb : c.code = code) (hr : meth.sig.returnType = ret) (hlk : meth.locks = false) (hml : c.maxLocals = 9) (hown : s.vm.findClass RL = some m.cls) (hts : ∀ w ∈ TB, w.before #[.ref b] s = true) (hSS : vS D s) (hX : va_X b L xs s s.heap) (hbl : b < s.heap.size) (hbA : ¬ vA D b) (hD : D.2.2.2.1 = s.heap.size) (hL : L ≤ 3072) (hV : ∀ i, i < 6 → defaultValue (vTy 10 i) = V i) (hW : ∀ i, i < 6 → fits (vTy 10 i) (V i) = true) (e0 : M.2.1 = x) (e1 : tX9_init D.2.2.2.2 x (nw M 11 0 6 V) = some ((), M1)) (hn : n + 1 + 120 ≤ 601024) (hk : k + 6 + 5000 ≤ 7293034) (hl : lv_has ls 9 [(0, .ref b)])
    (K : ∀ ls : Array Slot, lv_has ls 9 [(1, .ref x), (0, .ref b)] → vV D p l e room_1 s m #[.ref b] below meth c (n + 1 + 120) (k + 6 + 5000) Q M1 (F0 m 8 ls [])) : vV D p l e room_1 s m #[.ref b] below meth c n k Q M (F0 m 0 ls []) := by
  have hK := hSS.1
  refine v_new (ci := 10) (N := 6) (nn := 6) (f := V) hx hb hts iwX9 hown hK tyX9_ok rfl (hts _ kz108) (hts _ kz109) (hts _ kw77) hV hW (by decide) (by show n + 1 ≤ 601024; omega) (by show k + 6 ≤ 7293034; omega) dL_law_0 ?_
  rw [e0]
  refine w_dup hx hb dL_law_3 rfl ?_
  refine v_call0 (M1 := M1) (mc := 120) (ms := 5000) (fun H locs hR hS => va_runI (As := []) (rest := [.ref (x)]) ⟨hx, hb, hml, hown, hts⟩ (mX9_init l hfl D (x) (nw M 11 0 6 V) ((), M1) e1) (cwI 0 hts (gdI kz112) rfl rfl rfl (hts _ kw77) (hts _ kz110) (hts _ kz111) rfl (by decide +kernel) ⟨Nat.le_of_ble_eq_true rfl, Nat.le_of_ble_eq_true rfl⟩) (v_preS hSS hR hS [.ref (x)]) rfl rfl hl.1 rfl (lv_room (Nat.le_of_ble_eq_true rfl)) dL_law_4 ⟨hn, hk⟩) ?_
  exact w_astore_n (i := 1) hx hb dL_law_7 rfl hl (by decide) rfl (fun ls1 hl1 => K ls1 hl1)
set_option maxHeartbeats 4000000 in
set_option maxRecDepth 100000 in
theorem k_e8 {p : Program} {l : Launch} {e : Env} {s : State} {m : MethodId} {below : List Frame} {meth : Method} {c : Code} {D : vD} {b L : Nat} {xs : Nat → Int32} {x : Nat} {Q : State → Prop} {n k : Nat} {M M1 : vMe} {V : Nat → Value} {ls : Array Slot} (hfl : l.stackTraces = false) (hx : p.tables.exec = Jvm.exec) (hb : c.code = code) (hr : meth.sig.returnType = ret) (hlk : meth.locks = false) (hml : c.maxLocals = 9) (hown : s.vm.findClass RL = some m.cls) (hts : ∀ w ∈ TB, w.before #[.ref b] s = true) (hSS : vS D s) (hX : va_X b L xs s s.heap) (hbl : b < s.heap.size) (hbA : ¬ vA D b) (hD : D.2.2.2.1 = s.heap.size) (hL : L ≤ 3072) (hV : ∀ i, i < 22 → defaultValue (vTy 11 i) = V i) (hW : ∀ i, i < 22 → fits (vTy 11 i) (V i) = true) (e0 : M.2.1 = x + 108) (e1 : tX10_init (x + 108) (nw M 12 0 22 V) = some ((), M1)) (hn : n + 1 + 9 ≤ 601024) (hk : k + 22 + 27946 ≤ 7293034) (hl : lv_has ls 9 [(1, .ref x), (0, .ref b)])
    (K : ∀ ls : Array Slot, lv_has ls 9 [(2, .ref (x + 108)), (1, .ref x), (0, .ref b)] → vV D p l e room_1 s m #[.ref b] below meth c (n + 1 + 9) (k + 22 + 27946) Q M1 (F0 m 16 ls [])) : vV D p l e room_1 s m #[.ref b] below meth c n k Q M (F0 m 8 ls []) := by
  have hK := hSS.1
  refine v_new (ci := 11) (N := 22) (nn := 22) (f := V) hx hb hts iwX10 hown hK tyX10_ok rfl (hts _ kz1329) (hts _ kz1330) (hts _ kw85) hV hW (by decide) (by show n + 1 ≤ 601024; omega) (by show k + 22 ≤ 7293034; omega) dL_law_8 ?_
  rw [e0]
  refine w_dup hx hb dL_law_11 rfl ?_
  refine v_call0 (M1 := M1) (mc := 9) (ms := 27946) (fun H locs hR hS => va_runI (As := []) (rest := [.ref (x + 108)]) ⟨hx, hb, hml, hown, hts⟩ (mX10_init l hfl D (x + 108) (nw M 12 0 22 V) ((), M1) e1) (cwI 0 hts (gdI kz1333) rfl rfl rfl (hts _ kw85) (hts _ kz1331) (hts _ kz1332) rfl (by decide +kernel) ⟨Nat.le_of_ble_eq_true rfl, Nat.le_of_ble_eq_true rfl⟩) (v_preS hSS hR hS [.ref (x + 108)]) rfl rfl hl.1 rfl (lv_room (Nat.le_of_ble_eq_true rfl)) dL_law_12 ⟨hn, hk⟩) ?_
  exact w_astore_n (i := 2) hx hb dL_law_15 rfl hl (by decide) rfl (fun ls1 hl1 => K ls1 hl1)
set_option maxHeartbeats 4000000 in
set_option maxRecDepth 100000 in
theorem k_e16 {p : Program} {l : Launch} {e : Env} {s : State} {m : MethodId} {below : List Frame} {meth : Method} {c : Code} {D : vD} {b L : Nat} {xs : Nat → Int32} {x : Nat} {Q : State → Prop} {n k : Nat} {M : vMe} {ls : Array Slot} (hfl : l.stackTraces = false) (hx : p.tables.exec = Jvm.exec) (hb : c.code = code) (hr : meth.sig.returnType = ret) (hlk : meth.locks = false) (hml : c.maxLocals = 9) (hown : s.vm.findClass RL = some m.cls) (hts : ∀ w ∈ TB, w.before #[.ref b] s = true) (hSS : vS D s) (hX : va_X b L xs s s.heap) (hbl : b < s.heap.size) (hbA : ¬ vA D b) (hD : D.2.2.2.1 = s.heap.size) (hL : L ≤ 3072) (e0 : M.2.1 = x + 118) (hn : n + 2 ≤ 601024) (hk : k + 2 ≤ 7293034) (hl : lv_has ls 9 [(2, .ref (x + 108)), (1, .ref x), (0, .ref b)])
    (K : ∀ ls : Array Slot, lv_has ls 9 [(0, .ref b), (1, .ref x), (2, .ref (x + 108)), (3, .ref (x + 108 + 10)), (4, .ref (x + 108 + 11)), (5, .int (Int32.ofNat 0))] → vV D p l e room_1 s m #[.ref b] below meth c (n + 1 + 1) (k + 1 + 1) Q (nw (nw M 104 1 1 (fun _ => defaultValue (vAty 104))) 105 1 1 (fun _ => defaultValue (vAty 105))) (F0 m 28 ls [])) : vV D p l e room_1 s m #[.ref b] below meth c n k Q M (F0 m 16 ls []) := by
  have hK := hSS.1
  refine w_iconst (v := 1) hx hb dL_law_16 (by decide) ?_
  refine v_newa (tg := 104) (N := 1) (x := 1) (atype := .long) hx hb hK (hts _ kw1402) (by decide) (by decide) rfl (by decide) (by decide) (by decide) (by show n + 1 ≤ 601024; omega) (by show k + 1 ≤ 7293034; omega) dL_law_17 ?_
  rw [e0]
  refine w_astore_n (i := 3) hx hb dL_law_19 rfl hl (by decide) rfl (fun ls3 hl3 => ?_)
  have hl3 : lv_has ls3 9 [(3, .ref (x + 118)), (2, .ref (x + 108)), (1, .ref x), (0, .ref b)] := hl3
  refine w_iconst (v := 1) hx hb dL_law_20 (by decide) ?_
  refine v_newa (tg := 105) (N := 1) (x := 1) (atype := .double) hx hb hK (hts _ kz1757) (by decide) (by decide) rfl (by decide) (by decide) (by decide) (by show n + 1 + 1 ≤ 601024; omega) (by show k + 1 + 1 ≤ 7293034; omega) dL_law_21 ?_
  rw [show (nw M 104 1 1 (fun _ => defaultValue (vAty 104))).2.1 = x + 119 by show M.2.1 + 1 = _; omega]
  refine w_astore hx hb dL_law_23 hl3 (by decide) rfl (fun ls4 hl4 => ?_)
  have hl4 : lv_has ls4 9 [(4, .ref (x + 119)), (3, .ref (x + 118)), (2, .ref (x + 108)), (1, .ref x), (0, .ref b)] := hl4
  refine w_iconst (v := 0) hx hb dL_law_25 (by decide) ?_
  refine w_istore hx hb dL_law_26 hl4 (by decide) rfl (fun ls5 hl5 => ?_)
  exact K ls5 (lv_sub hl5 [5, 4, 3, 2, 1, 0] rfl)
set_option maxHeartbeats 4000000 in
set_option maxRecDepth 100000 in
/-- the law from its entry -/
theorem k_entry {p : Program} {l : Launch} {e : Env} {s : State} {m : MethodId} {below : List Frame} {meth : Method} {c : Code} {D : vD} {b L : Nat} {xs : Nat → Int32} (hfl : l.stackTraces = false) (hx : p.tables.exec = Jvm.exec) (hb : c.code = code) (hr : meth.sig.returnType = ret) (hlk : meth.locks = false) (hml : c.maxLocals = 9) (hown : s.vm.findClass RL = some m.cls) (hts : ∀ w ∈ TB, w.before #[.ref b] s = true) (hSS : vS D s) (hX : va_X b L xs s s.heap) (hbl : b < s.heap.size) (hbA : ¬ vA D b) (hD : D.2.2.2.1 = s.heap.size) (hL : L ≤ 3072) {M : vMe} {ls : Array Slot} (S : lS D M.2.1 M.1) (d3 : M.2.2.2 = M.2.1) (hl : lv_has ls 9 [(0, .ref b)]) : vV D p l e room_1 s m #[.ref b] below meth c 0 0 (lw_Z below #[.ref b] s) M (F0 m 0 ls []) := by
  obtain ⟨V, hV⟩ : ∃ V : Nat → Value, V = fun i => defaultValue (vTy 10 i) := ⟨_, rfl⟩
  obtain ⟨W, hW⟩ : ∃ W : Nat → Value, W = fun i => defaultValue (vTy 11 i) := ⟨_, rfl⟩
  obtain ⟨M1, M2, e1, e2, e3, e4, I⟩ := l_init (M := M) (Gs := D.2.2.2.2) (V := V) (W := W) (f := fun _ => defaultValue (vAty 104)) (g := fun _ => defaultValue (vAty 105)) d3 (by rw [hW]; rfl) (by rw [hW]; rfl)
  refine k_e0 (x := M.2.1) hfl hx hb hr hlk hml hown hts hSS hX hbl hbA hD hL (V := V) (fun i _ => by rw [hV]) (by rw [hV]; decide) rfl e1 (by omega) (by omega) hl (fun ls1 hl1 => ?_)
  refine k_e8 (x := M.2.1) hfl hx hb hr hlk hml hown hts hSS hX hbl hbA hD hL (V := W) (fun i _ => by rw [hW]) (by rw [hW]; decide) e2 e3 (by omega) (by omega) hl1 (fun ls2 hl2 => ?_)
  refine k_e16 (x := M.2.1) hfl hx hb hr hlk hml hown hts hSS hX hbl hbA hD hL e4 (by omega) (by omega) hl2 (fun ls3 hl3 => ?_)
  exact k_loop hfl hx hb hr hlk hml hown hts hSS hX hbl hbA hD S hL 512 0 _ _ _ ls3 I (by omega) (by omega) (by omega) (by omega) hl3
/-- YOUR PART: from the entry, for every script of at most 3072 ints, the law comes to its end with true ('hflags': the launch's flags, for a law that throws: no stack traces) -/
theorem whole_start {p : Program} {e : Env} {s : State} {m : MethodId} {below : List Frame} {meth : Method} {c : Code} (l : Launch) (hflags : l.flags = flags0) {b L : Nat} {xs : Nat → Int32} (hL : L ≤ 3072) (C0 : lw_At p s m meth c b L xs) : W p l e room_1 s m #[Value.ref b] below meth c s.heap [] 0 0 (lw_Z below #[Value.ref b] s) (entryFrame m ([Value.ref b] : List Value).toArray 9) := by
  have hfl : l.stackTraces = false := by unfold Launch.stackTraces; rw [hflags]; decide
  obtain ⟨hx, hb, hr, hml, hown, h0, hX, hbl, hlk, hg⟩ := C0
  obtain ⟨hts, D, M, d1, d2, d3, hSS, hR, hS⟩ := l_world h0 hg
  have hl := lv_entry [Value.ref b] (n := 9) (Nat.le_of_ble_eq_true rfl)
  rw [lg_entry_eq]
  exact k_entry (L := L) (xs := xs) hfl hx hb hr hlk hml hown hts hSS hX hbl (fun h => by have h9 : D.2.2.2.1 ≤ b := h; omega) d1 hL (by rw [d2]; exact hS) (d3.trans d2.symm) hl s.heap [] hR va_S.rf
