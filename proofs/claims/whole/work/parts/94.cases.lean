set_option maxHeartbeats 4000000 in
set_option maxRecDepth 100000 in
/-- append -/
theorem kC_0 {p : Program} {l : Launch} {e : Env} {s : State} {m : MethodId} {below : List Frame} {meth : Method} {c : Code} {Q : State → Prop} {D : vD} {b L : Nat} {xs : Nat → Int32} {x r : Nat} {M0 : Nat → vOb} {M : vMe} {i n k : Nat} {ls : Array Slot} (hfl : l.stackTraces = false) (hx : p.tables.exec = Jvm.exec) (hb : c.code = code) (hml : c.maxLocals = 9) (hown : s.vm.findClass RL = some m.cls) (hts : ∀ w ∈ TB, w.before #[.ref b] s = true) (hSS : vS D s) (hX : va_X b L xs s s.heap) (hbl : b < s.heap.size) (hbA : ¬ vA D b) (S : lS D x M0) (I : lI x r M0 M) (hi : i + 6 ≤ L) (hL : L ≤ 3072) (hn : n + 60 ≤ 601024) (hk : k + 2100 ≤ 7293034)
    (hl : lv_has ls 9 [(0, .ref b), (1, .ref x), (2, .ref r), (3, .ref (r + 10)), (4, .ref (r + 11)), (5, .int (Int32.ofNat i))]) (K : ∀ M2, lI x r M0 M2 → ∀ ls : Array Slot, lv_has ls 9 [(0, .ref b), (1, .ref x), (2, .ref r), (3, .ref (r + 10)), (4, .ref (r + 11)), (5, .int (Int32.ofNat i))] → vV D p l e room_1 s m #[.ref b] below meth c (n + 60) (k + 2100) Q M2 (F0 m 2226 ls [])) : vV D p l e room_1 s m #[.ref b] below meth c n k Q M (F0 m 192 ls []) := by
  refine vV.know (fun H hR => ?_)
  obtain ⟨⟨G, F, a, d, C, u, hz, n', k', hD⟩, i2, i3, i4, i5⟩ := id I
  obtain ⟨z, M1, e1, e2, e3, ⟨f1, e4⟩, ⟨f2, e5⟩, hxr, e7, e6⟩ := lI_go I (O_append hD (xs (i + 1)) (xs (i + 2)) (xs (i + 3)) (xs (i + 4)) (xs (i + 5)))
  have hK := hSS.1
  refine w_aload_n hx hb dL_law_192 rfl (lv_at hl 1 rfl) ?_
  refine w_arg (pc := 193) 1 hx hb hX hbl hbA hL (by omega) rfl (lv_at hl 0 rfl) (lv_at hl 5 rfl) (by decide) dL_law_193 dL_law_194 dL_law_196 dL_law_197 dL_law_198 ?_
  refine w_arg (pc := 199) 2 hx hb hX hbl hbA hL (by omega) rfl (lv_at hl 0 rfl) (lv_at hl 5 rfl) (by decide) dL_law_199 dL_law_200 dL_law_202 dL_law_203 dL_law_204 ?_
  refine w_arg (pc := 205) 3 hx hb hX hbl hbA hL (by omega) rfl (lv_at hl 0 rfl) (lv_at hl 5 rfl) (by decide) dL_law_205 dL_law_206 dL_law_208 dL_law_209 dL_law_210 ?_
  refine w_arg (pc := 211) 4 hx hb hX hbl hbA hL (by omega) rfl (lv_at hl 0 rfl) (lv_at hl 5 rfl) (by decide) dL_law_211 dL_law_212 dL_law_214 dL_law_215 dL_law_216 ?_
  refine w_arg (pc := 217) 5 hx hb hX hbl hbA hL (by omega) rfl (lv_at hl 0 rfl) (lv_at hl 5 rfl) (by decide) dL_law_217 dL_law_218 dL_law_220 dL_law_221 dL_law_222 ?_
  obtain ⟨zz, q1, q2⟩ := v_bnd e1
  obtain ⟨qa, qb⟩ := Prod.mk.inj (Option.some.inj q2)
  subst qa
  subst qb
  obtain ⟨e8, b0, M2, g1, g2, g3, g4, g5, g6⟩ := e6 zz.2 slk_rf ⟨f1, e4⟩ ⟨f2, e5⟩
  refine v_call1 (v := .int zz.1) (M1 := zz.2) (mc := 0) (ms := 0) (fun H locs hR hS => va_runV (As := [.int (xs (i + 1)), .int (xs (i + 2)), .int (xs (i + 3)), .int (xs (i + 4)), .int (xs (i + 5))]) (rest := []) ⟨hx, hb, hml, hown, hts⟩ (mX9_append l hfl D x (xs (i + 1)) (xs (i + 2)) (xs (i + 3)) (xs (i + 4)) (xs (i + 5)) M zz q1) (cwV 5 hts (gdV kl357 kl358 kl359 kw77 kl360) rfl rfl rfl (by decide +kernel) ⟨Nat.le_of_ble_eq_true rfl, Nat.le_of_ble_eq_true rfl⟩) (v_preV (ci := 10) hSS hR hS (T_x hD.1.1) (by decide) rfl [.int (xs (i + 1)), .int (xs (i + 2)), .int (xs (i + 3)), .int (xs (i + 4)), .int (xs (i + 5))]) rfl rfl hl.1 rfl (lv_room (Nat.le_of_ble_eq_true rfl)) dL_law_223 ⟨by show n + 0 ≤ 601024; omega, by show k + 0 ≤ 7293034; omega⟩) ?_
  refine w_aload_n hx hb dL_law_226 rfl (lv_at hl 2 rfl) ?_
  refine w_arg (pc := 227) 1 hx hb hX hbl hbA hL (by omega) rfl (lv_at hl 0 rfl) (lv_at hl 5 rfl) (by decide) dL_law_227 dL_law_228 dL_law_230 dL_law_231 dL_law_232 ?_
  refine w_arg (pc := 233) 2 hx hb hX hbl hbA hL (by omega) rfl (lv_at hl 0 rfl) (lv_at hl 5 rfl) (by decide) dL_law_233 dL_law_234 dL_law_236 dL_law_237 dL_law_238 ?_
  refine w_arg (pc := 239) 3 hx hb hX hbl hbA hL (by omega) rfl (lv_at hl 0 rfl) (lv_at hl 5 rfl) (by decide) dL_law_239 dL_law_240 dL_law_242 dL_law_243 dL_law_244 ?_
  refine w_arg (pc := 245) 4 hx hb hX hbl hbA hL (by omega) rfl (lv_at hl 0 rfl) (lv_at hl 5 rfl) (by decide) dL_law_245 dL_law_246 dL_law_248 dL_law_249 dL_law_250 ?_
  refine w_arg (pc := 251) 5 hx hb hX hbl hbA hL (by omega) rfl (lv_at hl 0 rfl) (lv_at hl 5 rfl) (by decide) dL_law_251 dL_law_252 dL_law_254 dL_law_255 dL_law_256 ?_
  refine v_call1 (v := .int b0) (M1 := M2) (mc := 0) (ms := 0) (fun H locs hR hS => va_runV (As := [.int (xs (i + 1)), .int (xs (i + 2)), .int (xs (i + 3)), .int (xs (i + 4)), .int (xs (i + 5))]) (rest := [.int zz.1]) ⟨hx, hb, hml, hown, hts⟩ (mX10_append l hfl D r (xs (i + 1)) (xs (i + 2)) (xs (i + 3)) (xs (i + 4)) (xs (i + 5)) zz.2 (b0, M2) g1) (cwV 5 hts (gdV kl1407 kl1408 kl1409 kw85 kl1410) rfl rfl rfl (by decide +kernel) ⟨Nat.le_of_ble_eq_true rfl, Nat.le_of_ble_eq_true rfl⟩) (v_preV (ci := 11) hSS hR hS e8 (by decide) rfl [.int (xs (i + 1)), .int (xs (i + 2)), .int (xs (i + 3)), .int (xs (i + 4)), .int (xs (i + 5))]) rfl rfl hl.1 rfl (lv_room (Nat.le_of_ble_eq_true rfl)) dL_law_257 ⟨by show n + 0 + 0 ≤ 601024; omega, by show k + 0 + 0 ≤ 7293034; omega⟩) ?_
  refine w_icmp_eq (tgt := 2226) hx hb dL_law_260 (by decide) (fun _ => ?_) (fun c0 => absurd (g4 _ rfl).symm c0)
  refine vV.widen (n' := n + 60) (k' := k + 2100) (by omega) (by omega) ?_
  exact K M2 g2 _ hl
set_option maxHeartbeats 4000000 in
set_option maxRecDepth 100000 in
/-- parse -/
theorem kC_1 {p : Program} {l : Launch} {e : Env} {s : State} {m : MethodId} {below : List Frame} {meth : Method} {c : Code} {Q : State → Prop} {D : vD} {b L : Nat} {xs : Nat → Int32} {x r : Nat} {M0 : Nat → vOb} {M : vMe} {i n k : Nat} {ls : Array Slot} (hfl : l.stackTraces = false) (hx : p.tables.exec = Jvm.exec) (hb : c.code = code) (hml : c.maxLocals = 9) (hown : s.vm.findClass RL = some m.cls) (hts : ∀ w ∈ TB, w.before #[.ref b] s = true) (hSS : vS D s) (hX : va_X b L xs s s.heap) (hbl : b < s.heap.size) (hbA : ¬ vA D b) (S : lS D x M0) (I : lI x r M0 M) (hi : i + 6 ≤ L) (hL : L ≤ 3072) (hn : n + 60 ≤ 601024) (hk : k + 2100 ≤ 7293034)
    (hl : lv_has ls 9 [(0, .ref b), (1, .ref x), (2, .ref r), (3, .ref (r + 10)), (4, .ref (r + 11)), (5, .int (Int32.ofNat i))]) (K : ∀ M2, lI x r M0 M2 → ∀ ls : Array Slot, lv_has ls 9 [(0, .ref b), (1, .ref x), (2, .ref r), (3, .ref (r + 10)), (4, .ref (r + 11)), (5, .int (Int32.ofNat i))] → vV D p l e room_1 s m #[.ref b] below meth c (n + 60) (k + 2100) Q M2 (F0 m 2226 ls [])) : vV D p l e room_1 s m #[.ref b] below meth c n k Q M (F0 m 265 ls []) := by
  refine vV.know (fun H hR => ?_)
  have wb0 := wb_R hR
  obtain ⟨⟨G, F, a, d, C, u, hz, n', k', hD⟩, i2, i3, i4, i5⟩ := id I
  obtain ⟨s1, s2, wl, ws, t1, t2, t3, t4⟩ := S
  obtain ⟨z, M1, e1, e2, e3, ⟨f1, e4⟩, ⟨f2, e5⟩, hxr, e7, e6⟩ := lI_go I (O_parse (Gs := D.2.2.2.2) hD wb0 s2 (fun i hi => sT_nm hD i5 (t1 i hi)) (sT_nm hD i5 t2) (fun i hi => sT_nm hD i5 (t3 i hi)) (sT_nm hD i5 t4) (xs (i + 1)))
  have hK := hSS.1
  refine w_aload_n hx hb dL_law_265 rfl (lv_at hl 1 rfl) ?_
  refine w_arg (pc := 266) 1 hx hb hX hbl hbA hL (by omega) rfl (lv_at hl 0 rfl) (lv_at hl 5 rfl) (by decide) dL_law_266 dL_law_267 dL_law_269 dL_law_270 dL_law_271 ?_
  refine w_aload_n hx hb dL_law_272 rfl (lv_at hl 3 rfl) ?_
  refine v_callH (P := pL M1 (r + 10) (Sum.elim (fun v => some (.long v.toInt64)) (fun _ => none) z)) (v := .int (Sum.elim (fun _ => (0 : Int32)) mp0 z)) (mcz := 26) (msz := 269) (fun H locs hR hS => vx_runSW (hh := [(0, 9, 12, 13)]) (As := [.ref x, .int (xs (i + 1)), .ref (r + 10)]) (rest := []) ⟨hx, hb, hml, hown, hts⟩ (mL_parse l hfl D x (xs (i + 1)) (r + 10) M f1 (z, M1) e1 (T_x hD.1.1) e4 (by show M1.2.2.2 ≤ _; rw [e2]; omega) e3) (vx_cwSW 3 hts (gdS kl466 kl467 kl76 kl468) rfl rfl rfl (by decide +kernel) ⟨Nat.le_of_ble_eq_true rfl, Nat.le_of_ble_eq_true rfl⟩) (v_preS hSS hR hS [.ref x, .int (xs (i + 1)), .ref (r + 10)]) rfl rfl hl.1 rfl (lv_room (Nat.le_of_ble_eq_true rfl)) dL_law_273 ⟨by show n + 26 ≤ 601024; omega, by show k + 269 ≤ 7293034; omega⟩) (fun N hN => ?_)
  refine w_istore (lv' := [(6, .int (Sum.elim (fun _ => (0 : Int32)) mp0 z)), (0, .ref b), (1, .ref x), (2, .ref r), (3, .ref (r + 10)), (4, .ref (r + 11)), (5, .int (Int32.ofNat i))]) hx hb dL_law_276 hl (by decide) rfl (fun ls hl => ?_)
  refine w_aload_n hx hb dL_law_278 rfl (lv_at hl 3 rfl) ?_
  refine w_arg (pc := 279) 1 hx hb hX hbl hbA hL (by omega) rfl (lv_at hl 1 rfl) (lv_at hl 6 rfl) (by decide) dL_law_279 dL_law_280 dL_law_282 dL_law_283 dL_law_284 ?_
  obtain ⟨f3, o1, o2⟩ := pL_at hN e4
  obtain ⟨e8, b0, M2, g1, g2, g3, g4, g5, g6⟩ := e6 N (pL_slk (.inl rfl) hN) ⟨f3, o1⟩ ⟨f2, by rw [pL_ne hN (by omega)]; exact e5⟩
  refine v_call1 (v := .int b0) (M1 := M2) (mc := 0) (ms := 0) (fun H locs hR hS => va_runV (As := [.int (xs (i + 1))]) (rest := []) ⟨hx, hb, hml, hown, hts⟩ (mX10_parse l hfl D r (xs (i + 1)) N (b0, M2) g1) (cwV 1 hts (gdV kl1415 kl1416 kl1417 kw85 kl1418) rfl rfl rfl (by decide +kernel) ⟨Nat.le_of_ble_eq_true rfl, Nat.le_of_ble_eq_true rfl⟩) (v_preV (ci := 11) hSS hR hS e8 (by decide) rfl [.int (xs (i + 1))]) rfl rfl hl.1 rfl (lv_room (Nat.le_of_ble_eq_true rfl)) dL_law_285 ⟨by show n + 26 + 0 ≤ 601024; omega, by show k + 269 + 0 ≤ 7293034; omega⟩) ?_
  refine w_istore (lv' := [(7, .int b0), (6, .int (Sum.elim (fun _ => (0 : Int32)) mp0 z)), (0, .ref b), (1, .ref x), (2, .ref r), (3, .ref (r + 10)), (4, .ref (r + 11)), (5, .int (Int32.ofNat i))]) hx hb dL_law_288 hl (by decide) rfl (fun ls hl => ?_)
  refine w_aload_n hx hb dL_law_290 rfl (lv_at hl 4 rfl) ?_
  have gt0 : tX10_thrown r M2 = some (Sum.elim (fun _ => (0 : Int32)) mp0 z) := by rw [tX10_thrown, g3]; rfl
  refine v_call1 (v := .int (Sum.elim (fun _ => (0 : Int32)) mp0 z)) (M1 := M2) (mc := 0) (ms := 0) (fun H locs hR hS => va_runV (As := []) (rest := []) ⟨hx, hb, hml, hown, hts⟩ (mX10_thrown l hfl D r M2 _ gt0) (cwV 0 hts (gdV kl1403 kl1404 kl1405 kw85 kl1406) rfl rfl rfl (by decide +kernel) ⟨Nat.le_of_ble_eq_true rfl, Nat.le_of_ble_eq_true rfl⟩) (v_preV (ci := 11) hSS hR hS (v_tag g3).1 (by decide) rfl []) rfl rfl hl.1 rfl (lv_room (Nat.le_of_ble_eq_true rfl)) dL_law_291 ⟨by show n + 26 + 0 + 0 ≤ 601024; omega, by show k + 269 + 0 + 0 ≤ 7293034; omega⟩) ?_
  refine w_iload hx hb dL_law_294 (lv_at hl 1 rfl) ?_
  refine w_icmp_eq (tgt := 301) hx hb dL_law_296 (by decide) (fun _ => ?_) (fun c0 => absurd rfl c0)
  refine w_iload hx hb dL_law_301 (lv_at hl 1 rfl) ?_
  refine w_if_ne (tgt := 318) hx hb dL_law_303 (by decide) (fun c0 => ?_) (fun c0 => ?_)
  · rcases z with v | j
    · have eb := g4 v rfl
      subst eb
      have o3 := o2 _ rfl
      have al : aJ M2 (r + 10) 104 0 = some b0.toInt64 := by
        show (if (M2.1 (r + 10)).1 = 104 ∧ ¬ ((0 : Int32) < 0 ∨ (M2.1 (r + 10)).2.1 ≤ (0 : Int32).toNatClampNeg) then some (vJ ((M2.1 (r + 10)).2.2 0)) else none) = _
        rw [g5, o1, if_pos ⟨rfl, z_in⟩]
        show some (vJ (f3 0)) = _
        rw [o3]; rfl
      refine w_aload_n hx hb dL_law_306 rfl (lv_at hl 5 rfl) ?_
      refine w_iconst (v := 0) hx hb dL_law_307 (by decide) ?_
      refine v_lald hx hb hK al dL_law_308 ?_
      refine w_iload hx hb dL_law_309 (lv_at hl 0 rfl) ?_
      refine w_i2l hx hb dL_law_311 ?_
      refine w_lcmp hx hb dL_law_312 ?_
      refine w_if_eq (tgt := 318) hx hb dL_law_313 (by decide) (fun _ => ?_) (fun c1 => absurd (lg_self _) c1)
      refine w_goto (tgt := 2226) hx hb dL_law_318 (by decide) ?_
      refine vV.widen (n' := n + 60) (k' := k + 2100) (by omega) (by omega) ?_
      exact K M2 g2 _ (lv_sub hl [2, 3, 4, 5, 6, 7] rfl)
    · exact absurd c0 (e3 j rfl)
  · refine w_goto (tgt := 2226) hx hb dL_law_318 (by decide) ?_
    refine vV.widen (n' := n + 60) (k' := k + 2100) (by omega) (by omega) ?_
    exact K M2 g2 _ (lv_sub hl [2, 3, 4, 5, 6, 7] rfl)
set_option maxHeartbeats 4000000 in
set_option maxRecDepth 100000 in
/-- errorPosition -/
theorem kC_2 {p : Program} {l : Launch} {e : Env} {s : State} {m : MethodId} {below : List Frame} {meth : Method} {c : Code} {Q : State → Prop} {D : vD} {b L : Nat} {xs : Nat → Int32} {x r : Nat} {M0 : Nat → vOb} {M : vMe} {i n k : Nat} {ls : Array Slot} (hfl : l.stackTraces = false) (hx : p.tables.exec = Jvm.exec) (hb : c.code = code) (hml : c.maxLocals = 9) (hown : s.vm.findClass RL = some m.cls) (hts : ∀ w ∈ TB, w.before #[.ref b] s = true) (hSS : vS D s) (hX : va_X b L xs s s.heap) (hbl : b < s.heap.size) (hbA : ¬ vA D b) (S : lS D x M0) (I : lI x r M0 M) (hi : i + 6 ≤ L) (hL : L ≤ 3072) (hn : n + 60 ≤ 601024) (hk : k + 2100 ≤ 7293034)
    (hl : lv_has ls 9 [(0, .ref b), (1, .ref x), (2, .ref r), (3, .ref (r + 10)), (4, .ref (r + 11)), (5, .int (Int32.ofNat i))]) (K : ∀ M2, lI x r M0 M2 → ∀ ls : Array Slot, lv_has ls 9 [(0, .ref b), (1, .ref x), (2, .ref r), (3, .ref (r + 10)), (4, .ref (r + 11)), (5, .int (Int32.ofNat i))] → vV D p l e room_1 s m #[.ref b] below meth c (n + 60) (k + 2100) Q M2 (F0 m 2226 ls [])) : vV D p l e room_1 s m #[.ref b] below meth c n k Q M (F0 m 321 ls []) := by
  refine vV.know (fun H hR => ?_)
  obtain ⟨⟨G, F, a, d, C, u, hz, n', k', hD⟩, i2, i3, i4, i5⟩ := id I
  obtain ⟨z, M1, e1, e2, e3, ⟨f1, e4⟩, ⟨f2, e5⟩, hxr, e7, e6⟩ := lI_go I (O_error hD)
  have hK := hSS.1
  refine w_aload_n hx hb dL_law_321 rfl (lv_at hl 1 rfl) ?_
  obtain ⟨zz, q1, q2⟩ := v_bnd e1
  obtain ⟨qa, qb⟩ := Prod.mk.inj (Option.some.inj q2)
  subst qa
  subst qb
  obtain ⟨e8, b0, M2, g1, g2, g3, g4, g5, g6⟩ := e6 M slk_rf ⟨f1, e4⟩ ⟨f2, e5⟩
  refine v_call1 (v := .int zz) (M1 := M) (mc := 0) (ms := 0) (fun H locs hR hS => va_runV (As := []) (rest := []) ⟨hx, hb, hml, hown, hts⟩ (mX9_errorPosition l hfl D x  M zz q1) (cwV 0 hts (gdV kl365 kl366 kl367 kw77 kl368) rfl rfl rfl (by decide +kernel) ⟨Nat.le_of_ble_eq_true rfl, Nat.le_of_ble_eq_true rfl⟩) (v_preV (ci := 10) hSS hR hS (T_x hD.1.1) (by decide) rfl []) rfl rfl hl.1 rfl (lv_room (Nat.le_of_ble_eq_true rfl)) dL_law_322 ⟨by show n + 0 ≤ 601024; omega, by show k + 0 ≤ 7293034; omega⟩) ?_
  refine w_aload_n hx hb dL_law_325 rfl (lv_at hl 2 rfl) ?_
  refine v_call1 (v := .int b0) (M1 := M2) (mc := 0) (ms := 0) (fun H locs hR hS => va_runV (As := []) (rest := [.int zz]) ⟨hx, hb, hml, hown, hts⟩ (mX10_errorPosition l hfl D r  M (b0, M2) g1) (cwV 0 hts (gdV kl1578 kl1579 kl1580 kw85 kl1581) rfl rfl rfl (by decide +kernel) ⟨Nat.le_of_ble_eq_true rfl, Nat.le_of_ble_eq_true rfl⟩) (v_preV (ci := 11) hSS hR hS e8 (by decide) rfl []) rfl rfl hl.1 rfl (lv_room (Nat.le_of_ble_eq_true rfl)) dL_law_326 ⟨by show n + 0 + 0 ≤ 601024; omega, by show k + 0 + 0 ≤ 7293034; omega⟩) ?_
  refine w_icmp_eq (tgt := 2226) hx hb dL_law_329 (by decide) (fun _ => ?_) (fun c0 => absurd (g4 _ rfl).symm c0)
  refine vV.widen (n' := n + 60) (k' := k + 2100) (by omega) (by omega) ?_
  exact K M2 g2 _ hl
set_option maxHeartbeats 4000000 in
set_option maxRecDepth 100000 in
/-- size -/
theorem kC_3 {p : Program} {l : Launch} {e : Env} {s : State} {m : MethodId} {below : List Frame} {meth : Method} {c : Code} {Q : State → Prop} {D : vD} {b L : Nat} {xs : Nat → Int32} {x r : Nat} {M0 : Nat → vOb} {M : vMe} {i n k : Nat} {ls : Array Slot} (hfl : l.stackTraces = false) (hx : p.tables.exec = Jvm.exec) (hb : c.code = code) (hml : c.maxLocals = 9) (hown : s.vm.findClass RL = some m.cls) (hts : ∀ w ∈ TB, w.before #[.ref b] s = true) (hSS : vS D s) (hX : va_X b L xs s s.heap) (hbl : b < s.heap.size) (hbA : ¬ vA D b) (S : lS D x M0) (I : lI x r M0 M) (hi : i + 6 ≤ L) (hL : L ≤ 3072) (hn : n + 60 ≤ 601024) (hk : k + 2100 ≤ 7293034)
    (hl : lv_has ls 9 [(0, .ref b), (1, .ref x), (2, .ref r), (3, .ref (r + 10)), (4, .ref (r + 11)), (5, .int (Int32.ofNat i))]) (K : ∀ M2, lI x r M0 M2 → ∀ ls : Array Slot, lv_has ls 9 [(0, .ref b), (1, .ref x), (2, .ref r), (3, .ref (r + 10)), (4, .ref (r + 11)), (5, .int (Int32.ofNat i))] → vV D p l e room_1 s m #[.ref b] below meth c (n + 60) (k + 2100) Q M2 (F0 m 2226 ls [])) : vV D p l e room_1 s m #[.ref b] below meth c n k Q M (F0 m 334 ls []) := by
  refine vV.know (fun H hR => ?_)
  obtain ⟨⟨G, F, a, d, C, u, hz, n', k', hD⟩, i2, i3, i4, i5⟩ := id I
  obtain ⟨z, M1, e1, e2, e3, ⟨f1, e4⟩, ⟨f2, e5⟩, hxr, e7, e6⟩ := lI_go I (O_size hD (xs (i + 1)))
  have hK := hSS.1
  refine w_aload_n hx hb dL_law_334 rfl (lv_at hl 1 rfl) ?_
  refine w_arg (pc := 335) 1 hx hb hX hbl hbA hL (by omega) rfl (lv_at hl 0 rfl) (lv_at hl 5 rfl) (by decide) dL_law_335 dL_law_336 dL_law_338 dL_law_339 dL_law_340 ?_
  refine w_aload_n hx hb dL_law_341 rfl (lv_at hl 3 rfl) ?_
  refine v_callH (P := pL M1 (r + 10) (Sum.elim (fun v => some (.long v.toInt64)) (fun _ => none) z)) (v := .int (Sum.elim (fun _ => (0 : Int32)) mp0 z)) (mcz := 1) (msz := 6) (fun H locs hR hS => vx_runSW (hh := [(0, 9, 12, 13)]) (As := [.ref x, .int (xs (i + 1)), .ref (r + 10)]) (rest := []) ⟨hx, hb, hml, hown, hts⟩ (mL_size l hfl D x (xs (i + 1)) (r + 10) M f1 (z, M1) e1 (T_x hD.1.1) e4 (by show M1.2.2.2 ≤ _; rw [e2]; omega) e3) (vx_cwSW 3 hts (gdS kl979 kl980 kl76 kl981) rfl rfl rfl (by decide +kernel) ⟨Nat.le_of_ble_eq_true rfl, Nat.le_of_ble_eq_true rfl⟩) (v_preS hSS hR hS [.ref x, .int (xs (i + 1)), .ref (r + 10)]) rfl rfl hl.1 rfl (lv_room (Nat.le_of_ble_eq_true rfl)) dL_law_342 ⟨by show n + 1 ≤ 601024; omega, by show k + 6 ≤ 7293034; omega⟩) (fun N hN => ?_)
  refine w_istore (lv' := [(6, .int (Sum.elim (fun _ => (0 : Int32)) mp0 z)), (0, .ref b), (1, .ref x), (2, .ref r), (3, .ref (r + 10)), (4, .ref (r + 11)), (5, .int (Int32.ofNat i))]) hx hb dL_law_345 hl (by decide) rfl (fun ls hl => ?_)
  refine w_aload_n hx hb dL_law_347 rfl (lv_at hl 3 rfl) ?_
  refine w_arg (pc := 348) 1 hx hb hX hbl hbA hL (by omega) rfl (lv_at hl 1 rfl) (lv_at hl 6 rfl) (by decide) dL_law_348 dL_law_349 dL_law_351 dL_law_352 dL_law_353 ?_
  obtain ⟨f3, o1, o2⟩ := pL_at hN e4
  obtain ⟨e8, b0, M2, g1, g2, g3, g4, g5, g6⟩ := e6 N (pL_slk (.inl rfl) hN) ⟨f3, o1⟩ ⟨f2, by rw [pL_ne hN (by omega)]; exact e5⟩
  refine v_call1 (v := .int b0) (M1 := M2) (mc := 0) (ms := 0) (fun H locs hR hS => va_runV (As := [.int (xs (i + 1))]) (rest := []) ⟨hx, hb, hml, hown, hts⟩ (mX10_size l hfl D r (xs (i + 1)) N (b0, M2) g1) (cwV 1 hts (gdV kl1586 kl1587 kl1588 kw85 kl1589) rfl rfl rfl (by decide +kernel) ⟨Nat.le_of_ble_eq_true rfl, Nat.le_of_ble_eq_true rfl⟩) (v_preV (ci := 11) hSS hR hS e8 (by decide) rfl [.int (xs (i + 1))]) rfl rfl hl.1 rfl (lv_room (Nat.le_of_ble_eq_true rfl)) dL_law_354 ⟨by show n + 1 + 0 ≤ 601024; omega, by show k + 6 + 0 ≤ 7293034; omega⟩) ?_
  refine w_istore (lv' := [(7, .int b0), (6, .int (Sum.elim (fun _ => (0 : Int32)) mp0 z)), (0, .ref b), (1, .ref x), (2, .ref r), (3, .ref (r + 10)), (4, .ref (r + 11)), (5, .int (Int32.ofNat i))]) hx hb dL_law_357 hl (by decide) rfl (fun ls hl => ?_)
  refine w_aload_n hx hb dL_law_359 rfl (lv_at hl 4 rfl) ?_
  have gt0 : tX10_thrown r M2 = some (Sum.elim (fun _ => (0 : Int32)) mp0 z) := by rw [tX10_thrown, g3]; rfl
  refine v_call1 (v := .int (Sum.elim (fun _ => (0 : Int32)) mp0 z)) (M1 := M2) (mc := 0) (ms := 0) (fun H locs hR hS => va_runV (As := []) (rest := []) ⟨hx, hb, hml, hown, hts⟩ (mX10_thrown l hfl D r M2 _ gt0) (cwV 0 hts (gdV kl1403 kl1404 kl1405 kw85 kl1406) rfl rfl rfl (by decide +kernel) ⟨Nat.le_of_ble_eq_true rfl, Nat.le_of_ble_eq_true rfl⟩) (v_preV (ci := 11) hSS hR hS (v_tag g3).1 (by decide) rfl []) rfl rfl hl.1 rfl (lv_room (Nat.le_of_ble_eq_true rfl)) dL_law_360 ⟨by show n + 1 + 0 + 0 ≤ 601024; omega, by show k + 6 + 0 + 0 ≤ 7293034; omega⟩) ?_
  refine w_iload hx hb dL_law_363 (lv_at hl 1 rfl) ?_
  refine w_icmp_eq (tgt := 370) hx hb dL_law_365 (by decide) (fun _ => ?_) (fun c0 => absurd rfl c0)
  refine w_iload hx hb dL_law_370 (lv_at hl 1 rfl) ?_
  refine w_if_ne (tgt := 387) hx hb dL_law_372 (by decide) (fun c0 => ?_) (fun c0 => ?_)
  · rcases z with v | j
    · have eb := g4 v rfl
      subst eb
      have o3 := o2 _ rfl
      have al : aJ M2 (r + 10) 104 0 = some b0.toInt64 := by
        show (if (M2.1 (r + 10)).1 = 104 ∧ ¬ ((0 : Int32) < 0 ∨ (M2.1 (r + 10)).2.1 ≤ (0 : Int32).toNatClampNeg) then some (vJ ((M2.1 (r + 10)).2.2 0)) else none) = _
        rw [g5, o1, if_pos ⟨rfl, z_in⟩]
        show some (vJ (f3 0)) = _
        rw [o3]; rfl
      refine w_aload_n hx hb dL_law_375 rfl (lv_at hl 5 rfl) ?_
      refine w_iconst (v := 0) hx hb dL_law_376 (by decide) ?_
      refine v_lald hx hb hK al dL_law_377 ?_
      refine w_iload hx hb dL_law_378 (lv_at hl 0 rfl) ?_
      refine w_i2l hx hb dL_law_380 ?_
      refine w_lcmp hx hb dL_law_381 ?_
      refine w_if_eq (tgt := 387) hx hb dL_law_382 (by decide) (fun _ => ?_) (fun c1 => absurd (lg_self _) c1)
      refine w_goto (tgt := 2226) hx hb dL_law_387 (by decide) ?_
      refine vV.widen (n' := n + 60) (k' := k + 2100) (by omega) (by omega) ?_
      exact K M2 g2 _ (lv_sub hl [2, 3, 4, 5, 6, 7] rfl)
    · exact absurd c0 (e3 j rfl)
  · refine w_goto (tgt := 2226) hx hb dL_law_387 (by decide) ?_
    refine vV.widen (n' := n + 60) (k' := k + 2100) (by omega) (by omega) ?_
    exact K M2 g2 _ (lv_sub hl [2, 3, 4, 5, 6, 7] rfl)
set_option maxHeartbeats 4000000 in
set_option maxRecDepth 100000 in
/-- find -/
theorem kC_4 {p : Program} {l : Launch} {e : Env} {s : State} {m : MethodId} {below : List Frame} {meth : Method} {c : Code} {Q : State → Prop} {D : vD} {b L : Nat} {xs : Nat → Int32} {x r : Nat} {M0 : Nat → vOb} {M : vMe} {i n k : Nat} {ls : Array Slot} (hfl : l.stackTraces = false) (hx : p.tables.exec = Jvm.exec) (hb : c.code = code) (hml : c.maxLocals = 9) (hown : s.vm.findClass RL = some m.cls) (hts : ∀ w ∈ TB, w.before #[.ref b] s = true) (hSS : vS D s) (hX : va_X b L xs s s.heap) (hbl : b < s.heap.size) (hbA : ¬ vA D b) (S : lS D x M0) (I : lI x r M0 M) (hi : i + 6 ≤ L) (hL : L ≤ 3072) (hn : n + 60 ≤ 601024) (hk : k + 2100 ≤ 7293034)
    (hl : lv_has ls 9 [(0, .ref b), (1, .ref x), (2, .ref r), (3, .ref (r + 10)), (4, .ref (r + 11)), (5, .int (Int32.ofNat i))]) (K : ∀ M2, lI x r M0 M2 → ∀ ls : Array Slot, lv_has ls 9 [(0, .ref b), (1, .ref x), (2, .ref r), (3, .ref (r + 10)), (4, .ref (r + 11)), (5, .int (Int32.ofNat i))] → vV D p l e room_1 s m #[.ref b] below meth c (n + 60) (k + 2100) Q M2 (F0 m 2226 ls [])) : vV D p l e room_1 s m #[.ref b] below meth c n k Q M (F0 m 390 ls []) := by
  refine vV.know (fun H hR => ?_)
  have wb0 := wb_R hR
  obtain ⟨⟨G, F, a, d, C, u, hz, n', k', hD⟩, i2, i3, i4, i5⟩ := id I
  obtain ⟨z, M1, e1, e2, e3, ⟨f1, e4⟩, ⟨f2, e5⟩, hxr, e7, e6⟩ := lI_go I (O_find (Gs := D.2.2.2.2) hD wb0)
  have hK := hSS.1
  refine w_aload_n hx hb dL_law_390 rfl (lv_at hl 1 rfl) ?_
  obtain ⟨zz, q1, q2⟩ := v_bnd e1
  obtain ⟨qa, qb⟩ := Prod.mk.inj (Option.some.inj q2)
  subst qa
  subst qb
  obtain ⟨e8, b0, M2, g1, g2, g3, g4, g5, g6⟩ := e6 zz.2 slk_rf ⟨f1, e4⟩ ⟨f2, e5⟩
  refine v_call1 (v := .int zz.1) (M1 := zz.2) (mc := 0) (ms := 0) (fun H locs hR hS => va_runV (As := []) (rest := []) ⟨hx, hb, hml, hown, hts⟩ (mX9_find l hfl D x  M zz q1) (cwV 0 hts (gdV kl369 kl370 kl371 kw77 kl372) rfl rfl rfl (by decide +kernel) ⟨Nat.le_of_ble_eq_true rfl, Nat.le_of_ble_eq_true rfl⟩) (v_preV (ci := 10) hSS hR hS (T_x hD.1.1) (by decide) rfl []) rfl rfl hl.1 rfl (lv_room (Nat.le_of_ble_eq_true rfl)) dL_law_391 ⟨by show n + 0 ≤ 601024; omega, by show k + 0 ≤ 7293034; omega⟩) ?_
  refine w_aload_n hx hb dL_law_394 rfl (lv_at hl 2 rfl) ?_
  refine v_call1 (v := .int b0) (M1 := M2) (mc := 0) (ms := 0) (fun H locs hR hS => va_runV (As := []) (rest := [.int zz.1]) ⟨hx, hb, hml, hown, hts⟩ (mX10_find l hfl D r  zz.2 (b0, M2) g1) (cwV 0 hts (gdV kl1582 kl1583 kl1584 kw85 kl1585) rfl rfl rfl (by decide +kernel) ⟨Nat.le_of_ble_eq_true rfl, Nat.le_of_ble_eq_true rfl⟩) (v_preV (ci := 11) hSS hR hS e8 (by decide) rfl []) rfl rfl hl.1 rfl (lv_room (Nat.le_of_ble_eq_true rfl)) dL_law_395 ⟨by show n + 0 + 0 ≤ 601024; omega, by show k + 0 + 0 ≤ 7293034; omega⟩) ?_
  refine w_icmp_eq (tgt := 2226) hx hb dL_law_398 (by decide) (fun _ => ?_) (fun c0 => absurd (g4 _ rfl).symm c0)
  refine vV.widen (n' := n + 60) (k' := k + 2100) (by omega) (by omega) ?_
  exact K M2 g2 _ hl
set_option maxHeartbeats 4000000 in
set_option maxRecDepth 100000 in
/-- marked -/
theorem kC_5 {p : Program} {l : Launch} {e : Env} {s : State} {m : MethodId} {below : List Frame} {meth : Method} {c : Code} {Q : State → Prop} {D : vD} {b L : Nat} {xs : Nat → Int32} {x r : Nat} {M0 : Nat → vOb} {M : vMe} {i n k : Nat} {ls : Array Slot} (hfl : l.stackTraces = false) (hx : p.tables.exec = Jvm.exec) (hb : c.code = code) (hml : c.maxLocals = 9) (hown : s.vm.findClass RL = some m.cls) (hts : ∀ w ∈ TB, w.before #[.ref b] s = true) (hSS : vS D s) (hX : va_X b L xs s s.heap) (hbl : b < s.heap.size) (hbA : ¬ vA D b) (S : lS D x M0) (I : lI x r M0 M) (hi : i + 6 ≤ L) (hL : L ≤ 3072) (hn : n + 60 ≤ 601024) (hk : k + 2100 ≤ 7293034)
    (hl : lv_has ls 9 [(0, .ref b), (1, .ref x), (2, .ref r), (3, .ref (r + 10)), (4, .ref (r + 11)), (5, .int (Int32.ofNat i))]) (K : ∀ M2, lI x r M0 M2 → ∀ ls : Array Slot, lv_has ls 9 [(0, .ref b), (1, .ref x), (2, .ref r), (3, .ref (r + 10)), (4, .ref (r + 11)), (5, .int (Int32.ofNat i))] → vV D p l e room_1 s m #[.ref b] below meth c (n + 60) (k + 2100) Q M2 (F0 m 2226 ls [])) : vV D p l e room_1 s m #[.ref b] below meth c n k Q M (F0 m 403 ls []) := by
  refine vV.know (fun H hR => ?_)
  obtain ⟨⟨G, F, a, d, C, u, hz, n', k', hD⟩, i2, i3, i4, i5⟩ := id I
  obtain ⟨z, M1, e1, e2, e3, ⟨f1, e4⟩, ⟨f2, e5⟩, hxr, e7, e6⟩ := lI_go I (O_marked hD (xs (i + 1)))
  have hK := hSS.1
  refine w_aload_n hx hb dL_law_403 rfl (lv_at hl 1 rfl) ?_
  refine w_arg (pc := 404) 1 hx hb hX hbl hbA hL (by omega) rfl (lv_at hl 0 rfl) (lv_at hl 5 rfl) (by decide) dL_law_404 dL_law_405 dL_law_407 dL_law_408 dL_law_409 ?_
  obtain ⟨zz, q1, q2⟩ := v_bnd e1
  obtain ⟨qa, qb⟩ := Prod.mk.inj (Option.some.inj q2)
  subst qa
  subst qb
  obtain ⟨e8, b0, M2, g1, g2, g3, g4, g5, g6⟩ := e6 M slk_rf ⟨f1, e4⟩ ⟨f2, e5⟩
  refine v_call1 (v := .int zz) (M1 := M) (mc := 0) (ms := 0) (fun H locs hR hS => va_runV (As := [.int (xs (i + 1))]) (rest := []) ⟨hx, hb, hml, hown, hts⟩ (mX9_marked l hfl D x (xs (i + 1)) M zz q1) (cwV 1 hts (gdV kl433 kl434 kl435 kw77 kl436) rfl rfl rfl (by decide +kernel) ⟨Nat.le_of_ble_eq_true rfl, Nat.le_of_ble_eq_true rfl⟩) (v_preV (ci := 10) hSS hR hS (T_x hD.1.1) (by decide) rfl [.int (xs (i + 1))]) rfl rfl hl.1 rfl (lv_room (Nat.le_of_ble_eq_true rfl)) dL_law_410 ⟨by show n + 0 ≤ 601024; omega, by show k + 0 ≤ 7293034; omega⟩) ?_
  refine w_aload_n hx hb dL_law_413 rfl (lv_at hl 2 rfl) ?_
  refine w_arg (pc := 414) 1 hx hb hX hbl hbA hL (by omega) rfl (lv_at hl 0 rfl) (lv_at hl 5 rfl) (by decide) dL_law_414 dL_law_415 dL_law_417 dL_law_418 dL_law_419 ?_
  refine v_call1 (v := .int b0) (M1 := M2) (mc := 0) (ms := 0) (fun H locs hR hS => va_runV (As := [.int (xs (i + 1))]) (rest := [.int zz]) ⟨hx, hb, hml, hown, hts⟩ (mX10_marked l hfl D r (xs (i + 1)) M (b0, M2) g1) (cwV 1 hts (gdV kl1594 kl1595 kl1596 kw85 kl1597) rfl rfl rfl (by decide +kernel) ⟨Nat.le_of_ble_eq_true rfl, Nat.le_of_ble_eq_true rfl⟩) (v_preV (ci := 11) hSS hR hS e8 (by decide) rfl [.int (xs (i + 1))]) rfl rfl hl.1 rfl (lv_room (Nat.le_of_ble_eq_true rfl)) dL_law_420 ⟨by show n + 0 + 0 ≤ 601024; omega, by show k + 0 + 0 ≤ 7293034; omega⟩) ?_
  refine w_icmp_eq (tgt := 2226) hx hb dL_law_423 (by decide) (fun _ => ?_) (fun c0 => absurd (g4 _ rfl).symm c0)
  refine vV.widen (n' := n + 60) (k' := k + 2100) (by omega) (by omega) ?_
  exact K M2 g2 _ hl
set_option maxHeartbeats 4000000 in
set_option maxRecDepth 100000 in
/-- set -/
theorem kC_6 {p : Program} {l : Launch} {e : Env} {s : State} {m : MethodId} {below : List Frame} {meth : Method} {c : Code} {Q : State → Prop} {D : vD} {b L : Nat} {xs : Nat → Int32} {x r : Nat} {M0 : Nat → vOb} {M : vMe} {i n k : Nat} {ls : Array Slot} (hfl : l.stackTraces = false) (hx : p.tables.exec = Jvm.exec) (hb : c.code = code) (hml : c.maxLocals = 9) (hown : s.vm.findClass RL = some m.cls) (hts : ∀ w ∈ TB, w.before #[.ref b] s = true) (hSS : vS D s) (hX : va_X b L xs s s.heap) (hbl : b < s.heap.size) (hbA : ¬ vA D b) (S : lS D x M0) (I : lI x r M0 M) (hi : i + 6 ≤ L) (hL : L ≤ 3072) (hn : n + 60 ≤ 601024) (hk : k + 2100 ≤ 7293034)
    (hl : lv_has ls 9 [(0, .ref b), (1, .ref x), (2, .ref r), (3, .ref (r + 10)), (4, .ref (r + 11)), (5, .int (Int32.ofNat i))]) (K : ∀ M2, lI x r M0 M2 → ∀ ls : Array Slot, lv_has ls 9 [(0, .ref b), (1, .ref x), (2, .ref r), (3, .ref (r + 10)), (4, .ref (r + 11)), (5, .int (Int32.ofNat i))] → vV D p l e room_1 s m #[.ref b] below meth c (n + 60) (k + 2100) Q M2 (F0 m 2226 ls [])) : vV D p l e room_1 s m #[.ref b] below meth c n k Q M (F0 m 428 ls []) := by
  refine vV.know (fun H hR => ?_)
  obtain ⟨⟨G, F, a, d, C, u, hz, n', k', hD⟩, i2, i3, i4, i5⟩ := id I
  obtain ⟨z, M1, e1, e2, e3, ⟨f1, e4⟩, ⟨f2, e5⟩, hxr, e7, e6⟩ := lI_go I (O_set hD (xs (i + 1)) (xs (i + 2)))
  have hK := hSS.1
  refine w_aload_n hx hb dL_law_428 rfl (lv_at hl 1 rfl) ?_
  refine w_arg (pc := 429) 1 hx hb hX hbl hbA hL (by omega) rfl (lv_at hl 0 rfl) (lv_at hl 5 rfl) (by decide) dL_law_429 dL_law_430 dL_law_432 dL_law_433 dL_law_434 ?_
  refine w_arg (pc := 435) 2 hx hb hX hbl hbA hL (by omega) rfl (lv_at hl 0 rfl) (lv_at hl 5 rfl) (by decide) dL_law_435 dL_law_436 dL_law_438 dL_law_439 dL_law_440 ?_
  refine w_aload_n hx hb dL_law_441 rfl (lv_at hl 3 rfl) ?_
  refine v_callH (P := pL M1 (r + 10) (Sum.elim (fun v => some (.long v.toInt64)) (fun _ => none) z)) (v := .int (Sum.elim (fun _ => (0 : Int32)) mpA z)) (mcz := 1) (msz := 6) (fun H locs hR hS => vx_runSW (hh := [(0, 10, 13, 22), (0, 10, 17, 13)]) (As := [.ref x, .int (xs (i + 1)), .int (xs (i + 2)), .ref (r + 10)]) (rest := []) ⟨hx, hb, hml, hown, hts⟩ (mL_set l hfl D x (xs (i + 1)) (xs (i + 2)) (r + 10) M f1 (z, M1) e1 (T_x hD.1.1) e4 (by show M1.2.2.2 ≤ _; rw [e2]; omega) e3) (vx_cwSW 4 hts (gdS kl991 kl992 kl76 kl993) rfl rfl rfl (by decide +kernel) ⟨Nat.le_of_ble_eq_true rfl, Nat.le_of_ble_eq_true rfl⟩) (v_preS hSS hR hS [.ref x, .int (xs (i + 1)), .int (xs (i + 2)), .ref (r + 10)]) rfl rfl hl.1 rfl (lv_room (Nat.le_of_ble_eq_true rfl)) dL_law_442 ⟨by show n + 1 ≤ 601024; omega, by show k + 6 ≤ 7293034; omega⟩) (fun N hN => ?_)
  refine w_istore (lv' := [(6, .int (Sum.elim (fun _ => (0 : Int32)) mpA z)), (0, .ref b), (1, .ref x), (2, .ref r), (3, .ref (r + 10)), (4, .ref (r + 11)), (5, .int (Int32.ofNat i))]) hx hb dL_law_445 hl (by decide) rfl (fun ls hl => ?_)
  refine w_aload_n hx hb dL_law_447 rfl (lv_at hl 3 rfl) ?_
  refine w_arg (pc := 448) 1 hx hb hX hbl hbA hL (by omega) rfl (lv_at hl 1 rfl) (lv_at hl 6 rfl) (by decide) dL_law_448 dL_law_449 dL_law_451 dL_law_452 dL_law_453 ?_
  refine w_arg (pc := 454) 2 hx hb hX hbl hbA hL (by omega) rfl (lv_at hl 1 rfl) (lv_at hl 6 rfl) (by decide) dL_law_454 dL_law_455 dL_law_457 dL_law_458 dL_law_459 ?_
  obtain ⟨f3, o1, o2⟩ := pL_at hN e4
  obtain ⟨e8, b0, M2, g1, g2, g3, g4, g5, g6⟩ := e6 N (pL_slk (.inl rfl) hN) ⟨f3, o1⟩ ⟨f2, by rw [pL_ne hN (by omega)]; exact e5⟩
  refine v_call1 (v := .int b0) (M1 := M2) (mc := 0) (ms := 0) (fun H locs hR hS => va_runV (As := [.int (xs (i + 1)), .int (xs (i + 2))]) (rest := []) ⟨hx, hb, hml, hown, hts⟩ (mX10_set l hfl D r (xs (i + 1)) (xs (i + 2)) N (b0, M2) g1) (cwV 2 hts (gdV kl1598 kl1599 kl1600 kw85 kl1601) rfl rfl rfl (by decide +kernel) ⟨Nat.le_of_ble_eq_true rfl, Nat.le_of_ble_eq_true rfl⟩) (v_preV (ci := 11) hSS hR hS e8 (by decide) rfl [.int (xs (i + 1)), .int (xs (i + 2))]) rfl rfl hl.1 rfl (lv_room (Nat.le_of_ble_eq_true rfl)) dL_law_460 ⟨by show n + 1 + 0 ≤ 601024; omega, by show k + 6 + 0 ≤ 7293034; omega⟩) ?_
  refine w_istore (lv' := [(7, .int b0), (6, .int (Sum.elim (fun _ => (0 : Int32)) mpA z)), (0, .ref b), (1, .ref x), (2, .ref r), (3, .ref (r + 10)), (4, .ref (r + 11)), (5, .int (Int32.ofNat i))]) hx hb dL_law_463 hl (by decide) rfl (fun ls hl => ?_)
  refine w_aload_n hx hb dL_law_465 rfl (lv_at hl 4 rfl) ?_
  have gt0 : tX10_thrown r M2 = some (Sum.elim (fun _ => (0 : Int32)) mpA z) := by rw [tX10_thrown, g3]; rfl
  refine v_call1 (v := .int (Sum.elim (fun _ => (0 : Int32)) mpA z)) (M1 := M2) (mc := 0) (ms := 0) (fun H locs hR hS => va_runV (As := []) (rest := []) ⟨hx, hb, hml, hown, hts⟩ (mX10_thrown l hfl D r M2 _ gt0) (cwV 0 hts (gdV kl1403 kl1404 kl1405 kw85 kl1406) rfl rfl rfl (by decide +kernel) ⟨Nat.le_of_ble_eq_true rfl, Nat.le_of_ble_eq_true rfl⟩) (v_preV (ci := 11) hSS hR hS (v_tag g3).1 (by decide) rfl []) rfl rfl hl.1 rfl (lv_room (Nat.le_of_ble_eq_true rfl)) dL_law_466 ⟨by show n + 1 + 0 + 0 ≤ 601024; omega, by show k + 6 + 0 + 0 ≤ 7293034; omega⟩) ?_
  refine w_iload hx hb dL_law_469 (lv_at hl 1 rfl) ?_
  refine w_icmp_eq (tgt := 476) hx hb dL_law_471 (by decide) (fun _ => ?_) (fun c0 => absurd rfl c0)
  refine w_iload hx hb dL_law_476 (lv_at hl 1 rfl) ?_
  refine w_if_ne (tgt := 493) hx hb dL_law_478 (by decide) (fun c0 => ?_) (fun c0 => ?_)
  · rcases z with v | j
    · have eb := g4 v rfl
      subst eb
      have o3 := o2 _ rfl
      have al : aJ M2 (r + 10) 104 0 = some b0.toInt64 := by
        show (if (M2.1 (r + 10)).1 = 104 ∧ ¬ ((0 : Int32) < 0 ∨ (M2.1 (r + 10)).2.1 ≤ (0 : Int32).toNatClampNeg) then some (vJ ((M2.1 (r + 10)).2.2 0)) else none) = _
        rw [g5, o1, if_pos ⟨rfl, z_in⟩]
        show some (vJ (f3 0)) = _
        rw [o3]; rfl
      refine w_aload_n hx hb dL_law_481 rfl (lv_at hl 5 rfl) ?_
      refine w_iconst (v := 0) hx hb dL_law_482 (by decide) ?_
      refine v_lald hx hb hK al dL_law_483 ?_
      refine w_iload hx hb dL_law_484 (lv_at hl 0 rfl) ?_
      refine w_i2l hx hb dL_law_486 ?_
      refine w_lcmp hx hb dL_law_487 ?_
      refine w_if_eq (tgt := 493) hx hb dL_law_488 (by decide) (fun _ => ?_) (fun c1 => absurd (lg_self _) c1)
      refine w_goto (tgt := 2226) hx hb dL_law_493 (by decide) ?_
      refine vV.widen (n' := n + 60) (k' := k + 2100) (by omega) (by omega) ?_
      exact K M2 g2 _ (lv_sub hl [2, 3, 4, 5, 6, 7] rfl)
    · exact absurd c0 (e3 j rfl)
  · refine w_goto (tgt := 2226) hx hb dL_law_493 (by decide) ?_
    refine vV.widen (n' := n + 60) (k' := k + 2100) (by omega) (by omega) ?_
    exact K M2 g2 _ (lv_sub hl [2, 3, 4, 5, 6, 7] rfl)
set_option maxHeartbeats 4000000 in
set_option maxRecDepth 100000 in
/-- cell -/
theorem kC_7 {p : Program} {l : Launch} {e : Env} {s : State} {m : MethodId} {below : List Frame} {meth : Method} {c : Code} {Q : State → Prop} {D : vD} {b L : Nat} {xs : Nat → Int32} {x r : Nat} {M0 : Nat → vOb} {M : vMe} {i n k : Nat} {ls : Array Slot} (hfl : l.stackTraces = false) (hx : p.tables.exec = Jvm.exec) (hb : c.code = code) (hml : c.maxLocals = 9) (hown : s.vm.findClass RL = some m.cls) (hts : ∀ w ∈ TB, w.before #[.ref b] s = true) (hSS : vS D s) (hX : va_X b L xs s s.heap) (hbl : b < s.heap.size) (hbA : ¬ vA D b) (S : lS D x M0) (I : lI x r M0 M) (hi : i + 6 ≤ L) (hL : L ≤ 3072) (hn : n + 60 ≤ 601024) (hk : k + 2100 ≤ 7293034)
    (hl : lv_has ls 9 [(0, .ref b), (1, .ref x), (2, .ref r), (3, .ref (r + 10)), (4, .ref (r + 11)), (5, .int (Int32.ofNat i))]) (K : ∀ M2, lI x r M0 M2 → ∀ ls : Array Slot, lv_has ls 9 [(0, .ref b), (1, .ref x), (2, .ref r), (3, .ref (r + 10)), (4, .ref (r + 11)), (5, .int (Int32.ofNat i))] → vV D p l e room_1 s m #[.ref b] below meth c (n + 60) (k + 2100) Q M2 (F0 m 2226 ls [])) : vV D p l e room_1 s m #[.ref b] below meth c n k Q M (F0 m 496 ls []) := by
  refine vV.know (fun H hR => ?_)
  obtain ⟨⟨G, F, a, d, C, u, hz, n', k', hD⟩, i2, i3, i4, i5⟩ := id I
  obtain ⟨z, M1, e1, e2, e3, ⟨f1, e4⟩, ⟨f2, e5⟩, hxr, e7, e6⟩ := lI_go I (O_cell hD (xs (i + 1)) (xs (i + 2)) (if xs (i + 3) = 0 then 0 else 1))
  have hK := hSS.1
  refine w_aload_n hx hb dL_law_496 rfl (lv_at hl 1 rfl) ?_
  refine w_arg (pc := 497) 1 hx hb hX hbl hbA hL (by omega) rfl (lv_at hl 0 rfl) (lv_at hl 5 rfl) (by decide) dL_law_497 dL_law_498 dL_law_500 dL_law_501 dL_law_502 ?_
  refine w_arg (pc := 503) 2 hx hb hX hbl hbA hL (by omega) rfl (lv_at hl 0 rfl) (lv_at hl 5 rfl) (by decide) dL_law_503 dL_law_504 dL_law_506 dL_law_507 dL_law_508 ?_
  refine w_arg (pc := 509) 3 hx hb hX hbl hbA hL (by omega) rfl (lv_at hl 0 rfl) (lv_at hl 5 rfl) (by decide) dL_law_509 dL_law_510 dL_law_512 dL_law_513 dL_law_514 ?_
  refine w_bool (pc := 515) hx hb dL_law_515 dL_law_518 dL_law_519 dL_law_522 ?_
  refine w_aload_n hx hb dL_law_523 rfl (lv_at hl 3 rfl) ?_
  refine v_callH (P := pL M1 (r + 10) (Sum.elim (fun v => some (.long v.toInt64)) (fun _ => none) z)) (v := .int (Sum.elim (fun _ => (0 : Int32)) mpA z)) (mcz := 1) (msz := 6) (fun H locs hR hS => vx_runSW (hh := [(0, 12, 15, 22), (0, 12, 19, 13)]) (As := [.ref x, .int (xs (i + 1)), .int (xs (i + 2)), .int (if xs (i + 3) = 0 then 0 else 1), .ref (r + 10)]) (rest := []) ⟨hx, hb, hml, hown, hts⟩ (mL_cell l hfl D x (xs (i + 1)) (xs (i + 2)) (if xs (i + 3) = 0 then 0 else 1) (r + 10) M f1 (z, M1) e1 (T_x hD.1.1) e4 (by show M1.2.2.2 ≤ _; rw [e2]; omega) e3) (vx_cwSW 5 hts (gdS kl1027 kl1028 kl76 kl1029) rfl rfl rfl (by decide +kernel) ⟨Nat.le_of_ble_eq_true rfl, Nat.le_of_ble_eq_true rfl⟩) (v_preS hSS hR hS [.ref x, .int (xs (i + 1)), .int (xs (i + 2)), .int (if xs (i + 3) = 0 then 0 else 1), .ref (r + 10)]) rfl rfl hl.1 rfl (lv_room (Nat.le_of_ble_eq_true rfl)) dL_law_524 ⟨by show n + 1 ≤ 601024; omega, by show k + 6 ≤ 7293034; omega⟩) (fun N hN => ?_)
  refine w_istore (lv' := [(6, .int (Sum.elim (fun _ => (0 : Int32)) mpA z)), (0, .ref b), (1, .ref x), (2, .ref r), (3, .ref (r + 10)), (4, .ref (r + 11)), (5, .int (Int32.ofNat i))]) hx hb dL_law_527 hl (by decide) rfl (fun ls hl => ?_)
  refine w_aload_n hx hb dL_law_529 rfl (lv_at hl 3 rfl) ?_
  refine w_arg (pc := 530) 1 hx hb hX hbl hbA hL (by omega) rfl (lv_at hl 1 rfl) (lv_at hl 6 rfl) (by decide) dL_law_530 dL_law_531 dL_law_533 dL_law_534 dL_law_535 ?_
  refine w_arg (pc := 536) 2 hx hb hX hbl hbA hL (by omega) rfl (lv_at hl 1 rfl) (lv_at hl 6 rfl) (by decide) dL_law_536 dL_law_537 dL_law_539 dL_law_540 dL_law_541 ?_
  refine w_arg (pc := 542) 3 hx hb hX hbl hbA hL (by omega) rfl (lv_at hl 1 rfl) (lv_at hl 6 rfl) (by decide) dL_law_542 dL_law_543 dL_law_545 dL_law_546 dL_law_547 ?_
  refine w_bool (pc := 548) hx hb dL_law_548 dL_law_551 dL_law_552 dL_law_555 ?_
  obtain ⟨f3, o1, o2⟩ := pL_at hN e4
  obtain ⟨e8, b0, M2, g1, g2, g3, g4, g5, g6⟩ := e6 N (pL_slk (.inl rfl) hN) ⟨f3, o1⟩ ⟨f2, by rw [pL_ne hN (by omega)]; exact e5⟩
  refine v_call1 (v := .int b0) (M1 := M2) (mc := 0) (ms := 0) (fun H locs hR hS => va_runV (As := [.int (xs (i + 1)), .int (xs (i + 2)), .int (if xs (i + 3) = 0 then 0 else 1)]) (rest := []) ⟨hx, hb, hml, hown, hts⟩ (mX10_cell l hfl D r (xs (i + 1)) (xs (i + 2)) (if xs (i + 3) = 0 then 0 else 1) N (b0, M2) g1) (cwV 3 hts (gdV kl1614 kl1615 kl1616 kw85 kl1617) rfl rfl rfl (by decide +kernel) ⟨Nat.le_of_ble_eq_true rfl, Nat.le_of_ble_eq_true rfl⟩) (v_preV (ci := 11) hSS hR hS e8 (by decide) rfl [.int (xs (i + 1)), .int (xs (i + 2)), .int (if xs (i + 3) = 0 then 0 else 1)]) rfl rfl hl.1 rfl (lv_room (Nat.le_of_ble_eq_true rfl)) dL_law_556 ⟨by show n + 1 + 0 ≤ 601024; omega, by show k + 6 + 0 ≤ 7293034; omega⟩) ?_
  refine w_istore (lv' := [(7, .int b0), (6, .int (Sum.elim (fun _ => (0 : Int32)) mpA z)), (0, .ref b), (1, .ref x), (2, .ref r), (3, .ref (r + 10)), (4, .ref (r + 11)), (5, .int (Int32.ofNat i))]) hx hb dL_law_559 hl (by decide) rfl (fun ls hl => ?_)
  refine w_aload_n hx hb dL_law_561 rfl (lv_at hl 4 rfl) ?_
  have gt0 : tX10_thrown r M2 = some (Sum.elim (fun _ => (0 : Int32)) mpA z) := by rw [tX10_thrown, g3]; rfl
  refine v_call1 (v := .int (Sum.elim (fun _ => (0 : Int32)) mpA z)) (M1 := M2) (mc := 0) (ms := 0) (fun H locs hR hS => va_runV (As := []) (rest := []) ⟨hx, hb, hml, hown, hts⟩ (mX10_thrown l hfl D r M2 _ gt0) (cwV 0 hts (gdV kl1403 kl1404 kl1405 kw85 kl1406) rfl rfl rfl (by decide +kernel) ⟨Nat.le_of_ble_eq_true rfl, Nat.le_of_ble_eq_true rfl⟩) (v_preV (ci := 11) hSS hR hS (v_tag g3).1 (by decide) rfl []) rfl rfl hl.1 rfl (lv_room (Nat.le_of_ble_eq_true rfl)) dL_law_562 ⟨by show n + 1 + 0 + 0 ≤ 601024; omega, by show k + 6 + 0 + 0 ≤ 7293034; omega⟩) ?_
  refine w_iload hx hb dL_law_565 (lv_at hl 1 rfl) ?_
  refine w_icmp_eq (tgt := 572) hx hb dL_law_567 (by decide) (fun _ => ?_) (fun c0 => absurd rfl c0)
  refine w_iload hx hb dL_law_572 (lv_at hl 1 rfl) ?_
  refine w_if_ne (tgt := 589) hx hb dL_law_574 (by decide) (fun c0 => ?_) (fun c0 => ?_)
  · rcases z with v | j
    · have eb := g4 v rfl
      subst eb
      have o3 := o2 _ rfl
      have al : aJ M2 (r + 10) 104 0 = some b0.toInt64 := by
        show (if (M2.1 (r + 10)).1 = 104 ∧ ¬ ((0 : Int32) < 0 ∨ (M2.1 (r + 10)).2.1 ≤ (0 : Int32).toNatClampNeg) then some (vJ ((M2.1 (r + 10)).2.2 0)) else none) = _
        rw [g5, o1, if_pos ⟨rfl, z_in⟩]
        show some (vJ (f3 0)) = _
        rw [o3]; rfl
      refine w_aload_n hx hb dL_law_577 rfl (lv_at hl 5 rfl) ?_
      refine w_iconst (v := 0) hx hb dL_law_578 (by decide) ?_
      refine v_lald hx hb hK al dL_law_579 ?_
      refine w_iload hx hb dL_law_580 (lv_at hl 0 rfl) ?_
      refine w_i2l hx hb dL_law_582 ?_
      refine w_lcmp hx hb dL_law_583 ?_
      refine w_if_eq (tgt := 589) hx hb dL_law_584 (by decide) (fun _ => ?_) (fun c1 => absurd (lg_self _) c1)
      refine w_goto (tgt := 2226) hx hb dL_law_589 (by decide) ?_
      refine vV.widen (n' := n + 60) (k' := k + 2100) (by omega) (by omega) ?_
      exact K M2 g2 _ (lv_sub hl [2, 3, 4, 5, 6, 7] rfl)
    · exact absurd c0 (e3 j rfl)
  · refine w_goto (tgt := 2226) hx hb dL_law_589 (by decide) ?_
    refine vV.widen (n' := n + 60) (k' := k + 2100) (by omega) (by omega) ?_
    exact K M2 g2 _ (lv_sub hl [2, 3, 4, 5, 6, 7] rfl)
set_option maxHeartbeats 4000000 in
set_option maxRecDepth 100000 in
/-- place -/
theorem kC_8 {p : Program} {l : Launch} {e : Env} {s : State} {m : MethodId} {below : List Frame} {meth : Method} {c : Code} {Q : State → Prop} {D : vD} {b L : Nat} {xs : Nat → Int32} {x r : Nat} {M0 : Nat → vOb} {M : vMe} {i n k : Nat} {ls : Array Slot} (hfl : l.stackTraces = false) (hx : p.tables.exec = Jvm.exec) (hb : c.code = code) (hml : c.maxLocals = 9) (hown : s.vm.findClass RL = some m.cls) (hts : ∀ w ∈ TB, w.before #[.ref b] s = true) (hSS : vS D s) (hX : va_X b L xs s s.heap) (hbl : b < s.heap.size) (hbA : ¬ vA D b) (S : lS D x M0) (I : lI x r M0 M) (hi : i + 6 ≤ L) (hL : L ≤ 3072) (hn : n + 60 ≤ 601024) (hk : k + 2100 ≤ 7293034)
    (hl : lv_has ls 9 [(0, .ref b), (1, .ref x), (2, .ref r), (3, .ref (r + 10)), (4, .ref (r + 11)), (5, .int (Int32.ofNat i))]) (K : ∀ M2, lI x r M0 M2 → ∀ ls : Array Slot, lv_has ls 9 [(0, .ref b), (1, .ref x), (2, .ref r), (3, .ref (r + 10)), (4, .ref (r + 11)), (5, .int (Int32.ofNat i))] → vV D p l e room_1 s m #[.ref b] below meth c (n + 60) (k + 2100) Q M2 (F0 m 2226 ls [])) : vV D p l e room_1 s m #[.ref b] below meth c n k Q M (F0 m 592 ls []) := by
  refine vV.know (fun H hR => ?_)
  obtain ⟨⟨G, F, a, d, C, u, hz, n', k', hD⟩, i2, i3, i4, i5⟩ := id I
  obtain ⟨z, M1, e1, e2, e3, ⟨f1, e4⟩, ⟨f2, e5⟩, hxr, e7, e6⟩ := lI_go I (O_place hD (xs (i + 1)) (xs (i + 2)))
  have hK := hSS.1
  refine w_aload_n hx hb dL_law_592 rfl (lv_at hl 1 rfl) ?_
  refine w_arg (pc := 593) 1 hx hb hX hbl hbA hL (by omega) rfl (lv_at hl 0 rfl) (lv_at hl 5 rfl) (by decide) dL_law_593 dL_law_594 dL_law_596 dL_law_597 dL_law_598 ?_
  refine w_arg (pc := 599) 2 hx hb hX hbl hbA hL (by omega) rfl (lv_at hl 0 rfl) (lv_at hl 5 rfl) (by decide) dL_law_599 dL_law_600 dL_law_602 dL_law_603 dL_law_604 ?_
  refine w_aload_n hx hb dL_law_605 rfl (lv_at hl 3 rfl) ?_
  refine v_callH (P := pL M1 (r + 10) (Sum.elim (fun v => some (.long v.toInt64)) (fun _ => none) z)) (v := .int (Sum.elim (fun _ => (0 : Int32)) mp1 z)) (mcz := 1) (msz := 6) (fun H locs hR hS => vx_runSW (hh := [(0, 10, 13, 22)]) (As := [.ref x, .int (xs (i + 1)), .int (xs (i + 2)), .ref (r + 10)]) (rest := []) ⟨hx, hb, hml, hown, hts⟩ (mL_place l hfl D x (xs (i + 1)) (xs (i + 2)) (r + 10) M f1 (z, M1) e1 (T_x hD.1.1) e4 (by show M1.2.2.2 ≤ _; rw [e2]; omega) e3) (vx_cwSW 4 hts (gdS kl1039 kl1040 kl76 kl1041) rfl rfl rfl (by decide +kernel) ⟨Nat.le_of_ble_eq_true rfl, Nat.le_of_ble_eq_true rfl⟩) (v_preS hSS hR hS [.ref x, .int (xs (i + 1)), .int (xs (i + 2)), .ref (r + 10)]) rfl rfl hl.1 rfl (lv_room (Nat.le_of_ble_eq_true rfl)) dL_law_606 ⟨by show n + 1 ≤ 601024; omega, by show k + 6 ≤ 7293034; omega⟩) (fun N hN => ?_)
  refine w_istore (lv' := [(6, .int (Sum.elim (fun _ => (0 : Int32)) mp1 z)), (0, .ref b), (1, .ref x), (2, .ref r), (3, .ref (r + 10)), (4, .ref (r + 11)), (5, .int (Int32.ofNat i))]) hx hb dL_law_609 hl (by decide) rfl (fun ls hl => ?_)
  refine w_aload_n hx hb dL_law_611 rfl (lv_at hl 3 rfl) ?_
  refine w_arg (pc := 612) 1 hx hb hX hbl hbA hL (by omega) rfl (lv_at hl 1 rfl) (lv_at hl 6 rfl) (by decide) dL_law_612 dL_law_613 dL_law_615 dL_law_616 dL_law_617 ?_
  refine w_arg (pc := 618) 2 hx hb hX hbl hbA hL (by omega) rfl (lv_at hl 1 rfl) (lv_at hl 6 rfl) (by decide) dL_law_618 dL_law_619 dL_law_621 dL_law_622 dL_law_623 ?_
  obtain ⟨f3, o1, o2⟩ := pL_at hN e4
  obtain ⟨e8, b0, M2, g1, g2, g3, g4, g5, g6⟩ := e6 N (pL_slk (.inl rfl) hN) ⟨f3, o1⟩ ⟨f2, by rw [pL_ne hN (by omega)]; exact e5⟩
  refine v_call1 (v := .int b0) (M1 := M2) (mc := 0) (ms := 0) (fun H locs hR hS => va_runV (As := [.int (xs (i + 1)), .int (xs (i + 2))]) (rest := []) ⟨hx, hb, hml, hown, hts⟩ (mX10_place l hfl D r (xs (i + 1)) (xs (i + 2)) N (b0, M2) g1) (cwV 2 hts (gdV kl1622 kl1623 kl1624 kw85 kl1625) rfl rfl rfl (by decide +kernel) ⟨Nat.le_of_ble_eq_true rfl, Nat.le_of_ble_eq_true rfl⟩) (v_preV (ci := 11) hSS hR hS e8 (by decide) rfl [.int (xs (i + 1)), .int (xs (i + 2))]) rfl rfl hl.1 rfl (lv_room (Nat.le_of_ble_eq_true rfl)) dL_law_624 ⟨by show n + 1 + 0 ≤ 601024; omega, by show k + 6 + 0 ≤ 7293034; omega⟩) ?_
  refine w_istore (lv' := [(7, .int b0), (6, .int (Sum.elim (fun _ => (0 : Int32)) mp1 z)), (0, .ref b), (1, .ref x), (2, .ref r), (3, .ref (r + 10)), (4, .ref (r + 11)), (5, .int (Int32.ofNat i))]) hx hb dL_law_627 hl (by decide) rfl (fun ls hl => ?_)
  refine w_aload_n hx hb dL_law_629 rfl (lv_at hl 4 rfl) ?_
  have gt0 : tX10_thrown r M2 = some (Sum.elim (fun _ => (0 : Int32)) mp1 z) := by rw [tX10_thrown, g3]; rfl
  refine v_call1 (v := .int (Sum.elim (fun _ => (0 : Int32)) mp1 z)) (M1 := M2) (mc := 0) (ms := 0) (fun H locs hR hS => va_runV (As := []) (rest := []) ⟨hx, hb, hml, hown, hts⟩ (mX10_thrown l hfl D r M2 _ gt0) (cwV 0 hts (gdV kl1403 kl1404 kl1405 kw85 kl1406) rfl rfl rfl (by decide +kernel) ⟨Nat.le_of_ble_eq_true rfl, Nat.le_of_ble_eq_true rfl⟩) (v_preV (ci := 11) hSS hR hS (v_tag g3).1 (by decide) rfl []) rfl rfl hl.1 rfl (lv_room (Nat.le_of_ble_eq_true rfl)) dL_law_630 ⟨by show n + 1 + 0 + 0 ≤ 601024; omega, by show k + 6 + 0 + 0 ≤ 7293034; omega⟩) ?_
  refine w_iload hx hb dL_law_633 (lv_at hl 1 rfl) ?_
  refine w_icmp_eq (tgt := 640) hx hb dL_law_635 (by decide) (fun _ => ?_) (fun c0 => absurd rfl c0)
  refine w_iload hx hb dL_law_640 (lv_at hl 1 rfl) ?_
  refine w_if_ne (tgt := 657) hx hb dL_law_642 (by decide) (fun c0 => ?_) (fun c0 => ?_)
  · rcases z with v | j
    · have eb := g4 v rfl
      subst eb
      have o3 := o2 _ rfl
      have al : aJ M2 (r + 10) 104 0 = some b0.toInt64 := by
        show (if (M2.1 (r + 10)).1 = 104 ∧ ¬ ((0 : Int32) < 0 ∨ (M2.1 (r + 10)).2.1 ≤ (0 : Int32).toNatClampNeg) then some (vJ ((M2.1 (r + 10)).2.2 0)) else none) = _
        rw [g5, o1, if_pos ⟨rfl, z_in⟩]
        show some (vJ (f3 0)) = _
        rw [o3]; rfl
      refine w_aload_n hx hb dL_law_645 rfl (lv_at hl 5 rfl) ?_
      refine w_iconst (v := 0) hx hb dL_law_646 (by decide) ?_
      refine v_lald hx hb hK al dL_law_647 ?_
      refine w_iload hx hb dL_law_648 (lv_at hl 0 rfl) ?_
      refine w_i2l hx hb dL_law_650 ?_
      refine w_lcmp hx hb dL_law_651 ?_
      refine w_if_eq (tgt := 657) hx hb dL_law_652 (by decide) (fun _ => ?_) (fun c1 => absurd (lg_self _) c1)
      refine w_goto (tgt := 2226) hx hb dL_law_657 (by decide) ?_
      refine vV.widen (n' := n + 60) (k' := k + 2100) (by omega) (by omega) ?_
      exact K M2 g2 _ (lv_sub hl [2, 3, 4, 5, 6, 7] rfl)
    · exact absurd c0 (e3 j rfl)
  · refine w_goto (tgt := 2226) hx hb dL_law_657 (by decide) ?_
    refine vV.widen (n' := n + 60) (k' := k + 2100) (by omega) (by omega) ?_
    exact K M2 g2 _ (lv_sub hl [2, 3, 4, 5, 6, 7] rfl)
set_option maxHeartbeats 4000000 in
set_option maxRecDepth 100000 in
/-- stampOf -/
theorem kC_9 {p : Program} {l : Launch} {e : Env} {s : State} {m : MethodId} {below : List Frame} {meth : Method} {c : Code} {Q : State → Prop} {D : vD} {b L : Nat} {xs : Nat → Int32} {x r : Nat} {M0 : Nat → vOb} {M : vMe} {i n k : Nat} {ls : Array Slot} (hfl : l.stackTraces = false) (hx : p.tables.exec = Jvm.exec) (hb : c.code = code) (hml : c.maxLocals = 9) (hown : s.vm.findClass RL = some m.cls) (hts : ∀ w ∈ TB, w.before #[.ref b] s = true) (hSS : vS D s) (hX : va_X b L xs s s.heap) (hbl : b < s.heap.size) (hbA : ¬ vA D b) (S : lS D x M0) (I : lI x r M0 M) (hi : i + 6 ≤ L) (hL : L ≤ 3072) (hn : n + 60 ≤ 601024) (hk : k + 2100 ≤ 7293034)
    (hl : lv_has ls 9 [(0, .ref b), (1, .ref x), (2, .ref r), (3, .ref (r + 10)), (4, .ref (r + 11)), (5, .int (Int32.ofNat i))]) (K : ∀ M2, lI x r M0 M2 → ∀ ls : Array Slot, lv_has ls 9 [(0, .ref b), (1, .ref x), (2, .ref r), (3, .ref (r + 10)), (4, .ref (r + 11)), (5, .int (Int32.ofNat i))] → vV D p l e room_1 s m #[.ref b] below meth c (n + 60) (k + 2100) Q M2 (F0 m 2226 ls [])) : vV D p l e room_1 s m #[.ref b] below meth c n k Q M (F0 m 660 ls []) := by
  refine vV.know (fun H hR => ?_)
  obtain ⟨⟨G, F, a, d, C, u, hz, n', k', hD⟩, i2, i3, i4, i5⟩ := id I
  obtain ⟨z, M1, e1, e2, e3, ⟨f1, e4⟩, ⟨f2, e5⟩, hxr, e7, e6⟩ := lI_go I (O_stampOf hD (xs (i + 1)) (xs (i + 2)))
  have hK := hSS.1
  refine w_aload_n hx hb dL_law_660 rfl (lv_at hl 1 rfl) ?_
  refine w_arg (pc := 661) 1 hx hb hX hbl hbA hL (by omega) rfl (lv_at hl 0 rfl) (lv_at hl 5 rfl) (by decide) dL_law_661 dL_law_662 dL_law_664 dL_law_665 dL_law_666 ?_
  refine w_arg (pc := 667) 2 hx hb hX hbl hbA hL (by omega) rfl (lv_at hl 0 rfl) (lv_at hl 5 rfl) (by decide) dL_law_667 dL_law_668 dL_law_670 dL_law_671 dL_law_672 ?_
  refine w_aload_n hx hb dL_law_673 rfl (lv_at hl 3 rfl) ?_
  refine v_callH (P := pL M1 (r + 10) (Sum.elim (fun v => some (.long v.toInt64)) (fun _ => none) z)) (v := .int (Sum.elim (fun _ => (0 : Int32)) mp1 z)) (mcz := 1) (msz := 6) (fun H locs hR hS => vx_runSW (hh := [(0, 10, 13, 22)]) (As := [.ref x, .int (xs (i + 1)), .int (xs (i + 2)), .ref (r + 10)]) (rest := []) ⟨hx, hb, hml, hown, hts⟩ (mL_stampOf l hfl D x (xs (i + 1)) (xs (i + 2)) (r + 10) M f1 (z, M1) e1 (T_x hD.1.1) e4 (by show M1.2.2.2 ≤ _; rw [e2]; omega) e3) (vx_cwSW 4 hts (gdS kl1047 kl1048 kl76 kl1049) rfl rfl rfl (by decide +kernel) ⟨Nat.le_of_ble_eq_true rfl, Nat.le_of_ble_eq_true rfl⟩) (v_preS hSS hR hS [.ref x, .int (xs (i + 1)), .int (xs (i + 2)), .ref (r + 10)]) rfl rfl hl.1 rfl (lv_room (Nat.le_of_ble_eq_true rfl)) dL_law_674 ⟨by show n + 1 ≤ 601024; omega, by show k + 6 ≤ 7293034; omega⟩) (fun N hN => ?_)
  refine w_istore (lv' := [(6, .int (Sum.elim (fun _ => (0 : Int32)) mp1 z)), (0, .ref b), (1, .ref x), (2, .ref r), (3, .ref (r + 10)), (4, .ref (r + 11)), (5, .int (Int32.ofNat i))]) hx hb dL_law_677 hl (by decide) rfl (fun ls hl => ?_)
  refine w_aload_n hx hb dL_law_679 rfl (lv_at hl 3 rfl) ?_
  refine w_arg (pc := 680) 1 hx hb hX hbl hbA hL (by omega) rfl (lv_at hl 1 rfl) (lv_at hl 6 rfl) (by decide) dL_law_680 dL_law_681 dL_law_683 dL_law_684 dL_law_685 ?_
  refine w_arg (pc := 686) 2 hx hb hX hbl hbA hL (by omega) rfl (lv_at hl 1 rfl) (lv_at hl 6 rfl) (by decide) dL_law_686 dL_law_687 dL_law_689 dL_law_690 dL_law_691 ?_
  obtain ⟨f3, o1, o2⟩ := pL_at hN e4
  obtain ⟨e8, b0, M2, g1, g2, g3, g4, g5, g6⟩ := e6 N (pL_slk (.inl rfl) hN) ⟨f3, o1⟩ ⟨f2, by rw [pL_ne hN (by omega)]; exact e5⟩
  refine v_call1 (v := .int b0) (M1 := M2) (mc := 0) (ms := 0) (fun H locs hR hS => va_runV (As := [.int (xs (i + 1)), .int (xs (i + 2))]) (rest := []) ⟨hx, hb, hml, hown, hts⟩ (mX10_stampOf l hfl D r (xs (i + 1)) (xs (i + 2)) N (b0, M2) g1) (cwV 2 hts (gdV kl1626 kl1627 kl1628 kw85 kl1629) rfl rfl rfl (by decide +kernel) ⟨Nat.le_of_ble_eq_true rfl, Nat.le_of_ble_eq_true rfl⟩) (v_preV (ci := 11) hSS hR hS e8 (by decide) rfl [.int (xs (i + 1)), .int (xs (i + 2))]) rfl rfl hl.1 rfl (lv_room (Nat.le_of_ble_eq_true rfl)) dL_law_692 ⟨by show n + 1 + 0 ≤ 601024; omega, by show k + 6 + 0 ≤ 7293034; omega⟩) ?_
  refine w_istore (lv' := [(7, .int b0), (6, .int (Sum.elim (fun _ => (0 : Int32)) mp1 z)), (0, .ref b), (1, .ref x), (2, .ref r), (3, .ref (r + 10)), (4, .ref (r + 11)), (5, .int (Int32.ofNat i))]) hx hb dL_law_695 hl (by decide) rfl (fun ls hl => ?_)
  refine w_aload_n hx hb dL_law_697 rfl (lv_at hl 4 rfl) ?_
  have gt0 : tX10_thrown r M2 = some (Sum.elim (fun _ => (0 : Int32)) mp1 z) := by rw [tX10_thrown, g3]; rfl
  refine v_call1 (v := .int (Sum.elim (fun _ => (0 : Int32)) mp1 z)) (M1 := M2) (mc := 0) (ms := 0) (fun H locs hR hS => va_runV (As := []) (rest := []) ⟨hx, hb, hml, hown, hts⟩ (mX10_thrown l hfl D r M2 _ gt0) (cwV 0 hts (gdV kl1403 kl1404 kl1405 kw85 kl1406) rfl rfl rfl (by decide +kernel) ⟨Nat.le_of_ble_eq_true rfl, Nat.le_of_ble_eq_true rfl⟩) (v_preV (ci := 11) hSS hR hS (v_tag g3).1 (by decide) rfl []) rfl rfl hl.1 rfl (lv_room (Nat.le_of_ble_eq_true rfl)) dL_law_698 ⟨by show n + 1 + 0 + 0 ≤ 601024; omega, by show k + 6 + 0 + 0 ≤ 7293034; omega⟩) ?_
  refine w_iload hx hb dL_law_701 (lv_at hl 1 rfl) ?_
  refine w_icmp_eq (tgt := 708) hx hb dL_law_703 (by decide) (fun _ => ?_) (fun c0 => absurd rfl c0)
  refine w_iload hx hb dL_law_708 (lv_at hl 1 rfl) ?_
  refine w_if_ne (tgt := 725) hx hb dL_law_710 (by decide) (fun c0 => ?_) (fun c0 => ?_)
  · rcases z with v | j
    · have eb := g4 v rfl
      subst eb
      have o3 := o2 _ rfl
      have al : aJ M2 (r + 10) 104 0 = some b0.toInt64 := by
        show (if (M2.1 (r + 10)).1 = 104 ∧ ¬ ((0 : Int32) < 0 ∨ (M2.1 (r + 10)).2.1 ≤ (0 : Int32).toNatClampNeg) then some (vJ ((M2.1 (r + 10)).2.2 0)) else none) = _
        rw [g5, o1, if_pos ⟨rfl, z_in⟩]
        show some (vJ (f3 0)) = _
        rw [o3]; rfl
      refine w_aload_n hx hb dL_law_713 rfl (lv_at hl 5 rfl) ?_
      refine w_iconst (v := 0) hx hb dL_law_714 (by decide) ?_
      refine v_lald hx hb hK al dL_law_715 ?_
      refine w_iload hx hb dL_law_716 (lv_at hl 0 rfl) ?_
      refine w_i2l hx hb dL_law_718 ?_
      refine w_lcmp hx hb dL_law_719 ?_
      refine w_if_eq (tgt := 725) hx hb dL_law_720 (by decide) (fun _ => ?_) (fun c1 => absurd (lg_self _) c1)
      refine w_goto (tgt := 2226) hx hb dL_law_725 (by decide) ?_
      refine vV.widen (n' := n + 60) (k' := k + 2100) (by omega) (by omega) ?_
      exact K M2 g2 _ (lv_sub hl [2, 3, 4, 5, 6, 7] rfl)
    · exact absurd c0 (e3 j rfl)
  · refine w_goto (tgt := 2226) hx hb dL_law_725 (by decide) ?_
    refine vV.widen (n' := n + 60) (k' := k + 2100) (by omega) (by omega) ?_
    exact K M2 g2 _ (lv_sub hl [2, 3, 4, 5, 6, 7] rfl)
set_option maxHeartbeats 4000000 in
set_option maxRecDepth 100000 in
/-- event -/
theorem kC_10 {p : Program} {l : Launch} {e : Env} {s : State} {m : MethodId} {below : List Frame} {meth : Method} {c : Code} {Q : State → Prop} {D : vD} {b L : Nat} {xs : Nat → Int32} {x r : Nat} {M0 : Nat → vOb} {M : vMe} {i n k : Nat} {ls : Array Slot} (hfl : l.stackTraces = false) (hx : p.tables.exec = Jvm.exec) (hb : c.code = code) (hml : c.maxLocals = 9) (hown : s.vm.findClass RL = some m.cls) (hts : ∀ w ∈ TB, w.before #[.ref b] s = true) (hSS : vS D s) (hX : va_X b L xs s s.heap) (hbl : b < s.heap.size) (hbA : ¬ vA D b) (S : lS D x M0) (I : lI x r M0 M) (hi : i + 6 ≤ L) (hL : L ≤ 3072) (hn : n + 60 ≤ 601024) (hk : k + 2100 ≤ 7293034)
    (hl : lv_has ls 9 [(0, .ref b), (1, .ref x), (2, .ref r), (3, .ref (r + 10)), (4, .ref (r + 11)), (5, .int (Int32.ofNat i))]) (K : ∀ M2, lI x r M0 M2 → ∀ ls : Array Slot, lv_has ls 9 [(0, .ref b), (1, .ref x), (2, .ref r), (3, .ref (r + 10)), (4, .ref (r + 11)), (5, .int (Int32.ofNat i))] → vV D p l e room_1 s m #[.ref b] below meth c (n + 60) (k + 2100) Q M2 (F0 m 2226 ls [])) : vV D p l e room_1 s m #[.ref b] below meth c n k Q M (F0 m 728 ls []) := by
  refine vV.know (fun H hR => ?_)
  obtain ⟨⟨G, F, a, d, C, u, hz, n', k', hD⟩, i2, i3, i4, i5⟩ := id I
  obtain ⟨z, M1, e1, e2, e3, ⟨f1, e4⟩, ⟨f2, e5⟩, hxr, e7, e6⟩ := lI_go I (O_event hD (xs (i + 1)) (xs (i + 2)) (xs (i + 3)))
  have hK := hSS.1
  refine w_aload_n hx hb dL_law_728 rfl (lv_at hl 1 rfl) ?_
  refine w_arg (pc := 729) 1 hx hb hX hbl hbA hL (by omega) rfl (lv_at hl 0 rfl) (lv_at hl 5 rfl) (by decide) dL_law_729 dL_law_730 dL_law_732 dL_law_733 dL_law_734 ?_
  refine w_arg (pc := 735) 2 hx hb hX hbl hbA hL (by omega) rfl (lv_at hl 0 rfl) (lv_at hl 5 rfl) (by decide) dL_law_735 dL_law_736 dL_law_738 dL_law_739 dL_law_740 ?_
  refine w_arg (pc := 741) 3 hx hb hX hbl hbA hL (by omega) rfl (lv_at hl 0 rfl) (lv_at hl 5 rfl) (by decide) dL_law_741 dL_law_742 dL_law_744 dL_law_745 dL_law_746 ?_
  refine w_aload_n hx hb dL_law_747 rfl (lv_at hl 3 rfl) ?_
  refine v_callH (P := pL M1 (r + 10) (Sum.elim (fun v => some (.long v.toInt64)) (fun _ => none) z)) (v := .int (Sum.elim (fun _ => (0 : Int32)) mpA z)) (mcz := 1) (msz := 6) (fun H locs hR hS => vx_runSW (hh := [(0, 12, 15, 22), (0, 12, 19, 13)]) (As := [.ref x, .int (xs (i + 1)), .int (xs (i + 2)), .int (xs (i + 3)), .ref (r + 10)]) (rest := []) ⟨hx, hb, hml, hown, hts⟩ (mL_event l hfl D x (xs (i + 1)) (xs (i + 2)) (xs (i + 3)) (r + 10) M f1 (z, M1) e1 (T_x hD.1.1) e4 (by show M1.2.2.2 ≤ _; rw [e2]; omega) e3) (vx_cwSW 5 hts (gdS kl1055 kl1056 kl76 kl1057) rfl rfl rfl (by decide +kernel) ⟨Nat.le_of_ble_eq_true rfl, Nat.le_of_ble_eq_true rfl⟩) (v_preS hSS hR hS [.ref x, .int (xs (i + 1)), .int (xs (i + 2)), .int (xs (i + 3)), .ref (r + 10)]) rfl rfl hl.1 rfl (lv_room (Nat.le_of_ble_eq_true rfl)) dL_law_748 ⟨by show n + 1 ≤ 601024; omega, by show k + 6 ≤ 7293034; omega⟩) (fun N hN => ?_)
  refine w_istore (lv' := [(6, .int (Sum.elim (fun _ => (0 : Int32)) mpA z)), (0, .ref b), (1, .ref x), (2, .ref r), (3, .ref (r + 10)), (4, .ref (r + 11)), (5, .int (Int32.ofNat i))]) hx hb dL_law_751 hl (by decide) rfl (fun ls hl => ?_)
  refine w_aload_n hx hb dL_law_753 rfl (lv_at hl 3 rfl) ?_
  refine w_arg (pc := 754) 1 hx hb hX hbl hbA hL (by omega) rfl (lv_at hl 1 rfl) (lv_at hl 6 rfl) (by decide) dL_law_754 dL_law_755 dL_law_757 dL_law_758 dL_law_759 ?_
  refine w_arg (pc := 760) 2 hx hb hX hbl hbA hL (by omega) rfl (lv_at hl 1 rfl) (lv_at hl 6 rfl) (by decide) dL_law_760 dL_law_761 dL_law_763 dL_law_764 dL_law_765 ?_
  refine w_arg (pc := 766) 3 hx hb hX hbl hbA hL (by omega) rfl (lv_at hl 1 rfl) (lv_at hl 6 rfl) (by decide) dL_law_766 dL_law_767 dL_law_769 dL_law_770 dL_law_771 ?_
  obtain ⟨f3, o1, o2⟩ := pL_at hN e4
  obtain ⟨e8, b0, M2, g1, g2, g3, g4, g5, g6⟩ := e6 N (pL_slk (.inl rfl) hN) ⟨f3, o1⟩ ⟨f2, by rw [pL_ne hN (by omega)]; exact e5⟩
  refine v_call1 (v := .int b0) (M1 := M2) (mc := 0) (ms := 0) (fun H locs hR hS => va_runV (As := [.int (xs (i + 1)), .int (xs (i + 2)), .int (xs (i + 3))]) (rest := []) ⟨hx, hb, hml, hown, hts⟩ (mX10_event l hfl D r (xs (i + 1)) (xs (i + 2)) (xs (i + 3)) N (b0, M2) g1) (cwV 3 hts (gdV kl1630 kl1631 kl1632 kw85 kl1633) rfl rfl rfl (by decide +kernel) ⟨Nat.le_of_ble_eq_true rfl, Nat.le_of_ble_eq_true rfl⟩) (v_preV (ci := 11) hSS hR hS e8 (by decide) rfl [.int (xs (i + 1)), .int (xs (i + 2)), .int (xs (i + 3))]) rfl rfl hl.1 rfl (lv_room (Nat.le_of_ble_eq_true rfl)) dL_law_772 ⟨by show n + 1 + 0 ≤ 601024; omega, by show k + 6 + 0 ≤ 7293034; omega⟩) ?_
  refine w_istore (lv' := [(7, .int b0), (6, .int (Sum.elim (fun _ => (0 : Int32)) mpA z)), (0, .ref b), (1, .ref x), (2, .ref r), (3, .ref (r + 10)), (4, .ref (r + 11)), (5, .int (Int32.ofNat i))]) hx hb dL_law_775 hl (by decide) rfl (fun ls hl => ?_)
  refine w_aload_n hx hb dL_law_777 rfl (lv_at hl 4 rfl) ?_
  have gt0 : tX10_thrown r M2 = some (Sum.elim (fun _ => (0 : Int32)) mpA z) := by rw [tX10_thrown, g3]; rfl
  refine v_call1 (v := .int (Sum.elim (fun _ => (0 : Int32)) mpA z)) (M1 := M2) (mc := 0) (ms := 0) (fun H locs hR hS => va_runV (As := []) (rest := []) ⟨hx, hb, hml, hown, hts⟩ (mX10_thrown l hfl D r M2 _ gt0) (cwV 0 hts (gdV kl1403 kl1404 kl1405 kw85 kl1406) rfl rfl rfl (by decide +kernel) ⟨Nat.le_of_ble_eq_true rfl, Nat.le_of_ble_eq_true rfl⟩) (v_preV (ci := 11) hSS hR hS (v_tag g3).1 (by decide) rfl []) rfl rfl hl.1 rfl (lv_room (Nat.le_of_ble_eq_true rfl)) dL_law_778 ⟨by show n + 1 + 0 + 0 ≤ 601024; omega, by show k + 6 + 0 + 0 ≤ 7293034; omega⟩) ?_
  refine w_iload hx hb dL_law_781 (lv_at hl 1 rfl) ?_
  refine w_icmp_eq (tgt := 788) hx hb dL_law_783 (by decide) (fun _ => ?_) (fun c0 => absurd rfl c0)
  refine w_iload hx hb dL_law_788 (lv_at hl 1 rfl) ?_
  refine w_if_ne (tgt := 805) hx hb dL_law_790 (by decide) (fun c0 => ?_) (fun c0 => ?_)
  · rcases z with v | j
    · have eb := g4 v rfl
      subst eb
      have o3 := o2 _ rfl
      have al : aJ M2 (r + 10) 104 0 = some b0.toInt64 := by
        show (if (M2.1 (r + 10)).1 = 104 ∧ ¬ ((0 : Int32) < 0 ∨ (M2.1 (r + 10)).2.1 ≤ (0 : Int32).toNatClampNeg) then some (vJ ((M2.1 (r + 10)).2.2 0)) else none) = _
        rw [g5, o1, if_pos ⟨rfl, z_in⟩]
        show some (vJ (f3 0)) = _
        rw [o3]; rfl
      refine w_aload_n hx hb dL_law_793 rfl (lv_at hl 5 rfl) ?_
      refine w_iconst (v := 0) hx hb dL_law_794 (by decide) ?_
      refine v_lald hx hb hK al dL_law_795 ?_
      refine w_iload hx hb dL_law_796 (lv_at hl 0 rfl) ?_
      refine w_i2l hx hb dL_law_798 ?_
      refine w_lcmp hx hb dL_law_799 ?_
      refine w_if_eq (tgt := 805) hx hb dL_law_800 (by decide) (fun _ => ?_) (fun c1 => absurd (lg_self _) c1)
      refine w_goto (tgt := 2226) hx hb dL_law_805 (by decide) ?_
      refine vV.widen (n' := n + 60) (k' := k + 2100) (by omega) (by omega) ?_
      exact K M2 g2 _ (lv_sub hl [2, 3, 4, 5, 6, 7] rfl)
    · exact absurd c0 (e3 j rfl)
  · refine w_goto (tgt := 2226) hx hb dL_law_805 (by decide) ?_
    refine vV.widen (n' := n + 60) (k' := k + 2100) (by omega) (by omega) ?_
    exact K M2 g2 _ (lv_sub hl [2, 3, 4, 5, 6, 7] rfl)
set_option maxHeartbeats 4000000 in
set_option maxRecDepth 100000 in
/-- at -/
theorem kC_11 {p : Program} {l : Launch} {e : Env} {s : State} {m : MethodId} {below : List Frame} {meth : Method} {c : Code} {Q : State → Prop} {D : vD} {b L : Nat} {xs : Nat → Int32} {x r : Nat} {M0 : Nat → vOb} {M : vMe} {i n k : Nat} {ls : Array Slot} (hfl : l.stackTraces = false) (hx : p.tables.exec = Jvm.exec) (hb : c.code = code) (hml : c.maxLocals = 9) (hown : s.vm.findClass RL = some m.cls) (hts : ∀ w ∈ TB, w.before #[.ref b] s = true) (hSS : vS D s) (hX : va_X b L xs s s.heap) (hbl : b < s.heap.size) (hbA : ¬ vA D b) (S : lS D x M0) (I : lI x r M0 M) (hi : i + 6 ≤ L) (hL : L ≤ 3072) (hn : n + 60 ≤ 601024) (hk : k + 2100 ≤ 7293034)
    (hl : lv_has ls 9 [(0, .ref b), (1, .ref x), (2, .ref r), (3, .ref (r + 10)), (4, .ref (r + 11)), (5, .int (Int32.ofNat i))]) (K : ∀ M2, lI x r M0 M2 → ∀ ls : Array Slot, lv_has ls 9 [(0, .ref b), (1, .ref x), (2, .ref r), (3, .ref (r + 10)), (4, .ref (r + 11)), (5, .int (Int32.ofNat i))] → vV D p l e room_1 s m #[.ref b] below meth c (n + 60) (k + 2100) Q M2 (F0 m 2226 ls [])) : vV D p l e room_1 s m #[.ref b] below meth c n k Q M (F0 m 808 ls []) := by
  refine vV.know (fun H hR => ?_)
  obtain ⟨⟨G, F, a, d, C, u, hz, n', k', hD⟩, i2, i3, i4, i5⟩ := id I
  obtain ⟨z, M1, e1, e2, e3, ⟨f1, e4⟩, ⟨f2, e5⟩, hxr, e7, e6⟩ := lI_go I (O_at hD (xs (i + 1)) (xs (i + 2)))
  have hK := hSS.1
  refine w_aload_n hx hb dL_law_808 rfl (lv_at hl 1 rfl) ?_
  refine w_arg (pc := 809) 1 hx hb hX hbl hbA hL (by omega) rfl (lv_at hl 0 rfl) (lv_at hl 5 rfl) (by decide) dL_law_809 dL_law_810 dL_law_812 dL_law_813 dL_law_814 ?_
  refine w_arg (pc := 815) 2 hx hb hX hbl hbA hL (by omega) rfl (lv_at hl 0 rfl) (lv_at hl 5 rfl) (by decide) dL_law_815 dL_law_816 dL_law_818 dL_law_819 dL_law_820 ?_
  refine w_aload_n hx hb dL_law_821 rfl (lv_at hl 3 rfl) ?_
  refine v_callH (P := pL M1 (r + 10) (Sum.elim (fun v => some (.long v)) (fun _ => none) z)) (v := .int (Sum.elim (fun _ => (0 : Int32)) mpA z)) (mcz := 1) (msz := 6) (fun H locs hR hS => vx_runSW (hh := [(0, 9, 12, 22), (0, 9, 16, 13)]) (As := [.ref x, .int (xs (i + 1)), .int (xs (i + 2)), .ref (r + 10)]) (rest := []) ⟨hx, hb, hml, hown, hts⟩ (mL_at l hfl D x (xs (i + 1)) (xs (i + 2)) (r + 10) M f1 (z, M1) e1 (T_x hD.1.1) e4 (by show M1.2.2.2 ≤ _; rw [e2]; omega) e3) (vx_cwSW 4 hts (gdS kl1063 kl1064 kl76 kl1065) rfl rfl rfl (by decide +kernel) ⟨Nat.le_of_ble_eq_true rfl, Nat.le_of_ble_eq_true rfl⟩) (v_preS hSS hR hS [.ref x, .int (xs (i + 1)), .int (xs (i + 2)), .ref (r + 10)]) rfl rfl hl.1 rfl (lv_room (Nat.le_of_ble_eq_true rfl)) dL_law_822 ⟨by show n + 1 ≤ 601024; omega, by show k + 6 ≤ 7293034; omega⟩) (fun N hN => ?_)
  refine w_istore (lv' := [(6, .int (Sum.elim (fun _ => (0 : Int32)) mpA z)), (0, .ref b), (1, .ref x), (2, .ref r), (3, .ref (r + 10)), (4, .ref (r + 11)), (5, .int (Int32.ofNat i))]) hx hb dL_law_825 hl (by decide) rfl (fun ls hl => ?_)
  refine w_aload_n hx hb dL_law_827 rfl (lv_at hl 3 rfl) ?_
  refine w_arg (pc := 828) 1 hx hb hX hbl hbA hL (by omega) rfl (lv_at hl 1 rfl) (lv_at hl 6 rfl) (by decide) dL_law_828 dL_law_829 dL_law_831 dL_law_832 dL_law_833 ?_
  refine w_arg (pc := 834) 2 hx hb hX hbl hbA hL (by omega) rfl (lv_at hl 1 rfl) (lv_at hl 6 rfl) (by decide) dL_law_834 dL_law_835 dL_law_837 dL_law_838 dL_law_839 ?_
  obtain ⟨f3, o1, o2⟩ := pL_at hN e4
  obtain ⟨e8, b0, M2, g1, g2, g3, g4, g5, g6⟩ := e6 N (pL_slk (.inl rfl) hN) ⟨f3, o1⟩ ⟨f2, by rw [pL_ne hN (by omega)]; exact e5⟩
  refine v_call1 (v := .long b0) (M1 := M2) (mc := 0) (ms := 0) (fun H locs hR hS => va_runV (As := [.int (xs (i + 1)), .int (xs (i + 2))]) (rest := []) ⟨hx, hb, hml, hown, hts⟩ (mX10_at l hfl D r (xs (i + 1)) (xs (i + 2)) N (b0, M2) g1) (cwV 2 hts (gdV kl1634 kl1635 kl1636 kw85 kl1637) rfl rfl rfl (by decide +kernel) ⟨Nat.le_of_ble_eq_true rfl, Nat.le_of_ble_eq_true rfl⟩) (v_preV (ci := 11) hSS hR hS e8 (by decide) rfl [.int (xs (i + 1)), .int (xs (i + 2))]) rfl rfl hl.1 rfl (lv_room (Nat.le_of_ble_eq_true rfl)) dL_law_840 ⟨by show n + 1 + 0 ≤ 601024; omega, by show k + 6 + 0 ≤ 7293034; omega⟩) ?_
  refine w_lstore (lv' := [(7, .long b0), (6, .int (Sum.elim (fun _ => (0 : Int32)) mpA z)), (0, .ref b), (1, .ref x), (2, .ref r), (3, .ref (r + 10)), (4, .ref (r + 11)), (5, .int (Int32.ofNat i))]) hx hb dL_law_843 hl (by decide) rfl (fun ls hl => ?_)
  refine w_aload_n hx hb dL_law_845 rfl (lv_at hl 4 rfl) ?_
  have gt0 : tX10_thrown r M2 = some (Sum.elim (fun _ => (0 : Int32)) mpA z) := by rw [tX10_thrown, g3]; rfl
  refine v_call1 (v := .int (Sum.elim (fun _ => (0 : Int32)) mpA z)) (M1 := M2) (mc := 0) (ms := 0) (fun H locs hR hS => va_runV (As := []) (rest := []) ⟨hx, hb, hml, hown, hts⟩ (mX10_thrown l hfl D r M2 _ gt0) (cwV 0 hts (gdV kl1403 kl1404 kl1405 kw85 kl1406) rfl rfl rfl (by decide +kernel) ⟨Nat.le_of_ble_eq_true rfl, Nat.le_of_ble_eq_true rfl⟩) (v_preV (ci := 11) hSS hR hS (v_tag g3).1 (by decide) rfl []) rfl rfl hl.1 rfl (lv_room (Nat.le_of_ble_eq_true rfl)) dL_law_846 ⟨by show n + 1 + 0 + 0 ≤ 601024; omega, by show k + 6 + 0 + 0 ≤ 7293034; omega⟩) ?_
  refine w_iload hx hb dL_law_849 (lv_at hl 1 rfl) ?_
  refine w_icmp_eq (tgt := 856) hx hb dL_law_851 (by decide) (fun _ => ?_) (fun c0 => absurd rfl c0)
  refine w_iload hx hb dL_law_856 (lv_at hl 1 rfl) ?_
  refine w_if_ne (tgt := 872) hx hb dL_law_858 (by decide) (fun c0 => ?_) (fun c0 => ?_)
  · rcases z with v | j
    · have eb := g4 v rfl
      subst eb
      have o3 := o2 _ rfl
      have al : aJ M2 (r + 10) 104 0 = some b0 := by
        show (if (M2.1 (r + 10)).1 = 104 ∧ ¬ ((0 : Int32) < 0 ∨ (M2.1 (r + 10)).2.1 ≤ (0 : Int32).toNatClampNeg) then some (vJ ((M2.1 (r + 10)).2.2 0)) else none) = _
        rw [g5, o1, if_pos ⟨rfl, z_in⟩]
        show some (vJ (f3 0)) = _
        rw [o3]; rfl
      refine w_aload_n hx hb dL_law_861 rfl (lv_at hl 5 rfl) ?_
      refine w_iconst (v := 0) hx hb dL_law_862 (by decide) ?_
      refine v_lald hx hb hK al dL_law_863 ?_
      refine w_lload hx hb dL_law_864 (lv_at hl 0 rfl) ?_
      refine w_lcmp hx hb dL_law_866 ?_
      refine w_if_eq (tgt := 872) hx hb dL_law_867 (by decide) (fun _ => ?_) (fun c1 => absurd (lg_self _) c1)
      refine w_goto (tgt := 2226) hx hb dL_law_872 (by decide) ?_
      refine vV.widen (n' := n + 60) (k' := k + 2100) (by omega) (by omega) ?_
      exact K M2 g2 _ (lv_sub hl [2, 3, 4, 5, 6, 7] rfl)
    · exact absurd c0 (e3 j rfl)
  · refine w_goto (tgt := 2226) hx hb dL_law_872 (by decide) ?_
    refine vV.widen (n' := n + 60) (k' := k + 2100) (by omega) (by omega) ?_
    exact K M2 g2 _ (lv_sub hl [2, 3, 4, 5, 6, 7] rfl)
set_option maxHeartbeats 4000000 in
set_option maxRecDepth 100000 in
/-- differs -/
theorem kC_12 {p : Program} {l : Launch} {e : Env} {s : State} {m : MethodId} {below : List Frame} {meth : Method} {c : Code} {Q : State → Prop} {D : vD} {b L : Nat} {xs : Nat → Int32} {x r : Nat} {M0 : Nat → vOb} {M : vMe} {i n k : Nat} {ls : Array Slot} (hfl : l.stackTraces = false) (hx : p.tables.exec = Jvm.exec) (hb : c.code = code) (hml : c.maxLocals = 9) (hown : s.vm.findClass RL = some m.cls) (hts : ∀ w ∈ TB, w.before #[.ref b] s = true) (hSS : vS D s) (hX : va_X b L xs s s.heap) (hbl : b < s.heap.size) (hbA : ¬ vA D b) (S : lS D x M0) (I : lI x r M0 M) (hi : i + 6 ≤ L) (hL : L ≤ 3072) (hn : n + 60 ≤ 601024) (hk : k + 2100 ≤ 7293034)
    (hl : lv_has ls 9 [(0, .ref b), (1, .ref x), (2, .ref r), (3, .ref (r + 10)), (4, .ref (r + 11)), (5, .int (Int32.ofNat i))]) (K : ∀ M2, lI x r M0 M2 → ∀ ls : Array Slot, lv_has ls 9 [(0, .ref b), (1, .ref x), (2, .ref r), (3, .ref (r + 10)), (4, .ref (r + 11)), (5, .int (Int32.ofNat i))] → vV D p l e room_1 s m #[.ref b] below meth c (n + 60) (k + 2100) Q M2 (F0 m 2226 ls [])) : vV D p l e room_1 s m #[.ref b] below meth c n k Q M (F0 m 875 ls []) := by
  refine vV.know (fun H hR => ?_)
  obtain ⟨⟨G, F, a, d, C, u, hz, n', k', hD⟩, i2, i3, i4, i5⟩ := id I
  obtain ⟨z, M1, e1, e2, e3, ⟨f1, e4⟩, ⟨f2, e5⟩, hxr, e7, e6⟩ := lI_go I (O_differs hD (xs (i + 1)) (xs (i + 2)) (xs (i + 3)) (if xs (i + 4) = 0 then 0 else 1))
  have hK := hSS.1
  refine w_aload_n hx hb dL_law_875 rfl (lv_at hl 1 rfl) ?_
  refine w_arg (pc := 876) 1 hx hb hX hbl hbA hL (by omega) rfl (lv_at hl 0 rfl) (lv_at hl 5 rfl) (by decide) dL_law_876 dL_law_877 dL_law_879 dL_law_880 dL_law_881 ?_
  refine w_arg (pc := 882) 2 hx hb hX hbl hbA hL (by omega) rfl (lv_at hl 0 rfl) (lv_at hl 5 rfl) (by decide) dL_law_882 dL_law_883 dL_law_885 dL_law_886 dL_law_887 ?_
  refine w_arg (pc := 888) 3 hx hb hX hbl hbA hL (by omega) rfl (lv_at hl 0 rfl) (lv_at hl 5 rfl) (by decide) dL_law_888 dL_law_889 dL_law_891 dL_law_892 dL_law_893 ?_
  refine w_arg (pc := 894) 4 hx hb hX hbl hbA hL (by omega) rfl (lv_at hl 0 rfl) (lv_at hl 5 rfl) (by decide) dL_law_894 dL_law_895 dL_law_897 dL_law_898 dL_law_899 ?_
  refine w_bool (pc := 900) hx hb dL_law_900 dL_law_903 dL_law_904 dL_law_907 ?_
  refine w_aload_n hx hb dL_law_908 rfl (lv_at hl 3 rfl) ?_
  refine v_callH (P := pL M1 (r + 10) (Sum.elim (fun v => some (.long v.toInt64)) (fun _ => none) z)) (v := .int (Sum.elim (fun _ => (0 : Int32)) mpA z)) (mcz := 1) (msz := 6) (fun H locs hR hS => vx_runSW (hh := [(0, 14, 17, 22), (0, 14, 21, 13)]) (As := [.ref x, .int (xs (i + 1)), .int (xs (i + 2)), .int (xs (i + 3)), .int (if xs (i + 4) = 0 then 0 else 1), .ref (r + 10)]) (rest := []) ⟨hx, hb, hml, hown, hts⟩ (mL_differs l hfl D x (xs (i + 1)) (xs (i + 2)) (xs (i + 3)) (if xs (i + 4) = 0 then 0 else 1) (r + 10) M f1 (z, M1) e1 (T_x hD.1.1) e4 (by show M1.2.2.2 ≤ _; rw [e2]; omega) e3) (vx_cwSW 6 hts (gdS kl1079 kl1080 kl76 kl1081) rfl rfl rfl (by decide +kernel) ⟨Nat.le_of_ble_eq_true rfl, Nat.le_of_ble_eq_true rfl⟩) (v_preS hSS hR hS [.ref x, .int (xs (i + 1)), .int (xs (i + 2)), .int (xs (i + 3)), .int (if xs (i + 4) = 0 then 0 else 1), .ref (r + 10)]) rfl rfl hl.1 rfl (lv_room (Nat.le_of_ble_eq_true rfl)) dL_law_909 ⟨by show n + 1 ≤ 601024; omega, by show k + 6 ≤ 7293034; omega⟩) (fun N hN => ?_)
  refine w_istore (lv' := [(6, .int (Sum.elim (fun _ => (0 : Int32)) mpA z)), (0, .ref b), (1, .ref x), (2, .ref r), (3, .ref (r + 10)), (4, .ref (r + 11)), (5, .int (Int32.ofNat i))]) hx hb dL_law_912 hl (by decide) rfl (fun ls hl => ?_)
  refine w_aload_n hx hb dL_law_914 rfl (lv_at hl 3 rfl) ?_
  refine w_arg (pc := 915) 1 hx hb hX hbl hbA hL (by omega) rfl (lv_at hl 1 rfl) (lv_at hl 6 rfl) (by decide) dL_law_915 dL_law_916 dL_law_918 dL_law_919 dL_law_920 ?_
  refine w_arg (pc := 921) 2 hx hb hX hbl hbA hL (by omega) rfl (lv_at hl 1 rfl) (lv_at hl 6 rfl) (by decide) dL_law_921 dL_law_922 dL_law_924 dL_law_925 dL_law_926 ?_
  refine w_arg (pc := 927) 3 hx hb hX hbl hbA hL (by omega) rfl (lv_at hl 1 rfl) (lv_at hl 6 rfl) (by decide) dL_law_927 dL_law_928 dL_law_930 dL_law_931 dL_law_932 ?_
  refine w_arg (pc := 933) 4 hx hb hX hbl hbA hL (by omega) rfl (lv_at hl 1 rfl) (lv_at hl 6 rfl) (by decide) dL_law_933 dL_law_934 dL_law_936 dL_law_937 dL_law_938 ?_
  refine w_bool (pc := 939) hx hb dL_law_939 dL_law_942 dL_law_943 dL_law_946 ?_
  obtain ⟨f3, o1, o2⟩ := pL_at hN e4
  obtain ⟨e8, b0, M2, g1, g2, g3, g4, g5, g6⟩ := e6 N (pL_slk (.inl rfl) hN) ⟨f3, o1⟩ ⟨f2, by rw [pL_ne hN (by omega)]; exact e5⟩
  refine v_call1 (v := .int b0) (M1 := M2) (mc := 0) (ms := 0) (fun H locs hR hS => va_runV (As := [.int (xs (i + 1)), .int (xs (i + 2)), .int (xs (i + 3)), .int (if xs (i + 4) = 0 then 0 else 1)]) (rest := []) ⟨hx, hb, hml, hown, hts⟩ (mX10_differs l hfl D r (xs (i + 1)) (xs (i + 2)) (xs (i + 3)) (if xs (i + 4) = 0 then 0 else 1) N (b0, M2) g1) (cwV 4 hts (gdV kl1646 kl1647 kl1648 kw85 kl1649) rfl rfl rfl (by decide +kernel) ⟨Nat.le_of_ble_eq_true rfl, Nat.le_of_ble_eq_true rfl⟩) (v_preV (ci := 11) hSS hR hS e8 (by decide) rfl [.int (xs (i + 1)), .int (xs (i + 2)), .int (xs (i + 3)), .int (if xs (i + 4) = 0 then 0 else 1)]) rfl rfl hl.1 rfl (lv_room (Nat.le_of_ble_eq_true rfl)) dL_law_947 ⟨by show n + 1 + 0 ≤ 601024; omega, by show k + 6 + 0 ≤ 7293034; omega⟩) ?_
  refine w_istore (lv' := [(7, .int b0), (6, .int (Sum.elim (fun _ => (0 : Int32)) mpA z)), (0, .ref b), (1, .ref x), (2, .ref r), (3, .ref (r + 10)), (4, .ref (r + 11)), (5, .int (Int32.ofNat i))]) hx hb dL_law_950 hl (by decide) rfl (fun ls hl => ?_)
  refine w_aload_n hx hb dL_law_952 rfl (lv_at hl 4 rfl) ?_
  have gt0 : tX10_thrown r M2 = some (Sum.elim (fun _ => (0 : Int32)) mpA z) := by rw [tX10_thrown, g3]; rfl
  refine v_call1 (v := .int (Sum.elim (fun _ => (0 : Int32)) mpA z)) (M1 := M2) (mc := 0) (ms := 0) (fun H locs hR hS => va_runV (As := []) (rest := []) ⟨hx, hb, hml, hown, hts⟩ (mX10_thrown l hfl D r M2 _ gt0) (cwV 0 hts (gdV kl1403 kl1404 kl1405 kw85 kl1406) rfl rfl rfl (by decide +kernel) ⟨Nat.le_of_ble_eq_true rfl, Nat.le_of_ble_eq_true rfl⟩) (v_preV (ci := 11) hSS hR hS (v_tag g3).1 (by decide) rfl []) rfl rfl hl.1 rfl (lv_room (Nat.le_of_ble_eq_true rfl)) dL_law_953 ⟨by show n + 1 + 0 + 0 ≤ 601024; omega, by show k + 6 + 0 + 0 ≤ 7293034; omega⟩) ?_
  refine w_iload hx hb dL_law_956 (lv_at hl 1 rfl) ?_
  refine w_icmp_eq (tgt := 963) hx hb dL_law_958 (by decide) (fun _ => ?_) (fun c0 => absurd rfl c0)
  refine w_iload hx hb dL_law_963 (lv_at hl 1 rfl) ?_
  refine w_if_ne (tgt := 980) hx hb dL_law_965 (by decide) (fun c0 => ?_) (fun c0 => ?_)
  · rcases z with v | j
    · have eb := g4 v rfl
      subst eb
      have o3 := o2 _ rfl
      have al : aJ M2 (r + 10) 104 0 = some b0.toInt64 := by
        show (if (M2.1 (r + 10)).1 = 104 ∧ ¬ ((0 : Int32) < 0 ∨ (M2.1 (r + 10)).2.1 ≤ (0 : Int32).toNatClampNeg) then some (vJ ((M2.1 (r + 10)).2.2 0)) else none) = _
        rw [g5, o1, if_pos ⟨rfl, z_in⟩]
        show some (vJ (f3 0)) = _
        rw [o3]; rfl
      refine w_aload_n hx hb dL_law_968 rfl (lv_at hl 5 rfl) ?_
      refine w_iconst (v := 0) hx hb dL_law_969 (by decide) ?_
      refine v_lald hx hb hK al dL_law_970 ?_
      refine w_iload hx hb dL_law_971 (lv_at hl 0 rfl) ?_
      refine w_i2l hx hb dL_law_973 ?_
      refine w_lcmp hx hb dL_law_974 ?_
      refine w_if_eq (tgt := 980) hx hb dL_law_975 (by decide) (fun _ => ?_) (fun c1 => absurd (lg_self _) c1)
      refine w_goto (tgt := 2226) hx hb dL_law_980 (by decide) ?_
      refine vV.widen (n' := n + 60) (k' := k + 2100) (by omega) (by omega) ?_
      exact K M2 g2 _ (lv_sub hl [2, 3, 4, 5, 6, 7] rfl)
    · exact absurd c0 (e3 j rfl)
  · refine w_goto (tgt := 2226) hx hb dL_law_980 (by decide) ?_
    refine vV.widen (n' := n + 60) (k' := k + 2100) (by omega) (by omega) ?_
    exact K M2 g2 _ (lv_sub hl [2, 3, 4, 5, 6, 7] rfl)
set_option maxHeartbeats 4000000 in
set_option maxRecDepth 100000 in
/-- since -/
theorem kC_13 {p : Program} {l : Launch} {e : Env} {s : State} {m : MethodId} {below : List Frame} {meth : Method} {c : Code} {Q : State → Prop} {D : vD} {b L : Nat} {xs : Nat → Int32} {x r : Nat} {M0 : Nat → vOb} {M : vMe} {i n k : Nat} {ls : Array Slot} (hfl : l.stackTraces = false) (hx : p.tables.exec = Jvm.exec) (hb : c.code = code) (hml : c.maxLocals = 9) (hown : s.vm.findClass RL = some m.cls) (hts : ∀ w ∈ TB, w.before #[.ref b] s = true) (hSS : vS D s) (hX : va_X b L xs s s.heap) (hbl : b < s.heap.size) (hbA : ¬ vA D b) (S : lS D x M0) (I : lI x r M0 M) (hi : i + 6 ≤ L) (hL : L ≤ 3072) (hn : n + 60 ≤ 601024) (hk : k + 2100 ≤ 7293034)
    (hl : lv_has ls 9 [(0, .ref b), (1, .ref x), (2, .ref r), (3, .ref (r + 10)), (4, .ref (r + 11)), (5, .int (Int32.ofNat i))]) (K : ∀ M2, lI x r M0 M2 → ∀ ls : Array Slot, lv_has ls 9 [(0, .ref b), (1, .ref x), (2, .ref r), (3, .ref (r + 10)), (4, .ref (r + 11)), (5, .int (Int32.ofNat i))] → vV D p l e room_1 s m #[.ref b] below meth c (n + 60) (k + 2100) Q M2 (F0 m 2226 ls [])) : vV D p l e room_1 s m #[.ref b] below meth c n k Q M (F0 m 983 ls []) := by
  refine vV.know (fun H hR => ?_)
  obtain ⟨⟨G, F, a, d, C, u, hz, n', k', hD⟩, i2, i3, i4, i5⟩ := id I
  obtain ⟨z, M1, e1, e2, e3, ⟨f1, e4⟩, ⟨f2, e5⟩, hxr, e7, e6⟩ := lI_go I (O_since hD (xs (i + 1)) (xs (i + 2)))
  have hK := hSS.1
  refine w_aload_n hx hb dL_law_983 rfl (lv_at hl 1 rfl) ?_
  refine w_arg (pc := 984) 1 hx hb hX hbl hbA hL (by omega) rfl (lv_at hl 0 rfl) (lv_at hl 5 rfl) (by decide) dL_law_984 dL_law_985 dL_law_987 dL_law_988 dL_law_989 ?_
  refine w_arg (pc := 990) 2 hx hb hX hbl hbA hL (by omega) rfl (lv_at hl 0 rfl) (lv_at hl 5 rfl) (by decide) dL_law_990 dL_law_991 dL_law_993 dL_law_994 dL_law_995 ?_
  refine w_aload_n hx hb dL_law_996 rfl (lv_at hl 3 rfl) ?_
  refine v_callH (P := pL M1 (r + 10) (Sum.elim (fun v => some (.long v.toInt64)) (fun _ => none) z)) (v := .int (Sum.elim (fun _ => (0 : Int32)) mpA z)) (mcz := 1) (msz := 6) (fun H locs hR hS => vx_runSW (hh := [(0, 10, 13, 22), (0, 10, 17, 13)]) (As := [.ref x, .int (xs (i + 1)), .int (xs (i + 2)), .ref (r + 10)]) (rest := []) ⟨hx, hb, hml, hown, hts⟩ (mL_since l hfl D x (xs (i + 1)) (xs (i + 2)) (r + 10) M f1 (z, M1) e1 (T_x hD.1.1) e4 (by show M1.2.2.2 ≤ _; rw [e2]; omega) e3) (vx_cwSW 4 hts (gdS kl1093 kl1094 kl76 kl1095) rfl rfl rfl (by decide +kernel) ⟨Nat.le_of_ble_eq_true rfl, Nat.le_of_ble_eq_true rfl⟩) (v_preS hSS hR hS [.ref x, .int (xs (i + 1)), .int (xs (i + 2)), .ref (r + 10)]) rfl rfl hl.1 rfl (lv_room (Nat.le_of_ble_eq_true rfl)) dL_law_997 ⟨by show n + 1 ≤ 601024; omega, by show k + 6 ≤ 7293034; omega⟩) (fun N hN => ?_)
  refine w_istore (lv' := [(6, .int (Sum.elim (fun _ => (0 : Int32)) mpA z)), (0, .ref b), (1, .ref x), (2, .ref r), (3, .ref (r + 10)), (4, .ref (r + 11)), (5, .int (Int32.ofNat i))]) hx hb dL_law_1000 hl (by decide) rfl (fun ls hl => ?_)
  refine w_aload_n hx hb dL_law_1002 rfl (lv_at hl 3 rfl) ?_
  refine w_arg (pc := 1003) 1 hx hb hX hbl hbA hL (by omega) rfl (lv_at hl 1 rfl) (lv_at hl 6 rfl) (by decide) dL_law_1003 dL_law_1004 dL_law_1006 dL_law_1007 dL_law_1008 ?_
  refine w_arg (pc := 1009) 2 hx hb hX hbl hbA hL (by omega) rfl (lv_at hl 1 rfl) (lv_at hl 6 rfl) (by decide) dL_law_1009 dL_law_1010 dL_law_1012 dL_law_1013 dL_law_1014 ?_
  obtain ⟨f3, o1, o2⟩ := pL_at hN e4
  obtain ⟨e8, b0, M2, g1, g2, g3, g4, g5, g6⟩ := e6 N (pL_slk (.inl rfl) hN) ⟨f3, o1⟩ ⟨f2, by rw [pL_ne hN (by omega)]; exact e5⟩
  refine v_call1 (v := .int b0) (M1 := M2) (mc := 0) (ms := 0) (fun H locs hR hS => va_runV (As := [.int (xs (i + 1)), .int (xs (i + 2))]) (rest := []) ⟨hx, hb, hml, hown, hts⟩ (mX10_since l hfl D r (xs (i + 1)) (xs (i + 2)) N (b0, M2) g1) (cwV 2 hts (gdV kl1653 kl1654 kl1655 kw85 kl1656) rfl rfl rfl (by decide +kernel) ⟨Nat.le_of_ble_eq_true rfl, Nat.le_of_ble_eq_true rfl⟩) (v_preV (ci := 11) hSS hR hS e8 (by decide) rfl [.int (xs (i + 1)), .int (xs (i + 2))]) rfl rfl hl.1 rfl (lv_room (Nat.le_of_ble_eq_true rfl)) dL_law_1015 ⟨by show n + 1 + 0 ≤ 601024; omega, by show k + 6 + 0 ≤ 7293034; omega⟩) ?_
  refine w_istore (lv' := [(7, .int b0), (6, .int (Sum.elim (fun _ => (0 : Int32)) mpA z)), (0, .ref b), (1, .ref x), (2, .ref r), (3, .ref (r + 10)), (4, .ref (r + 11)), (5, .int (Int32.ofNat i))]) hx hb dL_law_1018 hl (by decide) rfl (fun ls hl => ?_)
  refine w_aload_n hx hb dL_law_1020 rfl (lv_at hl 4 rfl) ?_
  have gt0 : tX10_thrown r M2 = some (Sum.elim (fun _ => (0 : Int32)) mpA z) := by rw [tX10_thrown, g3]; rfl
  refine v_call1 (v := .int (Sum.elim (fun _ => (0 : Int32)) mpA z)) (M1 := M2) (mc := 0) (ms := 0) (fun H locs hR hS => va_runV (As := []) (rest := []) ⟨hx, hb, hml, hown, hts⟩ (mX10_thrown l hfl D r M2 _ gt0) (cwV 0 hts (gdV kl1403 kl1404 kl1405 kw85 kl1406) rfl rfl rfl (by decide +kernel) ⟨Nat.le_of_ble_eq_true rfl, Nat.le_of_ble_eq_true rfl⟩) (v_preV (ci := 11) hSS hR hS (v_tag g3).1 (by decide) rfl []) rfl rfl hl.1 rfl (lv_room (Nat.le_of_ble_eq_true rfl)) dL_law_1021 ⟨by show n + 1 + 0 + 0 ≤ 601024; omega, by show k + 6 + 0 + 0 ≤ 7293034; omega⟩) ?_
  refine w_iload hx hb dL_law_1024 (lv_at hl 1 rfl) ?_
  refine w_icmp_eq (tgt := 1031) hx hb dL_law_1026 (by decide) (fun _ => ?_) (fun c0 => absurd rfl c0)
  refine w_iload hx hb dL_law_1031 (lv_at hl 1 rfl) ?_
  refine w_if_ne (tgt := 1048) hx hb dL_law_1033 (by decide) (fun c0 => ?_) (fun c0 => ?_)
  · rcases z with v | j
    · have eb := g4 v rfl
      subst eb
      have o3 := o2 _ rfl
      have al : aJ M2 (r + 10) 104 0 = some b0.toInt64 := by
        show (if (M2.1 (r + 10)).1 = 104 ∧ ¬ ((0 : Int32) < 0 ∨ (M2.1 (r + 10)).2.1 ≤ (0 : Int32).toNatClampNeg) then some (vJ ((M2.1 (r + 10)).2.2 0)) else none) = _
        rw [g5, o1, if_pos ⟨rfl, z_in⟩]
        show some (vJ (f3 0)) = _
        rw [o3]; rfl
      refine w_aload_n hx hb dL_law_1036 rfl (lv_at hl 5 rfl) ?_
      refine w_iconst (v := 0) hx hb dL_law_1037 (by decide) ?_
      refine v_lald hx hb hK al dL_law_1038 ?_
      refine w_iload hx hb dL_law_1039 (lv_at hl 0 rfl) ?_
      refine w_i2l hx hb dL_law_1041 ?_
      refine w_lcmp hx hb dL_law_1042 ?_
      refine w_if_eq (tgt := 1048) hx hb dL_law_1043 (by decide) (fun _ => ?_) (fun c1 => absurd (lg_self _) c1)
      refine w_goto (tgt := 2226) hx hb dL_law_1048 (by decide) ?_
      refine vV.widen (n' := n + 60) (k' := k + 2100) (by omega) (by omega) ?_
      exact K M2 g2 _ (lv_sub hl [2, 3, 4, 5, 6, 7] rfl)
    · exact absurd c0 (e3 j rfl)
  · refine w_goto (tgt := 2226) hx hb dL_law_1048 (by decide) ?_
    refine vV.widen (n' := n + 60) (k' := k + 2100) (by omega) (by omega) ?_
    exact K M2 g2 _ (lv_sub hl [2, 3, 4, 5, 6, 7] rfl)
set_option maxHeartbeats 4000000 in
set_option maxRecDepth 100000 in
/-- fullest -/
theorem kC_14 {p : Program} {l : Launch} {e : Env} {s : State} {m : MethodId} {below : List Frame} {meth : Method} {c : Code} {Q : State → Prop} {D : vD} {b L : Nat} {xs : Nat → Int32} {x r : Nat} {M0 : Nat → vOb} {M : vMe} {i n k : Nat} {ls : Array Slot} (hfl : l.stackTraces = false) (hx : p.tables.exec = Jvm.exec) (hb : c.code = code) (hml : c.maxLocals = 9) (hown : s.vm.findClass RL = some m.cls) (hts : ∀ w ∈ TB, w.before #[.ref b] s = true) (hSS : vS D s) (hX : va_X b L xs s s.heap) (hbl : b < s.heap.size) (hbA : ¬ vA D b) (S : lS D x M0) (I : lI x r M0 M) (hi : i + 6 ≤ L) (hL : L ≤ 3072) (hn : n + 60 ≤ 601024) (hk : k + 2100 ≤ 7293034)
    (hl : lv_has ls 9 [(0, .ref b), (1, .ref x), (2, .ref r), (3, .ref (r + 10)), (4, .ref (r + 11)), (5, .int (Int32.ofNat i))]) (K : ∀ M2, lI x r M0 M2 → ∀ ls : Array Slot, lv_has ls 9 [(0, .ref b), (1, .ref x), (2, .ref r), (3, .ref (r + 10)), (4, .ref (r + 11)), (5, .int (Int32.ofNat i))] → vV D p l e room_1 s m #[.ref b] below meth c (n + 60) (k + 2100) Q M2 (F0 m 2226 ls [])) : vV D p l e room_1 s m #[.ref b] below meth c n k Q M (F0 m 1051 ls []) := by
  refine vV.know (fun H hR => ?_)
  obtain ⟨⟨G, F, a, d, C, u, hz, n', k', hD⟩, i2, i3, i4, i5⟩ := id I
  obtain ⟨z, M1, e1, e2, e3, ⟨f1, e4⟩, ⟨f2, e5⟩, hxr, e7, e6⟩ := lI_go I (O_fullest hD (xs (i + 1)))
  have hK := hSS.1
  refine w_aload_n hx hb dL_law_1051 rfl (lv_at hl 1 rfl) ?_
  refine w_arg (pc := 1052) 1 hx hb hX hbl hbA hL (by omega) rfl (lv_at hl 0 rfl) (lv_at hl 5 rfl) (by decide) dL_law_1052 dL_law_1053 dL_law_1055 dL_law_1056 dL_law_1057 ?_
  refine w_aload_n hx hb dL_law_1058 rfl (lv_at hl 3 rfl) ?_
  refine v_callH (P := pL M1 (r + 10) (Sum.elim (fun v => some (.long v.toInt64)) (fun _ => none) z)) (v := .int (Sum.elim (fun _ => (0 : Int32)) mp1 z)) (mcz := 1) (msz := 6) (fun H locs hR hS => vx_runSW (hh := [(0, 9, 12, 22)]) (As := [.ref x, .int (xs (i + 1)), .ref (r + 10)]) (rest := []) ⟨hx, hb, hml, hown, hts⟩ (mL_fullest l hfl D x (xs (i + 1)) (r + 10) M f1 (z, M1) e1 (T_x hD.1.1) e4 (by show M1.2.2.2 ≤ _; rw [e2]; omega) e3) (vx_cwSW 3 hts (gdS kl1109 kl1110 kl76 kl1111) rfl rfl rfl (by decide +kernel) ⟨Nat.le_of_ble_eq_true rfl, Nat.le_of_ble_eq_true rfl⟩) (v_preS hSS hR hS [.ref x, .int (xs (i + 1)), .ref (r + 10)]) rfl rfl hl.1 rfl (lv_room (Nat.le_of_ble_eq_true rfl)) dL_law_1059 ⟨by show n + 1 ≤ 601024; omega, by show k + 6 ≤ 7293034; omega⟩) (fun N hN => ?_)
  refine w_istore (lv' := [(6, .int (Sum.elim (fun _ => (0 : Int32)) mp1 z)), (0, .ref b), (1, .ref x), (2, .ref r), (3, .ref (r + 10)), (4, .ref (r + 11)), (5, .int (Int32.ofNat i))]) hx hb dL_law_1062 hl (by decide) rfl (fun ls hl => ?_)
  refine w_aload_n hx hb dL_law_1064 rfl (lv_at hl 3 rfl) ?_
  refine w_arg (pc := 1065) 1 hx hb hX hbl hbA hL (by omega) rfl (lv_at hl 1 rfl) (lv_at hl 6 rfl) (by decide) dL_law_1065 dL_law_1066 dL_law_1068 dL_law_1069 dL_law_1070 ?_
  obtain ⟨f3, o1, o2⟩ := pL_at hN e4
  obtain ⟨e8, b0, M2, g1, g2, g3, g4, g5, g6⟩ := e6 N (pL_slk (.inl rfl) hN) ⟨f3, o1⟩ ⟨f2, by rw [pL_ne hN (by omega)]; exact e5⟩
  refine v_call1 (v := .int b0) (M1 := M2) (mc := 0) (ms := 0) (fun H locs hR hS => va_runV (As := [.int (xs (i + 1))]) (rest := []) ⟨hx, hb, hml, hown, hts⟩ (mX10_fullest l hfl D r (xs (i + 1)) N (b0, M2) g1) (cwV 1 hts (gdV kl1657 kl1658 kl1659 kw85 kl1660) rfl rfl rfl (by decide +kernel) ⟨Nat.le_of_ble_eq_true rfl, Nat.le_of_ble_eq_true rfl⟩) (v_preV (ci := 11) hSS hR hS e8 (by decide) rfl [.int (xs (i + 1))]) rfl rfl hl.1 rfl (lv_room (Nat.le_of_ble_eq_true rfl)) dL_law_1071 ⟨by show n + 1 + 0 ≤ 601024; omega, by show k + 6 + 0 ≤ 7293034; omega⟩) ?_
  refine w_istore (lv' := [(7, .int b0), (6, .int (Sum.elim (fun _ => (0 : Int32)) mp1 z)), (0, .ref b), (1, .ref x), (2, .ref r), (3, .ref (r + 10)), (4, .ref (r + 11)), (5, .int (Int32.ofNat i))]) hx hb dL_law_1074 hl (by decide) rfl (fun ls hl => ?_)
  refine w_aload_n hx hb dL_law_1076 rfl (lv_at hl 4 rfl) ?_
  have gt0 : tX10_thrown r M2 = some (Sum.elim (fun _ => (0 : Int32)) mp1 z) := by rw [tX10_thrown, g3]; rfl
  refine v_call1 (v := .int (Sum.elim (fun _ => (0 : Int32)) mp1 z)) (M1 := M2) (mc := 0) (ms := 0) (fun H locs hR hS => va_runV (As := []) (rest := []) ⟨hx, hb, hml, hown, hts⟩ (mX10_thrown l hfl D r M2 _ gt0) (cwV 0 hts (gdV kl1403 kl1404 kl1405 kw85 kl1406) rfl rfl rfl (by decide +kernel) ⟨Nat.le_of_ble_eq_true rfl, Nat.le_of_ble_eq_true rfl⟩) (v_preV (ci := 11) hSS hR hS (v_tag g3).1 (by decide) rfl []) rfl rfl hl.1 rfl (lv_room (Nat.le_of_ble_eq_true rfl)) dL_law_1077 ⟨by show n + 1 + 0 + 0 ≤ 601024; omega, by show k + 6 + 0 + 0 ≤ 7293034; omega⟩) ?_
  refine w_iload hx hb dL_law_1080 (lv_at hl 1 rfl) ?_
  refine w_icmp_eq (tgt := 1087) hx hb dL_law_1082 (by decide) (fun _ => ?_) (fun c0 => absurd rfl c0)
  refine w_iload hx hb dL_law_1087 (lv_at hl 1 rfl) ?_
  refine w_if_ne (tgt := 1104) hx hb dL_law_1089 (by decide) (fun c0 => ?_) (fun c0 => ?_)
  · rcases z with v | j
    · have eb := g4 v rfl
      subst eb
      have o3 := o2 _ rfl
      have al : aJ M2 (r + 10) 104 0 = some b0.toInt64 := by
        show (if (M2.1 (r + 10)).1 = 104 ∧ ¬ ((0 : Int32) < 0 ∨ (M2.1 (r + 10)).2.1 ≤ (0 : Int32).toNatClampNeg) then some (vJ ((M2.1 (r + 10)).2.2 0)) else none) = _
        rw [g5, o1, if_pos ⟨rfl, z_in⟩]
        show some (vJ (f3 0)) = _
        rw [o3]; rfl
      refine w_aload_n hx hb dL_law_1092 rfl (lv_at hl 5 rfl) ?_
      refine w_iconst (v := 0) hx hb dL_law_1093 (by decide) ?_
      refine v_lald hx hb hK al dL_law_1094 ?_
      refine w_iload hx hb dL_law_1095 (lv_at hl 0 rfl) ?_
      refine w_i2l hx hb dL_law_1097 ?_
      refine w_lcmp hx hb dL_law_1098 ?_
      refine w_if_eq (tgt := 1104) hx hb dL_law_1099 (by decide) (fun _ => ?_) (fun c1 => absurd (lg_self _) c1)
      refine w_goto (tgt := 2226) hx hb dL_law_1104 (by decide) ?_
      refine vV.widen (n' := n + 60) (k' := k + 2100) (by omega) (by omega) ?_
      exact K M2 g2 _ (lv_sub hl [2, 3, 4, 5, 6, 7] rfl)
    · exact absurd c0 (e3 j rfl)
  · refine w_goto (tgt := 2226) hx hb dL_law_1104 (by decide) ?_
    refine vV.widen (n' := n + 60) (k' := k + 2100) (by omega) (by omega) ?_
    exact K M2 g2 _ (lv_sub hl [2, 3, 4, 5, 6, 7] rfl)
set_option maxHeartbeats 4000000 in
set_option maxRecDepth 100000 in
/-- cursor -/
theorem kC_15 {p : Program} {l : Launch} {e : Env} {s : State} {m : MethodId} {below : List Frame} {meth : Method} {c : Code} {Q : State → Prop} {D : vD} {b L : Nat} {xs : Nat → Int32} {x r : Nat} {M0 : Nat → vOb} {M : vMe} {i n k : Nat} {ls : Array Slot} (hfl : l.stackTraces = false) (hx : p.tables.exec = Jvm.exec) (hb : c.code = code) (hml : c.maxLocals = 9) (hown : s.vm.findClass RL = some m.cls) (hts : ∀ w ∈ TB, w.before #[.ref b] s = true) (hSS : vS D s) (hX : va_X b L xs s s.heap) (hbl : b < s.heap.size) (hbA : ¬ vA D b) (S : lS D x M0) (I : lI x r M0 M) (hi : i + 6 ≤ L) (hL : L ≤ 3072) (hn : n + 60 ≤ 601024) (hk : k + 2100 ≤ 7293034)
    (hl : lv_has ls 9 [(0, .ref b), (1, .ref x), (2, .ref r), (3, .ref (r + 10)), (4, .ref (r + 11)), (5, .int (Int32.ofNat i))]) (K : ∀ M2, lI x r M0 M2 → ∀ ls : Array Slot, lv_has ls 9 [(0, .ref b), (1, .ref x), (2, .ref r), (3, .ref (r + 10)), (4, .ref (r + 11)), (5, .int (Int32.ofNat i))] → vV D p l e room_1 s m #[.ref b] below meth c (n + 60) (k + 2100) Q M2 (F0 m 2226 ls [])) : vV D p l e room_1 s m #[.ref b] below meth c n k Q M (F0 m 1107 ls []) := by
  refine vV.know (fun H hR => ?_)
  obtain ⟨⟨G, F, a, d, C, u, hz, n', k', hD⟩, i2, i3, i4, i5⟩ := id I
  obtain ⟨z, M1, e1, e2, e3, ⟨f1, e4⟩, ⟨f2, e5⟩, hxr, e7, e6⟩ := lI_go I (O_cursor hD (xs (i + 1)) (xs (i + 2)))
  have hK := hSS.1
  refine w_aload_n hx hb dL_law_1107 rfl (lv_at hl 1 rfl) ?_
  refine w_arg (pc := 1108) 1 hx hb hX hbl hbA hL (by omega) rfl (lv_at hl 0 rfl) (lv_at hl 5 rfl) (by decide) dL_law_1108 dL_law_1109 dL_law_1111 dL_law_1112 dL_law_1113 ?_
  refine w_arg (pc := 1114) 2 hx hb hX hbl hbA hL (by omega) rfl (lv_at hl 0 rfl) (lv_at hl 5 rfl) (by decide) dL_law_1114 dL_law_1115 dL_law_1117 dL_law_1118 dL_law_1119 ?_
  refine w_aload_n hx hb dL_law_1120 rfl (lv_at hl 3 rfl) ?_
  refine v_callH (P := pL M1 (r + 10) (Sum.elim (fun v => some (.long v.toInt64)) (fun _ => none) z)) (v := .int (Sum.elim (fun _ => (0 : Int32)) mpA z)) (mcz := 1) (msz := 6) (fun H locs hR hS => vx_runSW (hh := [(0, 10, 13, 22), (0, 10, 17, 13)]) (As := [.ref x, .int (xs (i + 1)), .int (xs (i + 2)), .ref (r + 10)]) (rest := []) ⟨hx, hb, hml, hown, hts⟩ (mL_cursor l hfl D x (xs (i + 1)) (xs (i + 2)) (r + 10) M f1 (z, M1) e1 (T_x hD.1.1) e4 (by show M1.2.2.2 ≤ _; rw [e2]; omega) e3) (vx_cwSW 4 hts (gdS kl1121 kl1122 kl76 kl1123) rfl rfl rfl (by decide +kernel) ⟨Nat.le_of_ble_eq_true rfl, Nat.le_of_ble_eq_true rfl⟩) (v_preS hSS hR hS [.ref x, .int (xs (i + 1)), .int (xs (i + 2)), .ref (r + 10)]) rfl rfl hl.1 rfl (lv_room (Nat.le_of_ble_eq_true rfl)) dL_law_1121 ⟨by show n + 1 ≤ 601024; omega, by show k + 6 ≤ 7293034; omega⟩) (fun N hN => ?_)
  refine w_istore (lv' := [(6, .int (Sum.elim (fun _ => (0 : Int32)) mpA z)), (0, .ref b), (1, .ref x), (2, .ref r), (3, .ref (r + 10)), (4, .ref (r + 11)), (5, .int (Int32.ofNat i))]) hx hb dL_law_1124 hl (by decide) rfl (fun ls hl => ?_)
  refine w_aload_n hx hb dL_law_1126 rfl (lv_at hl 3 rfl) ?_
  refine w_arg (pc := 1127) 1 hx hb hX hbl hbA hL (by omega) rfl (lv_at hl 1 rfl) (lv_at hl 6 rfl) (by decide) dL_law_1127 dL_law_1128 dL_law_1130 dL_law_1131 dL_law_1132 ?_
  refine w_arg (pc := 1133) 2 hx hb hX hbl hbA hL (by omega) rfl (lv_at hl 1 rfl) (lv_at hl 6 rfl) (by decide) dL_law_1133 dL_law_1134 dL_law_1136 dL_law_1137 dL_law_1138 ?_
  obtain ⟨f3, o1, o2⟩ := pL_at hN e4
  obtain ⟨e8, b0, M2, g1, g2, g3, g4, g5, g6⟩ := e6 N (pL_slk (.inl rfl) hN) ⟨f3, o1⟩ ⟨f2, by rw [pL_ne hN (by omega)]; exact e5⟩
  refine v_call1 (v := .int b0) (M1 := M2) (mc := 0) (ms := 0) (fun H locs hR hS => va_runV (As := [.int (xs (i + 1)), .int (xs (i + 2))]) (rest := []) ⟨hx, hb, hml, hown, hts⟩ (mX10_cursor l hfl D r (xs (i + 1)) (xs (i + 2)) N (b0, M2) g1) (cwV 2 hts (gdV kl1661 kl1662 kl1663 kw85 kl1664) rfl rfl rfl (by decide +kernel) ⟨Nat.le_of_ble_eq_true rfl, Nat.le_of_ble_eq_true rfl⟩) (v_preV (ci := 11) hSS hR hS e8 (by decide) rfl [.int (xs (i + 1)), .int (xs (i + 2))]) rfl rfl hl.1 rfl (lv_room (Nat.le_of_ble_eq_true rfl)) dL_law_1139 ⟨by show n + 1 + 0 ≤ 601024; omega, by show k + 6 + 0 ≤ 7293034; omega⟩) ?_
  refine w_istore (lv' := [(7, .int b0), (6, .int (Sum.elim (fun _ => (0 : Int32)) mpA z)), (0, .ref b), (1, .ref x), (2, .ref r), (3, .ref (r + 10)), (4, .ref (r + 11)), (5, .int (Int32.ofNat i))]) hx hb dL_law_1142 hl (by decide) rfl (fun ls hl => ?_)
  refine w_aload_n hx hb dL_law_1144 rfl (lv_at hl 4 rfl) ?_
  have gt0 : tX10_thrown r M2 = some (Sum.elim (fun _ => (0 : Int32)) mpA z) := by rw [tX10_thrown, g3]; rfl
  refine v_call1 (v := .int (Sum.elim (fun _ => (0 : Int32)) mpA z)) (M1 := M2) (mc := 0) (ms := 0) (fun H locs hR hS => va_runV (As := []) (rest := []) ⟨hx, hb, hml, hown, hts⟩ (mX10_thrown l hfl D r M2 _ gt0) (cwV 0 hts (gdV kl1403 kl1404 kl1405 kw85 kl1406) rfl rfl rfl (by decide +kernel) ⟨Nat.le_of_ble_eq_true rfl, Nat.le_of_ble_eq_true rfl⟩) (v_preV (ci := 11) hSS hR hS (v_tag g3).1 (by decide) rfl []) rfl rfl hl.1 rfl (lv_room (Nat.le_of_ble_eq_true rfl)) dL_law_1145 ⟨by show n + 1 + 0 + 0 ≤ 601024; omega, by show k + 6 + 0 + 0 ≤ 7293034; omega⟩) ?_
  refine w_iload hx hb dL_law_1148 (lv_at hl 1 rfl) ?_
  refine w_icmp_eq (tgt := 1155) hx hb dL_law_1150 (by decide) (fun _ => ?_) (fun c0 => absurd rfl c0)
  refine w_iload hx hb dL_law_1155 (lv_at hl 1 rfl) ?_
  refine w_if_ne (tgt := 1172) hx hb dL_law_1157 (by decide) (fun c0 => ?_) (fun c0 => ?_)
  · rcases z with v | j
    · have eb := g4 v rfl
      subst eb
      have o3 := o2 _ rfl
      have al : aJ M2 (r + 10) 104 0 = some b0.toInt64 := by
        show (if (M2.1 (r + 10)).1 = 104 ∧ ¬ ((0 : Int32) < 0 ∨ (M2.1 (r + 10)).2.1 ≤ (0 : Int32).toNatClampNeg) then some (vJ ((M2.1 (r + 10)).2.2 0)) else none) = _
        rw [g5, o1, if_pos ⟨rfl, z_in⟩]
        show some (vJ (f3 0)) = _
        rw [o3]; rfl
      refine w_aload_n hx hb dL_law_1160 rfl (lv_at hl 5 rfl) ?_
      refine w_iconst (v := 0) hx hb dL_law_1161 (by decide) ?_
      refine v_lald hx hb hK al dL_law_1162 ?_
      refine w_iload hx hb dL_law_1163 (lv_at hl 0 rfl) ?_
      refine w_i2l hx hb dL_law_1165 ?_
      refine w_lcmp hx hb dL_law_1166 ?_
      refine w_if_eq (tgt := 1172) hx hb dL_law_1167 (by decide) (fun _ => ?_) (fun c1 => absurd (lg_self _) c1)
      refine w_goto (tgt := 2226) hx hb dL_law_1172 (by decide) ?_
      refine vV.widen (n' := n + 60) (k' := k + 2100) (by omega) (by omega) ?_
      exact K M2 g2 _ (lv_sub hl [2, 3, 4, 5, 6, 7] rfl)
    · exact absurd c0 (e3 j rfl)
  · refine w_goto (tgt := 2226) hx hb dL_law_1172 (by decide) ?_
    refine vV.widen (n' := n + 60) (k' := k + 2100) (by omega) (by omega) ?_
    exact K M2 g2 _ (lv_sub hl [2, 3, 4, 5, 6, 7] rfl)
set_option maxHeartbeats 4000000 in
set_option maxRecDepth 100000 in
/-- ahead -/
theorem kC_16 {p : Program} {l : Launch} {e : Env} {s : State} {m : MethodId} {below : List Frame} {meth : Method} {c : Code} {Q : State → Prop} {D : vD} {b L : Nat} {xs : Nat → Int32} {x r : Nat} {M0 : Nat → vOb} {M : vMe} {i n k : Nat} {ls : Array Slot} (hfl : l.stackTraces = false) (hx : p.tables.exec = Jvm.exec) (hb : c.code = code) (hml : c.maxLocals = 9) (hown : s.vm.findClass RL = some m.cls) (hts : ∀ w ∈ TB, w.before #[.ref b] s = true) (hSS : vS D s) (hX : va_X b L xs s s.heap) (hbl : b < s.heap.size) (hbA : ¬ vA D b) (S : lS D x M0) (I : lI x r M0 M) (hi : i + 6 ≤ L) (hL : L ≤ 3072) (hn : n + 60 ≤ 601024) (hk : k + 2100 ≤ 7293034)
    (hl : lv_has ls 9 [(0, .ref b), (1, .ref x), (2, .ref r), (3, .ref (r + 10)), (4, .ref (r + 11)), (5, .int (Int32.ofNat i))]) (K : ∀ M2, lI x r M0 M2 → ∀ ls : Array Slot, lv_has ls 9 [(0, .ref b), (1, .ref x), (2, .ref r), (3, .ref (r + 10)), (4, .ref (r + 11)), (5, .int (Int32.ofNat i))] → vV D p l e room_1 s m #[.ref b] below meth c (n + 60) (k + 2100) Q M2 (F0 m 2226 ls [])) : vV D p l e room_1 s m #[.ref b] below meth c n k Q M (F0 m 1175 ls []) := by
  refine vV.know (fun H hR => ?_)
  obtain ⟨⟨G, F, a, d, C, u, hz, n', k', hD⟩, i2, i3, i4, i5⟩ := id I
  obtain ⟨z, M1, e1, e2, e3, ⟨f1, e4⟩, ⟨f2, e5⟩, hxr, e7, e6⟩ := lI_go I (O_ahead hD (xs (i + 1)))
  have hK := hSS.1
  refine w_aload_n hx hb dL_law_1175 rfl (lv_at hl 1 rfl) ?_
  refine w_arg (pc := 1176) 1 hx hb hX hbl hbA hL (by omega) rfl (lv_at hl 0 rfl) (lv_at hl 5 rfl) (by decide) dL_law_1176 dL_law_1177 dL_law_1179 dL_law_1180 dL_law_1181 ?_
  refine w_aload_n hx hb dL_law_1182 rfl (lv_at hl 3 rfl) ?_
  refine v_callH (P := pL M1 (r + 10) (Sum.elim (fun v => some (.long v.toInt64)) (fun _ => none) z)) (v := .int (Sum.elim (fun _ => (0 : Int32)) mp1 z)) (mcz := 1) (msz := 6) (fun H locs hR hS => vx_runSW (hh := [(0, 9, 12, 22)]) (As := [.ref x, .int (xs (i + 1)), .ref (r + 10)]) (rest := []) ⟨hx, hb, hml, hown, hts⟩ (mL_ahead l hfl D x (xs (i + 1)) (r + 10) M f1 (z, M1) e1 (T_x hD.1.1) e4 (by show M1.2.2.2 ≤ _; rw [e2]; omega) e3) (vx_cwSW 3 hts (gdS kl1133 kl1134 kl76 kl1135) rfl rfl rfl (by decide +kernel) ⟨Nat.le_of_ble_eq_true rfl, Nat.le_of_ble_eq_true rfl⟩) (v_preS hSS hR hS [.ref x, .int (xs (i + 1)), .ref (r + 10)]) rfl rfl hl.1 rfl (lv_room (Nat.le_of_ble_eq_true rfl)) dL_law_1183 ⟨by show n + 1 ≤ 601024; omega, by show k + 6 ≤ 7293034; omega⟩) (fun N hN => ?_)
  refine w_istore (lv' := [(6, .int (Sum.elim (fun _ => (0 : Int32)) mp1 z)), (0, .ref b), (1, .ref x), (2, .ref r), (3, .ref (r + 10)), (4, .ref (r + 11)), (5, .int (Int32.ofNat i))]) hx hb dL_law_1186 hl (by decide) rfl (fun ls hl => ?_)
  refine w_aload_n hx hb dL_law_1188 rfl (lv_at hl 3 rfl) ?_
  refine w_arg (pc := 1189) 1 hx hb hX hbl hbA hL (by omega) rfl (lv_at hl 1 rfl) (lv_at hl 6 rfl) (by decide) dL_law_1189 dL_law_1190 dL_law_1192 dL_law_1193 dL_law_1194 ?_
  obtain ⟨f3, o1, o2⟩ := pL_at hN e4
  obtain ⟨e8, b0, M2, g1, g2, g3, g4, g5, g6⟩ := e6 N (pL_slk (.inl rfl) hN) ⟨f3, o1⟩ ⟨f2, by rw [pL_ne hN (by omega)]; exact e5⟩
  refine v_call1 (v := .int b0) (M1 := M2) (mc := 0) (ms := 0) (fun H locs hR hS => va_runV (As := [.int (xs (i + 1))]) (rest := []) ⟨hx, hb, hml, hown, hts⟩ (mX10_ahead l hfl D r (xs (i + 1)) N (b0, M2) g1) (cwV 1 hts (gdV kl1669 kl1670 kl1671 kw85 kl1672) rfl rfl rfl (by decide +kernel) ⟨Nat.le_of_ble_eq_true rfl, Nat.le_of_ble_eq_true rfl⟩) (v_preV (ci := 11) hSS hR hS e8 (by decide) rfl [.int (xs (i + 1))]) rfl rfl hl.1 rfl (lv_room (Nat.le_of_ble_eq_true rfl)) dL_law_1195 ⟨by show n + 1 + 0 ≤ 601024; omega, by show k + 6 + 0 ≤ 7293034; omega⟩) ?_
  refine w_istore (lv' := [(7, .int b0), (6, .int (Sum.elim (fun _ => (0 : Int32)) mp1 z)), (0, .ref b), (1, .ref x), (2, .ref r), (3, .ref (r + 10)), (4, .ref (r + 11)), (5, .int (Int32.ofNat i))]) hx hb dL_law_1198 hl (by decide) rfl (fun ls hl => ?_)
  refine w_aload_n hx hb dL_law_1200 rfl (lv_at hl 4 rfl) ?_
  have gt0 : tX10_thrown r M2 = some (Sum.elim (fun _ => (0 : Int32)) mp1 z) := by rw [tX10_thrown, g3]; rfl
  refine v_call1 (v := .int (Sum.elim (fun _ => (0 : Int32)) mp1 z)) (M1 := M2) (mc := 0) (ms := 0) (fun H locs hR hS => va_runV (As := []) (rest := []) ⟨hx, hb, hml, hown, hts⟩ (mX10_thrown l hfl D r M2 _ gt0) (cwV 0 hts (gdV kl1403 kl1404 kl1405 kw85 kl1406) rfl rfl rfl (by decide +kernel) ⟨Nat.le_of_ble_eq_true rfl, Nat.le_of_ble_eq_true rfl⟩) (v_preV (ci := 11) hSS hR hS (v_tag g3).1 (by decide) rfl []) rfl rfl hl.1 rfl (lv_room (Nat.le_of_ble_eq_true rfl)) dL_law_1201 ⟨by show n + 1 + 0 + 0 ≤ 601024; omega, by show k + 6 + 0 + 0 ≤ 7293034; omega⟩) ?_
  refine w_iload hx hb dL_law_1204 (lv_at hl 1 rfl) ?_
  refine w_icmp_eq (tgt := 1211) hx hb dL_law_1206 (by decide) (fun _ => ?_) (fun c0 => absurd rfl c0)
  refine w_iload hx hb dL_law_1211 (lv_at hl 1 rfl) ?_
  refine w_if_ne (tgt := 1228) hx hb dL_law_1213 (by decide) (fun c0 => ?_) (fun c0 => ?_)
  · rcases z with v | j
    · have eb := g4 v rfl
      subst eb
      have o3 := o2 _ rfl
      have al : aJ M2 (r + 10) 104 0 = some b0.toInt64 := by
        show (if (M2.1 (r + 10)).1 = 104 ∧ ¬ ((0 : Int32) < 0 ∨ (M2.1 (r + 10)).2.1 ≤ (0 : Int32).toNatClampNeg) then some (vJ ((M2.1 (r + 10)).2.2 0)) else none) = _
        rw [g5, o1, if_pos ⟨rfl, z_in⟩]
        show some (vJ (f3 0)) = _
        rw [o3]; rfl
      refine w_aload_n hx hb dL_law_1216 rfl (lv_at hl 5 rfl) ?_
      refine w_iconst (v := 0) hx hb dL_law_1217 (by decide) ?_
      refine v_lald hx hb hK al dL_law_1218 ?_
      refine w_iload hx hb dL_law_1219 (lv_at hl 0 rfl) ?_
      refine w_i2l hx hb dL_law_1221 ?_
      refine w_lcmp hx hb dL_law_1222 ?_
      refine w_if_eq (tgt := 1228) hx hb dL_law_1223 (by decide) (fun _ => ?_) (fun c1 => absurd (lg_self _) c1)
      refine w_goto (tgt := 2226) hx hb dL_law_1228 (by decide) ?_
      refine vV.widen (n' := n + 60) (k' := k + 2100) (by omega) (by omega) ?_
      exact K M2 g2 _ (lv_sub hl [2, 3, 4, 5, 6, 7] rfl)
    · exact absurd c0 (e3 j rfl)
  · refine w_goto (tgt := 2226) hx hb dL_law_1228 (by decide) ?_
    refine vV.widen (n' := n + 60) (k' := k + 2100) (by omega) (by omega) ?_
    exact K M2 g2 _ (lv_sub hl [2, 3, 4, 5, 6, 7] rfl)
set_option maxHeartbeats 4000000 in
set_option maxRecDepth 100000 in
/-- common -/
theorem kC_17 {p : Program} {l : Launch} {e : Env} {s : State} {m : MethodId} {below : List Frame} {meth : Method} {c : Code} {Q : State → Prop} {D : vD} {b L : Nat} {xs : Nat → Int32} {x r : Nat} {M0 : Nat → vOb} {M : vMe} {i n k : Nat} {ls : Array Slot} (hfl : l.stackTraces = false) (hx : p.tables.exec = Jvm.exec) (hb : c.code = code) (hml : c.maxLocals = 9) (hown : s.vm.findClass RL = some m.cls) (hts : ∀ w ∈ TB, w.before #[.ref b] s = true) (hSS : vS D s) (hX : va_X b L xs s s.heap) (hbl : b < s.heap.size) (hbA : ¬ vA D b) (S : lS D x M0) (I : lI x r M0 M) (hi : i + 6 ≤ L) (hL : L ≤ 3072) (hn : n + 60 ≤ 601024) (hk : k + 2100 ≤ 7293034)
    (hl : lv_has ls 9 [(0, .ref b), (1, .ref x), (2, .ref r), (3, .ref (r + 10)), (4, .ref (r + 11)), (5, .int (Int32.ofNat i))]) (K : ∀ M2, lI x r M0 M2 → ∀ ls : Array Slot, lv_has ls 9 [(0, .ref b), (1, .ref x), (2, .ref r), (3, .ref (r + 10)), (4, .ref (r + 11)), (5, .int (Int32.ofNat i))] → vV D p l e room_1 s m #[.ref b] below meth c (n + 60) (k + 2100) Q M2 (F0 m 2226 ls [])) : vV D p l e room_1 s m #[.ref b] below meth c n k Q M (F0 m 1231 ls []) := by
  refine vV.know (fun H hR => ?_)
  obtain ⟨⟨G, F, a, d, C, u, hz, n', k', hD⟩, i2, i3, i4, i5⟩ := id I
  obtain ⟨z, M1, e1, e2, e3, ⟨f1, e4⟩, ⟨f2, e5⟩, hxr, e7, e6⟩ := lI_go I (O_common hD (xs (i + 1)) (xs (i + 2)))
  have hK := hSS.1
  refine w_aload_n hx hb dL_law_1231 rfl (lv_at hl 1 rfl) ?_
  refine w_arg (pc := 1232) 1 hx hb hX hbl hbA hL (by omega) rfl (lv_at hl 0 rfl) (lv_at hl 5 rfl) (by decide) dL_law_1232 dL_law_1233 dL_law_1235 dL_law_1236 dL_law_1237 ?_
  refine w_arg (pc := 1238) 2 hx hb hX hbl hbA hL (by omega) rfl (lv_at hl 0 rfl) (lv_at hl 5 rfl) (by decide) dL_law_1238 dL_law_1239 dL_law_1241 dL_law_1242 dL_law_1243 ?_
  refine w_aload_n hx hb dL_law_1244 rfl (lv_at hl 3 rfl) ?_
  refine v_callH (P := pL M1 (r + 10) (Sum.elim (fun v => some (.long v.toInt64)) (fun _ => none) z)) (v := .int (Sum.elim (fun _ => (0 : Int32)) mp1 z)) (mcz := 1) (msz := 6) (fun H locs hR hS => vx_runSW (hh := [(0, 10, 13, 22)]) (As := [.ref x, .int (xs (i + 1)), .int (xs (i + 2)), .ref (r + 10)]) (rest := []) ⟨hx, hb, hml, hown, hts⟩ (mL_common l hfl D x (xs (i + 1)) (xs (i + 2)) (r + 10) M f1 (z, M1) e1 (T_x hD.1.1) e4 (by show M1.2.2.2 ≤ _; rw [e2]; omega) e3) (vx_cwSW 4 hts (gdS kl1152 kl1153 kl76 kl1154) rfl rfl rfl (by decide +kernel) ⟨Nat.le_of_ble_eq_true rfl, Nat.le_of_ble_eq_true rfl⟩) (v_preS hSS hR hS [.ref x, .int (xs (i + 1)), .int (xs (i + 2)), .ref (r + 10)]) rfl rfl hl.1 rfl (lv_room (Nat.le_of_ble_eq_true rfl)) dL_law_1245 ⟨by show n + 1 ≤ 601024; omega, by show k + 6 ≤ 7293034; omega⟩) (fun N hN => ?_)
  refine w_istore (lv' := [(6, .int (Sum.elim (fun _ => (0 : Int32)) mp1 z)), (0, .ref b), (1, .ref x), (2, .ref r), (3, .ref (r + 10)), (4, .ref (r + 11)), (5, .int (Int32.ofNat i))]) hx hb dL_law_1248 hl (by decide) rfl (fun ls hl => ?_)
  refine w_aload_n hx hb dL_law_1250 rfl (lv_at hl 3 rfl) ?_
  refine w_arg (pc := 1251) 1 hx hb hX hbl hbA hL (by omega) rfl (lv_at hl 1 rfl) (lv_at hl 6 rfl) (by decide) dL_law_1251 dL_law_1252 dL_law_1254 dL_law_1255 dL_law_1256 ?_
  refine w_arg (pc := 1257) 2 hx hb hX hbl hbA hL (by omega) rfl (lv_at hl 1 rfl) (lv_at hl 6 rfl) (by decide) dL_law_1257 dL_law_1258 dL_law_1260 dL_law_1261 dL_law_1262 ?_
  obtain ⟨f3, o1, o2⟩ := pL_at hN e4
  obtain ⟨e8, b0, M2, g1, g2, g3, g4, g5, g6⟩ := e6 N (pL_slk (.inl rfl) hN) ⟨f3, o1⟩ ⟨f2, by rw [pL_ne hN (by omega)]; exact e5⟩
  refine v_call1 (v := .int b0) (M1 := M2) (mc := 0) (ms := 0) (fun H locs hR hS => va_runV (As := [.int (xs (i + 1)), .int (xs (i + 2))]) (rest := []) ⟨hx, hb, hml, hown, hts⟩ (mX10_common l hfl D r (xs (i + 1)) (xs (i + 2)) N (b0, M2) g1) (cwV 2 hts (gdV kl1677 kl1678 kl1679 kw85 kl1680) rfl rfl rfl (by decide +kernel) ⟨Nat.le_of_ble_eq_true rfl, Nat.le_of_ble_eq_true rfl⟩) (v_preV (ci := 11) hSS hR hS e8 (by decide) rfl [.int (xs (i + 1)), .int (xs (i + 2))]) rfl rfl hl.1 rfl (lv_room (Nat.le_of_ble_eq_true rfl)) dL_law_1263 ⟨by show n + 1 + 0 ≤ 601024; omega, by show k + 6 + 0 ≤ 7293034; omega⟩) ?_
  refine w_istore (lv' := [(7, .int b0), (6, .int (Sum.elim (fun _ => (0 : Int32)) mp1 z)), (0, .ref b), (1, .ref x), (2, .ref r), (3, .ref (r + 10)), (4, .ref (r + 11)), (5, .int (Int32.ofNat i))]) hx hb dL_law_1266 hl (by decide) rfl (fun ls hl => ?_)
  refine w_aload_n hx hb dL_law_1268 rfl (lv_at hl 4 rfl) ?_
  have gt0 : tX10_thrown r M2 = some (Sum.elim (fun _ => (0 : Int32)) mp1 z) := by rw [tX10_thrown, g3]; rfl
  refine v_call1 (v := .int (Sum.elim (fun _ => (0 : Int32)) mp1 z)) (M1 := M2) (mc := 0) (ms := 0) (fun H locs hR hS => va_runV (As := []) (rest := []) ⟨hx, hb, hml, hown, hts⟩ (mX10_thrown l hfl D r M2 _ gt0) (cwV 0 hts (gdV kl1403 kl1404 kl1405 kw85 kl1406) rfl rfl rfl (by decide +kernel) ⟨Nat.le_of_ble_eq_true rfl, Nat.le_of_ble_eq_true rfl⟩) (v_preV (ci := 11) hSS hR hS (v_tag g3).1 (by decide) rfl []) rfl rfl hl.1 rfl (lv_room (Nat.le_of_ble_eq_true rfl)) dL_law_1269 ⟨by show n + 1 + 0 + 0 ≤ 601024; omega, by show k + 6 + 0 + 0 ≤ 7293034; omega⟩) ?_
  refine w_iload hx hb dL_law_1272 (lv_at hl 1 rfl) ?_
  refine w_icmp_eq (tgt := 1279) hx hb dL_law_1274 (by decide) (fun _ => ?_) (fun c0 => absurd rfl c0)
  refine w_iload hx hb dL_law_1279 (lv_at hl 1 rfl) ?_
  refine w_if_ne (tgt := 1296) hx hb dL_law_1281 (by decide) (fun c0 => ?_) (fun c0 => ?_)
  · rcases z with v | j
    · have eb := g4 v rfl
      subst eb
      have o3 := o2 _ rfl
      have al : aJ M2 (r + 10) 104 0 = some b0.toInt64 := by
        show (if (M2.1 (r + 10)).1 = 104 ∧ ¬ ((0 : Int32) < 0 ∨ (M2.1 (r + 10)).2.1 ≤ (0 : Int32).toNatClampNeg) then some (vJ ((M2.1 (r + 10)).2.2 0)) else none) = _
        rw [g5, o1, if_pos ⟨rfl, z_in⟩]
        show some (vJ (f3 0)) = _
        rw [o3]; rfl
      refine w_aload_n hx hb dL_law_1284 rfl (lv_at hl 5 rfl) ?_
      refine w_iconst (v := 0) hx hb dL_law_1285 (by decide) ?_
      refine v_lald hx hb hK al dL_law_1286 ?_
      refine w_iload hx hb dL_law_1287 (lv_at hl 0 rfl) ?_
      refine w_i2l hx hb dL_law_1289 ?_
      refine w_lcmp hx hb dL_law_1290 ?_
      refine w_if_eq (tgt := 1296) hx hb dL_law_1291 (by decide) (fun _ => ?_) (fun c1 => absurd (lg_self _) c1)
      refine w_goto (tgt := 2226) hx hb dL_law_1296 (by decide) ?_
      refine vV.widen (n' := n + 60) (k' := k + 2100) (by omega) (by omega) ?_
      exact K M2 g2 _ (lv_sub hl [2, 3, 4, 5, 6, 7] rfl)
    · exact absurd c0 (e3 j rfl)
  · refine w_goto (tgt := 2226) hx hb dL_law_1296 (by decide) ?_
    refine vV.widen (n' := n + 60) (k' := k + 2100) (by omega) (by omega) ?_
    exact K M2 g2 _ (lv_sub hl [2, 3, 4, 5, 6, 7] rfl)
set_option maxHeartbeats 4000000 in
set_option maxRecDepth 100000 in
/-- isWithin -/
theorem kC_18 {p : Program} {l : Launch} {e : Env} {s : State} {m : MethodId} {below : List Frame} {meth : Method} {c : Code} {Q : State → Prop} {D : vD} {b L : Nat} {xs : Nat → Int32} {x r : Nat} {M0 : Nat → vOb} {M : vMe} {i n k : Nat} {ls : Array Slot} (hfl : l.stackTraces = false) (hx : p.tables.exec = Jvm.exec) (hb : c.code = code) (hml : c.maxLocals = 9) (hown : s.vm.findClass RL = some m.cls) (hts : ∀ w ∈ TB, w.before #[.ref b] s = true) (hSS : vS D s) (hX : va_X b L xs s s.heap) (hbl : b < s.heap.size) (hbA : ¬ vA D b) (S : lS D x M0) (I : lI x r M0 M) (hi : i + 6 ≤ L) (hL : L ≤ 3072) (hn : n + 60 ≤ 601024) (hk : k + 2100 ≤ 7293034)
    (hl : lv_has ls 9 [(0, .ref b), (1, .ref x), (2, .ref r), (3, .ref (r + 10)), (4, .ref (r + 11)), (5, .int (Int32.ofNat i))]) (K : ∀ M2, lI x r M0 M2 → ∀ ls : Array Slot, lv_has ls 9 [(0, .ref b), (1, .ref x), (2, .ref r), (3, .ref (r + 10)), (4, .ref (r + 11)), (5, .int (Int32.ofNat i))] → vV D p l e room_1 s m #[.ref b] below meth c (n + 60) (k + 2100) Q M2 (F0 m 2226 ls [])) : vV D p l e room_1 s m #[.ref b] below meth c n k Q M (F0 m 1299 ls []) := by
  refine vV.know (fun H hR => ?_)
  obtain ⟨⟨G, F, a, d, C, u, hz, n', k', hD⟩, i2, i3, i4, i5⟩ := id I
  obtain ⟨z, M1, e1, e2, e3, ⟨f1, e4⟩, ⟨f2, e5⟩, hxr, e7, e6⟩ := lI_go I (O_isWithin hD (xs (i + 1)) (xs (i + 2)))
  have hK := hSS.1
  refine w_aload_n hx hb dL_law_1299 rfl (lv_at hl 1 rfl) ?_
  refine w_arg (pc := 1300) 1 hx hb hX hbl hbA hL (by omega) rfl (lv_at hl 0 rfl) (lv_at hl 5 rfl) (by decide) dL_law_1300 dL_law_1301 dL_law_1303 dL_law_1304 dL_law_1305 ?_
  refine w_arg (pc := 1306) 2 hx hb hX hbl hbA hL (by omega) rfl (lv_at hl 0 rfl) (lv_at hl 5 rfl) (by decide) dL_law_1306 dL_law_1307 dL_law_1309 dL_law_1310 dL_law_1311 ?_
  refine w_aload_n hx hb dL_law_1312 rfl (lv_at hl 3 rfl) ?_
  refine v_callH (P := pL M1 (r + 10) (Sum.elim (fun v => some (.long (if v = 0 then 0 else 1))) (fun _ => none) z)) (v := .int (Sum.elim (fun _ => (0 : Int32)) mp1 z)) (mcz := 1) (msz := 6) (fun H locs hR hS => vx_runSW (hh := [(0, 17, 20, 22)]) (As := [.ref x, .int (xs (i + 1)), .int (xs (i + 2)), .ref (r + 10)]) (rest := []) ⟨hx, hb, hml, hown, hts⟩ (mL_isWithin l hfl D x (xs (i + 1)) (xs (i + 2)) (r + 10) M f1 (z, M1) e1 (T_x hD.1.1) e4 (by show M1.2.2.2 ≤ _; rw [e2]; omega) e3) (vx_cwSW 4 hts (gdS kl1163 kl1164 kl76 kl1165) rfl rfl rfl (by decide +kernel) ⟨Nat.le_of_ble_eq_true rfl, Nat.le_of_ble_eq_true rfl⟩) (v_preS hSS hR hS [.ref x, .int (xs (i + 1)), .int (xs (i + 2)), .ref (r + 10)]) rfl rfl hl.1 rfl (lv_room (Nat.le_of_ble_eq_true rfl)) dL_law_1313 ⟨by show n + 1 ≤ 601024; omega, by show k + 6 ≤ 7293034; omega⟩) (fun N hN => ?_)
  refine w_istore (lv' := [(6, .int (Sum.elim (fun _ => (0 : Int32)) mp1 z)), (0, .ref b), (1, .ref x), (2, .ref r), (3, .ref (r + 10)), (4, .ref (r + 11)), (5, .int (Int32.ofNat i))]) hx hb dL_law_1316 hl (by decide) rfl (fun ls hl => ?_)
  refine w_aload_n hx hb dL_law_1318 rfl (lv_at hl 3 rfl) ?_
  refine w_arg (pc := 1319) 1 hx hb hX hbl hbA hL (by omega) rfl (lv_at hl 1 rfl) (lv_at hl 6 rfl) (by decide) dL_law_1319 dL_law_1320 dL_law_1322 dL_law_1323 dL_law_1324 ?_
  refine w_arg (pc := 1325) 2 hx hb hX hbl hbA hL (by omega) rfl (lv_at hl 1 rfl) (lv_at hl 6 rfl) (by decide) dL_law_1325 dL_law_1326 dL_law_1328 dL_law_1329 dL_law_1330 ?_
  obtain ⟨f3, o1, o2⟩ := pL_at hN e4
  obtain ⟨e8, b0, M2, g1, g2, g3, g4, g5, g6⟩ := e6 N (pL_slk (.inl rfl) hN) ⟨f3, o1⟩ ⟨f2, by rw [pL_ne hN (by omega)]; exact e5⟩
  refine v_call1 (v := .int b0) (M1 := M2) (mc := 0) (ms := 0) (fun H locs hR hS => va_runV (As := [.int (xs (i + 1)), .int (xs (i + 2))]) (rest := []) ⟨hx, hb, hml, hown, hts⟩ (mX10_isWithin l hfl D r (xs (i + 1)) (xs (i + 2)) N (b0, M2) g1) (cwV 2 hts (gdV kl1689 kl1690 kl1691 kw85 kl1692) rfl rfl rfl (by decide +kernel) ⟨Nat.le_of_ble_eq_true rfl, Nat.le_of_ble_eq_true rfl⟩) (v_preV (ci := 11) hSS hR hS e8 (by decide) rfl [.int (xs (i + 1)), .int (xs (i + 2))]) rfl rfl hl.1 rfl (lv_room (Nat.le_of_ble_eq_true rfl)) dL_law_1331 ⟨by show n + 1 + 0 ≤ 601024; omega, by show k + 6 + 0 ≤ 7293034; omega⟩) ?_
  refine w_istore (lv' := [(7, .int b0), (6, .int (Sum.elim (fun _ => (0 : Int32)) mp1 z)), (0, .ref b), (1, .ref x), (2, .ref r), (3, .ref (r + 10)), (4, .ref (r + 11)), (5, .int (Int32.ofNat i))]) hx hb dL_law_1334 hl (by decide) rfl (fun ls hl => ?_)
  refine w_aload_n hx hb dL_law_1336 rfl (lv_at hl 4 rfl) ?_
  have gt0 : tX10_thrown r M2 = some (Sum.elim (fun _ => (0 : Int32)) mp1 z) := by rw [tX10_thrown, g3]; rfl
  refine v_call1 (v := .int (Sum.elim (fun _ => (0 : Int32)) mp1 z)) (M1 := M2) (mc := 0) (ms := 0) (fun H locs hR hS => va_runV (As := []) (rest := []) ⟨hx, hb, hml, hown, hts⟩ (mX10_thrown l hfl D r M2 _ gt0) (cwV 0 hts (gdV kl1403 kl1404 kl1405 kw85 kl1406) rfl rfl rfl (by decide +kernel) ⟨Nat.le_of_ble_eq_true rfl, Nat.le_of_ble_eq_true rfl⟩) (v_preV (ci := 11) hSS hR hS (v_tag g3).1 (by decide) rfl []) rfl rfl hl.1 rfl (lv_room (Nat.le_of_ble_eq_true rfl)) dL_law_1337 ⟨by show n + 1 + 0 + 0 ≤ 601024; omega, by show k + 6 + 0 + 0 ≤ 7293034; omega⟩) ?_
  refine w_iload hx hb dL_law_1340 (lv_at hl 1 rfl) ?_
  refine w_icmp_eq (tgt := 1347) hx hb dL_law_1342 (by decide) (fun _ => ?_) (fun c0 => absurd rfl c0)
  refine w_iload hx hb dL_law_1347 (lv_at hl 1 rfl) ?_
  refine w_if_ne (tgt := 1371) hx hb dL_law_1349 (by decide) (fun c0 => ?_) (fun c0 => ?_)
  · rcases z with v | j
    · have eb := g4 v rfl
      subst eb
      have o3 := o2 _ rfl
      have al : aJ M2 (r + 10) 104 0 = some (if b0 = 0 then 0 else 1) := by
        show (if (M2.1 (r + 10)).1 = 104 ∧ ¬ ((0 : Int32) < 0 ∨ (M2.1 (r + 10)).2.1 ≤ (0 : Int32).toNatClampNeg) then some (vJ ((M2.1 (r + 10)).2.2 0)) else none) = _
        rw [g5, o1, if_pos ⟨rfl, z_in⟩]
        show some (vJ (f3 0)) = _
        rw [o3]; rfl
      refine w_aload_n hx hb dL_law_1352 rfl (lv_at hl 5 rfl) ?_
      refine w_iconst (v := 0) hx hb dL_law_1353 (by decide) ?_
      refine v_lald hx hb hK al dL_law_1354 ?_
      refine w_iload hx hb dL_law_1355 (lv_at hl 0 rfl) ?_
      refine w_boolL (pc := 1357) hx hb dL_law_1357 dL_law_1360 dL_law_1361 dL_law_1364 ?_
      refine w_lcmp hx hb dL_law_1365 ?_
      refine w_if_eq (tgt := 1371) hx hb dL_law_1366 (by decide) (fun _ => ?_) (fun c1 => absurd (lg_self _) c1)
      refine w_goto (tgt := 2226) hx hb dL_law_1371 (by decide) ?_
      refine vV.widen (n' := n + 60) (k' := k + 2100) (by omega) (by omega) ?_
      exact K M2 g2 _ (lv_sub hl [2, 3, 4, 5, 6, 7] rfl)
    · exact absurd c0 (e3 j rfl)
  · refine w_goto (tgt := 2226) hx hb dL_law_1371 (by decide) ?_
    refine vV.widen (n' := n + 60) (k' := k + 2100) (by omega) (by omega) ?_
    exact K M2 g2 _ (lv_sub hl [2, 3, 4, 5, 6, 7] rfl)
set_option maxHeartbeats 4000000 in
set_option maxRecDepth 100000 in
/-- likeness -/
theorem kC_19 {p : Program} {l : Launch} {e : Env} {s : State} {m : MethodId} {below : List Frame} {meth : Method} {c : Code} {Q : State → Prop} {D : vD} {b L : Nat} {xs : Nat → Int32} {x r : Nat} {M0 : Nat → vOb} {M : vMe} {i n k : Nat} {ls : Array Slot} (hfl : l.stackTraces = false) (hx : p.tables.exec = Jvm.exec) (hb : c.code = code) (hml : c.maxLocals = 9) (hown : s.vm.findClass RL = some m.cls) (hts : ∀ w ∈ TB, w.before #[.ref b] s = true) (hSS : vS D s) (hX : va_X b L xs s s.heap) (hbl : b < s.heap.size) (hbA : ¬ vA D b) (S : lS D x M0) (I : lI x r M0 M) (hi : i + 6 ≤ L) (hL : L ≤ 3072) (hn : n + 60 ≤ 601024) (hk : k + 2100 ≤ 7293034)
    (hl : lv_has ls 9 [(0, .ref b), (1, .ref x), (2, .ref r), (3, .ref (r + 10)), (4, .ref (r + 11)), (5, .int (Int32.ofNat i))]) (K : ∀ M2, lI x r M0 M2 → ∀ ls : Array Slot, lv_has ls 9 [(0, .ref b), (1, .ref x), (2, .ref r), (3, .ref (r + 10)), (4, .ref (r + 11)), (5, .int (Int32.ofNat i))] → vV D p l e room_1 s m #[.ref b] below meth c (n + 60) (k + 2100) Q M2 (F0 m 2226 ls [])) : vV D p l e room_1 s m #[.ref b] below meth c n k Q M (F0 m 1374 ls []) := by
  refine vV.know (fun H hR => ?_)
  obtain ⟨⟨G, F, a, d, C, u, hz, n', k', hD⟩, i2, i3, i4, i5⟩ := id I
  obtain ⟨z, M1, e1, e2, e3, ⟨f1, e4⟩, ⟨f2, e5⟩, hxr, e7, e6⟩ := lI_go I (O_likeness hD (xs (i + 1)) (xs (i + 2)))
  have hK := hSS.1
  refine w_aload_n hx hb dL_law_1374 rfl (lv_at hl 1 rfl) ?_
  refine w_arg (pc := 1375) 1 hx hb hX hbl hbA hL (by omega) rfl (lv_at hl 0 rfl) (lv_at hl 5 rfl) (by decide) dL_law_1375 dL_law_1376 dL_law_1378 dL_law_1379 dL_law_1380 ?_
  refine w_arg (pc := 1381) 2 hx hb hX hbl hbA hL (by omega) rfl (lv_at hl 0 rfl) (lv_at hl 5 rfl) (by decide) dL_law_1381 dL_law_1382 dL_law_1384 dL_law_1385 dL_law_1386 ?_
  refine w_aload hx hb dL_law_1387 (lv_at hl 4 rfl) ?_
  refine v_callH (P := pL M1 (r + 11) (Sum.elim (fun v => some (.double v)) (fun _ => none) z)) (v := .int (Sum.elim (fun _ => (0 : Int32)) mp1 z)) (mcz := 1) (msz := 6) (fun H locs hR hS => vx_runSW (hh := [(0, 9, 12, 22)]) (As := [.ref x, .int (xs (i + 1)), .int (xs (i + 2)), .ref (r + 11)]) (rest := []) ⟨hx, hb, hml, hown, hts⟩ (mL_likeness l hfl D x (xs (i + 1)) (xs (i + 2)) (r + 11) M f2 (z, M1) e1 (T_x hD.1.1) e5 (by show M1.2.2.2 ≤ _; rw [e2]; omega) e3) (vx_cwSW 4 hts (gdS kl1170 kl1171 kl76 kl1172) rfl rfl rfl (by decide +kernel) ⟨Nat.le_of_ble_eq_true rfl, Nat.le_of_ble_eq_true rfl⟩) (v_preS hSS hR hS [.ref x, .int (xs (i + 1)), .int (xs (i + 2)), .ref (r + 11)]) rfl rfl hl.1 rfl (lv_room (Nat.le_of_ble_eq_true rfl)) dL_law_1389 ⟨by show n + 1 ≤ 601024; omega, by show k + 6 ≤ 7293034; omega⟩) (fun N hN => ?_)
  refine w_istore (lv' := [(6, .int (Sum.elim (fun _ => (0 : Int32)) mp1 z)), (0, .ref b), (1, .ref x), (2, .ref r), (3, .ref (r + 10)), (4, .ref (r + 11)), (5, .int (Int32.ofNat i))]) hx hb dL_law_1392 hl (by decide) rfl (fun ls hl => ?_)
  refine w_aload_n hx hb dL_law_1394 rfl (lv_at hl 3 rfl) ?_
  refine w_arg (pc := 1395) 1 hx hb hX hbl hbA hL (by omega) rfl (lv_at hl 1 rfl) (lv_at hl 6 rfl) (by decide) dL_law_1395 dL_law_1396 dL_law_1398 dL_law_1399 dL_law_1400 ?_
  refine w_arg (pc := 1401) 2 hx hb hX hbl hbA hL (by omega) rfl (lv_at hl 1 rfl) (lv_at hl 6 rfl) (by decide) dL_law_1401 dL_law_1402 dL_law_1404 dL_law_1405 dL_law_1406 ?_
  obtain ⟨f3, o1, o2⟩ := pL_at hN e5
  obtain ⟨e8, b0, M2, g1, g2, g3, g4, g5, g6⟩ := e6 N (pL_slk (.inr rfl) hN) ⟨f1, by rw [pL_ne hN (by omega)]; exact e4⟩ ⟨f3, o1⟩
  refine v_call1 (v := .double b0) (M1 := M2) (mc := 0) (ms := 0) (fun H locs hR hS => va_runV (As := [.int (xs (i + 1)), .int (xs (i + 2))]) (rest := []) ⟨hx, hb, hml, hown, hts⟩ (mX10_likeness l hfl D r (xs (i + 1)) (xs (i + 2)) N (b0, M2) g1) (cwV 2 hts (gdV kl1693 kl1694 kl1695 kw85 kl1696) rfl rfl rfl (by decide +kernel) ⟨Nat.le_of_ble_eq_true rfl, Nat.le_of_ble_eq_true rfl⟩) (v_preV (ci := 11) hSS hR hS e8 (by decide) rfl [.int (xs (i + 1)), .int (xs (i + 2))]) rfl rfl hl.1 rfl (lv_room (Nat.le_of_ble_eq_true rfl)) dL_law_1407 ⟨by show n + 1 + 0 ≤ 601024; omega, by show k + 6 + 0 ≤ 7293034; omega⟩) ?_
  refine w_dstore (lv' := [(7, .double b0), (6, .int (Sum.elim (fun _ => (0 : Int32)) mp1 z)), (0, .ref b), (1, .ref x), (2, .ref r), (3, .ref (r + 10)), (4, .ref (r + 11)), (5, .int (Int32.ofNat i))]) hx hb dL_law_1410 hl (by decide) rfl (fun ls hl => ?_)
  refine w_aload_n hx hb dL_law_1412 rfl (lv_at hl 4 rfl) ?_
  have gt0 : tX10_thrown r M2 = some (Sum.elim (fun _ => (0 : Int32)) mp1 z) := by rw [tX10_thrown, g3]; rfl
  refine v_call1 (v := .int (Sum.elim (fun _ => (0 : Int32)) mp1 z)) (M1 := M2) (mc := 0) (ms := 0) (fun H locs hR hS => va_runV (As := []) (rest := []) ⟨hx, hb, hml, hown, hts⟩ (mX10_thrown l hfl D r M2 _ gt0) (cwV 0 hts (gdV kl1403 kl1404 kl1405 kw85 kl1406) rfl rfl rfl (by decide +kernel) ⟨Nat.le_of_ble_eq_true rfl, Nat.le_of_ble_eq_true rfl⟩) (v_preV (ci := 11) hSS hR hS (v_tag g3).1 (by decide) rfl []) rfl rfl hl.1 rfl (lv_room (Nat.le_of_ble_eq_true rfl)) dL_law_1413 ⟨by show n + 1 + 0 + 0 ≤ 601024; omega, by show k + 6 + 0 + 0 ≤ 7293034; omega⟩) ?_
  refine w_iload hx hb dL_law_1416 (lv_at hl 1 rfl) ?_
  refine w_icmp_eq (tgt := 1423) hx hb dL_law_1418 (by decide) (fun _ => ?_) (fun c0 => absurd rfl c0)
  refine w_iload hx hb dL_law_1423 (lv_at hl 1 rfl) ?_
  refine w_if_ne (tgt := 1460) hx hb dL_law_1425 (by decide) (fun c0 => ?_) (fun c0 => ?_)
  · rcases z with v | j
    · have eb := g4 v rfl
      subst eb
      have o3 := o2 _ rfl
      have al : aB M2 (r + 11) 105 0 = some b0 := by
        show (if (M2.1 (r + 11)).1 = 105 ∧ ¬ ((0 : Int32) < 0 ∨ (M2.1 (r + 11)).2.1 ≤ (0 : Int32).toNatClampNeg) then some (vB ((M2.1 (r + 11)).2.2 0)) else none) = _
        rw [g6, o1, if_pos ⟨rfl, z_in⟩]
        show some (vB (f3 0)) = _
        rw [o3]; rfl
      refine w_aload hx hb dL_law_1428 (lv_at hl 6 rfl) ?_
      refine w_iconst (v := 0) hx hb dL_law_1430 (by decide) ?_
      refine v_dald hx hb hK al dL_law_1431 ?_
      refine w_dload hx hb dL_law_1432 (lv_at hl 0 rfl) ?_
      refine w_dcmp hx hb dL_law_1434 ?_
      refine w_if_eq (tgt := 1460) hx hb dL_law_1435 (by decide) (fun c1 => ?_) (fun c1 => ?_)
      · refine w_goto (tgt := 2226) hx hb dL_law_1460 (by decide) ?_
        refine vV.widen (n' := n + 60) (k' := k + 2100) (by omega) (by omega) ?_
        exact K M2 g2 _ (lv_sub hl [2, 3, 4, 5, 6, 7] rfl)
      · refine w_aload hx hb dL_law_1438 (lv_at hl 6 rfl) ?_
        refine w_iconst (v := 0) hx hb dL_law_1440 (by decide) ?_
        refine v_dald hx hb hK al dL_law_1441 ?_
        refine w_aload hx hb dL_law_1442 (lv_at hl 6 rfl) ?_
        refine w_iconst (v := 0) hx hb dL_law_1444 (by decide) ?_
        refine v_dald hx hb hK al dL_law_1445 ?_
        refine w_dcmp hx hb dL_law_1446 ?_
        refine w_if_eq (tgt := 1458) hx hb dL_law_1447 (by decide) (fun c2 => absurd c2 c1) (fun _ => ?_)
        refine w_dload hx hb dL_law_1450 (lv_at hl 0 rfl) ?_
        refine w_dload hx hb dL_law_1452 (lv_at hl 0 rfl) ?_
        refine w_dcmp hx hb dL_law_1454 ?_
        refine w_if_ne (tgt := 1460) hx hb dL_law_1455 (by decide) (fun c2 => absurd c2 c1) (fun _ => ?_)
        refine w_goto (tgt := 2226) hx hb dL_law_1460 (by decide) ?_
        refine vV.widen (n' := n + 60) (k' := k + 2100) (by omega) (by omega) ?_
        exact K M2 g2 _ (lv_sub hl [2, 3, 4, 5, 6, 7] rfl)
    · exact absurd c0 (e3 j rfl)
  · refine w_goto (tgt := 2226) hx hb dL_law_1460 (by decide) ?_
    refine vV.widen (n' := n + 60) (k' := k + 2100) (by omega) (by omega) ?_
    exact K M2 g2 _ (lv_sub hl [2, 3, 4, 5, 6, 7] rfl)
set_option maxHeartbeats 4000000 in
set_option maxRecDepth 100000 in
/-- add -/
theorem kC_20 {p : Program} {l : Launch} {e : Env} {s : State} {m : MethodId} {below : List Frame} {meth : Method} {c : Code} {Q : State → Prop} {D : vD} {b L : Nat} {xs : Nat → Int32} {x r : Nat} {M0 : Nat → vOb} {M : vMe} {i n k : Nat} {ls : Array Slot} (hfl : l.stackTraces = false) (hx : p.tables.exec = Jvm.exec) (hb : c.code = code) (hml : c.maxLocals = 9) (hown : s.vm.findClass RL = some m.cls) (hts : ∀ w ∈ TB, w.before #[.ref b] s = true) (hSS : vS D s) (hX : va_X b L xs s s.heap) (hbl : b < s.heap.size) (hbA : ¬ vA D b) (S : lS D x M0) (I : lI x r M0 M) (hi : i + 6 ≤ L) (hL : L ≤ 3072) (hn : n + 60 ≤ 601024) (hk : k + 2100 ≤ 7293034)
    (hl : lv_has ls 9 [(0, .ref b), (1, .ref x), (2, .ref r), (3, .ref (r + 10)), (4, .ref (r + 11)), (5, .int (Int32.ofNat i))]) (K : ∀ M2, lI x r M0 M2 → ∀ ls : Array Slot, lv_has ls 9 [(0, .ref b), (1, .ref x), (2, .ref r), (3, .ref (r + 10)), (4, .ref (r + 11)), (5, .int (Int32.ofNat i))] → vV D p l e room_1 s m #[.ref b] below meth c (n + 60) (k + 2100) Q M2 (F0 m 2226 ls [])) : vV D p l e room_1 s m #[.ref b] below meth c n k Q M (F0 m 1463 ls []) := by
  refine vV.know (fun H hR => ?_)
  have wf0 := wf_R hR
  obtain ⟨⟨G, F, a, d, C, u, hz, n', k', hD⟩, i2, i3, i4, i5⟩ := id I
  obtain ⟨z, M1, e1, e2, e3, ⟨f1, e4⟩, ⟨f2, e5⟩, hxr, e7, e6⟩ := lI_go I (O_add (Gs := D.2.2.2.2) hD wf0 (xs (i + 1)) (xs (i + 2)))
  have hK := hSS.1
  refine w_aload_n hx hb dL_law_1463 rfl (lv_at hl 1 rfl) ?_
  refine w_arg (pc := 1464) 1 hx hb hX hbl hbA hL (by omega) rfl (lv_at hl 0 rfl) (lv_at hl 5 rfl) (by decide) dL_law_1464 dL_law_1465 dL_law_1467 dL_law_1468 dL_law_1469 ?_
  refine w_arg (pc := 1470) 2 hx hb hX hbl hbA hL (by omega) rfl (lv_at hl 0 rfl) (lv_at hl 5 rfl) (by decide) dL_law_1470 dL_law_1471 dL_law_1473 dL_law_1474 dL_law_1475 ?_
  refine w_aload_n hx hb dL_law_1476 rfl (lv_at hl 3 rfl) ?_
  refine v_callH (P := pL M1 (r + 10) (Sum.elim (fun v => some (.long v.toInt64)) (fun _ => none) z)) (v := .int (Sum.elim (fun _ => (0 : Int32)) mpA z)) (mcz := 50) (msz := 2001) (fun H locs hR hS => vx_runSW (hh := [(0, 10, 13, 22), (0, 10, 17, 13)]) (As := [.ref x, .int (xs (i + 1)), .int (xs (i + 2)), .ref (r + 10)]) (rest := []) ⟨hx, hb, hml, hown, hts⟩ (mL_add l hfl D x (xs (i + 1)) (xs (i + 2)) (r + 10) M f1 (z, M1) e1 (T_x hD.1.1) e4 (by show M1.2.2.2 ≤ _; rw [e2]; omega) e3) (vx_cwSW 4 hts (gdS kl1177 kl1178 kl76 kl1179) rfl rfl rfl (by decide +kernel) ⟨Nat.le_of_ble_eq_true rfl, Nat.le_of_ble_eq_true rfl⟩) (v_preS hSS hR hS [.ref x, .int (xs (i + 1)), .int (xs (i + 2)), .ref (r + 10)]) rfl rfl hl.1 rfl (lv_room (Nat.le_of_ble_eq_true rfl)) dL_law_1477 ⟨by show n + 50 ≤ 601024; omega, by show k + 2001 ≤ 7293034; omega⟩) (fun N hN => ?_)
  refine w_istore (lv' := [(6, .int (Sum.elim (fun _ => (0 : Int32)) mpA z)), (0, .ref b), (1, .ref x), (2, .ref r), (3, .ref (r + 10)), (4, .ref (r + 11)), (5, .int (Int32.ofNat i))]) hx hb dL_law_1480 hl (by decide) rfl (fun ls hl => ?_)
  refine w_aload_n hx hb dL_law_1482 rfl (lv_at hl 3 rfl) ?_
  refine w_arg (pc := 1483) 1 hx hb hX hbl hbA hL (by omega) rfl (lv_at hl 1 rfl) (lv_at hl 6 rfl) (by decide) dL_law_1483 dL_law_1484 dL_law_1486 dL_law_1487 dL_law_1488 ?_
  refine w_arg (pc := 1489) 2 hx hb hX hbl hbA hL (by omega) rfl (lv_at hl 1 rfl) (lv_at hl 6 rfl) (by decide) dL_law_1489 dL_law_1490 dL_law_1492 dL_law_1493 dL_law_1494 ?_
  obtain ⟨f3, o1, o2⟩ := pL_at hN e4
  obtain ⟨e8, b0, M2, g1, g2, g3, g4, g5, g6⟩ := e6 N (pL_slk (.inl rfl) hN) ⟨f3, o1⟩ ⟨f2, by rw [pL_ne hN (by omega)]; exact e5⟩
  refine v_call1 (v := .int b0) (M1 := M2) (mc := 0) (ms := 0) (fun H locs hR hS => va_runV (As := [.int (xs (i + 1)), .int (xs (i + 2))]) (rest := []) ⟨hx, hb, hml, hown, hts⟩ (mX10_add l hfl D r (xs (i + 1)) (xs (i + 2)) N (b0, M2) g1) (cwV 2 hts (gdV kl1697 kl1698 kl1699 kw85 kl1700) rfl rfl rfl (by decide +kernel) ⟨Nat.le_of_ble_eq_true rfl, Nat.le_of_ble_eq_true rfl⟩) (v_preV (ci := 11) hSS hR hS e8 (by decide) rfl [.int (xs (i + 1)), .int (xs (i + 2))]) rfl rfl hl.1 rfl (lv_room (Nat.le_of_ble_eq_true rfl)) dL_law_1495 ⟨by show n + 50 + 0 ≤ 601024; omega, by show k + 2001 + 0 ≤ 7293034; omega⟩) ?_
  refine w_istore (lv' := [(7, .int b0), (6, .int (Sum.elim (fun _ => (0 : Int32)) mpA z)), (0, .ref b), (1, .ref x), (2, .ref r), (3, .ref (r + 10)), (4, .ref (r + 11)), (5, .int (Int32.ofNat i))]) hx hb dL_law_1498 hl (by decide) rfl (fun ls hl => ?_)
  refine w_aload_n hx hb dL_law_1500 rfl (lv_at hl 4 rfl) ?_
  have gt0 : tX10_thrown r M2 = some (Sum.elim (fun _ => (0 : Int32)) mpA z) := by rw [tX10_thrown, g3]; rfl
  refine v_call1 (v := .int (Sum.elim (fun _ => (0 : Int32)) mpA z)) (M1 := M2) (mc := 0) (ms := 0) (fun H locs hR hS => va_runV (As := []) (rest := []) ⟨hx, hb, hml, hown, hts⟩ (mX10_thrown l hfl D r M2 _ gt0) (cwV 0 hts (gdV kl1403 kl1404 kl1405 kw85 kl1406) rfl rfl rfl (by decide +kernel) ⟨Nat.le_of_ble_eq_true rfl, Nat.le_of_ble_eq_true rfl⟩) (v_preV (ci := 11) hSS hR hS (v_tag g3).1 (by decide) rfl []) rfl rfl hl.1 rfl (lv_room (Nat.le_of_ble_eq_true rfl)) dL_law_1501 ⟨by show n + 50 + 0 + 0 ≤ 601024; omega, by show k + 2001 + 0 + 0 ≤ 7293034; omega⟩) ?_
  refine w_iload hx hb dL_law_1504 (lv_at hl 1 rfl) ?_
  refine w_icmp_eq (tgt := 1511) hx hb dL_law_1506 (by decide) (fun _ => ?_) (fun c0 => absurd rfl c0)
  refine w_iload hx hb dL_law_1511 (lv_at hl 1 rfl) ?_
  refine w_if_ne (tgt := 1528) hx hb dL_law_1513 (by decide) (fun c0 => ?_) (fun c0 => ?_)
  · rcases z with v | j
    · have eb := g4 v rfl
      subst eb
      have o3 := o2 _ rfl
      have al : aJ M2 (r + 10) 104 0 = some b0.toInt64 := by
        show (if (M2.1 (r + 10)).1 = 104 ∧ ¬ ((0 : Int32) < 0 ∨ (M2.1 (r + 10)).2.1 ≤ (0 : Int32).toNatClampNeg) then some (vJ ((M2.1 (r + 10)).2.2 0)) else none) = _
        rw [g5, o1, if_pos ⟨rfl, z_in⟩]
        show some (vJ (f3 0)) = _
        rw [o3]; rfl
      refine w_aload_n hx hb dL_law_1516 rfl (lv_at hl 5 rfl) ?_
      refine w_iconst (v := 0) hx hb dL_law_1517 (by decide) ?_
      refine v_lald hx hb hK al dL_law_1518 ?_
      refine w_iload hx hb dL_law_1519 (lv_at hl 0 rfl) ?_
      refine w_i2l hx hb dL_law_1521 ?_
      refine w_lcmp hx hb dL_law_1522 ?_
      refine w_if_eq (tgt := 1528) hx hb dL_law_1523 (by decide) (fun _ => ?_) (fun c1 => absurd (lg_self _) c1)
      refine w_goto (tgt := 2226) hx hb dL_law_1528 (by decide) ?_
      refine vV.widen (n' := n + 60) (k' := k + 2100) (by omega) (by omega) ?_
      exact K M2 g2 _ (lv_sub hl [2, 3, 4, 5, 6, 7] rfl)
    · exact absurd c0 (e3 j rfl)
  · refine w_goto (tgt := 2226) hx hb dL_law_1528 (by decide) ?_
    refine vV.widen (n' := n + 60) (k' := k + 2100) (by omega) (by omega) ?_
    exact K M2 g2 _ (lv_sub hl [2, 3, 4, 5, 6, 7] rfl)
set_option maxHeartbeats 4000000 in
set_option maxRecDepth 100000 in
/-- remove -/
theorem kC_21 {p : Program} {l : Launch} {e : Env} {s : State} {m : MethodId} {below : List Frame} {meth : Method} {c : Code} {Q : State → Prop} {D : vD} {b L : Nat} {xs : Nat → Int32} {x r : Nat} {M0 : Nat → vOb} {M : vMe} {i n k : Nat} {ls : Array Slot} (hfl : l.stackTraces = false) (hx : p.tables.exec = Jvm.exec) (hb : c.code = code) (hml : c.maxLocals = 9) (hown : s.vm.findClass RL = some m.cls) (hts : ∀ w ∈ TB, w.before #[.ref b] s = true) (hSS : vS D s) (hX : va_X b L xs s s.heap) (hbl : b < s.heap.size) (hbA : ¬ vA D b) (S : lS D x M0) (I : lI x r M0 M) (hi : i + 6 ≤ L) (hL : L ≤ 3072) (hn : n + 60 ≤ 601024) (hk : k + 2100 ≤ 7293034)
    (hl : lv_has ls 9 [(0, .ref b), (1, .ref x), (2, .ref r), (3, .ref (r + 10)), (4, .ref (r + 11)), (5, .int (Int32.ofNat i))]) (K : ∀ M2, lI x r M0 M2 → ∀ ls : Array Slot, lv_has ls 9 [(0, .ref b), (1, .ref x), (2, .ref r), (3, .ref (r + 10)), (4, .ref (r + 11)), (5, .int (Int32.ofNat i))] → vV D p l e room_1 s m #[.ref b] below meth c (n + 60) (k + 2100) Q M2 (F0 m 2226 ls [])) : vV D p l e room_1 s m #[.ref b] below meth c n k Q M (F0 m 1531 ls []) := by
  refine vV.know (fun H hR => ?_)
  have wf0 := wf_R hR
  obtain ⟨⟨G, F, a, d, C, u, hz, n', k', hD⟩, i2, i3, i4, i5⟩ := id I
  obtain ⟨z, M1, e1, e2, e3, ⟨f1, e4⟩, ⟨f2, e5⟩, hxr, e7, e6⟩ := lI_go I (O_remove (Gs := D.2.2.2.2) hD wf0 (xs (i + 1)) (xs (i + 2)))
  have hK := hSS.1
  refine w_aload_n hx hb dL_law_1531 rfl (lv_at hl 1 rfl) ?_
  refine w_arg (pc := 1532) 1 hx hb hX hbl hbA hL (by omega) rfl (lv_at hl 0 rfl) (lv_at hl 5 rfl) (by decide) dL_law_1532 dL_law_1533 dL_law_1535 dL_law_1536 dL_law_1537 ?_
  refine w_arg (pc := 1538) 2 hx hb hX hbl hbA hL (by omega) rfl (lv_at hl 0 rfl) (lv_at hl 5 rfl) (by decide) dL_law_1538 dL_law_1539 dL_law_1541 dL_law_1542 dL_law_1543 ?_
  refine w_aload_n hx hb dL_law_1544 rfl (lv_at hl 3 rfl) ?_
  refine v_callH (P := pL M1 (r + 10) (Sum.elim (fun v => some (.long (if v = 0 then 0 else 1))) (fun _ => none) z)) (v := .int (Sum.elim (fun _ => (0 : Int32)) mpA z)) (mcz := 50) (msz := 2001) (fun H locs hR hS => vx_runSW (hh := [(0, 17, 20, 22), (0, 17, 24, 13)]) (As := [.ref x, .int (xs (i + 1)), .int (xs (i + 2)), .ref (r + 10)]) (rest := []) ⟨hx, hb, hml, hown, hts⟩ (mL_remove l hfl D x (xs (i + 1)) (xs (i + 2)) (r + 10) M f1 (z, M1) e1 (T_x hD.1.1) e4 (by show M1.2.2.2 ≤ _; rw [e2]; omega) e3) (vx_cwSW 4 hts (gdS kl1191 kl1192 kl76 kl1193) rfl rfl rfl (by decide +kernel) ⟨Nat.le_of_ble_eq_true rfl, Nat.le_of_ble_eq_true rfl⟩) (v_preS hSS hR hS [.ref x, .int (xs (i + 1)), .int (xs (i + 2)), .ref (r + 10)]) rfl rfl hl.1 rfl (lv_room (Nat.le_of_ble_eq_true rfl)) dL_law_1545 ⟨by show n + 50 ≤ 601024; omega, by show k + 2001 ≤ 7293034; omega⟩) (fun N hN => ?_)
  refine w_istore (lv' := [(6, .int (Sum.elim (fun _ => (0 : Int32)) mpA z)), (0, .ref b), (1, .ref x), (2, .ref r), (3, .ref (r + 10)), (4, .ref (r + 11)), (5, .int (Int32.ofNat i))]) hx hb dL_law_1548 hl (by decide) rfl (fun ls hl => ?_)
  refine w_aload_n hx hb dL_law_1550 rfl (lv_at hl 3 rfl) ?_
  refine w_arg (pc := 1551) 1 hx hb hX hbl hbA hL (by omega) rfl (lv_at hl 1 rfl) (lv_at hl 6 rfl) (by decide) dL_law_1551 dL_law_1552 dL_law_1554 dL_law_1555 dL_law_1556 ?_
  refine w_arg (pc := 1557) 2 hx hb hX hbl hbA hL (by omega) rfl (lv_at hl 1 rfl) (lv_at hl 6 rfl) (by decide) dL_law_1557 dL_law_1558 dL_law_1560 dL_law_1561 dL_law_1562 ?_
  obtain ⟨f3, o1, o2⟩ := pL_at hN e4
  obtain ⟨e8, b0, M2, g1, g2, g3, g4, g5, g6⟩ := e6 N (pL_slk (.inl rfl) hN) ⟨f3, o1⟩ ⟨f2, by rw [pL_ne hN (by omega)]; exact e5⟩
  refine v_call1 (v := .int b0) (M1 := M2) (mc := 0) (ms := 0) (fun H locs hR hS => va_runV (As := [.int (xs (i + 1)), .int (xs (i + 2))]) (rest := []) ⟨hx, hb, hml, hown, hts⟩ (mX10_remove l hfl D r (xs (i + 1)) (xs (i + 2)) N (b0, M2) g1) (cwV 2 hts (gdV kl1705 kl1706 kl1707 kw85 kl1708) rfl rfl rfl (by decide +kernel) ⟨Nat.le_of_ble_eq_true rfl, Nat.le_of_ble_eq_true rfl⟩) (v_preV (ci := 11) hSS hR hS e8 (by decide) rfl [.int (xs (i + 1)), .int (xs (i + 2))]) rfl rfl hl.1 rfl (lv_room (Nat.le_of_ble_eq_true rfl)) dL_law_1563 ⟨by show n + 50 + 0 ≤ 601024; omega, by show k + 2001 + 0 ≤ 7293034; omega⟩) ?_
  refine w_istore (lv' := [(7, .int b0), (6, .int (Sum.elim (fun _ => (0 : Int32)) mpA z)), (0, .ref b), (1, .ref x), (2, .ref r), (3, .ref (r + 10)), (4, .ref (r + 11)), (5, .int (Int32.ofNat i))]) hx hb dL_law_1566 hl (by decide) rfl (fun ls hl => ?_)
  refine w_aload_n hx hb dL_law_1568 rfl (lv_at hl 4 rfl) ?_
  have gt0 : tX10_thrown r M2 = some (Sum.elim (fun _ => (0 : Int32)) mpA z) := by rw [tX10_thrown, g3]; rfl
  refine v_call1 (v := .int (Sum.elim (fun _ => (0 : Int32)) mpA z)) (M1 := M2) (mc := 0) (ms := 0) (fun H locs hR hS => va_runV (As := []) (rest := []) ⟨hx, hb, hml, hown, hts⟩ (mX10_thrown l hfl D r M2 _ gt0) (cwV 0 hts (gdV kl1403 kl1404 kl1405 kw85 kl1406) rfl rfl rfl (by decide +kernel) ⟨Nat.le_of_ble_eq_true rfl, Nat.le_of_ble_eq_true rfl⟩) (v_preV (ci := 11) hSS hR hS (v_tag g3).1 (by decide) rfl []) rfl rfl hl.1 rfl (lv_room (Nat.le_of_ble_eq_true rfl)) dL_law_1569 ⟨by show n + 50 + 0 + 0 ≤ 601024; omega, by show k + 2001 + 0 + 0 ≤ 7293034; omega⟩) ?_
  refine w_iload hx hb dL_law_1572 (lv_at hl 1 rfl) ?_
  refine w_icmp_eq (tgt := 1579) hx hb dL_law_1574 (by decide) (fun _ => ?_) (fun c0 => absurd rfl c0)
  refine w_iload hx hb dL_law_1579 (lv_at hl 1 rfl) ?_
  refine w_if_ne (tgt := 1603) hx hb dL_law_1581 (by decide) (fun c0 => ?_) (fun c0 => ?_)
  · rcases z with v | j
    · have eb := g4 v rfl
      subst eb
      have o3 := o2 _ rfl
      have al : aJ M2 (r + 10) 104 0 = some (if b0 = 0 then 0 else 1) := by
        show (if (M2.1 (r + 10)).1 = 104 ∧ ¬ ((0 : Int32) < 0 ∨ (M2.1 (r + 10)).2.1 ≤ (0 : Int32).toNatClampNeg) then some (vJ ((M2.1 (r + 10)).2.2 0)) else none) = _
        rw [g5, o1, if_pos ⟨rfl, z_in⟩]
        show some (vJ (f3 0)) = _
        rw [o3]; rfl
      refine w_aload_n hx hb dL_law_1584 rfl (lv_at hl 5 rfl) ?_
      refine w_iconst (v := 0) hx hb dL_law_1585 (by decide) ?_
      refine v_lald hx hb hK al dL_law_1586 ?_
      refine w_iload hx hb dL_law_1587 (lv_at hl 0 rfl) ?_
      refine w_boolL (pc := 1589) hx hb dL_law_1589 dL_law_1592 dL_law_1593 dL_law_1596 ?_
      refine w_lcmp hx hb dL_law_1597 ?_
      refine w_if_eq (tgt := 1603) hx hb dL_law_1598 (by decide) (fun _ => ?_) (fun c1 => absurd (lg_self _) c1)
      refine w_goto (tgt := 2226) hx hb dL_law_1603 (by decide) ?_
      refine vV.widen (n' := n + 60) (k' := k + 2100) (by omega) (by omega) ?_
      exact K M2 g2 _ (lv_sub hl [2, 3, 4, 5, 6, 7] rfl)
    · exact absurd c0 (e3 j rfl)
  · refine w_goto (tgt := 2226) hx hb dL_law_1603 (by decide) ?_
    refine vV.widen (n' := n + 60) (k' := k + 2100) (by omega) (by omega) ?_
    exact K M2 g2 _ (lv_sub hl [2, 3, 4, 5, 6, 7] rfl)
set_option maxHeartbeats 4000000 in
set_option maxRecDepth 100000 in
/-- clear -/
theorem kC_22 {p : Program} {l : Launch} {e : Env} {s : State} {m : MethodId} {below : List Frame} {meth : Method} {c : Code} {Q : State → Prop} {D : vD} {b L : Nat} {xs : Nat → Int32} {x r : Nat} {M0 : Nat → vOb} {M : vMe} {i n k : Nat} {ls : Array Slot} (hfl : l.stackTraces = false) (hx : p.tables.exec = Jvm.exec) (hb : c.code = code) (hml : c.maxLocals = 9) (hown : s.vm.findClass RL = some m.cls) (hts : ∀ w ∈ TB, w.before #[.ref b] s = true) (hSS : vS D s) (hX : va_X b L xs s s.heap) (hbl : b < s.heap.size) (hbA : ¬ vA D b) (S : lS D x M0) (I : lI x r M0 M) (hi : i + 6 ≤ L) (hL : L ≤ 3072) (hn : n + 60 ≤ 601024) (hk : k + 2100 ≤ 7293034)
    (hl : lv_has ls 9 [(0, .ref b), (1, .ref x), (2, .ref r), (3, .ref (r + 10)), (4, .ref (r + 11)), (5, .int (Int32.ofNat i))]) (K : ∀ M2, lI x r M0 M2 → ∀ ls : Array Slot, lv_has ls 9 [(0, .ref b), (1, .ref x), (2, .ref r), (3, .ref (r + 10)), (4, .ref (r + 11)), (5, .int (Int32.ofNat i))] → vV D p l e room_1 s m #[.ref b] below meth c (n + 60) (k + 2100) Q M2 (F0 m 2226 ls [])) : vV D p l e room_1 s m #[.ref b] below meth c n k Q M (F0 m 1606 ls []) := by
  refine vV.know (fun H hR => ?_)
  have wf0 := wf_R hR
  obtain ⟨⟨G, F, a, d, C, u, hz, n', k', hD⟩, i2, i3, i4, i5⟩ := id I
  obtain ⟨z, M1, e1, e2, e3, ⟨f1, e4⟩, ⟨f2, e5⟩, hxr, e7, e6⟩ := lI_go I (O_clear (Gs := D.2.2.2.2) hD wf0 (xs (i + 1)))
  have hK := hSS.1
  refine w_aload_n hx hb dL_law_1606 rfl (lv_at hl 1 rfl) ?_
  refine w_arg (pc := 1607) 1 hx hb hX hbl hbA hL (by omega) rfl (lv_at hl 0 rfl) (lv_at hl 5 rfl) (by decide) dL_law_1607 dL_law_1608 dL_law_1610 dL_law_1611 dL_law_1612 ?_
  refine w_aload_n hx hb dL_law_1613 rfl (lv_at hl 3 rfl) ?_
  refine v_callH (P := pL M1 (r + 10) (Sum.elim (fun v => some (.long v.toInt64)) (fun _ => none) z)) (v := .int (Sum.elim (fun _ => (0 : Int32)) mp1 z)) (mcz := 50) (msz := 2001) (fun H locs hR hS => vx_runSW (hh := [(0, 9, 12, 22)]) (As := [.ref x, .int (xs (i + 1)), .ref (r + 10)]) (rest := []) ⟨hx, hb, hml, hown, hts⟩ (mL_clear l hfl D x (xs (i + 1)) (r + 10) M f1 (z, M1) e1 (T_x hD.1.1) e4 (by show M1.2.2.2 ≤ _; rw [e2]; omega) e3) (vx_cwSW 3 hts (gdS kl1199 kl1200 kl76 kl1201) rfl rfl rfl (by decide +kernel) ⟨Nat.le_of_ble_eq_true rfl, Nat.le_of_ble_eq_true rfl⟩) (v_preS hSS hR hS [.ref x, .int (xs (i + 1)), .ref (r + 10)]) rfl rfl hl.1 rfl (lv_room (Nat.le_of_ble_eq_true rfl)) dL_law_1614 ⟨by show n + 50 ≤ 601024; omega, by show k + 2001 ≤ 7293034; omega⟩) (fun N hN => ?_)
  refine w_istore (lv' := [(6, .int (Sum.elim (fun _ => (0 : Int32)) mp1 z)), (0, .ref b), (1, .ref x), (2, .ref r), (3, .ref (r + 10)), (4, .ref (r + 11)), (5, .int (Int32.ofNat i))]) hx hb dL_law_1617 hl (by decide) rfl (fun ls hl => ?_)
  refine w_aload_n hx hb dL_law_1619 rfl (lv_at hl 3 rfl) ?_
  refine w_arg (pc := 1620) 1 hx hb hX hbl hbA hL (by omega) rfl (lv_at hl 1 rfl) (lv_at hl 6 rfl) (by decide) dL_law_1620 dL_law_1621 dL_law_1623 dL_law_1624 dL_law_1625 ?_
  obtain ⟨f3, o1, o2⟩ := pL_at hN e4
  obtain ⟨e8, b0, M2, g1, g2, g3, g4, g5, g6⟩ := e6 N (pL_slk (.inl rfl) hN) ⟨f3, o1⟩ ⟨f2, by rw [pL_ne hN (by omega)]; exact e5⟩
  refine v_call1 (v := .int b0) (M1 := M2) (mc := 0) (ms := 0) (fun H locs hR hS => va_runV (As := [.int (xs (i + 1))]) (rest := []) ⟨hx, hb, hml, hown, hts⟩ (mX10_clear l hfl D r (xs (i + 1)) N (b0, M2) g1) (cwV 1 hts (gdV kl1709 kl1710 kl1711 kw85 kl1712) rfl rfl rfl (by decide +kernel) ⟨Nat.le_of_ble_eq_true rfl, Nat.le_of_ble_eq_true rfl⟩) (v_preV (ci := 11) hSS hR hS e8 (by decide) rfl [.int (xs (i + 1))]) rfl rfl hl.1 rfl (lv_room (Nat.le_of_ble_eq_true rfl)) dL_law_1626 ⟨by show n + 50 + 0 ≤ 601024; omega, by show k + 2001 + 0 ≤ 7293034; omega⟩) ?_
  refine w_istore (lv' := [(7, .int b0), (6, .int (Sum.elim (fun _ => (0 : Int32)) mp1 z)), (0, .ref b), (1, .ref x), (2, .ref r), (3, .ref (r + 10)), (4, .ref (r + 11)), (5, .int (Int32.ofNat i))]) hx hb dL_law_1629 hl (by decide) rfl (fun ls hl => ?_)
  refine w_aload_n hx hb dL_law_1631 rfl (lv_at hl 4 rfl) ?_
  have gt0 : tX10_thrown r M2 = some (Sum.elim (fun _ => (0 : Int32)) mp1 z) := by rw [tX10_thrown, g3]; rfl
  refine v_call1 (v := .int (Sum.elim (fun _ => (0 : Int32)) mp1 z)) (M1 := M2) (mc := 0) (ms := 0) (fun H locs hR hS => va_runV (As := []) (rest := []) ⟨hx, hb, hml, hown, hts⟩ (mX10_thrown l hfl D r M2 _ gt0) (cwV 0 hts (gdV kl1403 kl1404 kl1405 kw85 kl1406) rfl rfl rfl (by decide +kernel) ⟨Nat.le_of_ble_eq_true rfl, Nat.le_of_ble_eq_true rfl⟩) (v_preV (ci := 11) hSS hR hS (v_tag g3).1 (by decide) rfl []) rfl rfl hl.1 rfl (lv_room (Nat.le_of_ble_eq_true rfl)) dL_law_1632 ⟨by show n + 50 + 0 + 0 ≤ 601024; omega, by show k + 2001 + 0 + 0 ≤ 7293034; omega⟩) ?_
  refine w_iload hx hb dL_law_1635 (lv_at hl 1 rfl) ?_
  refine w_icmp_eq (tgt := 1642) hx hb dL_law_1637 (by decide) (fun _ => ?_) (fun c0 => absurd rfl c0)
  refine w_iload hx hb dL_law_1642 (lv_at hl 1 rfl) ?_
  refine w_if_ne (tgt := 1659) hx hb dL_law_1644 (by decide) (fun c0 => ?_) (fun c0 => ?_)
  · rcases z with v | j
    · have eb := g4 v rfl
      subst eb
      have o3 := o2 _ rfl
      have al : aJ M2 (r + 10) 104 0 = some b0.toInt64 := by
        show (if (M2.1 (r + 10)).1 = 104 ∧ ¬ ((0 : Int32) < 0 ∨ (M2.1 (r + 10)).2.1 ≤ (0 : Int32).toNatClampNeg) then some (vJ ((M2.1 (r + 10)).2.2 0)) else none) = _
        rw [g5, o1, if_pos ⟨rfl, z_in⟩]
        show some (vJ (f3 0)) = _
        rw [o3]; rfl
      refine w_aload_n hx hb dL_law_1647 rfl (lv_at hl 5 rfl) ?_
      refine w_iconst (v := 0) hx hb dL_law_1648 (by decide) ?_
      refine v_lald hx hb hK al dL_law_1649 ?_
      refine w_iload hx hb dL_law_1650 (lv_at hl 0 rfl) ?_
      refine w_i2l hx hb dL_law_1652 ?_
      refine w_lcmp hx hb dL_law_1653 ?_
      refine w_if_eq (tgt := 1659) hx hb dL_law_1654 (by decide) (fun _ => ?_) (fun c1 => absurd (lg_self _) c1)
      refine w_goto (tgt := 2226) hx hb dL_law_1659 (by decide) ?_
      refine vV.widen (n' := n + 60) (k' := k + 2100) (by omega) (by omega) ?_
      exact K M2 g2 _ (lv_sub hl [2, 3, 4, 5, 6, 7] rfl)
    · exact absurd c0 (e3 j rfl)
  · refine w_goto (tgt := 2226) hx hb dL_law_1659 (by decide) ?_
    refine vV.widen (n' := n + 60) (k' := k + 2100) (by omega) (by omega) ?_
    exact K M2 g2 _ (lv_sub hl [2, 3, 4, 5, 6, 7] rfl)
set_option maxHeartbeats 4000000 in
set_option maxRecDepth 100000 in
/-- mark -/
theorem kC_23 {p : Program} {l : Launch} {e : Env} {s : State} {m : MethodId} {below : List Frame} {meth : Method} {c : Code} {Q : State → Prop} {D : vD} {b L : Nat} {xs : Nat → Int32} {x r : Nat} {M0 : Nat → vOb} {M : vMe} {i n k : Nat} {ls : Array Slot} (hfl : l.stackTraces = false) (hx : p.tables.exec = Jvm.exec) (hb : c.code = code) (hml : c.maxLocals = 9) (hown : s.vm.findClass RL = some m.cls) (hts : ∀ w ∈ TB, w.before #[.ref b] s = true) (hSS : vS D s) (hX : va_X b L xs s s.heap) (hbl : b < s.heap.size) (hbA : ¬ vA D b) (S : lS D x M0) (I : lI x r M0 M) (hi : i + 6 ≤ L) (hL : L ≤ 3072) (hn : n + 60 ≤ 601024) (hk : k + 2100 ≤ 7293034)
    (hl : lv_has ls 9 [(0, .ref b), (1, .ref x), (2, .ref r), (3, .ref (r + 10)), (4, .ref (r + 11)), (5, .int (Int32.ofNat i))]) (K : ∀ M2, lI x r M0 M2 → ∀ ls : Array Slot, lv_has ls 9 [(0, .ref b), (1, .ref x), (2, .ref r), (3, .ref (r + 10)), (4, .ref (r + 11)), (5, .int (Int32.ofNat i))] → vV D p l e room_1 s m #[.ref b] below meth c (n + 60) (k + 2100) Q M2 (F0 m 2226 ls [])) : vV D p l e room_1 s m #[.ref b] below meth c n k Q M (F0 m 1662 ls []) := by
  refine vV.know (fun H hR => ?_)
  have wf0 := wf_R hR
  obtain ⟨⟨G, F, a, d, C, u, hz, n', k', hD⟩, i2, i3, i4, i5⟩ := id I
  obtain ⟨z, M1, e1, e2, e3, ⟨f1, e4⟩, ⟨f2, e5⟩, hxr, e7, e6⟩ := lI_go I (O_mark (Gs := D.2.2.2.2) hD wf0)
  have hK := hSS.1
  refine w_aload_n hx hb dL_law_1662 rfl (lv_at hl 1 rfl) ?_
  refine w_aload_n hx hb dL_law_1663 rfl (lv_at hl 3 rfl) ?_
  refine v_callH (P := pL M1 (r + 10) (Sum.elim (fun v => some (.long v.toInt64)) (fun _ => none) z)) (v := .int (Sum.elim (fun _ => (0 : Int32)) mp2 z)) (mcz := 50) (msz := 2001) (fun H locs hR hS => vx_runSW (hh := [(0, 8, 11, 82)]) (As := [.ref x, .ref (r + 10)]) (rest := []) ⟨hx, hb, hml, hown, hts⟩ (mL_mark l hfl D x  (r + 10) M f1 (z, M1) e1 (T_x hD.1.1) e4 (by show M1.2.2.2 ≤ _; rw [e2]; omega) e3) (vx_cwSW 2 hts (gdS kl1207 kl1208 kl76 kl1209) rfl rfl rfl (by decide +kernel) ⟨Nat.le_of_ble_eq_true rfl, Nat.le_of_ble_eq_true rfl⟩) (v_preS hSS hR hS [.ref x, .ref (r + 10)]) rfl rfl hl.1 rfl (lv_room (Nat.le_of_ble_eq_true rfl)) dL_law_1664 ⟨by show n + 50 ≤ 601024; omega, by show k + 2001 ≤ 7293034; omega⟩) (fun N hN => ?_)
  refine w_istore (lv' := [(6, .int (Sum.elim (fun _ => (0 : Int32)) mp2 z)), (0, .ref b), (1, .ref x), (2, .ref r), (3, .ref (r + 10)), (4, .ref (r + 11)), (5, .int (Int32.ofNat i))]) hx hb dL_law_1667 hl (by decide) rfl (fun ls hl => ?_)
  refine w_aload_n hx hb dL_law_1669 rfl (lv_at hl 3 rfl) ?_
  obtain ⟨f3, o1, o2⟩ := pL_at hN e4
  obtain ⟨e8, b0, M2, g1, g2, g3, g4, g5, g6⟩ := e6 N (pL_slk (.inl rfl) hN) ⟨f3, o1⟩ ⟨f2, by rw [pL_ne hN (by omega)]; exact e5⟩
  refine v_call1 (v := .int b0) (M1 := M2) (mc := 0) (ms := 0) (fun H locs hR hS => va_runV (As := []) (rest := []) ⟨hx, hb, hml, hown, hts⟩ (mX10_mark l hfl D r  N (b0, M2) g1) (cwV 0 hts (gdV kl1713 kl1714 kl1715 kw85 kl1716) rfl rfl rfl (by decide +kernel) ⟨Nat.le_of_ble_eq_true rfl, Nat.le_of_ble_eq_true rfl⟩) (v_preV (ci := 11) hSS hR hS e8 (by decide) rfl []) rfl rfl hl.1 rfl (lv_room (Nat.le_of_ble_eq_true rfl)) dL_law_1670 ⟨by show n + 50 + 0 ≤ 601024; omega, by show k + 2001 + 0 ≤ 7293034; omega⟩) ?_
  refine w_istore (lv' := [(7, .int b0), (6, .int (Sum.elim (fun _ => (0 : Int32)) mp2 z)), (0, .ref b), (1, .ref x), (2, .ref r), (3, .ref (r + 10)), (4, .ref (r + 11)), (5, .int (Int32.ofNat i))]) hx hb dL_law_1673 hl (by decide) rfl (fun ls hl => ?_)
  refine w_aload_n hx hb dL_law_1675 rfl (lv_at hl 4 rfl) ?_
  have gt0 : tX10_thrown r M2 = some (Sum.elim (fun _ => (0 : Int32)) mp2 z) := by rw [tX10_thrown, g3]; rfl
  refine v_call1 (v := .int (Sum.elim (fun _ => (0 : Int32)) mp2 z)) (M1 := M2) (mc := 0) (ms := 0) (fun H locs hR hS => va_runV (As := []) (rest := []) ⟨hx, hb, hml, hown, hts⟩ (mX10_thrown l hfl D r M2 _ gt0) (cwV 0 hts (gdV kl1403 kl1404 kl1405 kw85 kl1406) rfl rfl rfl (by decide +kernel) ⟨Nat.le_of_ble_eq_true rfl, Nat.le_of_ble_eq_true rfl⟩) (v_preV (ci := 11) hSS hR hS (v_tag g3).1 (by decide) rfl []) rfl rfl hl.1 rfl (lv_room (Nat.le_of_ble_eq_true rfl)) dL_law_1676 ⟨by show n + 50 + 0 + 0 ≤ 601024; omega, by show k + 2001 + 0 + 0 ≤ 7293034; omega⟩) ?_
  refine w_iload hx hb dL_law_1679 (lv_at hl 1 rfl) ?_
  refine w_icmp_eq (tgt := 1686) hx hb dL_law_1681 (by decide) (fun _ => ?_) (fun c0 => absurd rfl c0)
  refine w_iload hx hb dL_law_1686 (lv_at hl 1 rfl) ?_
  refine w_if_ne (tgt := 1703) hx hb dL_law_1688 (by decide) (fun c0 => ?_) (fun c0 => ?_)
  · rcases z with v | j
    · have eb := g4 v rfl
      subst eb
      have o3 := o2 _ rfl
      have al : aJ M2 (r + 10) 104 0 = some b0.toInt64 := by
        show (if (M2.1 (r + 10)).1 = 104 ∧ ¬ ((0 : Int32) < 0 ∨ (M2.1 (r + 10)).2.1 ≤ (0 : Int32).toNatClampNeg) then some (vJ ((M2.1 (r + 10)).2.2 0)) else none) = _
        rw [g5, o1, if_pos ⟨rfl, z_in⟩]
        show some (vJ (f3 0)) = _
        rw [o3]; rfl
      refine w_aload_n hx hb dL_law_1691 rfl (lv_at hl 5 rfl) ?_
      refine w_iconst (v := 0) hx hb dL_law_1692 (by decide) ?_
      refine v_lald hx hb hK al dL_law_1693 ?_
      refine w_iload hx hb dL_law_1694 (lv_at hl 0 rfl) ?_
      refine w_i2l hx hb dL_law_1696 ?_
      refine w_lcmp hx hb dL_law_1697 ?_
      refine w_if_eq (tgt := 1703) hx hb dL_law_1698 (by decide) (fun _ => ?_) (fun c1 => absurd (lg_self _) c1)
      refine w_goto (tgt := 2226) hx hb dL_law_1703 (by decide) ?_
      refine vV.widen (n' := n + 60) (k' := k + 2100) (by omega) (by omega) ?_
      exact K M2 g2 _ (lv_sub hl [2, 3, 4, 5, 6, 7] rfl)
    · exact absurd c0 (e3 j rfl)
  · refine w_goto (tgt := 2226) hx hb dL_law_1703 (by decide) ?_
    refine vV.widen (n' := n + 60) (k' := k + 2100) (by omega) (by omega) ?_
    exact K M2 g2 _ (lv_sub hl [2, 3, 4, 5, 6, 7] rfl)
set_option maxHeartbeats 4000000 in
set_option maxRecDepth 100000 in
/-- open -/
theorem kC_24 {p : Program} {l : Launch} {e : Env} {s : State} {m : MethodId} {below : List Frame} {meth : Method} {c : Code} {Q : State → Prop} {D : vD} {b L : Nat} {xs : Nat → Int32} {x r : Nat} {M0 : Nat → vOb} {M : vMe} {i n k : Nat} {ls : Array Slot} (hfl : l.stackTraces = false) (hx : p.tables.exec = Jvm.exec) (hb : c.code = code) (hml : c.maxLocals = 9) (hown : s.vm.findClass RL = some m.cls) (hts : ∀ w ∈ TB, w.before #[.ref b] s = true) (hSS : vS D s) (hX : va_X b L xs s s.heap) (hbl : b < s.heap.size) (hbA : ¬ vA D b) (S : lS D x M0) (I : lI x r M0 M) (hi : i + 6 ≤ L) (hL : L ≤ 3072) (hn : n + 60 ≤ 601024) (hk : k + 2100 ≤ 7293034)
    (hl : lv_has ls 9 [(0, .ref b), (1, .ref x), (2, .ref r), (3, .ref (r + 10)), (4, .ref (r + 11)), (5, .int (Int32.ofNat i))]) (K : ∀ M2, lI x r M0 M2 → ∀ ls : Array Slot, lv_has ls 9 [(0, .ref b), (1, .ref x), (2, .ref r), (3, .ref (r + 10)), (4, .ref (r + 11)), (5, .int (Int32.ofNat i))] → vV D p l e room_1 s m #[.ref b] below meth c (n + 60) (k + 2100) Q M2 (F0 m 2226 ls [])) : vV D p l e room_1 s m #[.ref b] below meth c n k Q M (F0 m 1706 ls []) := by
  refine vV.know (fun H hR => ?_)
  have wf0 := wf_R hR
  obtain ⟨⟨G, F, a, d, C, u, hz, n', k', hD⟩, i2, i3, i4, i5⟩ := id I
  obtain ⟨z, M1, e1, e2, e3, ⟨f1, e4⟩, ⟨f2, e5⟩, hxr, e7, e6⟩ := lI_go I (O_open (Gs := D.2.2.2.2) hD wf0 (xs (i + 1)) (if xs (i + 2) = 0 then 0 else 1) (w_b01 _))
  have hK := hSS.1
  refine w_aload_n hx hb dL_law_1706 rfl (lv_at hl 1 rfl) ?_
  refine w_arg (pc := 1707) 1 hx hb hX hbl hbA hL (by omega) rfl (lv_at hl 0 rfl) (lv_at hl 5 rfl) (by decide) dL_law_1707 dL_law_1708 dL_law_1710 dL_law_1711 dL_law_1712 ?_
  refine w_arg (pc := 1713) 2 hx hb hX hbl hbA hL (by omega) rfl (lv_at hl 0 rfl) (lv_at hl 5 rfl) (by decide) dL_law_1713 dL_law_1714 dL_law_1716 dL_law_1717 dL_law_1718 ?_
  refine w_bool (pc := 1719) hx hb dL_law_1719 dL_law_1722 dL_law_1723 dL_law_1726 ?_
  refine w_aload_n hx hb dL_law_1727 rfl (lv_at hl 3 rfl) ?_
  refine v_callH (P := pL M1 (r + 10) (Sum.elim (fun v => some (.long v.toInt64)) (fun _ => none) z)) (v := .int (Sum.elim (fun _ => (0 : Int32)) mpC z)) (mcz := 50) (msz := 2001) (fun H locs hR hS => vx_runSW (hh := [(0, 10, 13, 22), (0, 10, 17, 82)]) (As := [.ref x, .int (xs (i + 1)), .int (if xs (i + 2) = 0 then 0 else 1), .ref (r + 10)]) (rest := []) ⟨hx, hb, hml, hown, hts⟩ (mL_open l hfl D x (xs (i + 1)) (if xs (i + 2) = 0 then 0 else 1) (r + 10) M f1 (z, M1) e1 (T_x hD.1.1) e4 (by show M1.2.2.2 ≤ _; rw [e2]; omega) e3) (vx_cwSW 4 hts (gdS kl1232 kl1233 kl76 kl1234) rfl rfl rfl (by decide +kernel) ⟨Nat.le_of_ble_eq_true rfl, Nat.le_of_ble_eq_true rfl⟩) (v_preS hSS hR hS [.ref x, .int (xs (i + 1)), .int (if xs (i + 2) = 0 then 0 else 1), .ref (r + 10)]) rfl rfl hl.1 rfl (lv_room (Nat.le_of_ble_eq_true rfl)) dL_law_1728 ⟨by show n + 50 ≤ 601024; omega, by show k + 2001 ≤ 7293034; omega⟩) (fun N hN => ?_)
  refine w_istore (lv' := [(6, .int (Sum.elim (fun _ => (0 : Int32)) mpC z)), (0, .ref b), (1, .ref x), (2, .ref r), (3, .ref (r + 10)), (4, .ref (r + 11)), (5, .int (Int32.ofNat i))]) hx hb dL_law_1731 hl (by decide) rfl (fun ls hl => ?_)
  refine w_aload_n hx hb dL_law_1733 rfl (lv_at hl 3 rfl) ?_
  refine w_arg (pc := 1734) 1 hx hb hX hbl hbA hL (by omega) rfl (lv_at hl 1 rfl) (lv_at hl 6 rfl) (by decide) dL_law_1734 dL_law_1735 dL_law_1737 dL_law_1738 dL_law_1739 ?_
  refine w_arg (pc := 1740) 2 hx hb hX hbl hbA hL (by omega) rfl (lv_at hl 1 rfl) (lv_at hl 6 rfl) (by decide) dL_law_1740 dL_law_1741 dL_law_1743 dL_law_1744 dL_law_1745 ?_
  refine w_bool (pc := 1746) hx hb dL_law_1746 dL_law_1749 dL_law_1750 dL_law_1753 ?_
  obtain ⟨f3, o1, o2⟩ := pL_at hN e4
  obtain ⟨e8, b0, M2, g1, g2, g3, g4, g5, g6⟩ := e6 N (pL_slk (.inl rfl) hN) ⟨f3, o1⟩ ⟨f2, by rw [pL_ne hN (by omega)]; exact e5⟩
  refine v_call1 (v := .int b0) (M1 := M2) (mc := 0) (ms := 0) (fun H locs hR hS => va_runV (As := [.int (xs (i + 1)), .int (if xs (i + 2) = 0 then 0 else 1)]) (rest := []) ⟨hx, hb, hml, hown, hts⟩ (mX10_open l hfl D r (xs (i + 1)) (if xs (i + 2) = 0 then 0 else 1) N (b0, M2) g1) (cwV 2 hts (gdV kl1717 kl1718 kl1719 kw85 kl1720) rfl rfl rfl (by decide +kernel) ⟨Nat.le_of_ble_eq_true rfl, Nat.le_of_ble_eq_true rfl⟩) (v_preV (ci := 11) hSS hR hS e8 (by decide) rfl [.int (xs (i + 1)), .int (if xs (i + 2) = 0 then 0 else 1)]) rfl rfl hl.1 rfl (lv_room (Nat.le_of_ble_eq_true rfl)) dL_law_1754 ⟨by show n + 50 + 0 ≤ 601024; omega, by show k + 2001 + 0 ≤ 7293034; omega⟩) ?_
  refine w_istore (lv' := [(7, .int b0), (6, .int (Sum.elim (fun _ => (0 : Int32)) mpC z)), (0, .ref b), (1, .ref x), (2, .ref r), (3, .ref (r + 10)), (4, .ref (r + 11)), (5, .int (Int32.ofNat i))]) hx hb dL_law_1757 hl (by decide) rfl (fun ls hl => ?_)
  refine w_aload_n hx hb dL_law_1759 rfl (lv_at hl 4 rfl) ?_
  have gt0 : tX10_thrown r M2 = some (Sum.elim (fun _ => (0 : Int32)) mpC z) := by rw [tX10_thrown, g3]; rfl
  refine v_call1 (v := .int (Sum.elim (fun _ => (0 : Int32)) mpC z)) (M1 := M2) (mc := 0) (ms := 0) (fun H locs hR hS => va_runV (As := []) (rest := []) ⟨hx, hb, hml, hown, hts⟩ (mX10_thrown l hfl D r M2 _ gt0) (cwV 0 hts (gdV kl1403 kl1404 kl1405 kw85 kl1406) rfl rfl rfl (by decide +kernel) ⟨Nat.le_of_ble_eq_true rfl, Nat.le_of_ble_eq_true rfl⟩) (v_preV (ci := 11) hSS hR hS (v_tag g3).1 (by decide) rfl []) rfl rfl hl.1 rfl (lv_room (Nat.le_of_ble_eq_true rfl)) dL_law_1760 ⟨by show n + 50 + 0 + 0 ≤ 601024; omega, by show k + 2001 + 0 + 0 ≤ 7293034; omega⟩) ?_
  refine w_iload hx hb dL_law_1763 (lv_at hl 1 rfl) ?_
  refine w_icmp_eq (tgt := 1770) hx hb dL_law_1765 (by decide) (fun _ => ?_) (fun c0 => absurd rfl c0)
  refine w_iload hx hb dL_law_1770 (lv_at hl 1 rfl) ?_
  refine w_if_ne (tgt := 1787) hx hb dL_law_1772 (by decide) (fun c0 => ?_) (fun c0 => ?_)
  · rcases z with v | j
    · have eb := g4 v rfl
      subst eb
      have o3 := o2 _ rfl
      have al : aJ M2 (r + 10) 104 0 = some b0.toInt64 := by
        show (if (M2.1 (r + 10)).1 = 104 ∧ ¬ ((0 : Int32) < 0 ∨ (M2.1 (r + 10)).2.1 ≤ (0 : Int32).toNatClampNeg) then some (vJ ((M2.1 (r + 10)).2.2 0)) else none) = _
        rw [g5, o1, if_pos ⟨rfl, z_in⟩]
        show some (vJ (f3 0)) = _
        rw [o3]; rfl
      refine w_aload_n hx hb dL_law_1775 rfl (lv_at hl 5 rfl) ?_
      refine w_iconst (v := 0) hx hb dL_law_1776 (by decide) ?_
      refine v_lald hx hb hK al dL_law_1777 ?_
      refine w_iload hx hb dL_law_1778 (lv_at hl 0 rfl) ?_
      refine w_i2l hx hb dL_law_1780 ?_
      refine w_lcmp hx hb dL_law_1781 ?_
      refine w_if_eq (tgt := 1787) hx hb dL_law_1782 (by decide) (fun _ => ?_) (fun c1 => absurd (lg_self _) c1)
      refine w_goto (tgt := 2226) hx hb dL_law_1787 (by decide) ?_
      refine vV.widen (n' := n + 60) (k' := k + 2100) (by omega) (by omega) ?_
      exact K M2 g2 _ (lv_sub hl [2, 3, 4, 5, 6, 7] rfl)
    · exact absurd c0 (e3 j rfl)
  · refine w_goto (tgt := 2226) hx hb dL_law_1787 (by decide) ?_
    refine vV.widen (n' := n + 60) (k' := k + 2100) (by omega) (by omega) ?_
    exact K M2 g2 _ (lv_sub hl [2, 3, 4, 5, 6, 7] rfl)
set_option maxHeartbeats 4000000 in
set_option maxRecDepth 100000 in
/-- close -/
theorem kC_25 {p : Program} {l : Launch} {e : Env} {s : State} {m : MethodId} {below : List Frame} {meth : Method} {c : Code} {Q : State → Prop} {D : vD} {b L : Nat} {xs : Nat → Int32} {x r : Nat} {M0 : Nat → vOb} {M : vMe} {i n k : Nat} {ls : Array Slot} (hfl : l.stackTraces = false) (hx : p.tables.exec = Jvm.exec) (hb : c.code = code) (hml : c.maxLocals = 9) (hown : s.vm.findClass RL = some m.cls) (hts : ∀ w ∈ TB, w.before #[.ref b] s = true) (hSS : vS D s) (hX : va_X b L xs s s.heap) (hbl : b < s.heap.size) (hbA : ¬ vA D b) (S : lS D x M0) (I : lI x r M0 M) (hi : i + 6 ≤ L) (hL : L ≤ 3072) (hn : n + 60 ≤ 601024) (hk : k + 2100 ≤ 7293034)
    (hl : lv_has ls 9 [(0, .ref b), (1, .ref x), (2, .ref r), (3, .ref (r + 10)), (4, .ref (r + 11)), (5, .int (Int32.ofNat i))]) (K : ∀ M2, lI x r M0 M2 → ∀ ls : Array Slot, lv_has ls 9 [(0, .ref b), (1, .ref x), (2, .ref r), (3, .ref (r + 10)), (4, .ref (r + 11)), (5, .int (Int32.ofNat i))] → vV D p l e room_1 s m #[.ref b] below meth c (n + 60) (k + 2100) Q M2 (F0 m 2226 ls [])) : vV D p l e room_1 s m #[.ref b] below meth c n k Q M (F0 m 1790 ls []) := by
  refine vV.know (fun H hR => ?_)
  have wf0 := wf_R hR
  obtain ⟨⟨G, F, a, d, C, u, hz, n', k', hD⟩, i2, i3, i4, i5⟩ := id I
  obtain ⟨z, M1, e1, e2, e3, ⟨f1, e4⟩, ⟨f2, e5⟩, hxr, e7, e6⟩ := lI_go I (O_close (Gs := D.2.2.2.2) hD wf0 (xs (i + 1)))
  have hK := hSS.1
  refine w_aload_n hx hb dL_law_1790 rfl (lv_at hl 1 rfl) ?_
  refine w_arg (pc := 1791) 1 hx hb hX hbl hbA hL (by omega) rfl (lv_at hl 0 rfl) (lv_at hl 5 rfl) (by decide) dL_law_1791 dL_law_1792 dL_law_1794 dL_law_1795 dL_law_1796 ?_
  refine w_aload_n hx hb dL_law_1797 rfl (lv_at hl 3 rfl) ?_
  refine v_callH (P := pL M1 (r + 10) (Sum.elim (fun v => some (.long v.toInt64)) (fun _ => none) z)) (v := .int (Sum.elim (fun _ => (0 : Int32)) mp1 z)) (mcz := 50) (msz := 2001) (fun H locs hR hS => vx_runSW (hh := [(0, 9, 12, 22)]) (As := [.ref x, .int (xs (i + 1)), .ref (r + 10)]) (rest := []) ⟨hx, hb, hml, hown, hts⟩ (mL_close l hfl D x (xs (i + 1)) (r + 10) M f1 (z, M1) e1 (T_x hD.1.1) e4 (by show M1.2.2.2 ≤ _; rw [e2]; omega) e3) (vx_cwSW 3 hts (gdS kl1248 kl1249 kl76 kl1250) rfl rfl rfl (by decide +kernel) ⟨Nat.le_of_ble_eq_true rfl, Nat.le_of_ble_eq_true rfl⟩) (v_preS hSS hR hS [.ref x, .int (xs (i + 1)), .ref (r + 10)]) rfl rfl hl.1 rfl (lv_room (Nat.le_of_ble_eq_true rfl)) dL_law_1798 ⟨by show n + 50 ≤ 601024; omega, by show k + 2001 ≤ 7293034; omega⟩) (fun N hN => ?_)
  refine w_istore (lv' := [(6, .int (Sum.elim (fun _ => (0 : Int32)) mp1 z)), (0, .ref b), (1, .ref x), (2, .ref r), (3, .ref (r + 10)), (4, .ref (r + 11)), (5, .int (Int32.ofNat i))]) hx hb dL_law_1801 hl (by decide) rfl (fun ls hl => ?_)
  refine w_aload_n hx hb dL_law_1803 rfl (lv_at hl 3 rfl) ?_
  refine w_arg (pc := 1804) 1 hx hb hX hbl hbA hL (by omega) rfl (lv_at hl 1 rfl) (lv_at hl 6 rfl) (by decide) dL_law_1804 dL_law_1805 dL_law_1807 dL_law_1808 dL_law_1809 ?_
  obtain ⟨f3, o1, o2⟩ := pL_at hN e4
  obtain ⟨e8, b0, M2, g1, g2, g3, g4, g5, g6⟩ := e6 N (pL_slk (.inl rfl) hN) ⟨f3, o1⟩ ⟨f2, by rw [pL_ne hN (by omega)]; exact e5⟩
  refine v_call1 (v := .int b0) (M1 := M2) (mc := 0) (ms := 0) (fun H locs hR hS => va_runV (As := [.int (xs (i + 1))]) (rest := []) ⟨hx, hb, hml, hown, hts⟩ (mX10_close l hfl D r (xs (i + 1)) N (b0, M2) g1) (cwV 1 hts (gdV kl1721 kl1722 kl1723 kw85 kl1724) rfl rfl rfl (by decide +kernel) ⟨Nat.le_of_ble_eq_true rfl, Nat.le_of_ble_eq_true rfl⟩) (v_preV (ci := 11) hSS hR hS e8 (by decide) rfl [.int (xs (i + 1))]) rfl rfl hl.1 rfl (lv_room (Nat.le_of_ble_eq_true rfl)) dL_law_1810 ⟨by show n + 50 + 0 ≤ 601024; omega, by show k + 2001 + 0 ≤ 7293034; omega⟩) ?_
  refine w_istore (lv' := [(7, .int b0), (6, .int (Sum.elim (fun _ => (0 : Int32)) mp1 z)), (0, .ref b), (1, .ref x), (2, .ref r), (3, .ref (r + 10)), (4, .ref (r + 11)), (5, .int (Int32.ofNat i))]) hx hb dL_law_1813 hl (by decide) rfl (fun ls hl => ?_)
  refine w_aload_n hx hb dL_law_1815 rfl (lv_at hl 4 rfl) ?_
  have gt0 : tX10_thrown r M2 = some (Sum.elim (fun _ => (0 : Int32)) mp1 z) := by rw [tX10_thrown, g3]; rfl
  refine v_call1 (v := .int (Sum.elim (fun _ => (0 : Int32)) mp1 z)) (M1 := M2) (mc := 0) (ms := 0) (fun H locs hR hS => va_runV (As := []) (rest := []) ⟨hx, hb, hml, hown, hts⟩ (mX10_thrown l hfl D r M2 _ gt0) (cwV 0 hts (gdV kl1403 kl1404 kl1405 kw85 kl1406) rfl rfl rfl (by decide +kernel) ⟨Nat.le_of_ble_eq_true rfl, Nat.le_of_ble_eq_true rfl⟩) (v_preV (ci := 11) hSS hR hS (v_tag g3).1 (by decide) rfl []) rfl rfl hl.1 rfl (lv_room (Nat.le_of_ble_eq_true rfl)) dL_law_1816 ⟨by show n + 50 + 0 + 0 ≤ 601024; omega, by show k + 2001 + 0 + 0 ≤ 7293034; omega⟩) ?_
  refine w_iload hx hb dL_law_1819 (lv_at hl 1 rfl) ?_
  refine w_icmp_eq (tgt := 1826) hx hb dL_law_1821 (by decide) (fun _ => ?_) (fun c0 => absurd rfl c0)
  refine w_iload hx hb dL_law_1826 (lv_at hl 1 rfl) ?_
  refine w_if_ne (tgt := 1843) hx hb dL_law_1828 (by decide) (fun c0 => ?_) (fun c0 => ?_)
  · rcases z with v | j
    · have eb := g4 v rfl
      subst eb
      have o3 := o2 _ rfl
      have al : aJ M2 (r + 10) 104 0 = some b0.toInt64 := by
        show (if (M2.1 (r + 10)).1 = 104 ∧ ¬ ((0 : Int32) < 0 ∨ (M2.1 (r + 10)).2.1 ≤ (0 : Int32).toNatClampNeg) then some (vJ ((M2.1 (r + 10)).2.2 0)) else none) = _
        rw [g5, o1, if_pos ⟨rfl, z_in⟩]
        show some (vJ (f3 0)) = _
        rw [o3]; rfl
      refine w_aload_n hx hb dL_law_1831 rfl (lv_at hl 5 rfl) ?_
      refine w_iconst (v := 0) hx hb dL_law_1832 (by decide) ?_
      refine v_lald hx hb hK al dL_law_1833 ?_
      refine w_iload hx hb dL_law_1834 (lv_at hl 0 rfl) ?_
      refine w_i2l hx hb dL_law_1836 ?_
      refine w_lcmp hx hb dL_law_1837 ?_
      refine w_if_eq (tgt := 1843) hx hb dL_law_1838 (by decide) (fun _ => ?_) (fun c1 => absurd (lg_self _) c1)
      refine w_goto (tgt := 2226) hx hb dL_law_1843 (by decide) ?_
      refine vV.widen (n' := n + 60) (k' := k + 2100) (by omega) (by omega) ?_
      exact K M2 g2 _ (lv_sub hl [2, 3, 4, 5, 6, 7] rfl)
    · exact absurd c0 (e3 j rfl)
  · refine w_goto (tgt := 2226) hx hb dL_law_1843 (by decide) ?_
    refine vV.widen (n' := n + 60) (k' := k + 2100) (by omega) (by omega) ?_
    exact K M2 g2 _ (lv_sub hl [2, 3, 4, 5, 6, 7] rfl)
set_option maxHeartbeats 4000000 in
set_option maxRecDepth 100000 in
/-- step -/
theorem kC_26 {p : Program} {l : Launch} {e : Env} {s : State} {m : MethodId} {below : List Frame} {meth : Method} {c : Code} {Q : State → Prop} {D : vD} {b L : Nat} {xs : Nat → Int32} {x r : Nat} {M0 : Nat → vOb} {M : vMe} {i n k : Nat} {ls : Array Slot} (hfl : l.stackTraces = false) (hx : p.tables.exec = Jvm.exec) (hb : c.code = code) (hml : c.maxLocals = 9) (hown : s.vm.findClass RL = some m.cls) (hts : ∀ w ∈ TB, w.before #[.ref b] s = true) (hSS : vS D s) (hX : va_X b L xs s s.heap) (hbl : b < s.heap.size) (hbA : ¬ vA D b) (S : lS D x M0) (I : lI x r M0 M) (hi : i + 6 ≤ L) (hL : L ≤ 3072) (hn : n + 60 ≤ 601024) (hk : k + 2100 ≤ 7293034)
    (hl : lv_has ls 9 [(0, .ref b), (1, .ref x), (2, .ref r), (3, .ref (r + 10)), (4, .ref (r + 11)), (5, .int (Int32.ofNat i))]) (K : ∀ M2, lI x r M0 M2 → ∀ ls : Array Slot, lv_has ls 9 [(0, .ref b), (1, .ref x), (2, .ref r), (3, .ref (r + 10)), (4, .ref (r + 11)), (5, .int (Int32.ofNat i))] → vV D p l e room_1 s m #[.ref b] below meth c (n + 60) (k + 2100) Q M2 (F0 m 2226 ls [])) : vV D p l e room_1 s m #[.ref b] below meth c n k Q M (F0 m 1846 ls []) := by
  refine vV.know (fun H hR => ?_)
  have wf0 := wf_R hR
  obtain ⟨⟨G, F, a, d, C, u, hz, n', k', hD⟩, i2, i3, i4, i5⟩ := id I
  obtain ⟨z, M1, e1, e2, e3, ⟨f1, e4⟩, ⟨f2, e5⟩, hxr, e7, e6⟩ := lI_go I (O_step (Gs := D.2.2.2.2) hD wf0 (xs (i + 1)))
  have hK := hSS.1
  refine w_aload_n hx hb dL_law_1846 rfl (lv_at hl 1 rfl) ?_
  refine w_arg (pc := 1847) 1 hx hb hX hbl hbA hL (by omega) rfl (lv_at hl 0 rfl) (lv_at hl 5 rfl) (by decide) dL_law_1847 dL_law_1848 dL_law_1850 dL_law_1851 dL_law_1852 ?_
  refine w_aload_n hx hb dL_law_1853 rfl (lv_at hl 3 rfl) ?_
  refine v_callH (P := pL M1 (r + 10) (Sum.elim (fun v => some (.long v.toInt64)) (fun _ => none) z)) (v := .int (Sum.elim (fun _ => (0 : Int32)) mp1 z)) (mcz := 50) (msz := 2001) (fun H locs hR hS => vx_runSW (hh := [(0, 9, 12, 22)]) (As := [.ref x, .int (xs (i + 1)), .ref (r + 10)]) (rest := []) ⟨hx, hb, hml, hown, hts⟩ (mL_step l hfl D x (xs (i + 1)) (r + 10) M f1 (z, M1) e1 (T_x hD.1.1) e4 (by show M1.2.2.2 ≤ _; rw [e2]; omega) e3) (vx_cwSW 3 hts (gdS kl1255 kl1256 kl76 kl1257) rfl rfl rfl (by decide +kernel) ⟨Nat.le_of_ble_eq_true rfl, Nat.le_of_ble_eq_true rfl⟩) (v_preS hSS hR hS [.ref x, .int (xs (i + 1)), .ref (r + 10)]) rfl rfl hl.1 rfl (lv_room (Nat.le_of_ble_eq_true rfl)) dL_law_1854 ⟨by show n + 50 ≤ 601024; omega, by show k + 2001 ≤ 7293034; omega⟩) (fun N hN => ?_)
  refine w_istore (lv' := [(6, .int (Sum.elim (fun _ => (0 : Int32)) mp1 z)), (0, .ref b), (1, .ref x), (2, .ref r), (3, .ref (r + 10)), (4, .ref (r + 11)), (5, .int (Int32.ofNat i))]) hx hb dL_law_1857 hl (by decide) rfl (fun ls hl => ?_)
  refine w_aload_n hx hb dL_law_1859 rfl (lv_at hl 3 rfl) ?_
  refine w_arg (pc := 1860) 1 hx hb hX hbl hbA hL (by omega) rfl (lv_at hl 1 rfl) (lv_at hl 6 rfl) (by decide) dL_law_1860 dL_law_1861 dL_law_1863 dL_law_1864 dL_law_1865 ?_
  obtain ⟨f3, o1, o2⟩ := pL_at hN e4
  obtain ⟨e8, b0, M2, g1, g2, g3, g4, g5, g6⟩ := e6 N (pL_slk (.inl rfl) hN) ⟨f3, o1⟩ ⟨f2, by rw [pL_ne hN (by omega)]; exact e5⟩
  refine v_call1 (v := .int b0) (M1 := M2) (mc := 0) (ms := 0) (fun H locs hR hS => va_runV (As := [.int (xs (i + 1))]) (rest := []) ⟨hx, hb, hml, hown, hts⟩ (mX10_step l hfl D r (xs (i + 1)) N (b0, M2) g1) (cwV 1 hts (gdV kl1725 kl1726 kl1727 kw85 kl1728) rfl rfl rfl (by decide +kernel) ⟨Nat.le_of_ble_eq_true rfl, Nat.le_of_ble_eq_true rfl⟩) (v_preV (ci := 11) hSS hR hS e8 (by decide) rfl [.int (xs (i + 1))]) rfl rfl hl.1 rfl (lv_room (Nat.le_of_ble_eq_true rfl)) dL_law_1866 ⟨by show n + 50 + 0 ≤ 601024; omega, by show k + 2001 + 0 ≤ 7293034; omega⟩) ?_
  refine w_istore (lv' := [(7, .int b0), (6, .int (Sum.elim (fun _ => (0 : Int32)) mp1 z)), (0, .ref b), (1, .ref x), (2, .ref r), (3, .ref (r + 10)), (4, .ref (r + 11)), (5, .int (Int32.ofNat i))]) hx hb dL_law_1869 hl (by decide) rfl (fun ls hl => ?_)
  refine w_aload_n hx hb dL_law_1871 rfl (lv_at hl 4 rfl) ?_
  have gt0 : tX10_thrown r M2 = some (Sum.elim (fun _ => (0 : Int32)) mp1 z) := by rw [tX10_thrown, g3]; rfl
  refine v_call1 (v := .int (Sum.elim (fun _ => (0 : Int32)) mp1 z)) (M1 := M2) (mc := 0) (ms := 0) (fun H locs hR hS => va_runV (As := []) (rest := []) ⟨hx, hb, hml, hown, hts⟩ (mX10_thrown l hfl D r M2 _ gt0) (cwV 0 hts (gdV kl1403 kl1404 kl1405 kw85 kl1406) rfl rfl rfl (by decide +kernel) ⟨Nat.le_of_ble_eq_true rfl, Nat.le_of_ble_eq_true rfl⟩) (v_preV (ci := 11) hSS hR hS (v_tag g3).1 (by decide) rfl []) rfl rfl hl.1 rfl (lv_room (Nat.le_of_ble_eq_true rfl)) dL_law_1872 ⟨by show n + 50 + 0 + 0 ≤ 601024; omega, by show k + 2001 + 0 + 0 ≤ 7293034; omega⟩) ?_
  refine w_iload hx hb dL_law_1875 (lv_at hl 1 rfl) ?_
  refine w_icmp_eq (tgt := 1882) hx hb dL_law_1877 (by decide) (fun _ => ?_) (fun c0 => absurd rfl c0)
  refine w_iload hx hb dL_law_1882 (lv_at hl 1 rfl) ?_
  refine w_if_ne (tgt := 1899) hx hb dL_law_1884 (by decide) (fun c0 => ?_) (fun c0 => ?_)
  · rcases z with v | j
    · have eb := g4 v rfl
      subst eb
      have o3 := o2 _ rfl
      have al : aJ M2 (r + 10) 104 0 = some b0.toInt64 := by
        show (if (M2.1 (r + 10)).1 = 104 ∧ ¬ ((0 : Int32) < 0 ∨ (M2.1 (r + 10)).2.1 ≤ (0 : Int32).toNatClampNeg) then some (vJ ((M2.1 (r + 10)).2.2 0)) else none) = _
        rw [g5, o1, if_pos ⟨rfl, z_in⟩]
        show some (vJ (f3 0)) = _
        rw [o3]; rfl
      refine w_aload_n hx hb dL_law_1887 rfl (lv_at hl 5 rfl) ?_
      refine w_iconst (v := 0) hx hb dL_law_1888 (by decide) ?_
      refine v_lald hx hb hK al dL_law_1889 ?_
      refine w_iload hx hb dL_law_1890 (lv_at hl 0 rfl) ?_
      refine w_i2l hx hb dL_law_1892 ?_
      refine w_lcmp hx hb dL_law_1893 ?_
      refine w_if_eq (tgt := 1899) hx hb dL_law_1894 (by decide) (fun _ => ?_) (fun c1 => absurd (lg_self _) c1)
      refine w_goto (tgt := 2226) hx hb dL_law_1899 (by decide) ?_
      refine vV.widen (n' := n + 60) (k' := k + 2100) (by omega) (by omega) ?_
      exact K M2 g2 _ (lv_sub hl [2, 3, 4, 5, 6, 7] rfl)
    · exact absurd c0 (e3 j rfl)
  · refine w_goto (tgt := 2226) hx hb dL_law_1899 (by decide) ?_
    refine vV.widen (n' := n + 60) (k' := k + 2100) (by omega) (by omega) ?_
    exact K M2 g2 _ (lv_sub hl [2, 3, 4, 5, 6, 7] rfl)
set_option maxHeartbeats 4000000 in
set_option maxRecDepth 100000 in
/-- removeMet -/
theorem kC_27 {p : Program} {l : Launch} {e : Env} {s : State} {m : MethodId} {below : List Frame} {meth : Method} {c : Code} {Q : State → Prop} {D : vD} {b L : Nat} {xs : Nat → Int32} {x r : Nat} {M0 : Nat → vOb} {M : vMe} {i n k : Nat} {ls : Array Slot} (hfl : l.stackTraces = false) (hx : p.tables.exec = Jvm.exec) (hb : c.code = code) (hml : c.maxLocals = 9) (hown : s.vm.findClass RL = some m.cls) (hts : ∀ w ∈ TB, w.before #[.ref b] s = true) (hSS : vS D s) (hX : va_X b L xs s s.heap) (hbl : b < s.heap.size) (hbA : ¬ vA D b) (S : lS D x M0) (I : lI x r M0 M) (hi : i + 6 ≤ L) (hL : L ≤ 3072) (hn : n + 60 ≤ 601024) (hk : k + 2100 ≤ 7293034)
    (hl : lv_has ls 9 [(0, .ref b), (1, .ref x), (2, .ref r), (3, .ref (r + 10)), (4, .ref (r + 11)), (5, .int (Int32.ofNat i))]) (K : ∀ M2, lI x r M0 M2 → ∀ ls : Array Slot, lv_has ls 9 [(0, .ref b), (1, .ref x), (2, .ref r), (3, .ref (r + 10)), (4, .ref (r + 11)), (5, .int (Int32.ofNat i))] → vV D p l e room_1 s m #[.ref b] below meth c (n + 60) (k + 2100) Q M2 (F0 m 2226 ls [])) : vV D p l e room_1 s m #[.ref b] below meth c n k Q M (F0 m 1902 ls []) := by
  refine vV.know (fun H hR => ?_)
  have wf0 := wf_R hR
  obtain ⟨⟨G, F, a, d, C, u, hz, n', k', hD⟩, i2, i3, i4, i5⟩ := id I
  obtain ⟨z, M1, e1, e2, e3, ⟨f1, e4⟩, ⟨f2, e5⟩, hxr, e7, e6⟩ := lI_go I (O_removeMet (Gs := D.2.2.2.2) hD wf0 (xs (i + 1)))
  have hK := hSS.1
  refine w_aload_n hx hb dL_law_1902 rfl (lv_at hl 1 rfl) ?_
  refine w_arg (pc := 1903) 1 hx hb hX hbl hbA hL (by omega) rfl (lv_at hl 0 rfl) (lv_at hl 5 rfl) (by decide) dL_law_1903 dL_law_1904 dL_law_1906 dL_law_1907 dL_law_1908 ?_
  refine w_aload_n hx hb dL_law_1909 rfl (lv_at hl 3 rfl) ?_
  refine v_callH (P := pL M1 (r + 10) (Sum.elim (fun v => some (.long v.toInt64)) (fun _ => none) z)) (v := .int (Sum.elim (fun _ => (0 : Int32)) mpC z)) (mcz := 50) (msz := 2001) (fun H locs hR hS => vx_runSW (hh := [(0, 9, 12, 22), (0, 9, 15, 82)]) (As := [.ref x, .int (xs (i + 1)), .ref (r + 10)]) (rest := []) ⟨hx, hb, hml, hown, hts⟩ (mL_removeMet l hfl D x (xs (i + 1)) (r + 10) M f1 (z, M1) e1 (T_x hD.1.1) e4 (by show M1.2.2.2 ≤ _; rw [e2]; omega) e3) (vx_cwSW 3 hts (gdS kl1266 kl1267 kl76 kl1268) rfl rfl rfl (by decide +kernel) ⟨Nat.le_of_ble_eq_true rfl, Nat.le_of_ble_eq_true rfl⟩) (v_preS hSS hR hS [.ref x, .int (xs (i + 1)), .ref (r + 10)]) rfl rfl hl.1 rfl (lv_room (Nat.le_of_ble_eq_true rfl)) dL_law_1910 ⟨by show n + 50 ≤ 601024; omega, by show k + 2001 ≤ 7293034; omega⟩) (fun N hN => ?_)
  refine w_istore (lv' := [(6, .int (Sum.elim (fun _ => (0 : Int32)) mpC z)), (0, .ref b), (1, .ref x), (2, .ref r), (3, .ref (r + 10)), (4, .ref (r + 11)), (5, .int (Int32.ofNat i))]) hx hb dL_law_1913 hl (by decide) rfl (fun ls hl => ?_)
  refine w_aload_n hx hb dL_law_1915 rfl (lv_at hl 3 rfl) ?_
  refine w_arg (pc := 1916) 1 hx hb hX hbl hbA hL (by omega) rfl (lv_at hl 1 rfl) (lv_at hl 6 rfl) (by decide) dL_law_1916 dL_law_1917 dL_law_1919 dL_law_1920 dL_law_1921 ?_
  obtain ⟨f3, o1, o2⟩ := pL_at hN e4
  obtain ⟨e8, b0, M2, g1, g2, g3, g4, g5, g6⟩ := e6 N (pL_slk (.inl rfl) hN) ⟨f3, o1⟩ ⟨f2, by rw [pL_ne hN (by omega)]; exact e5⟩
  refine v_call1 (v := .int b0) (M1 := M2) (mc := 0) (ms := 0) (fun H locs hR hS => va_runV (As := [.int (xs (i + 1))]) (rest := []) ⟨hx, hb, hml, hown, hts⟩ (mX10_removeMet l hfl D r (xs (i + 1)) N (b0, M2) g1) (cwV 1 hts (gdV kl1729 kl1730 kl1731 kw85 kl1732) rfl rfl rfl (by decide +kernel) ⟨Nat.le_of_ble_eq_true rfl, Nat.le_of_ble_eq_true rfl⟩) (v_preV (ci := 11) hSS hR hS e8 (by decide) rfl [.int (xs (i + 1))]) rfl rfl hl.1 rfl (lv_room (Nat.le_of_ble_eq_true rfl)) dL_law_1922 ⟨by show n + 50 + 0 ≤ 601024; omega, by show k + 2001 + 0 ≤ 7293034; omega⟩) ?_
  refine w_istore (lv' := [(7, .int b0), (6, .int (Sum.elim (fun _ => (0 : Int32)) mpC z)), (0, .ref b), (1, .ref x), (2, .ref r), (3, .ref (r + 10)), (4, .ref (r + 11)), (5, .int (Int32.ofNat i))]) hx hb dL_law_1925 hl (by decide) rfl (fun ls hl => ?_)
  refine w_aload_n hx hb dL_law_1927 rfl (lv_at hl 4 rfl) ?_
  have gt0 : tX10_thrown r M2 = some (Sum.elim (fun _ => (0 : Int32)) mpC z) := by rw [tX10_thrown, g3]; rfl
  refine v_call1 (v := .int (Sum.elim (fun _ => (0 : Int32)) mpC z)) (M1 := M2) (mc := 0) (ms := 0) (fun H locs hR hS => va_runV (As := []) (rest := []) ⟨hx, hb, hml, hown, hts⟩ (mX10_thrown l hfl D r M2 _ gt0) (cwV 0 hts (gdV kl1403 kl1404 kl1405 kw85 kl1406) rfl rfl rfl (by decide +kernel) ⟨Nat.le_of_ble_eq_true rfl, Nat.le_of_ble_eq_true rfl⟩) (v_preV (ci := 11) hSS hR hS (v_tag g3).1 (by decide) rfl []) rfl rfl hl.1 rfl (lv_room (Nat.le_of_ble_eq_true rfl)) dL_law_1928 ⟨by show n + 50 + 0 + 0 ≤ 601024; omega, by show k + 2001 + 0 + 0 ≤ 7293034; omega⟩) ?_
  refine w_iload hx hb dL_law_1931 (lv_at hl 1 rfl) ?_
  refine w_icmp_eq (tgt := 1938) hx hb dL_law_1933 (by decide) (fun _ => ?_) (fun c0 => absurd rfl c0)
  refine w_iload hx hb dL_law_1938 (lv_at hl 1 rfl) ?_
  refine w_if_ne (tgt := 1955) hx hb dL_law_1940 (by decide) (fun c0 => ?_) (fun c0 => ?_)
  · rcases z with v | j
    · have eb := g4 v rfl
      subst eb
      have o3 := o2 _ rfl
      have al : aJ M2 (r + 10) 104 0 = some b0.toInt64 := by
        show (if (M2.1 (r + 10)).1 = 104 ∧ ¬ ((0 : Int32) < 0 ∨ (M2.1 (r + 10)).2.1 ≤ (0 : Int32).toNatClampNeg) then some (vJ ((M2.1 (r + 10)).2.2 0)) else none) = _
        rw [g5, o1, if_pos ⟨rfl, z_in⟩]
        show some (vJ (f3 0)) = _
        rw [o3]; rfl
      refine w_aload_n hx hb dL_law_1943 rfl (lv_at hl 5 rfl) ?_
      refine w_iconst (v := 0) hx hb dL_law_1944 (by decide) ?_
      refine v_lald hx hb hK al dL_law_1945 ?_
      refine w_iload hx hb dL_law_1946 (lv_at hl 0 rfl) ?_
      refine w_i2l hx hb dL_law_1948 ?_
      refine w_lcmp hx hb dL_law_1949 ?_
      refine w_if_eq (tgt := 1955) hx hb dL_law_1950 (by decide) (fun _ => ?_) (fun c1 => absurd (lg_self _) c1)
      refine w_goto (tgt := 2226) hx hb dL_law_1955 (by decide) ?_
      refine vV.widen (n' := n + 60) (k' := k + 2100) (by omega) (by omega) ?_
      exact K M2 g2 _ (lv_sub hl [2, 3, 4, 5, 6, 7] rfl)
    · exact absurd c0 (e3 j rfl)
  · refine w_goto (tgt := 2226) hx hb dL_law_1955 (by decide) ?_
    refine vV.widen (n' := n + 60) (k' := k + 2100) (by omega) (by omega) ?_
    exact K M2 g2 _ (lv_sub hl [2, 3, 4, 5, 6, 7] rfl)
set_option maxHeartbeats 4000000 in
set_option maxRecDepth 100000 in
/-- keep -/
theorem kC_28 {p : Program} {l : Launch} {e : Env} {s : State} {m : MethodId} {below : List Frame} {meth : Method} {c : Code} {Q : State → Prop} {D : vD} {b L : Nat} {xs : Nat → Int32} {x r : Nat} {M0 : Nat → vOb} {M : vMe} {i n k : Nat} {ls : Array Slot} (hfl : l.stackTraces = false) (hx : p.tables.exec = Jvm.exec) (hb : c.code = code) (hml : c.maxLocals = 9) (hown : s.vm.findClass RL = some m.cls) (hts : ∀ w ∈ TB, w.before #[.ref b] s = true) (hSS : vS D s) (hX : va_X b L xs s s.heap) (hbl : b < s.heap.size) (hbA : ¬ vA D b) (S : lS D x M0) (I : lI x r M0 M) (hi : i + 6 ≤ L) (hL : L ≤ 3072) (hn : n + 60 ≤ 601024) (hk : k + 2100 ≤ 7293034)
    (hl : lv_has ls 9 [(0, .ref b), (1, .ref x), (2, .ref r), (3, .ref (r + 10)), (4, .ref (r + 11)), (5, .int (Int32.ofNat i))]) (K : ∀ M2, lI x r M0 M2 → ∀ ls : Array Slot, lv_has ls 9 [(0, .ref b), (1, .ref x), (2, .ref r), (3, .ref (r + 10)), (4, .ref (r + 11)), (5, .int (Int32.ofNat i))] → vV D p l e room_1 s m #[.ref b] below meth c (n + 60) (k + 2100) Q M2 (F0 m 2226 ls [])) : vV D p l e room_1 s m #[.ref b] below meth c n k Q M (F0 m 1958 ls []) := by
  refine vV.know (fun H hR => ?_)
  have wf0 := wf_R hR
  obtain ⟨⟨G, F, a, d, C, u, hz, n', k', hD⟩, i2, i3, i4, i5⟩ := id I
  obtain ⟨z, M1, e1, e2, e3, ⟨f1, e4⟩, ⟨f2, e5⟩, hxr, e7, e6⟩ := lI_go I (O_keep (Gs := D.2.2.2.2) hD wf0 (xs (i + 1)) (xs (i + 2)))
  have hK := hSS.1
  refine w_aload_n hx hb dL_law_1958 rfl (lv_at hl 1 rfl) ?_
  refine w_arg (pc := 1959) 1 hx hb hX hbl hbA hL (by omega) rfl (lv_at hl 0 rfl) (lv_at hl 5 rfl) (by decide) dL_law_1959 dL_law_1960 dL_law_1962 dL_law_1963 dL_law_1964 ?_
  refine w_arg (pc := 1965) 2 hx hb hX hbl hbA hL (by omega) rfl (lv_at hl 0 rfl) (lv_at hl 5 rfl) (by decide) dL_law_1965 dL_law_1966 dL_law_1968 dL_law_1969 dL_law_1970 ?_
  refine w_aload_n hx hb dL_law_1971 rfl (lv_at hl 3 rfl) ?_
  refine v_callH (P := pL M1 (r + 10) (Sum.elim (fun v => some (.long v.toInt64)) (fun _ => none) z)) (v := .int (Sum.elim (fun _ => (0 : Int32)) mp1 z)) (mcz := 50) (msz := 2001) (fun H locs hR hS => vx_runSW (hh := [(0, 10, 13, 22)]) (As := [.ref x, .int (xs (i + 1)), .int (xs (i + 2)), .ref (r + 10)]) (rest := []) ⟨hx, hb, hml, hown, hts⟩ (mL_keep l hfl D x (xs (i + 1)) (xs (i + 2)) (r + 10) M f1 (z, M1) e1 (T_x hD.1.1) e4 (by show M1.2.2.2 ≤ _; rw [e2]; omega) e3) (vx_cwSW 4 hts (gdS kl1274 kl1275 kl76 kl1276) rfl rfl rfl (by decide +kernel) ⟨Nat.le_of_ble_eq_true rfl, Nat.le_of_ble_eq_true rfl⟩) (v_preS hSS hR hS [.ref x, .int (xs (i + 1)), .int (xs (i + 2)), .ref (r + 10)]) rfl rfl hl.1 rfl (lv_room (Nat.le_of_ble_eq_true rfl)) dL_law_1972 ⟨by show n + 50 ≤ 601024; omega, by show k + 2001 ≤ 7293034; omega⟩) (fun N hN => ?_)
  refine w_istore (lv' := [(6, .int (Sum.elim (fun _ => (0 : Int32)) mp1 z)), (0, .ref b), (1, .ref x), (2, .ref r), (3, .ref (r + 10)), (4, .ref (r + 11)), (5, .int (Int32.ofNat i))]) hx hb dL_law_1975 hl (by decide) rfl (fun ls hl => ?_)
  refine w_aload_n hx hb dL_law_1977 rfl (lv_at hl 3 rfl) ?_
  refine w_arg (pc := 1978) 1 hx hb hX hbl hbA hL (by omega) rfl (lv_at hl 1 rfl) (lv_at hl 6 rfl) (by decide) dL_law_1978 dL_law_1979 dL_law_1981 dL_law_1982 dL_law_1983 ?_
  refine w_arg (pc := 1984) 2 hx hb hX hbl hbA hL (by omega) rfl (lv_at hl 1 rfl) (lv_at hl 6 rfl) (by decide) dL_law_1984 dL_law_1985 dL_law_1987 dL_law_1988 dL_law_1989 ?_
  obtain ⟨f3, o1, o2⟩ := pL_at hN e4
  obtain ⟨e8, b0, M2, g1, g2, g3, g4, g5, g6⟩ := e6 N (pL_slk (.inl rfl) hN) ⟨f3, o1⟩ ⟨f2, by rw [pL_ne hN (by omega)]; exact e5⟩
  refine v_call1 (v := .int b0) (M1 := M2) (mc := 0) (ms := 0) (fun H locs hR hS => va_runV (As := [.int (xs (i + 1)), .int (xs (i + 2))]) (rest := []) ⟨hx, hb, hml, hown, hts⟩ (mX10_keep l hfl D r (xs (i + 1)) (xs (i + 2)) N (b0, M2) g1) (cwV 2 hts (gdV kl1733 kl1734 kl1735 kw85 kl1736) rfl rfl rfl (by decide +kernel) ⟨Nat.le_of_ble_eq_true rfl, Nat.le_of_ble_eq_true rfl⟩) (v_preV (ci := 11) hSS hR hS e8 (by decide) rfl [.int (xs (i + 1)), .int (xs (i + 2))]) rfl rfl hl.1 rfl (lv_room (Nat.le_of_ble_eq_true rfl)) dL_law_1990 ⟨by show n + 50 + 0 ≤ 601024; omega, by show k + 2001 + 0 ≤ 7293034; omega⟩) ?_
  refine w_istore (lv' := [(7, .int b0), (6, .int (Sum.elim (fun _ => (0 : Int32)) mp1 z)), (0, .ref b), (1, .ref x), (2, .ref r), (3, .ref (r + 10)), (4, .ref (r + 11)), (5, .int (Int32.ofNat i))]) hx hb dL_law_1993 hl (by decide) rfl (fun ls hl => ?_)
  refine w_aload_n hx hb dL_law_1995 rfl (lv_at hl 4 rfl) ?_
  have gt0 : tX10_thrown r M2 = some (Sum.elim (fun _ => (0 : Int32)) mp1 z) := by rw [tX10_thrown, g3]; rfl
  refine v_call1 (v := .int (Sum.elim (fun _ => (0 : Int32)) mp1 z)) (M1 := M2) (mc := 0) (ms := 0) (fun H locs hR hS => va_runV (As := []) (rest := []) ⟨hx, hb, hml, hown, hts⟩ (mX10_thrown l hfl D r M2 _ gt0) (cwV 0 hts (gdV kl1403 kl1404 kl1405 kw85 kl1406) rfl rfl rfl (by decide +kernel) ⟨Nat.le_of_ble_eq_true rfl, Nat.le_of_ble_eq_true rfl⟩) (v_preV (ci := 11) hSS hR hS (v_tag g3).1 (by decide) rfl []) rfl rfl hl.1 rfl (lv_room (Nat.le_of_ble_eq_true rfl)) dL_law_1996 ⟨by show n + 50 + 0 + 0 ≤ 601024; omega, by show k + 2001 + 0 + 0 ≤ 7293034; omega⟩) ?_
  refine w_iload hx hb dL_law_1999 (lv_at hl 1 rfl) ?_
  refine w_icmp_eq (tgt := 2006) hx hb dL_law_2001 (by decide) (fun _ => ?_) (fun c0 => absurd rfl c0)
  refine w_iload hx hb dL_law_2006 (lv_at hl 1 rfl) ?_
  refine w_if_ne (tgt := 2023) hx hb dL_law_2008 (by decide) (fun c0 => ?_) (fun c0 => ?_)
  · rcases z with v | j
    · have eb := g4 v rfl
      subst eb
      have o3 := o2 _ rfl
      have al : aJ M2 (r + 10) 104 0 = some b0.toInt64 := by
        show (if (M2.1 (r + 10)).1 = 104 ∧ ¬ ((0 : Int32) < 0 ∨ (M2.1 (r + 10)).2.1 ≤ (0 : Int32).toNatClampNeg) then some (vJ ((M2.1 (r + 10)).2.2 0)) else none) = _
        rw [g5, o1, if_pos ⟨rfl, z_in⟩]
        show some (vJ (f3 0)) = _
        rw [o3]; rfl
      refine w_aload_n hx hb dL_law_2011 rfl (lv_at hl 5 rfl) ?_
      refine w_iconst (v := 0) hx hb dL_law_2012 (by decide) ?_
      refine v_lald hx hb hK al dL_law_2013 ?_
      refine w_iload hx hb dL_law_2014 (lv_at hl 0 rfl) ?_
      refine w_i2l hx hb dL_law_2016 ?_
      refine w_lcmp hx hb dL_law_2017 ?_
      refine w_if_eq (tgt := 2023) hx hb dL_law_2018 (by decide) (fun _ => ?_) (fun c1 => absurd (lg_self _) c1)
      refine w_goto (tgt := 2226) hx hb dL_law_2023 (by decide) ?_
      refine vV.widen (n' := n + 60) (k' := k + 2100) (by omega) (by omega) ?_
      exact K M2 g2 _ (lv_sub hl [2, 3, 4, 5, 6, 7] rfl)
    · exact absurd c0 (e3 j rfl)
  · refine w_goto (tgt := 2226) hx hb dL_law_2023 (by decide) ?_
    refine vV.widen (n' := n + 60) (k' := k + 2100) (by omega) (by omega) ?_
    exact K M2 g2 _ (lv_sub hl [2, 3, 4, 5, 6, 7] rfl)
set_option maxHeartbeats 4000000 in
set_option maxRecDepth 100000 in
/-- unite -/
theorem kC_29 {p : Program} {l : Launch} {e : Env} {s : State} {m : MethodId} {below : List Frame} {meth : Method} {c : Code} {Q : State → Prop} {D : vD} {b L : Nat} {xs : Nat → Int32} {x r : Nat} {M0 : Nat → vOb} {M : vMe} {i n k : Nat} {ls : Array Slot} (hfl : l.stackTraces = false) (hx : p.tables.exec = Jvm.exec) (hb : c.code = code) (hml : c.maxLocals = 9) (hown : s.vm.findClass RL = some m.cls) (hts : ∀ w ∈ TB, w.before #[.ref b] s = true) (hSS : vS D s) (hX : va_X b L xs s s.heap) (hbl : b < s.heap.size) (hbA : ¬ vA D b) (S : lS D x M0) (I : lI x r M0 M) (hi : i + 6 ≤ L) (hL : L ≤ 3072) (hn : n + 60 ≤ 601024) (hk : k + 2100 ≤ 7293034)
    (hl : lv_has ls 9 [(0, .ref b), (1, .ref x), (2, .ref r), (3, .ref (r + 10)), (4, .ref (r + 11)), (5, .int (Int32.ofNat i))]) (K : ∀ M2, lI x r M0 M2 → ∀ ls : Array Slot, lv_has ls 9 [(0, .ref b), (1, .ref x), (2, .ref r), (3, .ref (r + 10)), (4, .ref (r + 11)), (5, .int (Int32.ofNat i))] → vV D p l e room_1 s m #[.ref b] below meth c (n + 60) (k + 2100) Q M2 (F0 m 2226 ls [])) : vV D p l e room_1 s m #[.ref b] below meth c n k Q M (F0 m 2026 ls []) := by
  refine vV.know (fun H hR => ?_)
  have wf0 := wf_R hR
  obtain ⟨⟨G, F, a, d, C, u, hz, n', k', hD⟩, i2, i3, i4, i5⟩ := id I
  obtain ⟨z, M1, e1, e2, e3, ⟨f1, e4⟩, ⟨f2, e5⟩, hxr, e7, e6⟩ := lI_go I (O_unite (Gs := D.2.2.2.2) hD wf0 (xs (i + 1)) (xs (i + 2)))
  have hK := hSS.1
  refine w_aload_n hx hb dL_law_2026 rfl (lv_at hl 1 rfl) ?_
  refine w_arg (pc := 2027) 1 hx hb hX hbl hbA hL (by omega) rfl (lv_at hl 0 rfl) (lv_at hl 5 rfl) (by decide) dL_law_2027 dL_law_2028 dL_law_2030 dL_law_2031 dL_law_2032 ?_
  refine w_arg (pc := 2033) 2 hx hb hX hbl hbA hL (by omega) rfl (lv_at hl 0 rfl) (lv_at hl 5 rfl) (by decide) dL_law_2033 dL_law_2034 dL_law_2036 dL_law_2037 dL_law_2038 ?_
  refine w_aload_n hx hb dL_law_2039 rfl (lv_at hl 3 rfl) ?_
  refine v_callH (P := pL M1 (r + 10) (Sum.elim (fun v => some (.long v.toInt64)) (fun _ => none) z)) (v := .int (Sum.elim (fun _ => (0 : Int32)) mp1 z)) (mcz := 50) (msz := 2001) (fun H locs hR hS => vx_runSW (hh := [(0, 10, 13, 22)]) (As := [.ref x, .int (xs (i + 1)), .int (xs (i + 2)), .ref (r + 10)]) (rest := []) ⟨hx, hb, hml, hown, hts⟩ (mL_unite l hfl D x (xs (i + 1)) (xs (i + 2)) (r + 10) M f1 (z, M1) e1 (T_x hD.1.1) e4 (by show M1.2.2.2 ≤ _; rw [e2]; omega) e3) (vx_cwSW 4 hts (gdS kl1286 kl1287 kl76 kl1288) rfl rfl rfl (by decide +kernel) ⟨Nat.le_of_ble_eq_true rfl, Nat.le_of_ble_eq_true rfl⟩) (v_preS hSS hR hS [.ref x, .int (xs (i + 1)), .int (xs (i + 2)), .ref (r + 10)]) rfl rfl hl.1 rfl (lv_room (Nat.le_of_ble_eq_true rfl)) dL_law_2040 ⟨by show n + 50 ≤ 601024; omega, by show k + 2001 ≤ 7293034; omega⟩) (fun N hN => ?_)
  refine w_istore (lv' := [(6, .int (Sum.elim (fun _ => (0 : Int32)) mp1 z)), (0, .ref b), (1, .ref x), (2, .ref r), (3, .ref (r + 10)), (4, .ref (r + 11)), (5, .int (Int32.ofNat i))]) hx hb dL_law_2043 hl (by decide) rfl (fun ls hl => ?_)
  refine w_aload_n hx hb dL_law_2045 rfl (lv_at hl 3 rfl) ?_
  refine w_arg (pc := 2046) 1 hx hb hX hbl hbA hL (by omega) rfl (lv_at hl 1 rfl) (lv_at hl 6 rfl) (by decide) dL_law_2046 dL_law_2047 dL_law_2049 dL_law_2050 dL_law_2051 ?_
  refine w_arg (pc := 2052) 2 hx hb hX hbl hbA hL (by omega) rfl (lv_at hl 1 rfl) (lv_at hl 6 rfl) (by decide) dL_law_2052 dL_law_2053 dL_law_2055 dL_law_2056 dL_law_2057 ?_
  obtain ⟨f3, o1, o2⟩ := pL_at hN e4
  obtain ⟨e8, b0, M2, g1, g2, g3, g4, g5, g6⟩ := e6 N (pL_slk (.inl rfl) hN) ⟨f3, o1⟩ ⟨f2, by rw [pL_ne hN (by omega)]; exact e5⟩
  refine v_call1 (v := .int b0) (M1 := M2) (mc := 0) (ms := 0) (fun H locs hR hS => va_runV (As := [.int (xs (i + 1)), .int (xs (i + 2))]) (rest := []) ⟨hx, hb, hml, hown, hts⟩ (mX10_unite l hfl D r (xs (i + 1)) (xs (i + 2)) N (b0, M2) g1) (cwV 2 hts (gdV kl1737 kl1738 kl1739 kw85 kl1740) rfl rfl rfl (by decide +kernel) ⟨Nat.le_of_ble_eq_true rfl, Nat.le_of_ble_eq_true rfl⟩) (v_preV (ci := 11) hSS hR hS e8 (by decide) rfl [.int (xs (i + 1)), .int (xs (i + 2))]) rfl rfl hl.1 rfl (lv_room (Nat.le_of_ble_eq_true rfl)) dL_law_2058 ⟨by show n + 50 + 0 ≤ 601024; omega, by show k + 2001 + 0 ≤ 7293034; omega⟩) ?_
  refine w_istore (lv' := [(7, .int b0), (6, .int (Sum.elim (fun _ => (0 : Int32)) mp1 z)), (0, .ref b), (1, .ref x), (2, .ref r), (3, .ref (r + 10)), (4, .ref (r + 11)), (5, .int (Int32.ofNat i))]) hx hb dL_law_2061 hl (by decide) rfl (fun ls hl => ?_)
  refine w_aload_n hx hb dL_law_2063 rfl (lv_at hl 4 rfl) ?_
  have gt0 : tX10_thrown r M2 = some (Sum.elim (fun _ => (0 : Int32)) mp1 z) := by rw [tX10_thrown, g3]; rfl
  refine v_call1 (v := .int (Sum.elim (fun _ => (0 : Int32)) mp1 z)) (M1 := M2) (mc := 0) (ms := 0) (fun H locs hR hS => va_runV (As := []) (rest := []) ⟨hx, hb, hml, hown, hts⟩ (mX10_thrown l hfl D r M2 _ gt0) (cwV 0 hts (gdV kl1403 kl1404 kl1405 kw85 kl1406) rfl rfl rfl (by decide +kernel) ⟨Nat.le_of_ble_eq_true rfl, Nat.le_of_ble_eq_true rfl⟩) (v_preV (ci := 11) hSS hR hS (v_tag g3).1 (by decide) rfl []) rfl rfl hl.1 rfl (lv_room (Nat.le_of_ble_eq_true rfl)) dL_law_2064 ⟨by show n + 50 + 0 + 0 ≤ 601024; omega, by show k + 2001 + 0 + 0 ≤ 7293034; omega⟩) ?_
  refine w_iload hx hb dL_law_2067 (lv_at hl 1 rfl) ?_
  refine w_icmp_eq (tgt := 2074) hx hb dL_law_2069 (by decide) (fun _ => ?_) (fun c0 => absurd rfl c0)
  refine w_iload hx hb dL_law_2074 (lv_at hl 1 rfl) ?_
  refine w_if_ne (tgt := 2091) hx hb dL_law_2076 (by decide) (fun c0 => ?_) (fun c0 => ?_)
  · rcases z with v | j
    · have eb := g4 v rfl
      subst eb
      have o3 := o2 _ rfl
      have al : aJ M2 (r + 10) 104 0 = some b0.toInt64 := by
        show (if (M2.1 (r + 10)).1 = 104 ∧ ¬ ((0 : Int32) < 0 ∨ (M2.1 (r + 10)).2.1 ≤ (0 : Int32).toNatClampNeg) then some (vJ ((M2.1 (r + 10)).2.2 0)) else none) = _
        rw [g5, o1, if_pos ⟨rfl, z_in⟩]
        show some (vJ (f3 0)) = _
        rw [o3]; rfl
      refine w_aload_n hx hb dL_law_2079 rfl (lv_at hl 5 rfl) ?_
      refine w_iconst (v := 0) hx hb dL_law_2080 (by decide) ?_
      refine v_lald hx hb hK al dL_law_2081 ?_
      refine w_iload hx hb dL_law_2082 (lv_at hl 0 rfl) ?_
      refine w_i2l hx hb dL_law_2084 ?_
      refine w_lcmp hx hb dL_law_2085 ?_
      refine w_if_eq (tgt := 2091) hx hb dL_law_2086 (by decide) (fun _ => ?_) (fun c1 => absurd (lg_self _) c1)
      refine w_goto (tgt := 2226) hx hb dL_law_2091 (by decide) ?_
      refine vV.widen (n' := n + 60) (k' := k + 2100) (by omega) (by omega) ?_
      exact K M2 g2 _ (lv_sub hl [2, 3, 4, 5, 6, 7] rfl)
    · exact absurd c0 (e3 j rfl)
  · refine w_goto (tgt := 2226) hx hb dL_law_2091 (by decide) ?_
    refine vV.widen (n' := n + 60) (k' := k + 2100) (by omega) (by omega) ?_
    exact K M2 g2 _ (lv_sub hl [2, 3, 4, 5, 6, 7] rfl)
set_option maxHeartbeats 4000000 in
set_option maxRecDepth 100000 in
/-- undo -/
theorem kC_30 {p : Program} {l : Launch} {e : Env} {s : State} {m : MethodId} {below : List Frame} {meth : Method} {c : Code} {Q : State → Prop} {D : vD} {b L : Nat} {xs : Nat → Int32} {x r : Nat} {M0 : Nat → vOb} {M : vMe} {i n k : Nat} {ls : Array Slot} (hfl : l.stackTraces = false) (hx : p.tables.exec = Jvm.exec) (hb : c.code = code) (hml : c.maxLocals = 9) (hown : s.vm.findClass RL = some m.cls) (hts : ∀ w ∈ TB, w.before #[.ref b] s = true) (hSS : vS D s) (hX : va_X b L xs s s.heap) (hbl : b < s.heap.size) (hbA : ¬ vA D b) (S : lS D x M0) (I : lI x r M0 M) (hi : i + 6 ≤ L) (hL : L ≤ 3072) (hn : n + 60 ≤ 601024) (hk : k + 2100 ≤ 7293034)
    (hl : lv_has ls 9 [(0, .ref b), (1, .ref x), (2, .ref r), (3, .ref (r + 10)), (4, .ref (r + 11)), (5, .int (Int32.ofNat i))]) (K : ∀ M2, lI x r M0 M2 → ∀ ls : Array Slot, lv_has ls 9 [(0, .ref b), (1, .ref x), (2, .ref r), (3, .ref (r + 10)), (4, .ref (r + 11)), (5, .int (Int32.ofNat i))] → vV D p l e room_1 s m #[.ref b] below meth c (n + 60) (k + 2100) Q M2 (F0 m 2226 ls [])) : vV D p l e room_1 s m #[.ref b] below meth c n k Q M (F0 m 2094 ls []) := by
  refine vV.know (fun H hR => ?_)
  have wf0 := wf_R hR
  obtain ⟨⟨G, F, a, d, C, u, hz, n', k', hD⟩, i2, i3, i4, i5⟩ := id I
  obtain ⟨z, M1, e1, e2, e3, ⟨f1, e4⟩, ⟨f2, e5⟩, hxr, e7, e6⟩ := lI_go I (O_undo hD wf0)
  have hK := hSS.1
  refine w_aload_n hx hb dL_law_2094 rfl (lv_at hl 1 rfl) ?_
  obtain ⟨zz, q1, q2⟩ := v_bnd e1
  obtain ⟨qa, qb⟩ := Prod.mk.inj (Option.some.inj q2)
  subst qa
  subst qb
  obtain ⟨e8, b0, M2, g1, g2, g3, g4, g5, g6⟩ := e6 zz.2 slk_rf ⟨f1, e4⟩ ⟨f2, e5⟩
  refine v_call1 (v := .int zz.1) (M1 := zz.2) (mc := 0) (ms := 0) (fun H locs hR hS => va_runV (As := []) (rest := []) ⟨hx, hb, hml, hown, hts⟩ (mX9_undo l hfl D x  M zz q1) (cwV 0 hts (gdV kl437 kl438 kl439 kw77 kl440) rfl rfl rfl (by decide +kernel) ⟨Nat.le_of_ble_eq_true rfl, Nat.le_of_ble_eq_true rfl⟩) (v_preV (ci := 10) hSS hR hS (T_x hD.1.1) (by decide) rfl []) rfl rfl hl.1 rfl (lv_room (Nat.le_of_ble_eq_true rfl)) dL_law_2095 ⟨by show n + 0 ≤ 601024; omega, by show k + 0 ≤ 7293034; omega⟩) ?_
  refine w_aload_n hx hb dL_law_2098 rfl (lv_at hl 2 rfl) ?_
  refine v_call1 (v := .int b0) (M1 := M2) (mc := 0) (ms := 0) (fun H locs hR hS => va_runV (As := []) (rest := [.int zz.1]) ⟨hx, hb, hml, hown, hts⟩ (mX10_undo l hfl D r  zz.2 (b0, M2) g1) (cwV 0 hts (gdV kl1741 kl1742 kl1743 kw85 kl1744) rfl rfl rfl (by decide +kernel) ⟨Nat.le_of_ble_eq_true rfl, Nat.le_of_ble_eq_true rfl⟩) (v_preV (ci := 11) hSS hR hS e8 (by decide) rfl []) rfl rfl hl.1 rfl (lv_room (Nat.le_of_ble_eq_true rfl)) dL_law_2099 ⟨by show n + 0 + 0 ≤ 601024; omega, by show k + 0 + 0 ≤ 7293034; omega⟩) ?_
  refine w_icmp_eq (tgt := 2226) hx hb dL_law_2102 (by decide) (fun _ => ?_) (fun c0 => absurd (g4 _ rfl).symm c0)
  refine vV.widen (n' := n + 60) (k' := k + 2100) (by omega) (by omega) ?_
  exact K M2 g2 _ hl
set_option maxHeartbeats 4000000 in
set_option maxRecDepth 100000 in
/-- saveSnapshot -/
theorem kC_31 {p : Program} {l : Launch} {e : Env} {s : State} {m : MethodId} {below : List Frame} {meth : Method} {c : Code} {Q : State → Prop} {D : vD} {b L : Nat} {xs : Nat → Int32} {x r : Nat} {M0 : Nat → vOb} {M : vMe} {i n k : Nat} {ls : Array Slot} (hfl : l.stackTraces = false) (hx : p.tables.exec = Jvm.exec) (hb : c.code = code) (hml : c.maxLocals = 9) (hown : s.vm.findClass RL = some m.cls) (hts : ∀ w ∈ TB, w.before #[.ref b] s = true) (hSS : vS D s) (hX : va_X b L xs s s.heap) (hbl : b < s.heap.size) (hbA : ¬ vA D b) (S : lS D x M0) (I : lI x r M0 M) (hi : i + 6 ≤ L) (hL : L ≤ 3072) (hn : n + 60 ≤ 601024) (hk : k + 2100 ≤ 7293034)
    (hl : lv_has ls 9 [(0, .ref b), (1, .ref x), (2, .ref r), (3, .ref (r + 10)), (4, .ref (r + 11)), (5, .int (Int32.ofNat i))]) (K : ∀ M2, lI x r M0 M2 → ∀ ls : Array Slot, lv_has ls 9 [(0, .ref b), (1, .ref x), (2, .ref r), (3, .ref (r + 10)), (4, .ref (r + 11)), (5, .int (Int32.ofNat i))] → vV D p l e room_1 s m #[.ref b] below meth c (n + 60) (k + 2100) Q M2 (F0 m 2226 ls [])) : vV D p l e room_1 s m #[.ref b] below meth c n k Q M (F0 m 2107 ls []) := by
  refine vV.know (fun H hR => ?_)
  have wf0 := wf_R hR
  obtain ⟨⟨G, F, a, d, C, u, hz, n', k', hD⟩, i2, i3, i4, i5⟩ := id I
  obtain ⟨z, M1, e1, e2, e3, ⟨f1, e4⟩, ⟨f2, e5⟩, hxr, e7, e6⟩ := lI_go I (O_save (Gs := D.2.2.2.2) hD wf0 (xs (i + 1)))
  have hK := hSS.1
  refine w_aload_n hx hb dL_law_2107 rfl (lv_at hl 1 rfl) ?_
  refine w_arg (pc := 2108) 1 hx hb hX hbl hbA hL (by omega) rfl (lv_at hl 0 rfl) (lv_at hl 5 rfl) (by decide) dL_law_2108 dL_law_2109 dL_law_2111 dL_law_2112 dL_law_2113 ?_
  refine w_aload_n hx hb dL_law_2114 rfl (lv_at hl 3 rfl) ?_
  refine v_callH (P := pL M1 (r + 10) (Sum.elim (fun v => some (.long (if v = 0 then 0 else 1))) (fun _ => none) z)) (v := .int (Sum.elim (fun _ => (0 : Int32)) mp1 z)) (mcz := 50) (msz := 2001) (fun H locs hR hS => vx_runSW (hh := [(0, 16, 19, 22)]) (As := [.ref x, .int (xs (i + 1)), .ref (r + 10)]) (rest := []) ⟨hx, hb, hml, hown, hts⟩ (mL_saveSnapshot l hfl D x (xs (i + 1)) (r + 10) M f1 (z, M1) e1 (T_x hD.1.1) e4 (by show M1.2.2.2 ≤ _; rw [e2]; omega) e3) (vx_cwSW 3 hts (gdS kl1298 kl1299 kl76 kl1300) rfl rfl rfl (by decide +kernel) ⟨Nat.le_of_ble_eq_true rfl, Nat.le_of_ble_eq_true rfl⟩) (v_preS hSS hR hS [.ref x, .int (xs (i + 1)), .ref (r + 10)]) rfl rfl hl.1 rfl (lv_room (Nat.le_of_ble_eq_true rfl)) dL_law_2115 ⟨by show n + 50 ≤ 601024; omega, by show k + 2001 ≤ 7293034; omega⟩) (fun N hN => ?_)
  refine w_istore (lv' := [(6, .int (Sum.elim (fun _ => (0 : Int32)) mp1 z)), (0, .ref b), (1, .ref x), (2, .ref r), (3, .ref (r + 10)), (4, .ref (r + 11)), (5, .int (Int32.ofNat i))]) hx hb dL_law_2118 hl (by decide) rfl (fun ls hl => ?_)
  refine w_aload_n hx hb dL_law_2120 rfl (lv_at hl 3 rfl) ?_
  refine w_arg (pc := 2121) 1 hx hb hX hbl hbA hL (by omega) rfl (lv_at hl 1 rfl) (lv_at hl 6 rfl) (by decide) dL_law_2121 dL_law_2122 dL_law_2124 dL_law_2125 dL_law_2126 ?_
  obtain ⟨f3, o1, o2⟩ := pL_at hN e4
  obtain ⟨e8, b0, M2, g1, g2, g3, g4, g5, g6⟩ := e6 N (pL_slk (.inl rfl) hN) ⟨f3, o1⟩ ⟨f2, by rw [pL_ne hN (by omega)]; exact e5⟩
  refine v_call1 (v := .int b0) (M1 := M2) (mc := 0) (ms := 0) (fun H locs hR hS => va_runV (As := [.int (xs (i + 1))]) (rest := []) ⟨hx, hb, hml, hown, hts⟩ (mX10_saveSnapshot l hfl D r (xs (i + 1)) N (b0, M2) g1) (cwV 1 hts (gdV kl1745 kl1746 kl1747 kw85 kl1748) rfl rfl rfl (by decide +kernel) ⟨Nat.le_of_ble_eq_true rfl, Nat.le_of_ble_eq_true rfl⟩) (v_preV (ci := 11) hSS hR hS e8 (by decide) rfl [.int (xs (i + 1))]) rfl rfl hl.1 rfl (lv_room (Nat.le_of_ble_eq_true rfl)) dL_law_2127 ⟨by show n + 50 + 0 ≤ 601024; omega, by show k + 2001 + 0 ≤ 7293034; omega⟩) ?_
  refine w_istore (lv' := [(7, .int b0), (6, .int (Sum.elim (fun _ => (0 : Int32)) mp1 z)), (0, .ref b), (1, .ref x), (2, .ref r), (3, .ref (r + 10)), (4, .ref (r + 11)), (5, .int (Int32.ofNat i))]) hx hb dL_law_2130 hl (by decide) rfl (fun ls hl => ?_)
  refine w_aload_n hx hb dL_law_2132 rfl (lv_at hl 4 rfl) ?_
  have gt0 : tX10_thrown r M2 = some (Sum.elim (fun _ => (0 : Int32)) mp1 z) := by rw [tX10_thrown, g3]; rfl
  refine v_call1 (v := .int (Sum.elim (fun _ => (0 : Int32)) mp1 z)) (M1 := M2) (mc := 0) (ms := 0) (fun H locs hR hS => va_runV (As := []) (rest := []) ⟨hx, hb, hml, hown, hts⟩ (mX10_thrown l hfl D r M2 _ gt0) (cwV 0 hts (gdV kl1403 kl1404 kl1405 kw85 kl1406) rfl rfl rfl (by decide +kernel) ⟨Nat.le_of_ble_eq_true rfl, Nat.le_of_ble_eq_true rfl⟩) (v_preV (ci := 11) hSS hR hS (v_tag g3).1 (by decide) rfl []) rfl rfl hl.1 rfl (lv_room (Nat.le_of_ble_eq_true rfl)) dL_law_2133 ⟨by show n + 50 + 0 + 0 ≤ 601024; omega, by show k + 2001 + 0 + 0 ≤ 7293034; omega⟩) ?_
  refine w_iload hx hb dL_law_2136 (lv_at hl 1 rfl) ?_
  refine w_icmp_eq (tgt := 2143) hx hb dL_law_2138 (by decide) (fun _ => ?_) (fun c0 => absurd rfl c0)
  refine w_iload hx hb dL_law_2143 (lv_at hl 1 rfl) ?_
  refine w_if_ne (tgt := 2167) hx hb dL_law_2145 (by decide) (fun c0 => ?_) (fun c0 => ?_)
  · rcases z with v | j
    · have eb := g4 v rfl
      subst eb
      have o3 := o2 _ rfl
      have al : aJ M2 (r + 10) 104 0 = some (if b0 = 0 then 0 else 1) := by
        show (if (M2.1 (r + 10)).1 = 104 ∧ ¬ ((0 : Int32) < 0 ∨ (M2.1 (r + 10)).2.1 ≤ (0 : Int32).toNatClampNeg) then some (vJ ((M2.1 (r + 10)).2.2 0)) else none) = _
        rw [g5, o1, if_pos ⟨rfl, z_in⟩]
        show some (vJ (f3 0)) = _
        rw [o3]; rfl
      refine w_aload_n hx hb dL_law_2148 rfl (lv_at hl 5 rfl) ?_
      refine w_iconst (v := 0) hx hb dL_law_2149 (by decide) ?_
      refine v_lald hx hb hK al dL_law_2150 ?_
      refine w_iload hx hb dL_law_2151 (lv_at hl 0 rfl) ?_
      refine w_boolL (pc := 2153) hx hb dL_law_2153 dL_law_2156 dL_law_2157 dL_law_2160 ?_
      refine w_lcmp hx hb dL_law_2161 ?_
      refine w_if_eq (tgt := 2167) hx hb dL_law_2162 (by decide) (fun _ => ?_) (fun c1 => absurd (lg_self _) c1)
      refine w_goto (tgt := 2226) hx hb dL_law_2167 (by decide) ?_
      refine vV.widen (n' := n + 60) (k' := k + 2100) (by omega) (by omega) ?_
      exact K M2 g2 _ (lv_sub hl [2, 3, 4, 5, 6, 7] rfl)
    · exact absurd c0 (e3 j rfl)
  · refine w_goto (tgt := 2226) hx hb dL_law_2167 (by decide) ?_
    refine vV.widen (n' := n + 60) (k' := k + 2100) (by omega) (by omega) ?_
    exact K M2 g2 _ (lv_sub hl [2, 3, 4, 5, 6, 7] rfl)
set_option maxHeartbeats 4000000 in
set_option maxRecDepth 100000 in
/-- restoreSnapshot -/
theorem kC_32 {p : Program} {l : Launch} {e : Env} {s : State} {m : MethodId} {below : List Frame} {meth : Method} {c : Code} {Q : State → Prop} {D : vD} {b L : Nat} {xs : Nat → Int32} {x r : Nat} {M0 : Nat → vOb} {M : vMe} {i n k : Nat} {ls : Array Slot} (hfl : l.stackTraces = false) (hx : p.tables.exec = Jvm.exec) (hb : c.code = code) (hml : c.maxLocals = 9) (hown : s.vm.findClass RL = some m.cls) (hts : ∀ w ∈ TB, w.before #[.ref b] s = true) (hSS : vS D s) (hX : va_X b L xs s s.heap) (hbl : b < s.heap.size) (hbA : ¬ vA D b) (S : lS D x M0) (I : lI x r M0 M) (hi : i + 6 ≤ L) (hL : L ≤ 3072) (hn : n + 60 ≤ 601024) (hk : k + 2100 ≤ 7293034)
    (hl : lv_has ls 9 [(0, .ref b), (1, .ref x), (2, .ref r), (3, .ref (r + 10)), (4, .ref (r + 11)), (5, .int (Int32.ofNat i))]) (K : ∀ M2, lI x r M0 M2 → ∀ ls : Array Slot, lv_has ls 9 [(0, .ref b), (1, .ref x), (2, .ref r), (3, .ref (r + 10)), (4, .ref (r + 11)), (5, .int (Int32.ofNat i))] → vV D p l e room_1 s m #[.ref b] below meth c (n + 60) (k + 2100) Q M2 (F0 m 2226 ls [])) : vV D p l e room_1 s m #[.ref b] below meth c n k Q M (F0 m 2170 ls []) := by
  refine vV.know (fun H hR => ?_)
  have wf0 := wf_R hR
  obtain ⟨⟨G, F, a, d, C, u, hz, n', k', hD⟩, i2, i3, i4, i5⟩ := id I
  obtain ⟨z, M1, e1, e2, e3, ⟨f1, e4⟩, ⟨f2, e5⟩, hxr, e7, e6⟩ := lI_go I (O_restore hD wf0 (xs (i + 1)))
  have hK := hSS.1
  refine w_aload_n hx hb dL_law_2170 rfl (lv_at hl 1 rfl) ?_
  refine w_arg (pc := 2171) 1 hx hb hX hbl hbA hL (by omega) rfl (lv_at hl 0 rfl) (lv_at hl 5 rfl) (by decide) dL_law_2171 dL_law_2172 dL_law_2174 dL_law_2175 dL_law_2176 ?_
  refine w_aload_n hx hb dL_law_2177 rfl (lv_at hl 3 rfl) ?_
  refine v_callH (P := pL M1 (r + 10) (Sum.elim (fun v => some (.long v.toInt64)) (fun _ => none) z)) (v := .int (Sum.elim (fun _ => (0 : Int32)) mpC z)) (mcz := 1) (msz := 6) (fun H locs hR hS => vx_runSW (hh := [(0, 9, 12, 22), (0, 9, 15, 82)]) (As := [.ref x, .int (xs (i + 1)), .ref (r + 10)]) (rest := []) ⟨hx, hb, hml, hown, hts⟩ (mL_restoreSnapshot l hfl D x (xs (i + 1)) (r + 10) M f1 (z, M1) e1 (T_x hD.1.1) e4 (by show M1.2.2.2 ≤ _; rw [e2]; omega) e3) (vx_cwSW 3 hts (gdS kl1316 kl1317 kl76 kl1318) rfl rfl rfl (by decide +kernel) ⟨Nat.le_of_ble_eq_true rfl, Nat.le_of_ble_eq_true rfl⟩) (v_preS hSS hR hS [.ref x, .int (xs (i + 1)), .ref (r + 10)]) rfl rfl hl.1 rfl (lv_room (Nat.le_of_ble_eq_true rfl)) dL_law_2178 ⟨by show n + 1 ≤ 601024; omega, by show k + 6 ≤ 7293034; omega⟩) (fun N hN => ?_)
  refine w_istore (lv' := [(6, .int (Sum.elim (fun _ => (0 : Int32)) mpC z)), (0, .ref b), (1, .ref x), (2, .ref r), (3, .ref (r + 10)), (4, .ref (r + 11)), (5, .int (Int32.ofNat i))]) hx hb dL_law_2181 hl (by decide) rfl (fun ls hl => ?_)
  refine w_aload_n hx hb dL_law_2183 rfl (lv_at hl 3 rfl) ?_
  refine w_arg (pc := 2184) 1 hx hb hX hbl hbA hL (by omega) rfl (lv_at hl 1 rfl) (lv_at hl 6 rfl) (by decide) dL_law_2184 dL_law_2185 dL_law_2187 dL_law_2188 dL_law_2189 ?_
  obtain ⟨f3, o1, o2⟩ := pL_at hN e4
  obtain ⟨e8, b0, M2, g1, g2, g3, g4, g5, g6⟩ := e6 N (pL_slk (.inl rfl) hN) ⟨f3, o1⟩ ⟨f2, by rw [pL_ne hN (by omega)]; exact e5⟩
  refine v_call1 (v := .int b0) (M1 := M2) (mc := 0) (ms := 0) (fun H locs hR hS => va_runV (As := [.int (xs (i + 1))]) (rest := []) ⟨hx, hb, hml, hown, hts⟩ (mX10_restoreSnapshot l hfl D r (xs (i + 1)) N (b0, M2) g1) (cwV 1 hts (gdV kl1753 kl1754 kl1755 kw85 kl1756) rfl rfl rfl (by decide +kernel) ⟨Nat.le_of_ble_eq_true rfl, Nat.le_of_ble_eq_true rfl⟩) (v_preV (ci := 11) hSS hR hS e8 (by decide) rfl [.int (xs (i + 1))]) rfl rfl hl.1 rfl (lv_room (Nat.le_of_ble_eq_true rfl)) dL_law_2190 ⟨by show n + 1 + 0 ≤ 601024; omega, by show k + 6 + 0 ≤ 7293034; omega⟩) ?_
  refine w_istore (lv' := [(7, .int b0), (6, .int (Sum.elim (fun _ => (0 : Int32)) mpC z)), (0, .ref b), (1, .ref x), (2, .ref r), (3, .ref (r + 10)), (4, .ref (r + 11)), (5, .int (Int32.ofNat i))]) hx hb dL_law_2193 hl (by decide) rfl (fun ls hl => ?_)
  refine w_aload_n hx hb dL_law_2195 rfl (lv_at hl 4 rfl) ?_
  have gt0 : tX10_thrown r M2 = some (Sum.elim (fun _ => (0 : Int32)) mpC z) := by rw [tX10_thrown, g3]; rfl
  refine v_call1 (v := .int (Sum.elim (fun _ => (0 : Int32)) mpC z)) (M1 := M2) (mc := 0) (ms := 0) (fun H locs hR hS => va_runV (As := []) (rest := []) ⟨hx, hb, hml, hown, hts⟩ (mX10_thrown l hfl D r M2 _ gt0) (cwV 0 hts (gdV kl1403 kl1404 kl1405 kw85 kl1406) rfl rfl rfl (by decide +kernel) ⟨Nat.le_of_ble_eq_true rfl, Nat.le_of_ble_eq_true rfl⟩) (v_preV (ci := 11) hSS hR hS (v_tag g3).1 (by decide) rfl []) rfl rfl hl.1 rfl (lv_room (Nat.le_of_ble_eq_true rfl)) dL_law_2196 ⟨by show n + 1 + 0 + 0 ≤ 601024; omega, by show k + 6 + 0 + 0 ≤ 7293034; omega⟩) ?_
  refine w_iload hx hb dL_law_2199 (lv_at hl 1 rfl) ?_
  refine w_icmp_eq (tgt := 2206) hx hb dL_law_2201 (by decide) (fun _ => ?_) (fun c0 => absurd rfl c0)
  refine w_iload hx hb dL_law_2206 (lv_at hl 1 rfl) ?_
  refine w_if_ne (tgt := 2223) hx hb dL_law_2208 (by decide) (fun c0 => ?_) (fun c0 => ?_)
  · rcases z with v | j
    · have eb := g4 v rfl
      subst eb
      have o3 := o2 _ rfl
      have al : aJ M2 (r + 10) 104 0 = some b0.toInt64 := by
        show (if (M2.1 (r + 10)).1 = 104 ∧ ¬ ((0 : Int32) < 0 ∨ (M2.1 (r + 10)).2.1 ≤ (0 : Int32).toNatClampNeg) then some (vJ ((M2.1 (r + 10)).2.2 0)) else none) = _
        rw [g5, o1, if_pos ⟨rfl, z_in⟩]
        show some (vJ (f3 0)) = _
        rw [o3]; rfl
      refine w_aload_n hx hb dL_law_2211 rfl (lv_at hl 5 rfl) ?_
      refine w_iconst (v := 0) hx hb dL_law_2212 (by decide) ?_
      refine v_lald hx hb hK al dL_law_2213 ?_
      refine w_iload hx hb dL_law_2214 (lv_at hl 0 rfl) ?_
      refine w_i2l hx hb dL_law_2216 ?_
      refine w_lcmp hx hb dL_law_2217 ?_
      refine w_if_eq (tgt := 2223) hx hb dL_law_2218 (by decide) (fun _ => ?_) (fun c1 => absurd (lg_self _) c1)
      refine w_goto (tgt := 2226) hx hb dL_law_2223 (by decide) ?_
      refine vV.widen (n' := n + 60) (k' := k + 2100) (by omega) (by omega) ?_
      exact K M2 g2 _ (lv_sub hl [2, 3, 4, 5, 6, 7] rfl)
    · exact absurd c0 (e3 j rfl)
  · refine w_goto (tgt := 2226) hx hb dL_law_2223 (by decide) ?_
    refine vV.widen (n' := n + 60) (k' := k + 2100) (by omega) (by omega) ?_
    exact K M2 g2 _ (lv_sub hl [2, 3, 4, 5, 6, 7] rfl)
