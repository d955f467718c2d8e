/-! exceptions: 0 illegal argument, 1 index, 2 illegal state -/
abbrev xnm : List String := ["java/lang/RuntimeException", "java/lang/Exception"]
theorem xat0 : ∀ w ∈ (vx_atS RX9 59 "java/lang/IllegalArgumentException" xnm).filter goodWord, w ∈ TB := by decide +kernel
theorem xbt0 : ∀ w ∈ (vx_atS RX9 59 "java/lang/IllegalArgumentException" xnm).filter (fun w => !goodWord w), w ∈ [Cond.castable "java/lang/IllegalArgumentException" "java/lang/IllegalArgumentException", Cond.declares (Bundle.initS "java/lang/RuntimeException"), Cond.declares (Bundle.initS "java/lang/Exception"), Cond.declares (Bundle.initS Bundle.tN)] := by decide +kernel
theorem xot0 : ∀ w ∈ Cond.classLink RX9 55 "java/lang/IllegalArgumentException" :: Cond.initialized "java/lang/IllegalArgumentException" :: vx_atS RX9 59 "java/lang/IllegalArgumentException" xnm, vx_ot w = true := by decide +kernel
theorem xat1 : ∀ w ∈ (vx_atS RX9 324 "java/lang/IndexOutOfBoundsException" xnm).filter goodWord, w ∈ TB := by decide +kernel
theorem xbt1 : ∀ w ∈ (vx_atS RX9 324 "java/lang/IndexOutOfBoundsException" xnm).filter (fun w => !goodWord w), w ∈ [Cond.castable "java/lang/IndexOutOfBoundsException" "java/lang/IndexOutOfBoundsException", Cond.declares (Bundle.initS "java/lang/RuntimeException"), Cond.declares (Bundle.initS "java/lang/Exception"), Cond.declares (Bundle.initS Bundle.tN)] := by decide +kernel
theorem xot1 : ∀ w ∈ Cond.classLink RX9 320 "java/lang/IndexOutOfBoundsException" :: Cond.initialized "java/lang/IndexOutOfBoundsException" :: vx_atS RX9 324 "java/lang/IndexOutOfBoundsException" xnm, vx_ot w = true := by decide +kernel
theorem xat2 : ∀ w ∈ (vx_atS RX9 261 "java/lang/IllegalStateException" xnm).filter goodWord, w ∈ TB := by decide +kernel
theorem xbt2 : ∀ w ∈ (vx_atS RX9 261 "java/lang/IllegalStateException" xnm).filter (fun w => !goodWord w), w ∈ [Cond.castable "java/lang/IllegalStateException" "java/lang/IllegalStateException", Cond.declares (Bundle.initS "java/lang/RuntimeException"), Cond.declares (Bundle.initS "java/lang/Exception"), Cond.declares (Bundle.initS Bundle.tN)] := by decide +kernel
theorem xot2 : ∀ w ∈ Cond.classLink RX9 257 "java/lang/IllegalStateException" :: Cond.initialized "java/lang/IllegalStateException" :: vx_atS RX9 261 "java/lang/IllegalStateException" xnm, vx_ot w = true := by decide +kernel
theorem xfit : ∀ n ∈ xnm, Bundle.fit n = true := by decide +kernel
def qX (D : vD) (ov : Option (Option Value)) (M1 : vMe) : Array Value → State → Outcome → State → Prop := fun a st oc t => ∃ v, ov = some v ∧ qW D v M1 a st oc t
def xX (D : vD) (oe : Option Nat) (M1 : vMe) : String → State → State → Prop := fun E st t => ∃ j, oe = some j ∧ E = vE j ∧ (∃ a b, M1.2.1 ≤ a ∧ M1.2.2.1 ≤ b ∧ vRp D (M1.1, a, b, M1.2.2.2) t.heap) ∧ va_F (vA D) st t
theorem vRp.ext {D : vD} {M : vMe} {H H1 : Heap} (hR : vRp D M H) (hz : H.size ≤ H1.size) (hk : ∀ q : Nat, q < H.size → H1[q]? = H[q]?) : M.2.1 ≤ H1.size ∧ M.2.2.1 ≤ vSum D.2.2.2.1 H1 ∧ vRp D (M.1, H1.size, vSum D.2.2.2.1 H1, M.2.2.2) H1 := by
  obtain ⟨r1, r2, r3, r4, r5, r6⟩ := hR
  have h := vSum_split (H0 := H) (H := H1) r5 hz (fun a x hx => ⟨x, by rw [hk a (Array.getElem?_eq_some_iff.mp hx).1]; exact hx, rfl⟩)
  refine ⟨by omega, by omega, fun q => ?_, rfl, rfl, r4, by omega, fun q hq => r6 q ?_⟩
  · rcases Nat.lt_or_ge q H.size with g | g
    · exact (r1 q).kept (hk q g)
    · have h0 := r6 q (by omega)
      exact ⟨fun h1 => absurd h1 (by show ¬ 0 < (M.1 q).1; omega), fun h1 => absurd h1 (by show ¬ 100 < (M.1 q).1; omega)⟩
  · have : H1.size ≤ q := hq
    omega
section VX
variable {p : Program} {l : Launch} {e : Env} {R : Room} {s : State} {m : MethodId} {args : Array Value} {below : List Frame} {meth : Method} {c : Code} {H : Heap} {locs : List Loc} {n k mc ms : Nat} {Q : State → Prop}
variable {D : vD} {M M1 : vMe} {cc : ByteArray} {pc : Nat} {ls : Array Slot} {rest st0 : List Value} {Qc : Array Value → State → Outcome → State → Prop} {XC : String → State → State → Prop}
theorem v_xok {v : Option Value} {g : JFrame} (kk : vV D p l e R s m args below meth c n k (MQ below (qW D v M1) args s n k (vA D)) M g) : vV D p l e R s m args below meth c n k (vx_MQ below (qX D (some v) M1) XC args s n k (vA D)) M g := by
  intro H locs hR hS
  refine vx_ret ?_
  intro T hT X
  obtain ⟨t, h1, o, h2, h3, h4, h5⟩ := kk H locs hR hS T hT X
  exact ⟨t, h1, o, h2, h3, ⟨v, rfl, h4⟩, h5⟩
theorem v_thX {cls : String} {j : Nat} (hj : cls = vE j) (hR : vRp D M H) (hS : va_S (vA D) s.heap H locs) : ∀ t : State, s.vm.Alike t.vm → H.size ≤ t.heap.size → (∀ q : Nat, q < H.size → t.heap[q]? = H[q]?) → xX D (some j) M cls s t := by
  intro t _ hz hk
  obtain ⟨h1, h2, h3⟩ := hR.ext hz hk
  exact ⟨j, rfl, hj, ⟨_, _, h1, h2, h3⟩, Nat.le_trans hS.1 hz, fun q q1 q2 => (hk q (Nat.lt_of_lt_of_le q1 hS.1)).trans (hS.2.1 q q1 q2)⟩
theorem v_thS {cls text : String} {ik is ic sa j : Nat} (hx : p.tables.exec = Jvm.exec) (hb : c.code = cc) (hl : l.stackTraces = false) (hown : s.vm.findClass RX9 = some m.cls) (hcls : Bundle.fit cls = true)
    (hts : ∀ w ∈ TB, w.before args s = true) (hk : Cond.classLink RX9 ik cls ∈ TB) (hini : Cond.initialized cls ∈ TB) (hstr : vk_R RX9 is text sa s) (hat : ∀ w ∈ (vx_atS RX9 ic cls xnm).filter goodWord, w ∈ TB) (hbt : ∀ w ∈ (vx_atS RX9 ic cls xnm).filter (fun w => !goodWord w), w ∈ [Cond.castable cls cls, Cond.declares (Bundle.initS "java/lang/RuntimeException"), Cond.declares (Bundle.initS "java/lang/Exception"), Cond.declares (Bundle.initS Bundle.tN)]) (hj3 : j < 3)
    (hgood : ∀ w ∈ Cond.classLink RX9 ik cls :: Cond.initialized cls :: vx_atS RX9 ic cls xnm, vx_ot w = true) (hSS : vS D s) (hsize : ls.size = c.maxLocals)
    (d0 : decode cc pc = .ok (.new ik, 3)) (d3 : decode cc (pc + 3) = .ok (.dup, 1)) (d4 : decode cc (pc + 4) = .ok (.ldc is, 2)) (d6 : decode cc (pc + 6) = .ok (.invokespecial ic, 3)) (d9 : decode cc (pc + 9) = .ok (.athrow, 1))
    (hnt : ∀ x ∈ c.exceptionTable.toList, False) (hRf : 5 < R.frames) (hRl : (rest.map fun v => v.category).sum + 82 ≤ R.locals) (hRc : n + 1 ≤ R.cells) (hRs : k + 6 ≤ R.slots) (hlk : meth.locks = false) (hc : n + 1 ≤ mc) (hs : k + 6 ≤ ms) (hj : cls = vE j) :
    vV D p l e R s m args below meth c n k (vx_MQ below Qc (xX D (some j) M) args s mc ms (vA D)) M (F0 m pc ls rest) :=
  fun H locs hR hS => vx_throwS hx hb hl hown hcls xfit (hts _ hk) (hts _ hini) hstr (vx_hat (fun w hw => hts w (hat w hw)) hbt (vx_c (va_Nw.use rfl (hj ▸ hSS.2.2.2.2.2.2.2.2.1 j hj3)) (vx_c (va_Nw.use rfl (hSS.2.2.2.2.2.2.2.2.2.2.2.1 0 _ rfl)) (vx_c (va_Nw.use rfl (hSS.2.2.2.2.2.2.2.2.2.2.2.1 1 _ rfl)) (vx_c (va_Nw.use rfl (hSS.2.2.2.2.2.2.2.2.2.2.2.1 2 _ rfl)) vx_n))))) hgood hSS.2.1.1 hSS.2.1.2 hS hsize d0 d3 d4 d6 d9 (fun x h => (hnt x h).elim) hRf hRl hRc hRs hlk (v_thX hj hR hS) hS.2.2 hc hs
theorem v_thW {cls text : String} {ik is ic sa j : Nat} (hx : p.tables.exec = Jvm.exec) (hb : c.code = cc) (hl : l.stackTraces = false) (hown : s.vm.findClass RX9 = some m.cls) (hcls : Bundle.fit cls = true)
    (hts : ∀ w ∈ TB, w.before args s = true) (hk : Cond.classLink RX9 ik cls ∈ TB) (hini : Cond.initialized cls ∈ TB) (hstr : vk_R RX9 is text sa s) (hat : ∀ w ∈ (vx_atS RX9 ic cls xnm).filter goodWord, w ∈ TB) (hbt : ∀ w ∈ (vx_atS RX9 ic cls xnm).filter (fun w => !goodWord w), w ∈ [Cond.castable cls cls, Cond.declares (Bundle.initS "java/lang/RuntimeException"), Cond.declares (Bundle.initS "java/lang/Exception"), Cond.declares (Bundle.initS Bundle.tN)]) (hj3 : j < 3)
    (hgood : ∀ w ∈ Cond.classLink RX9 ik cls :: Cond.initialized cls :: vx_atS RX9 ic cls xnm, vx_ot w = true) (hSS : vS D s) (hsize : ls.size = c.maxLocals)
    (d0 : decode cc pc = .ok (.new ik, 3)) (d3 : decode cc (pc + 3) = .ok (.dup, 1)) (d4 : decode cc (pc + 4) = .ok (.ldc_w is, 3)) (d7 : decode cc (pc + 7) = .ok (.invokespecial ic, 3)) (d10 : decode cc (pc + 10) = .ok (.athrow, 1))
    (hnt : ∀ x ∈ c.exceptionTable.toList, False) (hRf : 5 < R.frames) (hRl : (rest.map fun v => v.category).sum + 82 ≤ R.locals) (hRc : n + 1 ≤ R.cells) (hRs : k + 6 ≤ R.slots) (hlk : meth.locks = false) (hc : n + 1 ≤ mc) (hs : k + 6 ≤ ms) (hj : cls = vE j) :
    vV D p l e R s m args below meth c n k (vx_MQ below Qc (xX D (some j) M) args s mc ms (vA D)) M (F0 m pc ls rest) :=
  fun H locs hR hS => vx_throwSW hx hb hl hown hcls xfit (hts _ hk) (hts _ hini) hstr (vx_hat (fun w hw => hts w (hat w hw)) hbt (vx_c (va_Nw.use rfl (hj ▸ hSS.2.2.2.2.2.2.2.2.1 j hj3)) (vx_c (va_Nw.use rfl (hSS.2.2.2.2.2.2.2.2.2.2.2.1 0 _ rfl)) (vx_c (va_Nw.use rfl (hSS.2.2.2.2.2.2.2.2.2.2.2.1 1 _ rfl)) (vx_c (va_Nw.use rfl (hSS.2.2.2.2.2.2.2.2.2.2.2.1 2 _ rfl)) vx_n))))) hgood hSS.2.1.1 hSS.2.1.2 hS hsize d0 d3 d4 d7 d10 (fun x h => (hnt x h).elim) hRf hRl hRc hRs hlk (v_thX hj hR hS) hS.2.2 hc hs
theorem v_callXok {a : Array Value} {oo : Option (Option Value)} {oe : Option Nat} {ov : Option Value} {st1 : List Value} {mcz msz : Nat} (hr : ∀ H locs, vRp D M H → va_S (vA D) s.heap H locs → vx_Run p l e R s m args below meth c H locs n k mcz msz (F0 m pc ls st0) rest (qX D oo M1 a) (xX D oe M1) (vA D)) (ho : oo = some ov) (he : oe = none) (hst : ov.toList ++ rest = st1)
    (kk : vV D p l e R s m args below meth c (n + mcz) (k + msz) Q M1 (F0 m (pc + 3) ls st1)) : vV D p l e R s m args below meth c n k Q M (F0 m pc ls st0) := by
  intro H locs hR hS T hT X
  rcases hr H locs hR hS T hT X with ⟨v, st₀, t, T', L, h0, X', hL, e1, e2, ⟨v', hv', hv, hR1, hF⟩, st⟩ | ⟨q, st₀, t, T', L, E, ce, h0, X', hL, e1, e2, ⟨j, hj, -⟩, -⟩
  · cases hv
    cases Option.some.inj (ho.symm.trans hv')
    obtain ⟨k1, k2, k3⟩ := vx_keep h0 e1 hS (fun q _ h => h) (fun q h => h) hL hF
    subst hst
    obtain ⟨t2, a1, b1⟩ := kk T'.heap (locs ++ L) (by rw [e1]; exact hR1) k3 T' rfl X'
    exact ⟨t2, st t2 a1, b1⟩
  · rw [he] at hj; cases hj
theorem v_callXth {a : Array Value} {oo : Option (Option Value)} {oe : Option Nat} {j mcz msz : Nat} (hr : ∀ H locs, vRp D M H → va_S (vA D) s.heap H locs → vx_Run p l e R s m args below meth c H locs n k mcz msz (F0 m pc ls st0) rest (qX D oo M1 a) (xX D oe M1) (vA D)) (ho : oo = none) (he : oe = some j)
    (hnt : ∀ x ∈ c.exceptionTable.toList, False) (hlk : meth.locks = false) (hc : n + mcz ≤ mc) (hs : k + msz ≤ ms) : vV D p l e R s m args below meth c n k (vx_MQ below Qc (xX D (some j) M1) args s mc ms (vA D)) M (F0 m pc ls st0) := by
  intro H locs hR hS T hT X
  rcases hr H locs hR hS T hT X with ⟨v, st₀, t, T', L, h0, X', hL, e1, e2, ⟨v', hv', -⟩, st⟩ | ⟨q, st₀, t, T', L, E, ce, h0, X', hL, e1, e2, ⟨j2, hj, hE, ⟨a, b, ha, hb, hR1⟩, hF⟩, hce, hcv, hcl, st⟩
  · rw [ho] at hv'; cases hv'
  · rw [he] at hj
    obtain rfl : j = j2 := Option.some.inj hj
    obtain ⟨k1, k2, k3⟩ := vx_keep h0 e1 hS (fun q _ h => h) (fun q h => h) hL hF
    obtain ⟨t2, a1, b1⟩ := vx_out (l := l) (e := e) (R := R) (p := p) (args := args) (below := below) (ls := ls) (rest := rest) (pc := pc) (mc := mc) (ms := ms) (XC := xX D (some j) M1) (Qc := Qc) (free := vA D) (H := T'.heap) (E := E) (ce := ce) (q := q) (fun x h => (hnt x h).elim) hlk (by rw [e1]; exact hce) hcv hcl
      (fun t' ht' _ => ⟨j, rfl, hE, ⟨a, b, ha, hb, by rw [ht', e1]; exact hR1⟩, by rw [ht']; exact k3.1, fun q h1 h2 => by rw [ht']; exact k3.2.1 q h1 h2⟩) k3.2.2 hc hs T' rfl X'
    exact ⟨t2, st.trans a1, b1⟩
theorem v_ofX {y : MethodName} {rm : Room} {mc ms maxL : Nat} {ret : Option FieldType} {As : List Value} {oo : Option (Option Value)} {oe : Option Nat} (hy : plainName y.cls = true) (hlen : (lg_sl As).length ≤ maxL)
    (body : ∀ (p : Program) (e : Env) (s : State) (m : MethodId) (args : Array Value) (below : List Frame) (meth : Method) (c : Code) (Q : State → Prop), p.tables.exec = Jvm.exec → c.code = cc → meth.sig.returnType = ret → c.maxLocals = maxL → s.vm.findClass y.cls = some m.cls → (∀ w ∈ TB, w.before args s = true) → meth.locks = false → meth.name = y.name → vS D s → vRp D M s.heap → Q = vx_MQ below (qX D oo M1) (xX D oe M1) args s mc ms (vA D) → (∀ x ∈ c.exceptionTable.toList, False) →
      ∀ ls : Array Slot, lv_has ls maxL (lv_args 0 As) → vV D p l e rm s m args below meth c 0 0 Q M (F0 m 0 ls [])) : vx_Met l y (Cond.code y cc maxL ret :: TB) rm (va_Pc As (vPre D M)) (qX D oo M1) (xX D oe M1) mc ms (vA D) := by
  refine vx_ofW (cc := cc) (maxL := maxL) (ret := ret) hy rfl ?_
  intro p e s m args below meth c s₁ B hml ht hv
  obtain ⟨rfl, hSS, hR⟩ := hv
  have hl := lv_entry As (n := maxL) hlen
  rw [lg_entry_eq]
  have hts := atoms_spec (ws := Cond.code y cc maxL ret :: TB) B.pre
  exact body p e s m As.toArray below meth c _ B.exec B.bytes B.returns hml (findClass_of_methodNamed B.named) (fun w hw => hts w (List.mem_cons_of_mem _ hw)) B.notSynchronized (name_of_methodNamed B.named B.method).1 hSS hR rfl ht _ hl s.heap [] hR va_S.rf
end VX
/-- a callee that may throw, where it doesn't -/
theorem v_noX {l : Launch} {D : vD} {y : MethodName} {ws : List Cond} {rm : Room} {Pc : Array Value → State → Prop} {oo : Option (Option Value)} {oe : Option Nat} {ov : Option Value} {M1 : vMe} {mc ms : Nat} {free : Addr → Prop} (h1 : oo = some ov) (h2 : oe = none) (h : vx_Met l y ws rm Pc (qX D oo M1) (xX D oe M1) mc ms free) : Met l y ws rm Pc (qW D ov M1) mc ms free := by
  subst h1; subst h2
  refine MetFree.mono h (fun _ _ g => g) (fun _ _ _ _ _ _ => trivial) (fun a st o t _ g => ?_)
  rcases g with ⟨⟨v, e, g⟩, L, g1, g2⟩ | ⟨q, e, E, ce, L, ⟨j, ej, -⟩, -⟩
  · cases e
    exact ⟨g, L, g1, g2⟩
  · cases ej
