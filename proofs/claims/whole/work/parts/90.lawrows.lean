/-! what the law's own methods need: a call that is caught, a contract whose end is told by a property of the memory -/
def qH (D : vD) (P : vMe → Prop) (v : Value) : Array Value → State → Outcome → State → Prop := fun _ st oc t => oc = .returned (some v) ∧ ∃ N, P N ∧ vRp D N t.heap ∧ va_F (vA D) st t
/-- what a helper of the law leaves: the answer in the row out, or, after a throw, more room -/
def pL (M1 : vMe) (out : Nat) (w : Option Value) (N : vMe) : Prop := match w with
  | some v => N = wr M1 out 0 v
  | none => ∃ A B, M1.2.1 ≤ A ∧ M1.2.2.1 ≤ B ∧ N = (M1.1, A, B, M1.2.2.2)
section VL
variable {p : Program} {l : Launch} {e : Env} {R : Room} {s : State} {m : MethodId} {args : Array Value} {below : List Frame} {meth : Method} {c : Code} {n k mc ms : Nat} {Q : State → Prop}
variable {D : vD} {M M1 : vMe} {cc : ByteArray} {pc : Nat} {ls : Array Slot} {rest st0 : List Value}
theorem v_callXca {a : Array Value} {oo : Option (Option Value)} {oe : Option Nat} {j mcz msz : Nat} {own : String} (hown : s.vm.findClass own = some m.cls) (hSS : vS D s) (hj3 : j < 3) (pre : List ExceptionTableEntry) (x : ExceptionTableEntry) (suf : List ExceptionTableEntry) (hsplit : c.exceptionTable.toList = pre ++ x :: suf)
    (hpass : ∀ z ∈ pre, covers z pc = false ∨ (z.catchType ≠ 0 ∧ ∃ nm : String, (Cond.classLink own z.catchType nm).before args s = true ∧ va_Nc (vE j) nm s)) (hx : covers x pc = true) (h0 : x.catchType ≠ 0)
    (hlink : (Cond.classLink own x.catchType (vE j)).before args s = true)
    (hr : ∀ H locs, vRp D M H → va_S (vA D) s.heap H locs → vx_Run p l e R s m args below meth c H locs n k mcz msz (F0 m pc ls st0) rest (qX D oo M1 a) (xX D oe M1) (vA D)) (ho : oo = none) (he : oe = some j)
    (kk : ∀ A B q, M1.2.1 ≤ A → M1.2.2.1 ≤ B → vV D p l e R s m args below meth c (n + mcz) (k + msz) Q (M1.1, A, B, M1.2.2.2) (F0 m x.handlerPc ls [.ref q])) : vV D p l e R s m args below meth c n k Q M (F0 m pc ls st0) := by
  intro H locs hR hS T hT X
  rcases hr H locs hR hS T hT X with ⟨v, st₀, t, T', L, h0', X', hL, e1, e2, ⟨v', hv', -⟩, st⟩ | ⟨q, st₀, t, T', L, E, ce, h0', X', hL, e1, e2, ⟨j2, hj, hE, ⟨A, B, hA, hB, hR1⟩, hF⟩, hce, hcv, hcl, st⟩
  · rw [ho] at hv'; cases hv'
  · rw [he] at hj
    obtain rfl : j = j2 := Option.some.inj hj
    subst hE
    obtain ⟨k1, k2, k3⟩ := vx_keep h0' e1 hS (fun q _ h => h) (fun q h => h) hL hF
    obtain ⟨t2, a1, b1⟩ := vx_catch (l := l) (R := R) (ls := ls) (rest := rest) (pc := pc) (E := vE j) (name := vE j) (H := T'.heap) hown pre x suf hsplit hpass hx h0 hlink (va_Nw.use rfl (hSS.2.2.2.2.2.2.2.2.1 j hj3)) (by rw [e1]; exact hce) hcv hcl (kk A B q hA hB T'.heap (locs ++ L) (by rw [e1]; exact hR1) k3) T' rfl X'
    exact ⟨t2, st.trans a1, b1⟩
/-- a call of a helper -/
theorem v_callH {a : Array Value} {P : vMe → Prop} {v : Value} {mcz msz : Nat} (hr : ∀ H locs, vRp D M H → va_S (vA D) s.heap H locs → va_Run p l e R s m args below meth c H locs n k mcz msz (F0 m pc ls st0) rest (qH D P v a) (vA D))
    (kk : ∀ N, P N → vV D p l e R s m args below meth c (n + mcz) (k + msz) Q N (F0 m (pc + 3) ls (v :: rest))) : vV D p l e R s m args below meth c n k Q M (F0 m pc ls st0) := by
  intro H locs hR hS T hT X
  obtain ⟨v', st₀, t, T', L, h0, X', hL, e1, e2, ⟨hv, N, hP, hR1, hF⟩, st⟩ := hr H locs hR hS T hT X
  cases hv
  obtain ⟨k1, k2, k3⟩ := vx_keep h0 e1 hS (fun q _ h => h) (fun q h => h) hL hF
  obtain ⟨t2, a1, b1⟩ := kk N hP T'.heap (locs ++ L) (by rw [e1]; exact hR1) k3 T' rfl X'
  exact ⟨t2, st t2 a1, b1⟩
theorem v_iretH {x : Int32} {P : vMe → Prop} (hx : p.tables.exec = Jvm.exec) (hb : c.code = cc) (hr : meth.sig.returnType = some .int) (hlocks : meth.locks = false) (hP : P M) (hdg : decode cc pc = .ok (.ireturn, 1)) : vV D p l e R s m args below meth c n k (MQ below (qH D P (.int x)) args s n k (vA D)) M (F0 m pc ls [.int x]) :=
  fun _ _ hR hS => W.iret hx hb hr (fun t ht _ => ⟨rfl, M, hP, by rw [ht]; exact hR, hS.F ht⟩) hS.2.2 hdg hlocks
theorem v_ofH {y : MethodName} {rm : Room} {maxL : Nat} {ret : Option FieldType} {As : List Value} {P : vMe → Prop} {v : Value} {hh : List (Nat × Nat × Nat × Nat)} (hy : plainName y.cls = true) (hlen : (lg_sl As).length ≤ maxL)
    (body : ∀ (p : Program) (e : Env) (s : State) (m : MethodId) (args : Array Value) (below : List Frame) (meth : Method) (c : Code), p.tables.exec = Jvm.exec → c.code = cc → meth.sig.returnType = ret → c.maxLocals = maxL → s.vm.findClass y.cls = some m.cls → (∀ w ∈ TB, w.before args s = true) → meth.locks = false → c.exceptionTable.toList = tableOf hh → vS D s → vRp D M s.heap →
      ∀ ls : Array Slot, lv_has ls maxL (lv_args 0 As) → vV D p l e rm s m args below meth c 0 0 (MQ below (qH D P v) args s mc ms (vA D)) M (F0 m 0 ls [])) : Met l y (Cond.codeWith y cc maxL ret hh :: TB) rm (va_Pc As (vPre D M)) (qH D P v) mc ms (vA D) := by
  have key : ∀ p e s m args below meth c s₁, BodyLoose p l y (headSpec (Cond.codeWith y cc maxL ret hh :: TB) rm) cc maxL ret e s m args below meth c s₁ → c.maxLocals = maxL → va_Pc As (vPre D M) args s →
      W p l e (headSpec (Cond.codeWith y cc maxL ret hh :: TB) rm).room s m args below meth c s.heap [] 0 0 (MQ below (qH D P v) args s mc ms (vA D)) (entryFrame m args maxL) := by
    intro p e s m args below meth c s₁ B hml hv
    obtain ⟨rfl, hSS, hR⟩ := hv
    have hl := lv_entry As (n := maxL) hlen
    rw [lg_entry_eq]
    have hts := atoms_spec (ws := Cond.codeWith y cc maxL ret hh :: TB) B.pre
    exact body p e s m As.toArray below meth c B.exec B.bytes B.returns hml (findClass_of_methodNamed B.named) (fun w hw => hts w (List.mem_cons_of_mem _ hw)) B.notSynchronized (vx_table (x := y) B (hts _ List.mem_cons_self)) hSS hR _ hl s.heap [] hR va_S.rf
  refine MetFree.of_bodyS (code := cc) (maxLocals := maxL) (ret := ret) hy ?_ ?_
  · intro args s m h hn
    obtain ⟨m9, meth, c, hn9, h1, h2, h3, h4, -, h5, h6, -⟩ := Cond.codeWith_spec (atoms_spec (ws := Cond.codeWith y cc maxL ret hh :: TB) h _ List.mem_cons_self)
    cases hn.symm.trans hn9
    exact ⟨meth, c, h1, h2, h3, h4, h5, h6⟩
  · intro p e s m args below meth c s₁ B hml hP _
    have hh0 : s₁.heap = s.heap := by rw [B.state]; rfl
    obtain ⟨t, a1, o, b1, b2, b3⟩ := key p e s m args below meth c s₁ B hml hP s₁ hh0 (Stand.of_body B)
    exact ⟨t, o, a1, b1, b2, ⟨b3.1, b3.2⟩⟩
end VL
section
theorem mp0_v {j : Nat} (h : mp0 j ≠ 0) : j = 0 := by
  unfold mp0 at h
  by_cases g : j = 0
  · exact g
  · rw [if_neg g] at h; exact absurd rfl h
theorem mp1_v {j : Nat} (h : mp1 j ≠ 0) : j = 1 := by
  unfold mp1 at h
  by_cases g : j = 1
  · exact g
  · rw [if_neg g] at h; exact absurd rfl h
theorem mp2_v {j : Nat} (h : mp2 j ≠ 0) : j = 2 := by
  unfold mp2 at h
  by_cases g : j = 2
  · exact g
  · rw [if_neg g] at h; exact absurd rfl h
theorem mpA_v {j : Nat} (h : mpA j ≠ 0) : j = 1 ∨ j = 0 := by
  unfold mpA at h
  by_cases g : j = 1
  · exact .inl g
  · by_cases g0 : j = 0
    · exact .inr g0
    · rw [if_neg g, if_neg g0] at h; exact absurd rfl h
theorem mpC_v {j : Nat} (h : mpC j ≠ 0) : j = 1 ∨ j = 2 := by
  unfold mpC at h
  by_cases g : j = 1
  · exact .inl g
  · by_cases g0 : j = 2
    · exact .inr g0
    · rw [if_neg g, if_neg g0] at h; exact absurd rfl h
end
