section VD
variable {p : Program} {l : Launch} {e : Env} {R : Room} {s : State} {m : MethodId} {args : Array Value} {below : List Frame} {meth : Method} {c : Code} {n k : Nat} {Q : State → Prop} {D : vD} {M M1 : vMe} {cc : ByteArray} {pc : Nat} {ls : Array Slot} {rest : List Value}
/-- a row of bytes is cloned -/
def clA (M : vMe) (a n0 s0 mc ms : Nat) : Option vMe := if (M.1 a).1 = 102 ∧ M.2.1 + 1 ≤ n0 + mc ∧ M.2.2.1 + (M.1 a).2.1 ≤ s0 + ms ∧ (M.1 a).2.1 ≤ ms then some (nw M 102 (M.1 a).2.1 (M.1 a).2.1 (M.1 a).2.2) else none
theorem v_clone {own : String} {index a : Nat} (hx : p.tables.exec = Jvm.exec) (hb : c.code = cc) (hml : c.maxLocals = ls.size) (hown : s.vm.findClass own = some m.cls) (hK : vK D s)
    (hlink : (Cond.methodLink own index ⟨"[B", "clone", "()Ljava/lang/Object;"⟩).before args s = true) (hsame : (Cond.sameMethod "[B" "java/lang/Object" "clone" "()Ljava/lang/Object;").before args s = true)
    (hnat : (Cond.native ⟨"java/lang/Object", "clone", "()Ljava/lang/Object;"⟩).before args s = true) (hinst : (Cond.instanceMethod ⟨"java/lang/Object", "clone", "()Ljava/lang/Object;"⟩).before args s = true)
    (hsel : (Cond.selects "[B" ⟨"[B", "clone", "()Ljava/lang/Object;"⟩ ⟨"java/lang/Object", "clone", "()Ljava/lang/Object;"⟩).before args s = true) (hcl : (Cond.castable "[B" "java/lang/Cloneable").before args s = true)
    (htg : (M.1 a).1 = 102) (hframes : 1 ≤ R.frames) (hlocals : (rest.map fun v => v.category).sum + 14 ≤ R.locals) (hcells : n + 1 ≤ R.cells) (hslots : k + (M.1 a).2.1 ≤ R.slots) (hdg : decode cc pc = .ok (.invokevirtual index, 3))
    (kk : vV D p l e R s m args below meth c (n + 1) (k + (M.1 a).2.1) Q (nw M 102 (M.1 a).2.1 (M.1 a).2.1 (M.1 a).2.2) (F0 m (pc + 3) ls (.ref M.2.1 :: rest))) : vV D p l e R s m args below meth c n k Q M (F0 m pc ls (.ref a :: rest)) := by
  intro H locs hR hS
  obtain ⟨cell, h1, h2, h3, h4, h5, h6⟩ := v_arr hK hR htg (by decide)
  have hRA : s.vm.findClass "[B" = some (D.2.2.1 102) := va_nm_byte (hK.2 102 (by decide) (by decide)).2
  obtain ⟨c0, t0, f1, f2, f3⟩ := Cond.castable_spec hcl
  cases hRA.symm.trans f1
  intro T hT X
  obtain ⟨-, kA, hkA, comp, hkind⟩ := State.isArrayOf_alike X.warmed.alike h2
  obtain ⟨-, kS, hkS, compS, hkindS⟩ := h2
  obtain ⟨vm', X', st⟩ := X.cloneArray hx hown hlink hsame hnat hinst hsel (a := a) (cell := cell) (by rw [hT]; exact h1) (fun z h => h6.2.1 z h) h6.2.2.1 (by rw [h6.1]; exact hRA) f2 (by rw [h6.1]; exact f3)
    (fun i v hv => by
      have hi : i < (M.1 a).2.1 := by
        rw [← h6.2.2.2.1]
        exact (Array.getElem?_eq_some_iff.mp hv).1
      have hf := h3 i hi
      rw [h6.2.2.2.2 i hi] at hv
      cases hv
      have hk' : T.vm.classes[cell.cls]? = some kA := hkA
      simpa [State.fitsSlot, State.slotType?, hk', hkind] using hf)
    (g := F0 m pc ls (.ref a :: rest)) rfl (by rw [hml]) rfl (by rw [hb]; exact hdg) hframes (by show 2 * 0 + _ + 14 ≤ _; omega) hcells (by rw [h6.2.2.2.1]; exact hslots) (hloader := Vm.clonesLoader_of_array hkS hkindS)
  rw [h6.2.2.2.1] at X'
  obtain ⟨t, a1, b1⟩ := kk _ _ (hR.push (x := { cls := cell.cls, slots := cell.slots }) (sl := (M.1 a).2.1) h6.2.2.2.1 (vAt_arr Array.getElem?_push_size ⟨h6.1, (fun z h => by cases h), (fun h => by cases h), h6.2.2.2.1, h6.2.2.2.2⟩ (by decide) (by decide) h5 h3)) hS.grow ((T.setVm vm').pushCell { cls := cell.cls, slots := cell.slots }) (by rw [← hT]; rfl) X'
  refine ⟨t, st t ?_, b1⟩
  rw [hT, hR.2.1]
  exact a1
theorem v_castB {own : String} {index a : Nat} (hx : p.tables.exec = Jvm.exec) (hb : c.code = cc) (hown : s.vm.findClass own = some m.cls) (hK : vK D s) (hlink : (Cond.classLink own index "[B").before args s = true) (htg : (M.1 a).1 = 102) (hdg : decode cc pc = .ok (.checkcast index, 3))
    (kk : vV D p l e R s m args below meth c n k Q M (F0 m (pc + 3) ls (.ref a :: rest))) : vV D p l e R s m args below meth c n k Q M (F0 m pc ls (.ref a :: rest)) := by
  intro H locs hR hS
  obtain ⟨cell, h1, h2, h3, h4, h5, h6⟩ := v_arr hK hR htg (by decide)
  have hRA : s.vm.findClass "[B" = some (D.2.2.1 102) := va_nm_byte (hK.2 102 (by decide) (by decide)).2
  intro T hT X
  have hst : cell.vm.isStatics = false := by
    cases hv : cell.vm with
    | statics z => exact absurd hv (h6.2.1 z)
    | _ => rfl
  obtain ⟨vm', X', st⟩ := X.checkcastYes hx hown hlink (by rw [hT]; exact h1) hst hRA (by rw [h6.1]; exact va_asg _ _) (g := F0 m pc ls (.ref a :: rest)) rfl rfl (by rw [hb]; exact hdg)
  obtain ⟨t, a1, b1⟩ := kk H locs hR hS (T.setVm vm') hT X'
  exact ⟨t, st t a1, b1⟩
end VD
