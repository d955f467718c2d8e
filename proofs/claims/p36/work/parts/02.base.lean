/-! THE MEMORY that the transcriptions speak of: an address holds (tag, length, contents); tag 0: nothing known; a class of vCl at its place + 1; arrays from 101 on. Behind it: the next address, the slots made since the law began, the law's first own address. -/
abbrev vOb : Type := Nat × Nat × (Nat → Value)
abbrev vMe : Type := (Nat → vOb) × Nat × Nat × Nat
abbrev vD : Type := (Nat → ClassId) × (Nat → Nat → Nat) × (Nat → ClassId) × Nat × (Nat → Nat)
abbrev vCl : List vw_C := [(RJ0, TJ0, 2), (RJ4, TJ4, 4), (RX0, TX0, 8), (RX1, TX1, 2), (RX2, TX2, 6), (RX3, TX3, 9), (RX4, TX4, 2), (RX5, TX5, 9), (RX7, TX7, 7), (RX8, TX8, 3), (RX9, TX9, 6), (RX10, TX10, 10), (RX11, TX11, 8), (RX12, TX12, 9)]
def vTy (ci k : Nat) : FieldType := match ci with
  | 0 => tyJ0 k
  | 1 => tyJ4 k
  | 2 => tyX0 k
  | 3 => tyX1 k
  | 4 => tyX2 k
  | 5 => tyX3 k
  | 6 => tyX4 k
  | 7 => tyX5 k
  | 8 => tyX7 k
  | 9 => tyX8 k
  | 10 => tyX9 k
  | 11 => tyX10 k
  | 12 => tyX11 k
  | _ => tyX12 k
def vAty (t : Nat) : FieldType := match t with
  | 101 => .int
  | 102 => .byte
  | 103 => .boolean
  | 104 => .long
  | 105 => .int
  | 106 => .object RX5
  | 107 => .object RX7
  | 108 => .object RX0
  | 109 => .object RX10
  | _ => .object RX11
def vI (v : Value) : Int32 := match v with
  | .int x => x
  | _ => 0
def vJ (v : Value) : Int64 := match v with
  | .long x => x
  | _ => 0
def vB (v : Value) : UInt64 := match v with
  | .double x => x
  | _ => 0
def vR (v : Value) : Option Nat := match v with
  | .ref a => some a
  | _ => none
theorem vI_of {v : Value} {ty : FieldType} (h : fits ty v = true) (ht : ty = .int ∨ ty = .boolean ∨ ty = .byte) : v = .int (vI v) := by
  rcases ht with rfl | rfl | rfl <;> cases v <;> first | rfl | (simp [fits] at h)
theorem vJ_of {v : Value} {ty : FieldType} (h : fits ty v = true) (ht : ty = .long) : v = .long (vJ v) := by
  subst ht; cases v <;> first | rfl | (simp [fits] at h)
theorem vB_of {v : Value} {ty : FieldType} (h : fits ty v = true) (ht : ty = .double) : v = .double (vB v) := by
  subst ht; cases v <;> first | rfl | (simp [fits] at h)
theorem vR_of {v : Value} {ty : FieldType} (h : fits ty v = true) (ht : ty.isReference = true) : v = va_rf (vR v) := by
  cases ty <;> simp [FieldType.isReference] at ht <;> cases v <;> first | rfl | (simp [fits] at h)
/-- an array's cell -/
def vArr (cA : ClassId) (len : Nat) (f : Nat → Value) (cell : Cell) : Prop := cell.cls = cA ∧ (∀ z, cell.vm ≠ .statics z) ∧ cell.vm ≠ .unknown ∧ cell.slots.size = len ∧ ∀ j, j < len → cell.slots[j]? = some (f j)
theorem vArr_new (cA : ClassId) (len : Nat) (f : Nat → Value) : vArr cA len f (arrV cA len f) := ⟨rfl, (fun z h => by cases h), (fun h => by cases h), arrV_size _ _ _, fun _ h => arrV_read _ _ h⟩
theorem vArr.set {cA : ClassId} {len j : Nat} {f : Nat → Value} {cell : Cell} (v : Value) (h : vArr cA len f cell) (hj : j < len) : vArr cA len (updV f j v) (cell.setSlot j v) := by
  obtain ⟨h1, h2, h3, h4, h5⟩ := h
  refine ⟨h1, h2, h3, by simp [Cell.setSlot, h4], fun i hi => ?_⟩
  by_cases hij : i = j
  · subst hij
    rw [Cell.slots_setSlot_self _ (by omega)]
    simp [updV]
  · rw [slot_ne _ _ (Ne.symm hij), h5 i hi]
    simp [updV, hij]
/-- what the machine keeps of an object beside its fields: nothing, in a cell of the law's own; of an older one only that it's an object whose fields are known -/
def v_vm (D : vD) (q : Nat) (vm : VmData) : Prop := vm.isStatics = false ∧ vm ≠ .unknown ∧ (D.2.2.2.1 ≤ q → vm = .none)
def v_OB (D : vD) (q : Nat) (cC : ClassId) (N : Nat) (iS : Nat → Nat) (H : Heap) (V : Nat → Value) : Prop :=
  ∃ cell : Cell, H[q]? = some cell ∧ cell.cls = cC ∧ v_vm D q cell.vm ∧ ∀ k, k < N → cell.slots[iS k]? = some (V k)
theorem v_OB.kept {D : vD} {q : Nat} {cC : ClassId} {N : Nat} {iS : Nat → Nat} {H H1 : Heap} {V : Nat → Value} (h : v_OB D q cC N iS H V) (h1 : H1[q]? = H[q]?) : v_OB D q cC N iS H1 V := by
  obtain ⟨cell, q, r⟩ := h
  exact ⟨cell, by rw [h1]; exact q, r⟩
theorem v_OB.of {D : vD} {q : Nat} {cC : ClassId} {N : Nat} {iS : Nat → Nat} {H : Heap} {V : Nat → Value} (h : t_OB q cC N iS H V) : v_OB D q cC N iS H V := by
  obtain ⟨cell, q1, q2, q3, q4⟩ := h
  exact ⟨cell, q1, q2, ⟨by rw [q3]; rfl, by rw [q3]; exact (fun h => by cases h), fun _ => q3⟩, q4⟩
def vAt (D : vD) (q : Nat) (o : vOb) (H : Heap) : Prop :=
  (0 < o.1 → o.1 < 100 → ∃ r, vCl[o.1 - 1]? = some r ∧ v_OB D q (D.1 (o.1 - 1)) r.2.2 (D.2.1 (o.1 - 1)) H o.2.2 ∧ ∀ k, k < r.2.2 → fits (vTy (o.1 - 1) k) (o.2.2 k) = true) ∧
  (100 < o.1 → (∃ cell, H[q]? = some cell ∧ vArr (D.2.2.1 o.1) o.2.1 o.2.2 cell) ∧ o.2.1 < 2 ^ 31 ∧ o.1 < 111 ∧ ∀ j, j < o.2.1 → fits (vAty o.1) (o.2.2 j) = true)
def vSum (k : Nat) (H : Heap) : Nat := ((H.toList.drop k).map (fun c => c.slots.size)).sum
def vRp (D : vD) (M : vMe) (H : Heap) : Prop := (∀ q, vAt D q (M.1 q) H) ∧ H.size = M.2.1 ∧ vSum D.2.2.2.1 H = M.2.2.1 ∧ M.2.2.2 = D.2.2.2.1 ∧ D.2.2.2.1 ≤ H.size ∧ ∀ q, M.2.1 ≤ q → (M.1 q).1 = 0
def vA (D : vD) : Nat → Prop := fun q => D.2.2.2.1 ≤ q
def vK (D : vD) (U : State) : Prop := (∀ (c : Nat) (q : vw_C), vCl[c]? = some q → u_Kn U q.1 q.2.1 q.2.2 (D.1 c) (D.2.1 c)) ∧ ∀ t, 100 < t → t < 111 → ArrOfT U (D.2.2.1 t) (vAty t) ∧ va_RA U (D.2.2.1 t) (vAty t)
theorem vK.moved {D : vD} {u U : State} (hvm : u.vm.Alike U.vm) (h : vK D u) : vK D U :=
  ⟨fun c q hq => u_Kn_moved hvm (h.1 c q hq), fun t h1 h2 => ⟨arrOfT_moved hvm (h.2 t h1 h2).1, (h.2 t h1 h2).2.moved hvm⟩⟩
section VB
variable {p : Program} {l : Launch} {e : Env} {R : Room} {s : State} {m : MethodId} {args : Array Value} {below : List Frame} {meth : Method} {c : Code} {H : Heap} {locs : List Loc} {cells slots n k : Nat} {Q : State → Prop}
variable {D : vD} {M : vMe} {cc : ByteArray} {pc : Nat} {ls : Array Slot} {rest : List Value}
/-- from any heap that holds the memory M the machine, at frame g, comes to Q -/
def vV (D : vD) (p : Program) (l : Launch) (e : Env) (R : Room) (s : State) (m : MethodId) (args : Array Value) (below : List Frame) (meth : Method) (c : Code) (n k : Nat) (Q : State → Prop) (M : vMe) (g : JFrame) : Prop :=
  ∀ (H : Heap) (locs : List Loc), vRp D M H → va_S (vA D) s.heap H locs → W p l e R s m args below meth c H locs n k Q g
/-- rows that leave the memory alone -/
theorem vV.lift {g g2 : JFrame} (h : ∀ H locs, W p l e R s m args below meth c H locs n k Q g2 → W p l e R s m args below meth c H locs n k Q g) (kk : vV D p l e R s m args below meth c n k Q M g2) : vV D p l e R s m args below meth c n k Q M g :=
  fun H locs hR hS => h H locs (kk H locs hR hS)
theorem vV.widen {g : JFrame} {n' k' : Nat} (h1 : n ≤ n') (h2 : k ≤ k') (kk : vV D p l e R s m args below meth c n' k' Q M g) : vV D p l e R s m args below meth c n k Q M g :=
  fun H locs hR hS => W.widen h1 h2 (kk H locs hR hS)
/-! getfield -/
def gI (M : vMe) (a tg k : Nat) : Option Int32 := if (M.1 a).1 = tg then some (vI ((M.1 a).2.2 k)) else none
def gJ (M : vMe) (a tg k : Nat) : Option Int64 := if (M.1 a).1 = tg then some (vJ ((M.1 a).2.2 k)) else none
def gR (M : vMe) (a tg k : Nat) : Option (Option Nat) := if (M.1 a).1 = tg then some (vR ((M.1 a).2.2 k)) else none
theorem v_tag {α : Type} {c : Prop} {x v : α} [Decidable c] (h : (if c then some x else none) = some v) : c ∧ x = v := by
  split at h
  · exact ⟨by assumption, Option.some.inj h⟩
  · cases h
theorem v_getf {own ref C : String} {T : u_T} {N ci index a : Nat} {Ts : List Cond} {v : Value} (hx : p.tables.exec = Jvm.exec) (hb : c.code = cc) (hts : ∀ w ∈ Ts, w.before args s = true) (hin : ∀ w ∈ u_ws C T N, w ∈ Ts) (hown : s.vm.findClass own = some m.cls) (hK : vK D s)
    (htg : (M.1 a).1 = ci + 1) (hci : ci < 99) (hc : vCl[ci]? = some (C, T, N)) (j : Nat) (hj : j < N) (hlink : (Cond.fieldLink own index ref (T j).2.1 (T j).2.2.1).before args s = true ∨ ∃ host, (Cond.fieldLinkNest own index ref (T j).2.1 (T j).2.2.1 host).before args s = true) (hsame : ∀ x, s.fieldFound? (T j).1 (T j).2.1 (T j).2.2.1 = some x → s.fieldFound? ref (T j).2.1 (T j).2.2.1 = some x)
    (hv : fits (vTy ci j) ((M.1 a).2.2 j) = true → (M.1 a).2.2 j = v) (hdg : decode cc pc = .ok (.getfield index, 3))
    (kk : vV D p l e R s m args below meth c n k Q M (F0 m (pc + 3) ls (v :: rest))) : vV D p l e R s m args below meth c n k Q M (F0 m pc ls (.ref a :: rest)) := by
  intro H locs hR hS
  obtain ⟨r, h1, ⟨cell, q1, q2, q3, q4⟩, h3⟩ := (hR.1 a).1 (by omega) (by omega)
  rw [htg] at h1 q2 q4 h3
  rw [Nat.add_sub_cancel] at h1 q2 q4 h3
  have hr : r = (C, T, N) := Option.some.inj (h1.symm.trans hc)
  subst hr
  obtain ⟨hSl, hfc, kC, hkC, hkind⟩ := hK.1 ci _ hc
  obtain ⟨cf, kf, fi, f, hi, hsl⟩ := hSl j hj
  have hval : cell.slots[f.slot]? = some v := by rw [hsl, q4 j hj, hv (h3 j hj)]
  rcases hlink with hlink | ⟨host, hlink⟩
  · exact W.getf hx hb hown hlink (hsame _ hi) (u_facts hfc hkC (u_lays hts hin hj) hi).1 q1 q3.2.1 hval rfl rfl hdg (kk H locs hR hS)
  · exact va_Wgetf hx hb hown hlink (hsame _ hi) (u_facts hfc hkC (u_lays hts hin hj) hi).1 q1 q3.2.1 hval rfl rfl hdg (kk H locs hR hS)
theorem v_gI {own ref C : String} {T : u_T} {N ci index a : Nat} {Ts : List Cond} {v : Int32} {tg : Nat} (hx : p.tables.exec = Jvm.exec) (hb : c.code = cc) (hts : ∀ w ∈ Ts, w.before args s = true) (hin : ∀ w ∈ u_ws C T N, w ∈ Ts) (hown : s.vm.findClass own = some m.cls) (hK : vK D s) (j : Nat)
    (hv : gI M a tg j = some v) (hc : vCl[ci]? = some (C, T, N)) (hq : tg = ci + 1 ∧ ci < 99 ∧ j < N ∧ (vTy ci j = .int ∨ vTy ci j = .boolean ∨ vTy ci j = .byte)) (hlink : (Cond.fieldLink own index ref (T j).2.1 (T j).2.2.1).before args s = true ∨ ∃ host, (Cond.fieldLinkNest own index ref (T j).2.1 (T j).2.2.1 host).before args s = true) (hsame : ∀ x, s.fieldFound? (T j).1 (T j).2.1 (T j).2.2.1 = some x → s.fieldFound? ref (T j).2.1 (T j).2.2.1 = some x)
    (hdg : decode cc pc = .ok (.getfield index, 3))
    (kk : vV D p l e R s m args below meth c n k Q M (F0 m (pc + 3) ls (.int v :: rest))) : vV D p l e R s m args below meth c n k Q M (F0 m pc ls (.ref a :: rest)) := by
  obtain ⟨h1, h2⟩ := v_tag hv
  exact v_getf hx hb hts hin hown hK (h1.trans hq.1) hq.2.1 hc j hq.2.2.1 hlink hsame (fun h => by rw [← h2]; exact vI_of h hq.2.2.2) hdg kk
theorem v_gJ {own ref C : String} {T : u_T} {N ci index a : Nat} {Ts : List Cond} {v : Int64} {tg : Nat} (hx : p.tables.exec = Jvm.exec) (hb : c.code = cc) (hts : ∀ w ∈ Ts, w.before args s = true) (hin : ∀ w ∈ u_ws C T N, w ∈ Ts) (hown : s.vm.findClass own = some m.cls) (hK : vK D s) (j : Nat)
    (hv : gJ M a tg j = some v) (hc : vCl[ci]? = some (C, T, N)) (hq : tg = ci + 1 ∧ ci < 99 ∧ j < N ∧ vTy ci j = .long) (hlink : (Cond.fieldLink own index ref (T j).2.1 (T j).2.2.1).before args s = true ∨ ∃ host, (Cond.fieldLinkNest own index ref (T j).2.1 (T j).2.2.1 host).before args s = true) (hsame : ∀ x, s.fieldFound? (T j).1 (T j).2.1 (T j).2.2.1 = some x → s.fieldFound? ref (T j).2.1 (T j).2.2.1 = some x)
    (hdg : decode cc pc = .ok (.getfield index, 3))
    (kk : vV D p l e R s m args below meth c n k Q M (F0 m (pc + 3) ls (.long v :: rest))) : vV D p l e R s m args below meth c n k Q M (F0 m pc ls (.ref a :: rest)) := by
  obtain ⟨h1, h2⟩ := v_tag hv
  exact v_getf hx hb hts hin hown hK (h1.trans hq.1) hq.2.1 hc j hq.2.2.1 hlink hsame (fun h => by rw [← h2]; exact vJ_of h hq.2.2.2) hdg kk
theorem v_gR {own ref C : String} {T : u_T} {N ci index a : Nat} {Ts : List Cond} {v : Option Nat} {tg : Nat} (hx : p.tables.exec = Jvm.exec) (hb : c.code = cc) (hts : ∀ w ∈ Ts, w.before args s = true) (hin : ∀ w ∈ u_ws C T N, w ∈ Ts) (hown : s.vm.findClass own = some m.cls) (hK : vK D s) (j : Nat)
    (hv : gR M a tg j = some v) (hc : vCl[ci]? = some (C, T, N)) (hq : tg = ci + 1 ∧ ci < 99 ∧ j < N ∧ (vTy ci j).isReference = true) (hlink : (Cond.fieldLink own index ref (T j).2.1 (T j).2.2.1).before args s = true ∨ ∃ host, (Cond.fieldLinkNest own index ref (T j).2.1 (T j).2.2.1 host).before args s = true) (hsame : ∀ x, s.fieldFound? (T j).1 (T j).2.1 (T j).2.2.1 = some x → s.fieldFound? ref (T j).2.1 (T j).2.2.1 = some x)
    (hdg : decode cc pc = .ok (.getfield index, 3))
    (kk : vV D p l e R s m args below meth c n k Q M (F0 m (pc + 3) ls (va_rf v :: rest))) : vV D p l e R s m args below meth c n k Q M (F0 m pc ls (.ref a :: rest)) := by
  obtain ⟨h1, h2⟩ := v_tag hv
  exact v_getf hx hb hts hin hown hK (h1.trans hq.1) hq.2.1 hc j hq.2.2.1 hlink hsame (fun h => by rw [← h2]; exact vR_of h hq.2.2.2) hdg kk
/-! what a write does to the memory -/
def pt (M : vMe) (a : Nat) (o : vOb) : vMe := (fun q => if q = a then o else M.1 q, M.2)
def wr (M : vMe) (a k : Nat) (v : Value) : vMe := pt M a ((M.1 a).1, (M.1 a).2.1, updV (M.1 a).2.2 k v)
def sV (M : vMe) (a tg k : Nat) (v : Value) : Option vMe := if (M.1 a).1 = tg ∧ M.2.2.2 ≤ a then some (wr M a k v) else none
theorem vSum_put {b a : Nat} {H H1 : Heap} {cell c1 : Cell} (hc : H[a]? = some cell) (h1 : H1[a]? = some c1) (hsz : c1.slots.size = cell.slots.size) (hz : H1.size = H.size) (ho : ∀ q, q ≠ a → H1[q]? = H[q]?) : vSum b H1 = vSum b H := by
  have e : H1.toList.map (fun c => c.slots.size) = H.toList.map (fun c => c.slots.size) := by
    apply List.ext_getElem?
    intro i
    rw [List.getElem?_map, List.getElem?_map, Array.getElem?_toList, Array.getElem?_toList]
    by_cases hi : i = a
    · subst hi
      rw [h1, hc]
      simp [hsz]
    · rw [ho i hi]
  unfold vSum
  rw [List.map_drop, List.map_drop, e]
theorem vAt.kept {q : Nat} {o : vOb} {H H1 : Heap} (h : vAt D q o H) (hq : H1[q]? = H[q]?) : vAt D q o H1 := by
  refine ⟨fun h1 h2 => ?_, fun h1 => ?_⟩
  · obtain ⟨r, g1, g2, g3⟩ := h.1 h1 h2
    exact ⟨r, g1, g2.kept hq, g3⟩
  · obtain ⟨g1, g2⟩ := h.2 h1
    exact ⟨by rw [hq]; exact g1, g2⟩
theorem vRp.put {a : Nat} {o : vOb} {H H1 : Heap} {cell c1 : Cell} (hR : vRp D M H) (hc : H[a]? = some cell) (h1 : H1[a]? = some c1) (hsz : c1.slots.size = cell.slots.size) (hz : H1.size = H.size) (ho : ∀ q, q ≠ a → H1[q]? = H[q]?) (ho1 : o.1 = (M.1 a).1) (hat : vAt D a o H1) : vRp D (pt M a o) H1 := by
  obtain ⟨r1, r2, r3, r4, r5, r6⟩ := hR
  refine ⟨fun q => ?_, hz.trans r2, (vSum_put hc h1 hsz hz ho).trans r3, r4, by rw [hz]; exact r5, fun q hq => ?_⟩
  · by_cases hqa : q = a
    · subst hqa
      show vAt D q (if q = q then _ else _) H1
      rw [if_pos rfl]
      exact hat
    · show vAt D q (if q = a then _ else _) H1
      rw [if_neg hqa]
      exact (r1 q).kept (ho q hqa)
  · show (if q = a then _ else M.1 q : vOb).1 = 0
    split
    · next hqa => subst hqa; exact ho1.trans (r6 q hq)
    · exact r6 q hq
/-! putfield; a final field in a constructor -/
theorem v_putf {own ref C : String} {T : u_T} {N ci index a : Nat} {Ts : List Cond} {v : Value} {tg : Nat} {M1 : vMe} (hx : p.tables.exec = Jvm.exec) (hb : c.code = cc) (hts : ∀ w ∈ Ts, w.before args s = true) (hin : ∀ w ∈ u_ws C T N, w ∈ Ts) (hown : s.vm.findClass own = some m.cls) (hK : vK D s)
    (hty : ∀ i, i < N → parseFieldDescriptor (T i).2.2.1 = some (vTy ci i)) (hnm : ∀ a, a < N → ∀ b, b < N → a ≠ b → (T a).2.1 ≠ (T b).2.1) (j : Nat)
    (hv : sV M a tg j v = some M1) (hc : vCl[ci]? = some (C, T, N)) (hq : tg = ci + 1 ∧ ci < 99 ∧ j < N) (hlink : (Cond.fieldLink own index ref (T j).2.1 (T j).2.2.1).before args s = true ∨ ∃ host, (Cond.fieldLinkNest own index ref (T j).2.1 (T j).2.2.1 host).before args s = true) (hsame : ∀ x, s.fieldFound? (T j).1 (T j).2.1 (T j).2.2.1 = some x → s.fieldFound? ref (T j).2.1 (T j).2.2.1 = some x)
    (hfin : (T j).2.2.2 = false ∨ ((T j).2.2.2 = true ∧ meth.name = "<init>" ∧ (T j).1 = own ∧ (Cond.fieldLink own index ref (T j).2.1 (T j).2.2.1).before args s = true)) (hn : narrow (vTy ci j) v = v) (hfit : fits (vTy ci j) v = true)
    (hdg : decode cc pc = .ok (.putfield index, 3))
    (kk : vV D p l e R s m args below meth c n k Q M1 (F0 m (pc + 3) ls rest)) : vV D p l e R s m args below meth c n k Q M (F0 m pc ls (v :: .ref a :: rest)) := by
  obtain ⟨⟨htg, hab⟩, hM1⟩ := v_tag hv
  subst hM1
  intro H locs hR hS
  have hat := (hR.1 a).1 (by omega) (by omega)
  obtain ⟨r, h1, hob, h3⟩ := hat
  obtain ⟨cell, q1, q2, q3, q4⟩ := id hob
  have q5 : cell.vm = .none := q3.2.2 (by rw [← hR.2.2.2.1]; exact hab)
  rw [htg, hq.1] at h1 q2 q4 h3
  rw [Nat.add_sub_cancel] at h1 q2 q4 h3
  have hr : r = (C, T, N) := Option.some.inj (h1.symm.trans hc)
  subst hr
  obtain ⟨hSl, hfc, kC, hkC, hkind⟩ := hK.1 ci _ hc
  obtain ⟨cf, kf, fi, f, hi, hsl⟩ := hSl j hq.2.2
  have hap : ∀ x y, x < N → y < N → x ≠ y → (D.2.1 ci) x ≠ (D.2.1 ci) y := by
    intro x y hx1 hy1 hne
    obtain ⟨_, _, _, fa, hia, ea⟩ := hSl x hx1
    obtain ⟨_, _, _, fb, hib, eb⟩ := hSl y hy1
    rw [← ea, ← eb]
    refine u_apart (u_lays hts hin hx1) (u_lays hts hin hy1) hia hib ?_
    rw [(State.fieldFound?_type hia (hty x hx1)).1, (State.fieldFound?_type hib (hty y hy1)).1]
    exact hnm x hx1 y hy1 hne
  have hlay := hts _ (hin _ (u_in_lay hq.2.2))
  have hst := (u_facts hfc hkC (u_lays hts hin hq.2.2) hi).1
  have fin : ∀ (H' : Heap), H'[a]? = some (cell.setSlot f.slot v) → H'.size = H.size → (∀ q, q ≠ a → H'[q]? = H[q]?) → W p l e R s m args below meth c H' (locs ++ [⟨a, f.slot⟩]) n k Q (F0 m (pc + 3) ls rest) := by
    intro H' e1 e2 e3
    refine kk H' _ (hR.put q1 e1 (by simp [Cell.setSlot]) e2 e3 rfl ⟨fun _ _ => ?_, fun h => ?_⟩) (hS.put e2 e3 (by show D.2.2.2.1 ≤ a; rw [← hR.2.2.2.1]; exact hab))
    · refine ⟨(C, T, N), ?_, ⟨cell.setSlot f.slot v, e1, ?_, q3, ?_⟩, ?_⟩
      · show vCl[(M.1 a).1 - 1]? = _
        rw [htg, hq.1]; exact hc
      · show _ = D.1 ((M.1 a).1 - 1)
        rw [htg, hq.1]; exact q2
      · intro i hi2
        show _ = some (updV (M.1 a).2.2 j v i)
        rw [htg, hq.1, hsl]
        exact t_set q4 hap hq.2.2 v i hi2
      · intro i hi2
        show fits (vTy ((M.1 a).1 - 1) i) (updV (M.1 a).2.2 j v i) = true
        rw [htg, hq.1, Nat.add_sub_cancel]
        by_cases hij : i = j
        · subst hij; simp only [updV, if_pos]; exact hfit
        · simp only [updV, if_neg hij]; exact h3 i hi2
    · have h' : 100 < (M.1 a).1 := h
      omega
  rcases hfin with hfin | ⟨hfin, hini, hdecl, hlink⟩
  · unfold u_lay at hlay
    rw [if_neg (by rw [hfin]; decide)] at hlay
    have h6 := u_store hfc hkC hkind hlay hi (hty j hq.2.2) hn hfit
    rcases hlink with hlink | ⟨host, hlink⟩
    · exact W.putK hx hb (f := f) ⟨hown, hlink, ⟨_, _, _, hsame _ hi⟩, hst⟩ (by rw [q2]; exact h6) q1 q5 (by rw [hsl]; exact k2_hasslot (q4 j hq.2.2)) rfl rfl hdg fin
    · exact va_WputK hx hb (f := f) hown hlink (hsame _ hi) hst (by rw [q2]; exact h6) q1 q5 (by rw [hsl]; exact k2_hasslot (q4 j hq.2.2)) rfl rfl hdg fin
  · unfold u_lay at hlay
    rw [if_pos hfin] at hlay
    have hcf : m.cls = cf := by
      obtain ⟨_, _, c', _, _, _, -, -, hf', -, -, -, hown2, -⟩ := Cond.laysFinal_spec hlay
      have e1 : c' = cf := by have := hi.symm.trans hf'; simp at this; exact this.1.symm
      rw [hdecl] at hown2
      rw [← e1]; exact Option.some.inj (hown.symm.trans hown2)
    exact W.putFinK hx hb hown hlink (hsame _ hi) hst hcf hini (by rw [q2]; exact u_fits hfc hkC hkind (Or.inr hlay) hi (hty j hq.2.2) hn hfit) q1 q5 (by rw [hsl]; exact k2_hasslot (q4 j hq.2.2)) rfl rfl hdg fin
/-! arrays -/
def aI (M : vMe) (a tg : Nat) (i : Int32) : Option Int32 := if (M.1 a).1 = tg ∧ ¬ (i < 0 ∨ (M.1 a).2.1 ≤ i.toNatClampNeg) then some (vI ((M.1 a).2.2 i.toNatClampNeg)) else none
def aJ (M : vMe) (a tg : Nat) (i : Int32) : Option Int64 := if (M.1 a).1 = tg ∧ ¬ (i < 0 ∨ (M.1 a).2.1 ≤ i.toNatClampNeg) then some (vJ ((M.1 a).2.2 i.toNatClampNeg)) else none
def aB (M : vMe) (a tg : Nat) (i : Int32) : Option UInt64 := if (M.1 a).1 = tg ∧ ¬ (i < 0 ∨ (M.1 a).2.1 ≤ i.toNatClampNeg) then some (vB ((M.1 a).2.2 i.toNatClampNeg)) else none
def aR (M : vMe) (a tg : Nat) (i : Int32) : Option (Option Nat) := if (M.1 a).1 = tg ∧ ¬ (i < 0 ∨ (M.1 a).2.1 ≤ i.toNatClampNeg) then some (vR ((M.1 a).2.2 i.toNatClampNeg)) else none
def aN (M : vMe) (a tg : Nat) : Option Int32 := if (M.1 a).1 = tg then some (Int32.ofNat (M.1 a).2.1) else none
def sA (M : vMe) (a tg : Nat) (i : Int32) (v : Value) : Option vMe := if (M.1 a).1 = tg ∧ ¬ (i < 0 ∨ (M.1 a).2.1 ≤ i.toNatClampNeg) ∧ M.2.2.2 ≤ a then some (wr M a i.toNatClampNeg v) else none
def sQ (M : vMe) (a tg : Nat) (i : Int32) (v et : Nat) : Option vMe := if (M.1 a).1 = tg ∧ ¬ (i < 0 ∨ (M.1 a).2.1 ≤ i.toNatClampNeg) ∧ M.2.2.2 ≤ a ∧ (M.1 v).1 = et then some (wr M a i.toNatClampNeg (.ref v)) else none
theorem v_arr (hK : vK D s) (hR : vRp D M H) {a tg : Nat} (h : (M.1 a).1 = tg) (ht : 100 < tg) : ∃ cell : Cell, H[a]? = some cell ∧ s.isArrayOf cell (vAty tg) ∧ (∀ j, j < (M.1 a).2.1 → fits (vAty tg) ((M.1 a).2.2 j) = true) ∧ tg < 111 ∧ (M.1 a).2.1 < 2 ^ 31 ∧ vArr (D.2.2.1 tg) (M.1 a).2.1 (M.1 a).2.2 cell := by
  have h1 := (hR.1 a).2 (by omega)
  rw [h] at h1
  obtain ⟨⟨cell, g1, g2⟩, g3, g4, g5⟩ := h1
  obtain ⟨-, kA, e1, e2⟩ := (hK.2 tg ht g4).1 0 (fun _ => .null)
  exact ⟨cell, g1, ⟨g2.2.1, kA, by rw [g2.1]; exact e1, e2⟩, g5, g4, g3, g2⟩
theorem v_iald {a : Nat} {i v : Int32} (hx : p.tables.exec = Jvm.exec) (hb : c.code = cc) (hK : vK D s) (hv : aI M a 101 i = some v) (hdg : decode cc pc = .ok (.iaload, 1))
    (kk : vV D p l e R s m args below meth c n k Q M (F0 m (pc + 1) ls (.int v :: rest))) : vV D p l e R s m args below meth c n k Q M (F0 m pc ls (.int i :: .ref a :: rest)) := by
  intro H locs hR hS
  obtain ⟨⟨htg, hin⟩, rfl⟩ := v_tag hv
  obtain ⟨cell, h1, h2, h3, h4, h5, h6⟩ := v_arr hK hR htg (by decide)
  have hlt : i.toNatClampNeg < (M.1 a).2.1 := Nat.not_le.mp fun q => hin (Or.inr q)
  refine W.iald hx hb h1 h2 h6.2.2.1 (by rw [h6.2.2.2.1]; exact hin) (v := .int _) ?_ rfl rfl hdg (kk H locs hR hS)
  rw [h6.2.2.2.2 _ hlt, ← vI_of (h3 _ hlt) (Or.inl rfl)]
theorem v_bald {a : Nat} {i v : Int32} (hx : p.tables.exec = Jvm.exec) (hb : c.code = cc) (hK : vK D s) (hv : aI M a 102 i = some v) (hdg : decode cc pc = .ok (.baload, 1))
    (kk : vV D p l e R s m args below meth c n k Q M (F0 m (pc + 1) ls (.int v :: rest))) : vV D p l e R s m args below meth c n k Q M (F0 m pc ls (.int i :: .ref a :: rest)) := by
  intro H locs hR hS
  obtain ⟨⟨htg, hin⟩, rfl⟩ := v_tag hv
  obtain ⟨cell, h1, h2, h3, h4, h5, h6⟩ := v_arr hK hR htg (by decide)
  have hlt : i.toNatClampNeg < (M.1 a).2.1 := Nat.not_le.mp fun q => hin (Or.inr q)
  refine W.bald hx hb h1 h2 h6.2.2.1 (by rw [h6.2.2.2.1]; exact hin) (v := .int _) ?_ rfl rfl hdg (kk H locs hR hS)
  rw [h6.2.2.2.2 _ hlt, ← vI_of (h3 _ hlt) (Or.inr (Or.inr rfl))]
theorem v_zald {a : Nat} {i v : Int32} (hx : p.tables.exec = Jvm.exec) (hb : c.code = cc) (hK : vK D s) (hv : aI M a 103 i = some v) (hdg : decode cc pc = .ok (.baload, 1))
    (kk : vV D p l e R s m args below meth c n k Q M (F0 m (pc + 1) ls (.int v :: rest))) : vV D p l e R s m args below meth c n k Q M (F0 m pc ls (.int i :: .ref a :: rest)) := by
  intro H locs hR hS
  obtain ⟨⟨htg, hin⟩, rfl⟩ := v_tag hv
  obtain ⟨cell, h1, h2, h3, h4, h5, h6⟩ := v_arr hK hR htg (by decide)
  have hlt : i.toNatClampNeg < (M.1 a).2.1 := Nat.not_le.mp fun q => hin (Or.inr q)
  refine W.zald hx hb h1 h2 h6.2.2.1 (by rw [h6.2.2.2.1]; exact hin) (v := .int _) ?_ rfl rfl hdg (kk H locs hR hS)
  rw [h6.2.2.2.2 _ hlt, ← vI_of (h3 _ hlt) (Or.inr (Or.inl rfl))]
theorem v_lald {a : Nat} {i : Int32} {v : Int64} (hx : p.tables.exec = Jvm.exec) (hb : c.code = cc) (hK : vK D s) (hv : aJ M a 104 i = some v) (hdg : decode cc pc = .ok (.laload, 1))
    (kk : vV D p l e R s m args below meth c n k Q M (F0 m (pc + 1) ls (.long v :: rest))) : vV D p l e R s m args below meth c n k Q M (F0 m pc ls (.int i :: .ref a :: rest)) := by
  intro H locs hR hS
  obtain ⟨⟨htg, hin⟩, rfl⟩ := v_tag hv
  obtain ⟨cell, h1, h2, h3, h4, h5, h6⟩ := v_arr hK hR htg (by decide)
  have hlt : i.toNatClampNeg < (M.1 a).2.1 := Nat.not_le.mp fun q => hin (Or.inr q)
  refine W.lald hx hb h1 h2 h6.2.2.1 (by rw [h6.2.2.2.1]; exact hin) (v := .long _) ?_ rfl rfl hdg (kk H locs hR hS)
  rw [h6.2.2.2.2 _ hlt, ← vJ_of (h3 _ hlt) rfl]
theorem v_aald {a tg : Nat} {i : Int32} {v : Option Nat} (hx : p.tables.exec = Jvm.exec) (hb : c.code = cc) (hK : vK D s) (hv : aR M a tg i = some v) (ht : 100 < tg ∧ (vAty tg).isReference = true) (hdg : decode cc pc = .ok (.aaload, 1))
    (kk : vV D p l e R s m args below meth c n k Q M (F0 m (pc + 1) ls (va_rf v :: rest))) : vV D p l e R s m args below meth c n k Q M (F0 m pc ls (.int i :: .ref a :: rest)) := by
  intro H locs hR hS
  obtain ⟨⟨htg, hin⟩, rfl⟩ := v_tag hv
  obtain ⟨cell, h1, h2, h3, h4, h5, h6⟩ := v_arr hK hR htg ht.1
  have hlt : i.toNatClampNeg < (M.1 a).2.1 := Nat.not_le.mp fun q => hin (Or.inr q)
  refine W.aald hx hb h1 h2 ht.2 h6.2.2.1 (by rw [h6.2.2.2.1]; exact hin) (v := va_rf _) ?_ rfl rfl hdg (kk H locs hR hS)
  rw [h6.2.2.2.2 _ hlt, ← vR_of (h3 _ hlt) ht.2]
theorem v_alen {a tg : Nat} {v : Int32} (hx : p.tables.exec = Jvm.exec) (hb : c.code = cc) (hK : vK D s) (hv : aN M a tg = some v) (ht : 100 < tg) (hdg : decode cc pc = .ok (.arraylength, 1))
    (kk : vV D p l e R s m args below meth c n k Q M (F0 m (pc + 1) ls (.int v :: rest))) : vV D p l e R s m args below meth c n k Q M (F0 m pc ls (.ref a :: rest)) := by
  intro H locs hR hS
  obtain ⟨htg, rfl⟩ := v_tag hv
  obtain ⟨cell, h1, h2, h3, h4, h5, h6⟩ := v_arr hK hR htg ht
  exact W.alen hx hb h1 h2 (by rw [h6.2.2.2.1]) rfl rfl hdg (kk H locs hR hS)
theorem vAt_arr {a tg len : Nat} {f : Nat → Value} {H1 : Heap} {cell : Cell} (h1 : H1[a]? = some cell) (h6 : vArr (D.2.2.1 tg) len f cell) (ht : 100 < tg) (ht2 : tg < 111) (hl : len < 2 ^ 31) (hf : ∀ j, j < len → fits (vAty tg) (f j) = true) : vAt D a (tg, len, f) H1 :=
  ⟨fun _ h2 => absurd (show tg < 100 from h2) (by omega), fun _ => ⟨⟨cell, h1, h6⟩, hl, ht2, hf⟩⟩
theorem v_stA {a tg : Nat} {i : Int32} {v : Value} {M1 : vMe} (hK : vK D s) (hv : sA M a tg i v = some M1) (ht : 100 < tg) (hfit : fits (vAty tg) v = true) (hR : vRp D M H) (hS : va_S (vA D) s.heap H locs) (H1 : Heap) {cell : Cell} (hc : H[a]? = some cell)
    (e : H1[a]? = some (cell.setSlot i.toNatClampNeg v)) (z : H1.size = H.size) (oq : ∀ q, q ≠ a → H1[q]? = H[q]?) : vRp D M1 H1 ∧ va_S (vA D) s.heap H1 (locs ++ [⟨a, i.toNatClampNeg⟩]) := by
  obtain ⟨⟨htg, hin, hab⟩, rfl⟩ := v_tag hv
  obtain ⟨cell', h1, h2, h3, h4, h5, h6⟩ := v_arr hK hR htg ht
  cases Option.some.inj (hc.symm.trans h1)
  have hlt : i.toNatClampNeg < (M.1 a).2.1 := Nat.not_le.mp fun q => hin (Or.inr q)
  refine ⟨hR.put h1 e (by simp [Cell.setSlot]) z oq rfl ?_, hS.put z oq (by show D.2.2.2.1 ≤ a; rw [← hR.2.2.2.1]; exact hab)⟩
  rw [htg]
  refine vAt_arr e (h6.set v hlt) ht h4 h5 fun j hj => ?_
  by_cases hij : j = i.toNatClampNeg
  · rw [hij]; simp only [updV, if_pos]; exact hfit
  · simp only [updV, if_neg hij]; exact h3 j hj
theorem v_iast {a : Nat} {i x : Int32} {M1 : vMe} (hx : p.tables.exec = Jvm.exec) (hb : c.code = cc) (hK : vK D s) (hv : sA M a 101 i (.int x) = some M1) (hdg : decode cc pc = .ok (.iastore, 1))
    (kk : vV D p l e R s m args below meth c n k Q M1 (F0 m (pc + 1) ls rest)) : vV D p l e R s m args below meth c n k Q M (F0 m pc ls (.int x :: .int i :: .ref a :: rest)) := by
  intro H locs hR hS
  obtain ⟨⟨htg, hin, hab⟩, -⟩ := v_tag hv
  obtain ⟨cell, h1, h2, h3, h4, h5, h6⟩ := v_arr hK hR htg (by decide)
  refine W.iast hx hb h1 h2 h6.2.2.1 (by rw [h6.2.2.2.1]; exact hin) rfl rfl hdg fun H1 e z oq => ?_
  obtain ⟨g1, g2⟩ := v_stA hK hv (by decide) rfl hR hS H1 h1 e z oq
  exact kk H1 _ g1 g2
theorem v_last {a : Nat} {i : Int32} {x : Int64} {M1 : vMe} (hx : p.tables.exec = Jvm.exec) (hb : c.code = cc) (hK : vK D s) (hv : sA M a 104 i (.long x) = some M1) (hdg : decode cc pc = .ok (.lastore, 1))
    (kk : vV D p l e R s m args below meth c n k Q M1 (F0 m (pc + 1) ls rest)) : vV D p l e R s m args below meth c n k Q M (F0 m pc ls (.long x :: .int i :: .ref a :: rest)) := by
  intro H locs hR hS
  obtain ⟨⟨htg, hin, hab⟩, -⟩ := v_tag hv
  obtain ⟨cell, h1, h2, h3, h4, h5, h6⟩ := v_arr hK hR htg (by decide)
  refine W.last hx hb h1 h2 h6.2.2.1 (by rw [h6.2.2.2.1]; exact hin) rfl rfl hdg fun H1 e z oq => ?_
  obtain ⟨g1, g2⟩ := v_stA hK hv (by decide) rfl hR hS H1 h1 e z oq
  exact kk H1 _ g1 g2
theorem v_fitB (x : Int32) : fits .byte (.int x.toInt8.toInt32) = true := pk_fb x
theorem v_fitZ (x : Int32) : fits .boolean (.int (x &&& 1)) = true := by
  have h := pk_and x (m := 1) 1 (by decide)
  rw [h]
  rcases (show x.toBitVec.toNat % 2 ^ 1 = 0 ∨ x.toBitVec.toNat % 2 ^ 1 = 1 by omega) with q | q <;> rw [q] <;> rfl
theorem v_bast {a : Nat} {i x : Int32} {M1 : vMe} (hx : p.tables.exec = Jvm.exec) (hb : c.code = cc) (hK : vK D s) (hv : sA M a 102 i (.int x.toInt8.toInt32) = some M1) (hdg : decode cc pc = .ok (.bastore, 1))
    (kk : vV D p l e R s m args below meth c n k Q M1 (F0 m (pc + 1) ls rest)) : vV D p l e R s m args below meth c n k Q M (F0 m pc ls (.int x :: .int i :: .ref a :: rest)) := by
  intro H locs hR hS
  obtain ⟨⟨htg, hin, hab⟩, -⟩ := v_tag hv
  obtain ⟨cell, h1, h2, h3, h4, h5, h6⟩ := v_arr hK hR htg (by decide)
  refine W.bast hx hb h1 h2 h6.2.2.1 (by rw [h6.2.2.2.1]; exact hin) rfl rfl hdg fun H1 e z oq => ?_
  obtain ⟨g1, g2⟩ := v_stA hK hv (by decide) (v_fitB x) hR hS H1 h1 e z oq
  exact kk H1 _ g1 g2
theorem v_zast {a : Nat} {i x : Int32} {M1 : vMe} (hx : p.tables.exec = Jvm.exec) (hb : c.code = cc) (hK : vK D s) (hv : sA M a 103 i (.int (x &&& 1)) = some M1) (hdg : decode cc pc = .ok (.bastore, 1))
    (kk : vV D p l e R s m args below meth c n k Q M1 (F0 m (pc + 1) ls rest)) : vV D p l e R s m args below meth c n k Q M (F0 m pc ls (.int x :: .int i :: .ref a :: rest)) := by
  intro H locs hR hS
  obtain ⟨⟨htg, hin, hab⟩, -⟩ := v_tag hv
  obtain ⟨cell, h1, h2, h3, h4, h5, h6⟩ := v_arr hK hR htg (by decide)
  refine W.zast hx hb h1 h2 h6.2.2.1 (by rw [h6.2.2.2.1]; exact hin) rfl rfl hdg fun H1 e z oq => ?_
  obtain ⟨g1, g2⟩ := v_stA hK hv (by decide) (v_fitZ x) hR hS H1 h1 e z oq
  exact kk H1 _ g1 g2
theorem v_aast {a tg v et ci : Nat} {i : Int32} {M1 : vMe} {r : vw_C} (hx : p.tables.exec = Jvm.exec) (hb : c.code = cc) (hK : vK D s) (hv : sQ M a tg i v et = some M1) (hq : 100 < tg ∧ et = ci + 1 ∧ ci < 99 ∧ vAty tg = .object r.1) (hc : vCl[ci]? = some r) (hdg : decode cc pc = .ok (.aastore, 1))
    (kk : vV D p l e R s m args below meth c n k Q M1 (F0 m (pc + 1) ls rest)) : vV D p l e R s m args below meth c n k Q M (F0 m pc ls (.ref v :: .int i :: .ref a :: rest)) := by
  intro H locs hR hS
  obtain ⟨⟨htg, hin, hab, het⟩, hM1⟩ := v_tag hv
  have hv2 : sA M a tg i (.ref v) = some M1 := by unfold sA; rw [if_pos ⟨htg, hin, hab⟩, hM1]
  obtain ⟨cell, h1, h2, h3, h4, h5, h6⟩ := v_arr hK hR htg hq.1
  have hlt : i.toNatClampNeg < (M.1 a).2.1 := Nat.not_le.mp fun q => hin (Or.inr q)
  obtain ⟨r', hr', ⟨cellV, g1, g2, g3, -⟩, -⟩ := (hR.1 v).1 (by omega) (by omega)
  rw [het, hq.2.1] at g2
  rw [Nat.add_sub_cancel] at g2
  have hcls := (hK.1 ci r hc).2
  have hRA := (hK.2 tg hq.1 h4).2
  rw [hq.2.2.2] at hRA
  obtain ⟨kA, comp, k1, k2, k3, -⟩ := hRA
  rw [← h6.1] at k1
  have hcomp : comp = D.1 ci := Option.some.inj (k3.symm.trans hcls.1)
  subst hcomp
  obtain ⟨kC, hkC, -⟩ := hcls.2
  refine W.aast hx hb h1 h6.2.1 h6.2.2.1 k1 k2 rfl hkC ⟨fun q => hin (Or.inl q), by rw [h6.2.2.2.1]; exact hlt⟩ g1 (fun q h => by have := g3.1; rw [h] at this; exact absurd (show true = false from this) (by decide)) (by rw [g2]; exact hkC) (by rw [g2]; exact va_assign hcls) rfl rfl hdg fun H1 e z oq => ?_
  obtain ⟨w1, w2⟩ := v_stA hK hv2 hq.1 (by rw [hq.2.2.2]; rfl) hR hS H1 h1 e z oq
  exact kk H1 _ w1 w2
end VB
section VC
variable {p : Program} {l : Launch} {e : Env} {R : Room} {s : State} {m : MethodId} {args : Array Value} {below : List Frame} {meth : Method} {c : Code} {H : Heap} {locs : List Loc} {cells slots n k : Nat} {Q : State → Prop}
variable {D : vD} {M M1 : vMe} {cc : ByteArray} {pc : Nat} {ls : Array Slot} {rest st0 : List Value}
/-! new cells -/
def nw (M : vMe) (tg len sl : Nat) (f : Nat → Value) : vMe := (fun q => if q = M.2.1 then (tg, len, f) else M.1 q, M.2.1 + 1, M.2.2.1 + sl, M.2.2.2)
theorem vSum_push {b : Nat} {H : Heap} {x : Cell} (hb : b ≤ H.size) : vSum b (H.push x) = vSum b H + x.slots.size := by
  unfold vSum
  rw [Array.toList_push, List.drop_append_of_le_length (by simpa using hb)]
  simp
theorem vRp.push {tg len sl : Nat} {f : Nat → Value} {x : Cell} (hR : vRp D M H) (hs : x.slots.size = sl) (hat : vAt D H.size (tg, len, f) (H.push x)) : vRp D (nw M tg len sl f) (H.push x) := by
  obtain ⟨r1, r2, r3, r4, r5, r6⟩ := hR
  refine ⟨fun q => ?_, by rw [Array.size_push, r2]; rfl, by rw [vSum_push r5, r3, hs]; rfl, r4, by rw [Array.size_push]; omega, fun q hq => ?_⟩
  · by_cases hqa : q = M.2.1
    · subst hqa
      show vAt D M.2.1 (if M.2.1 = M.2.1 then _ else _) _
      rw [if_pos rfl, ← r2]
      exact hat
    · show vAt D q (if q = M.2.1 then _ else _) _
      rw [if_neg hqa]
      rcases Nat.lt_or_ge q H.size with g | g
      · exact (r1 q).kept (by rw [Array.getElem?_push, if_neg (Nat.ne_of_lt g)])
      · have h0 := r6 q (by omega)
        exact ⟨fun h1 => absurd h1 (by omega), fun h1 => absurd h1 (by omega)⟩
  · have hq' : M.2.1 + 1 ≤ q := hq
    show (if q = M.2.1 then _ else M.1 q : vOb).1 = 0
    rw [if_neg (by omega)]
    exact r6 q (by omega)
theorem va_S.grow {A : Nat → Prop} {H0 H : Heap} {x : Cell} (hS : va_S A H0 H locs) : va_S A H0 (H.push x) locs :=
  ⟨by rw [Array.size_push]; exact Nat.le_succ_of_le hS.1, fun q h1 h2 => by rw [Array.getElem?_push, if_neg (Nat.ne_of_lt (Nat.lt_of_lt_of_le h1 hS.1))]; exact hS.2.1 q h1 h2, hS.2.2⟩
theorem v_new {own C : String} {T : u_T} {N nn ci index : Nat} {Ts : List Cond} {f : Nat → Value} (hx : p.tables.exec = Jvm.exec) (hb : c.code = cc) (hts : ∀ w ∈ Ts, w.before args s = true) (hin : ∀ w ∈ u_ws C T N, w ∈ Ts) (hown : s.vm.findClass own = some m.cls) (hK : vK D s)
    (hty : ∀ i, i < N → parseFieldDescriptor (T i).2.2.1 = some (vTy ci i)) (hc : vCl[ci]? = some (C, T, N)) (hcl : (Cond.classLink own index C).before args s = true) (hinst : (Cond.instantiable C nn).before args s = true) (hini : (Cond.initialized C).before args s = true)
    (hf : ∀ i, i < N → defaultValue (vTy ci i) = f i) (hfit : ∀ i, i < N → fits (vTy ci i) (f i) = true) (hci : ci < 99) (hcells : n + 1 ≤ R.cells) (hslots : k + nn ≤ R.slots) (hdg : decode cc pc = .ok (.new index, 3))
    (kk : vV D p l e R s m args below meth c (n + 1) (k + nn) Q (nw M (ci + 1) 0 nn f) (F0 m (pc + 3) ls (.ref M.2.1 :: rest))) : vV D p l e R s m args below meth c n k Q M (F0 m pc ls rest) := by
  intro H locs hR hS
  refine W.newc hx hb hown hcl hinst hini rfl hdg hcells hslots fun cC kC h1 h2 h3 h4 => ?_
  have hKn := hK.1 ci _ hc
  have hcC : cC = D.1 ci := Option.some.inj (h1.symm.trans hKn.2.1)
  subst hcC
  have e1 : (H.push (blank (D.1 ci) kC))[H.size]? = some (blank (D.1 ci) kC) := Array.getElem?_push_size
  have hat : vAt D H.size (ci + 1, 0, f) (H.push (blank (D.1 ci) kC)) := by
    refine ⟨fun _ _ => ⟨(C, T, N), ?_, ?_, ?_⟩, fun h => absurd (show 100 < ci + 1 from h) (by omega)⟩
    · show vCl[ci + 1 - 1]? = _
      rw [Nat.add_sub_cancel]; exact hc
    · show v_OB D H.size (D.1 (ci + 1 - 1)) N (D.2.1 (ci + 1 - 1)) _ f
      rw [Nat.add_sub_cancel]
      exact v_OB.of ((u_born (vTy ci) hts hin hKn h2 e1 hty).to hf)
    · intro i hi
      show fits (vTy (ci + 1 - 1) i) (f i) = true
      rw [Nat.add_sub_cancel]; exact hfit i hi
  have h9 := kk _ _ (hR.push (sl := nn) (by show (kC.instanceTypes.map defaultValue).size = nn; rw [Array.size_map]; exact h4) hat) hS.grow
  rw [← hR.2.1] at h9
  exact h9
theorem v_newa {tg N : Nat} {atype : ArrayType} {x : Int32} (hx : p.tables.exec = Jvm.exec) (hb : c.code = cc) (hK : vK D s) (harr : (Cond.arrayClass (newarray.typeOf atype)).before args s = true) (hty : 100 < tg ∧ tg < 111 ∧ newarray.typeOf atype = vAty tg ∧ (vAty tg).isReference = false)
    (hn : ¬ x < 0) (hN : x.toNatClampNeg = N) (hbytes : N * componentBytes (vAty tg) ≤ 536870912) (hN2 : N < 2 ^ 31) (hfit : fits (vAty tg) (defaultValue (vAty tg)) = true) (hcells : n + 1 ≤ R.cells) (hslots : k + N ≤ R.slots) (hdg : decode cc pc = .ok (.newarray atype, 2))
    (kk : vV D p l e R s m args below meth c (n + 1) (k + N) Q (nw M tg N N (fun _ => defaultValue (vAty tg))) (F0 m (pc + 2) ls (.ref M.2.1 :: rest))) : vV D p l e R s m args below meth c n k Q M (F0 m pc ls (.int x :: rest)) := by
  intro H locs hR hS
  subst hN
  obtain ⟨t1, t2, t3, t4⟩ := hty
  refine W.newa hx hb harr rfl hdg rfl hn (by rw [t3]; exact hbytes) hcells hslots fun cA kA comp h1 h2 h3 => ?_
  rw [t3] at h1 ⊢
  have hRA := (hK.2 tg t1 t2).2
  have hcA : cA = D.2.2.1 tg := by
    cases hh : vAty tg with
    | object C => rw [hh] at t4; simp [FieldType.isReference] at t4
    | _ => rw [hh] at hRA h1; exact Option.some.inj (h1.symm.trans hRA)
  subst hcA
  rw [arrV_new]
  have h9 := kk _ _ (hR.push (sl := x.toNatClampNeg) (arrV_size _ _ _) (vAt_arr Array.getElem?_push_size (vArr_new _ _ _) t1 t2 hN2 (fun _ _ => hfit))) hS.grow
  rw [← hR.2.1] at h9
  exact h9
theorem v_anew {own C : String} {index tg N : Nat} {x : Int32} (hx : p.tables.exec = Jvm.exec) (hb : c.code = cc) (hK : vK D s) (hown : s.vm.findClass own = some m.cls) (hcl : (Cond.classLink own index C).before args s = true) (hover : (Cond.arrayOver (.object C)).before args s = true) (hty : 100 < tg ∧ tg < 111 ∧ vAty tg = .object C)
    (hn : ¬ x < 0) (hN : x.toNatClampNeg = N) (hbytes : N * 4 ≤ 536870912) (hN2 : N < 2 ^ 31) (hcells : n + 1 ≤ R.cells) (hslots : k + N ≤ R.slots) (hdg : decode cc pc = .ok (.anewarray index, 3))
    (kk : vV D p l e R s m args below meth c (n + 1) (k + N) Q (nw M tg N N (fun _ => .null)) (F0 m (pc + 3) ls (.ref M.2.1 :: rest))) : vV D p l e R s m args below meth c n k Q M (F0 m pc ls (.int x :: rest)) := by
  intro H locs hR hS
  subst hN
  obtain ⟨t1, t2, t3⟩ := hty
  refine W.anew hx hb hown hcl hover rfl hdg rfl hn hbytes hcells hslots fun cA kA comp h1 h2 h3 h4 => ?_
  have hRA := (hK.2 tg t1 t2).2
  rw [t3] at hRA
  obtain ⟨kA', comp', k1, k2, k3, k4⟩ := hRA
  have hcA : cA = D.2.2.1 tg := Option.some.inj (h1.symm.trans k4)
  subst hcA
  rw [arrV_new]
  have h9 := kk _ _ (hR.push (sl := x.toNatClampNeg) (arrV_size _ _ _) (vAt_arr Array.getElem?_push_size (vArr_new _ _ _) t1 t2 hN2 (fun _ _ => by rw [t3]; rfl))) hS.grow
  rw [← hR.2.1] at h9
  exact h9
/-! System.arraycopy between arrays of whole numbers of one kind -/
def cpA (M : vMe) (a0 a tg : Nat) (sp dp x : Int32) : Option vMe :=
  if (M.1 a0).1 = tg ∧ (M.1 a).1 = tg ∧ ¬ sp < 0 ∧ ¬ dp < 0 ∧ ¬ x < 0 ∧ sp.toNatClampNeg + x.toNatClampNeg ≤ (M.1 a0).2.1 ∧ dp.toNatClampNeg + x.toNatClampNeg ≤ (M.1 a).2.1 ∧ M.2.2.2 ≤ a then
    some (pt M a ((M.1 a).1, (M.1 a).2.1, va_cpy (M.1 a0).2.2 (M.1 a).2.2 sp.toNatClampNeg dp.toNatClampNeg x.toNatClampNeg)) else none
theorem v_copy {own : String} {index a0 a tg : Nat} {sp dp x : Int32} (hx : p.tables.exec = Jvm.exec) (hb : c.code = cc) (hml : c.maxLocals = ls.size) (hown : s.vm.findClass own = some m.cls) (hK : vK D s) (hlink : (Cond.methodLink own index arraycopyName).before args s = true) (hnat : (Cond.native arraycopyName).before args s = true) (hstat : (Cond.static arraycopyName).before args s = true) (hini : (Cond.initialized "java/lang/System").before args s = true)
    (hv : cpA M a0 a tg sp dp x = some M1) (htg : 100 < tg ∧ refKind (vAty tg) = false ∧ ∀ v, fits (vAty tg) v = true → ∃ z, v = .int z) (hframes : 1 ≤ R.frames) (hlocals : (rest.map fun v => v.category).sum + (nativeFrameWords "java/lang/System" "arraycopy" 5 + 11) ≤ R.locals) (hdg : decode cc pc = .ok (.invokestatic index, 3))
    (kk : vV D p l e R s m args below meth c n k Q M1 (F0 m (pc + 3) ls rest)) : vV D p l e R s m args below meth c n k Q M (F0 m pc ls (.int x :: .int dp :: .ref a :: .int sp :: .ref a0 :: rest)) := by
  intro H locs hR hS
  obtain ⟨⟨g0, g1, h1, h2, h3, h4, h5, hab⟩, rfl⟩ := v_tag hv
  obtain ⟨cl0, hc0, hy0, hf0, ht9, hz0, ha0⟩ := v_arr hK hR g0 htg.1
  obtain ⟨cl1, hc1, hy1, hf1, -, hz1, ha1⟩ := v_arr hK hR g1 htg.1
  have nn : ∀ z : Int32, ¬ z < 0 → z.toInt = (z.toNatClampNeg : Int) := by
    intro z hz
    have hz0 : (0 : Int) ≤ z.toInt := by
      have := Int32.not_lt.mp hz
      simpa using Int32.le_iff_toInt_le.mp this
    show z.toInt = ((z.toInt.toNat : Nat) : Int)
    omega
  intro T hT X
  obtain ⟨-, k0, hk0, cm0, hkk0⟩ := hy0
  obtain ⟨-, k1, hk1, cm1, hkk1⟩ := hy1
  have hrd : ∀ i, i < x.toNatClampNeg → cl0.slots.getD (sp.toNatClampNeg + i) .null = (M.1 a0).2.2 (sp.toNatClampNeg + i) := fun i hi => by
    rw [Array.getD_eq_getD_getElem?, ha0.2.2.2.2 _ (by omega)]
    rfl
  obtain ⟨vm', X', step⟩ := X.arraycopy hx hown hlink hnat hstat hini (src := a0) (dst := a) (cs := cl0) (cd := cl1) (srcPos := sp) (destPos := dp) (n := x) (by rw [hT]; exact hc0) (by rw [hT]; exact hc1)
    ha0.2.1 ha1.2.1 ha0.2.2.1 ha1.2.2.1 hk0 hk1 hkk0 hkk1 (by simp [htg.2.1]) h1 h2 h3
    (by rw [nn sp h1, nn x h3, ha0.2.2.2.1]; omega)
    (by rw [nn dp h2, nn x h3, ha1.2.2.2.1]; omega)
    (fun vm₁ _ i hi => by
      have hf := hf0 (sp.toNatClampNeg + i) (by omega)
      refine ⟨?_, ?_⟩
      · rw [hrd i hi]
        exact hf
      · rw [hrd i hi]
        obtain ⟨z, hz⟩ := htg.2.2 _ hf
        rw [hz]
        exact trivial)
    (g := F0 m pc ls (.int x :: .int dp :: .ref a :: .int sp :: .ref a0 :: rest)) rfl (by rw [hml]) (rest := rest) rfl (by rw [hb]; exact hdg) hframes (by show 2 * 0 + _ + _ ≤ _; omega)
  have e1 : vArr (D.2.2.1 tg) (M.1 a).2.1 (va_cpy (M.1 a0).2.2 (M.1 a).2.2 sp.toNatClampNeg dp.toNatClampNeg x.toNatClampNeg) (copied cl0 cl1 sp dp x) := by
    show vArr _ _ _ (cl1.storeRun dp.toNatClampNeg (cl0.stretch sp.toNatClampNeg x.toNatClampNeg))
    have hlen : (cl0.stretch sp.toNatClampNeg x.toNatClampNeg).length = x.toNatClampNeg := by simp [Cell.stretch]
    obtain ⟨f1, f2, f3, -, -⟩ := cl1.storeRun_facts dp.toNatClampNeg (cl0.stretch sp.toNatClampNeg x.toNatClampNeg)
    refine ⟨f1.trans ha1.1, by rw [f2]; exact ha1.2.1, by rw [f2]; exact ha1.2.2.1, f3.trans ha1.2.2.2.1, fun j hj => ?_⟩
    rw [Cell.storeRun_get _ _ _ _ (by rw [hlen, ha1.2.2.2.1]; exact h5), hlen]
    unfold va_cpy
    by_cases hq : dp.toNatClampNeg ≤ j ∧ j < dp.toNatClampNeg + x.toNatClampNeg
    · rw [if_pos hq, if_pos hq]
      unfold Cell.stretch
      rw [List.getElem?_map, List.getElem?_range (by omega)]
      show some (cl0.slots.getD _ _) = _
      rw [hrd _ (by omega)]
    · rw [if_neg hq, if_neg hq]
      exact ha1.2.2.2.2 j hj
  generalize copied cl0 cl1 sp dp x = cx at X' step e1
  have hl : a < H.size := (Array.getElem?_eq_some_iff.mp hc1).1
  have hheap : ((T.setVm vm').setCell a cx).heap = H.setIfInBounds a cx := by rw [← hT]; rfl
  have oq : ∀ q : Nat, q ≠ a → (H.setIfInBounds a cx)[q]? = H[q]? := fun q hq => by simp [Array.getElem?_setIfInBounds, Ne.symm hq]
  have es : (H.setIfInBounds a cx)[a]? = some cx := by simp [Array.getElem?_setIfInBounds, hl]
  have hab' : vA D a := by show D.2.2.2.1 ≤ a; rw [← hR.2.2.2.1]; exact hab
  obtain ⟨t, a1, b1⟩ := kk _ _ (hR.put hc1 es (by rw [e1.2.2.2.1, ha1.2.2.2.1]) (by simp) oq rfl (by
      rw [g1]
      refine vAt_arr es e1 htg.1 ht9 hz1 fun j hj => ?_
      unfold va_cpy
      split
      · exact hf0 _ (by omega)
      · exact hf1 j hj)) ⟨by simp; exact hS.1, fun q g1 g2 => by
      rw [oq q (fun e => g2 (by rw [e]; exact hab'))]
      exact hS.2.1 q g1 g2, fun q hq => by
      rcases List.mem_append.mp hq with h | h
      · exact hS.2.2 q h
      · obtain ⟨z, -, hz⟩ := List.mem_map.mp h
        rw [← hz]
        exact hab'⟩ _ hheap X'
  exact ⟨t, step t a1, b1⟩
/-! the static world, the contracts' start and end -/
def vE : Nat → String
  | 0 => "java/lang/IllegalArgumentException"
  | 1 => "java/lang/IndexOutOfBoundsException"
  | _ => "java/lang/IllegalStateException"
def vDc : List String := ["java/lang/RuntimeException", "java/lang/Exception", Bundle.tN]
def vAO : List String := [RX5, RX7, RX0, RX10, RX11]
def vStr : List (String × Nat × String) := [(RX9, 109, "what is out of range"), (RX9, 152, "there is no such cell"), (RX9, 169, "part is out of range"), (RX9, 259, "there are 8 marks"), (RX9, 268, "there are 6 cursors"), (RX9, 287, "there is no met member to remove"), (RL, 52, "sets "), (RX9, 322, "there is no such set"), (RX9, 325, "there is no such cursor"), (RX9, 327, "number is out of the universe"), (RX9, 329, "the stamp is out of range"), (RL, 60, " "), (RX9, 57, "length is out of range"), (RX3, 38, "sets"), (RX3, 64, "set"), (RX3, 72, "add"), (RX3, 78, "remove"), (RX3, 80, "clear"), (RX3, 85, "mark"), (RX7, 28, ""), (RL, 62, ";"), (RL, 71, "set "), (RL, 76, "add "), (RL, 78, "remove "), (RL, 102, "mark;")]
def vTok : List String := ["WORD", "NUMBER", "SEMICOLON", "INVALID", "END"]
def vS (D : vD) (U : State) : Prop := vK D U ∧ (vx_Zq Bundle.tN "UNASSIGNED_STACK" Bundle.steD (vA D) U U.heap ∧ vx_Zq Bundle.tN "SUPPRESSED_SENTINEL" Bundle.listD (vA D) U U.heap) ∧ (∀ i q, vStr[i]? = some q → vk_R q.1 q.2.1 q.2.2 (D.2.2.2.2 i) U) ∧ (∀ i q, vTok[i]? = some q → va_Z RX6 q "LTwinSets$Token;" (.ref (D.2.2.2.2 (100 + i))) (vA D) U U.heap) ∧ va_Z RJ0 "COMPACT_STRINGS" "Z" (.int 1) (vA D) U U.heap ∧
  (∀ (i : Nat) (q : String × Nat × String × String × String × String), vNF[i]? = some q → va_Nw (.fieldLinkNest q.1 q.2.1 q.2.2.1 q.2.2.2.1 q.2.2.2.2.1 q.2.2.2.2.2) U) ∧ (∀ (i : Nat) (q : String × Nat × MethodName × String), vNM[i]? = some q → va_Nw (.methodLinkNest q.1 q.2.1 q.2.2.1 q.2.2.2) U) ∧ va_Zq RJ3 "SIOOBE_FORMATTER" "Ljava/util/function/BiFunction;" (vA D) U U.heap ∧
  (∀ i : Nat, i < 3 → va_Nw (.castable (vE i) (vE i)) U) ∧ True ∧ (∀ (i : Nat) (C : String), vAO[i]? = some C → va_AO C U) ∧ (∀ (i : Nat) (C : String), vDc[i]? = some C → va_Nw (.declares (Bundle.initS C)) U) ∧ va_Z RJ6 "DigitOnes" "[B" (.ref (D.2.2.2.2 201)) (vA D) U U.heap ∧ va_Z RJ6 "DigitTens" "[B" (.ref (D.2.2.2.2 202)) (vA D) U U.heap ∧ va_Nw (.castable "[B" "java/lang/Cloneable") U
def vPre (D : vD) (M : vMe) (U : State) : Prop := vS D U ∧ vRp D M U.heap
def qW (D : vD) (ov : Option Value) (M1 : vMe) : Array Value → State → Outcome → State → Prop := fun _ st oc t => oc = .returned ov ∧ vRp D M1 t.heap ∧ va_F (vA D) st t
theorem vS.moved {U : State} (h : vS D s) (hW : s.WarmedH U.vm) (hk : ∀ q : Nat, q < s.heap.size → ¬ vA D q → U.heap[q]? = s.heap[q]?) : vS D U := by
  obtain ⟨h1, ⟨h2, h3⟩, h4, h5, h6, h7, h8, h9, h10, h11, h12, h13, h14, h15, h16⟩ := h
  exact ⟨h1.moved hW.alike, ⟨(h2.moved hW.alike).kept hk, (h3.moved hW.alike).kept hk⟩, fun i q hq => (h4 i q hq).warm hW, fun i q hq => ((h5 i q hq).moved hW.alike).kept hk, (h6.moved hW.alike).kept hk, fun i q hq => va_Nw.warmF hW (h7 i q hq), fun i q hq => va_Nw.warmM hW (h8 i q hq), (h9.moved hW.alike).kept hk, fun i hi => va_Nw.warmC hW (h10 i hi), trivial, fun i C hC => (h12 i C hC).moved hW.alike, fun i C hC => va_Nw.warmD hW (h13 i C hC), (h14.moved hW.alike).kept hk, (h15.moved hW.alike).kept hk, va_Nw.warmC hW h16⟩
theorem v_blind (D : vD) (M : vMe) (As : List Value) : FrameBlind (va_Pc As (vPre D M)) := by
  intro a U g mk ⟨e, h, hR⟩
  exact ⟨e, h.moved (s := U) (U := U.calling g mk a) (State.WarmedH.refl U) (fun _ _ _ => rfl), hR⟩
theorem v_preS (hSS : vS D s) (hR : vRp D M H) (hS : va_S (vA D) s.heap H locs) (As : List Value) : PreS s H (va_Pc As (vPre D M)) As :=
  ⟨v_blind D M As, fun U hU hW => ⟨rfl, hSS.moved hW (fun q h1 h2 => by rw [hU]; exact hS.2.1 q h1 h2), by rw [hU]; exact hR⟩⟩
theorem v_preV {C : String} {T : u_T} {N ci b : Nat} (hSS : vS D s) (hR : vRp D M H) (hS : va_S (vA D) s.heap H locs) (htg : (M.1 b).1 = ci + 1) (hci : ci < 99) (hc : vCl[ci]? = some (C, T, N)) (As : List Value) : PreV s H C b (va_Pc (.ref b :: As) (vPre D M)) As := by
  refine ⟨v_blind D M _, ?_, fun U hU hW => ⟨rfl, hSS.moved hW (fun q h1 h2 => by rw [hU]; exact hS.2.1 q h1 h2), by rw [hU]; exact hR⟩⟩
  obtain ⟨r, h1, ⟨cell, q1, q2, q3, -⟩, -⟩ := (hR.1 b).1 (by omega) (by omega)
  rw [htg, Nat.add_sub_cancel] at h1 q2
  cases Option.some.inj (h1.symm.trans hc)
  exact ⟨cell, q1, q3.1, by rw [q2]; exact (hSS.1.1 ci _ hc).2.1⟩
/-! a call -/
theorem v_call {a : Array Value} {ov : Option Value} {mc ms : Nat} (hr : ∀ H locs, vRp D M H → va_S (vA D) s.heap H locs → va_Run p l e R s m args below meth c H locs n k mc ms (F0 m pc ls st0) rest (qW D ov M1 a) (vA D))
    (kk : vV D p l e R s m args below meth c (n + mc) (k + ms) Q M1 (F0 m (pc + 3) ls (ov.toList ++ rest))) : vV D p l e R s m args below meth c n k Q M (F0 m pc ls st0) := by
  intro H locs hR hS T hT X
  obtain ⟨v, st₀, t, T', L, h0, X', hL, e1, e2, ⟨hv, hR1, hF⟩, st⟩ := hr H locs hR hS T hT X
  cases hv
  obtain ⟨k1, k2, k3⟩ := vx_keep h0 e1 hS (fun q _ h => h) (fun q h => h) hL hF
  obtain ⟨t2, a1, b1⟩ := kk T'.heap (locs ++ L) (by rw [e1]; exact hR1) k3 T' rfl X'
  exact ⟨t2, st t2 a1, b1⟩
/-! a method's ends -/
theorem v_iret {x : Int32} (hx : p.tables.exec = Jvm.exec) (hb : c.code = cc) (hr : meth.sig.returnType = some .int) (hlocks : meth.locks = false) (hdg : decode cc pc = .ok (.ireturn, 1)) : vV D p l e R s m args below meth c n k (MQ below (qW D (some (.int x)) M) args s n k (vA D)) M (F0 m pc ls [.int x]) :=
  fun _ _ hR hS => W.iret hx hb hr (fun t ht _ => ⟨rfl, by rw [ht]; exact hR, hS.F ht⟩) hS.2.2 hdg hlocks
theorem v_zret {x : Int32} (hx : p.tables.exec = Jvm.exec) (hb : c.code = cc) (hr : meth.sig.returnType = some .boolean) (hlocks : meth.locks = false) (hz : narrow .boolean (.int x) = .int x) (hdg : decode cc pc = .ok (.ireturn, 1)) : vV D p l e R s m args below meth c n k (MQ below (qW D (some (.int x)) M) args s n k (vA D)) M (F0 m pc ls [.int x]) :=
  fun _ _ hR hS => W.zret hx hb hr hz (fun t ht _ => ⟨rfl, by rw [ht]; exact hR, hS.F ht⟩) hS.2.2 hdg hlocks
theorem v_xret {x : Int32} {ty : FieldType} (hx : p.tables.exec = Jvm.exec) (hb : c.code = cc) (hr : meth.sig.returnType = some ty) (hlocks : meth.locks = false) (hz : narrow ty (.int x) = .int x) (hdg : decode cc pc = .ok (.ireturn, 1)) : vV D p l e R s m args below meth c n k (MQ below (qW D (some (.int x)) M) args s n k (vA D)) M (F0 m pc ls [.int x]) :=
  fun _ _ hR hS => W.zret hx hb hr hz (fun t ht _ => ⟨rfl, by rw [ht]; exact hR, hS.F ht⟩) hS.2.2 hdg hlocks
theorem v_vret (hx : p.tables.exec = Jvm.exec) (hb : c.code = cc) (hr : meth.sig.returnType = none) (hlocks : meth.locks = false) (hdg : decode cc pc = .ok (.return_, 1)) : vV D p l e R s m args below meth c n k (MQ below (qW D none M) args s n k (vA D)) M (F0 m pc ls []) :=
  fun _ _ hR hS => W.vret hx hb hr (fun t ht _ => ⟨rfl, by rw [ht]; exact hR, hS.F ht⟩) hS.2.2 hdg hlocks
theorem v_lret {x : Int64} (hx : p.tables.exec = Jvm.exec) (hb : c.code = cc) (hr : meth.sig.returnType = some .long) (hlocks : meth.locks = false) (hdg : decode cc pc = .ok (.lreturn, 1)) : vV D p l e R s m args below meth c n k (MQ below (qW D (some (.long x)) M) args s n k (vA D)) M (F0 m pc ls [.long x]) :=
  fun _ _ hR hS => W.lret hx hb hr (fun t ht _ => ⟨rfl, by rw [ht]; exact hR, hS.F ht⟩) hS.2.2 hdg hlocks
theorem v_dret {x : UInt64} (hx : p.tables.exec = Jvm.exec) (hb : c.code = cc) (hr : meth.sig.returnType = some .double) (hlocks : meth.locks = false) (hdg : decode cc pc = .ok (.dreturn, 1)) : vV D p l e R s m args below meth c n k (MQ below (qW D (some (.double x)) M) args s n k (vA D)) M (F0 m pc ls [.double x]) :=
  fun _ _ hR hS => W.dret hx hb hr (fun t ht _ => ⟨rfl, by rw [ht]; exact hR, hS.F ht⟩) hS.2.2 hdg hlocks
theorem v_aret {v : Value} {rt : FieldType} (hx : p.tables.exec = Jvm.exec) (hb : c.code = cc) (hr : meth.sig.returnType = some rt) (hrt : (∃ n, rt = .object n) ∨ ∃ t, rt = .array t) (hv : v = .null ∨ ∃ a, v = .ref a) (hlocks : meth.locks = false) (hdg : decode cc pc = .ok (.areturn, 1)) : vV D p l e R s m args below meth c n k (MQ below (qW D (some v) M) args s n k (vA D)) M (F0 m pc ls [v]) :=
  fun _ _ hR hS => W.aret hx hb hr hrt hv (fun t ht _ => ⟨rfl, by rw [ht]; exact hR, hS.F ht⟩) hS.2.2 hdg hlocks
/-! a method's start -/
theorem v_ofW {y : MethodName} {rm : Room} {mc ms maxL : Nat} {ret : Option FieldType} {As : List Value} {ov : Option Value} (hy : plainName y.cls = true) (hlen : (lg_sl As).length ≤ maxL)
    (body : ∀ (p : Program) (e : Env) (s : State) (m : MethodId) (args : Array Value) (below : List Frame) (meth : Method) (c : Code) (Q : State → Prop), p.tables.exec = Jvm.exec → c.code = cc → meth.sig.returnType = ret → c.maxLocals = maxL → s.vm.findClass y.cls = some m.cls → (∀ w ∈ TB, w.before args s = true) → meth.locks = false → meth.name = y.name → vS D s → vRp D M s.heap → Q = MQ below (qW D ov M1) args s mc ms (vA D) →
      ∀ ls : Array Slot, lv_has ls maxL (lv_args 0 As) → vV D p l e rm s m args below meth c 0 0 Q M (F0 m 0 ls [])) : Met l y (Cond.code y cc maxL ret :: TB) rm (va_Pc As (vPre D M)) (qW D ov M1) mc ms (vA D) := by
  refine Met.ofW (cc := cc) (maxL := maxL) (ret := ret) hy rfl ?_
  intro p e s m args below meth c s₁ B hml hv
  obtain ⟨rfl, hSS, hR⟩ := hv
  have hl := lv_entry As (n := maxL) hlen
  rw [lg_entry_eq]
  have hts := atoms_spec (ws := Cond.code y cc maxL ret :: TB) B.pre
  exact body p e s m As.toArray below meth c _ B.exec B.bytes B.returns hml (findClass_of_methodNamed B.named) (fun w hw => hts w (List.mem_cons_of_mem _ hw)) B.notSynchronized (name_of_methodNamed B.named B.method).1 hSS hR rfl _ hl s.heap [] hR va_S.rf
end VC
/-! small steps of the transcriptions -/
def vF : Nat := 100000
theorem v_bnd {α β : Type} {o : Option α} {f : α → Option β} {b : β} (h : o.bind f = some b) : ∃ a, o = some a ∧ f a = some b := by
  cases o with
  | none => cases h
  | some a => exact ⟨a, rfl, h⟩
theorem v_ifs {α : Type} {c : Prop} [Decidable c] {x : Option α} {v : α} (h : (if c then x else none) = some v) : c ∧ x = some v := by
  split at h
  · exact ⟨by assumption, h⟩
  · cases h
theorem v_inr {α β γ : Type} {f : α → γ} {g : β → γ} {z : α ⊕ β} {w : β} {r : γ} (hz : z = Sum.inr w) (h : Sum.elim f g z = r) : g w = r := by subst hz; exact h
theorem v_inl {α β γ : Type} {f : α → γ} {g : β → γ} {z : α ⊕ β} {w : α} {r : γ} (hz : z = Sum.inl w) (h : Sum.elim f g z = r) : f w = r := by subst hz; exact h
theorem v_cq (o : Option Nat) : (va_rf o).category = 1 := by cases o <;> rfl
theorem v_nr (o : Option Nat) : va_rf o = .null ∨ ∃ a, va_rf o = .ref a := by
  cases o with
  | none => exact Or.inl rfl
  | some a => exact Or.inr ⟨a, rfl⟩
theorem v_fitQ {C : String} (o : Option Nat) : fits (.object C) (va_rf o) = true := by cases o <;> rfl
theorem v_narZ {x : Int32} (h : fits .boolean (.int x) = true) : narrow .boolean (.int x) = .int x := by
  have h1 : (x == 0 || x == 1) = true := h
  rcases Bool.or_eq_true _ _ ▸ h1 with q | q
  · rw [eq_of_beq q]; rfl
  · rw [eq_of_beq q]; rfl
theorem v_narB {x : Int32} (h : fits .byte (.int x) = true) : narrow .byte (.int x) = .int x := by
  have h1 : (decide (-128 ≤ x) && decide (x ≤ 127)) = true := h
  rw [Bool.and_eq_true, decide_eq_true_eq, decide_eq_true_eq, Int32.le_iff_toInt_le, Int32.le_iff_toInt_le] at h1
  have e1 : (-128 : Int32).toInt = -128 := by decide
  have e2 : (127 : Int32).toInt = 127 := by decide
  rw [e1, e2] at h1
  show Value.int x.toInt8.toInt32 = _
  congr 1
  apply Int32.toInt_inj.mp
  rw [Int8.toInt_toInt32, Int32.toInt_toInt8]
  exact Int.bmod_eq_of_le (by omega) (by omega)
theorem v_narC {x : Int32} (h : fits .char (.int x) = true) : narrow .char (.int x) = .int x := by
  have h1 : (decide (0 ≤ x) && decide (x ≤ 65535)) = true := h
  rw [Bool.and_eq_true, decide_eq_true_eq, decide_eq_true_eq] at h1
  obtain ⟨j, h2, rfl⟩ := nI_of (x := x) (Int32.not_lt.mpr h1.1)
  have h3 := h1.2
  rw [show (65535 : Int32) = nI 65535 from rfl, nI_leI (by omega) (by decide)] at h3
  exact (pk_charN (by omega)).1
theorem v_cpI : 100 < 101 ∧ refKind (vAty 101) = false ∧ ∀ v, fits (vAty 101) v = true → ∃ z, v = .int z := ⟨by decide, rfl, fun v h => ⟨vI v, vI_of h (Or.inl rfl)⟩⟩
theorem v_cpB : 100 < 102 ∧ refKind (vAty 102) = false ∧ ∀ v, fits (vAty 102) v = true → ∃ z, v = .int z := ⟨by decide, rfl, fun v h => ⟨vI v, vI_of h (Or.inr (Or.inr rfl))⟩⟩
theorem v_nclt (x : Int32) : x.toNatClampNeg < 2 ^ 31 := by
  have := Int32.toInt_lt x
  show x.toInt.toNat < _
  omega
section VE
variable {p : Program} {l : Launch} {e : Env} {R : Room} {s : State} {m : MethodId} {args : Array Value} {below : List Frame} {meth : Method} {c : Code} {H : Heap} {locs : List Loc} {cells slots n k : Nat} {Q : State → Prop}
variable {D : vD} {M M1 : vMe} {cc : ByteArray} {pc : Nat} {ls : Array Slot} {rest st0 : List Value}
def gA (M : vMe) (a tg k : Nat) : Option Nat := if (M.1 a).1 = tg then vR ((M.1 a).2.2 k) else none
def aA (M : vMe) (a tg : Nat) (i : Int32) : Option Nat := if (M.1 a).1 = tg ∧ ¬ (i < 0 ∨ (M.1 a).2.1 ≤ i.toNatClampNeg) then vR ((M.1 a).2.2 i.toNatClampNeg) else none
theorem v_gA {own ref C : String} {T : u_T} {N ci index a v : Nat} {Ts : List Cond} {tg : Nat} (hx : p.tables.exec = Jvm.exec) (hb : c.code = cc) (hts : ∀ w ∈ Ts, w.before args s = true) (hin : ∀ w ∈ u_ws C T N, w ∈ Ts) (hown : s.vm.findClass own = some m.cls) (hK : vK D s) (j : Nat)
    (hv : gA M a tg j = some v) (hc : vCl[ci]? = some (C, T, N)) (hq : tg = ci + 1 ∧ ci < 99 ∧ j < N ∧ (vTy ci j).isReference = true) (hlink : (Cond.fieldLink own index ref (T j).2.1 (T j).2.2.1).before args s = true ∨ ∃ host, (Cond.fieldLinkNest own index ref (T j).2.1 (T j).2.2.1 host).before args s = true) (hsame : ∀ x, s.fieldFound? (T j).1 (T j).2.1 (T j).2.2.1 = some x → s.fieldFound? ref (T j).2.1 (T j).2.2.1 = some x)
    (hdg : decode cc pc = .ok (.getfield index, 3))
    (kk : vV D p l e R s m args below meth c n k Q M (F0 m (pc + 3) ls (.ref v :: rest))) : vV D p l e R s m args below meth c n k Q M (F0 m pc ls (.ref a :: rest)) := by
  obtain ⟨h1, h2⟩ := v_ifs hv
  exact v_getf hx hb hts hin hown hK (h1.trans hq.1) hq.2.1 hc j hq.2.2.1 hlink hsame (fun h => by rw [vR_of h hq.2.2.2, h2]; rfl) hdg kk
theorem v_aaldA {a tg v : Nat} {i : Int32} (hx : p.tables.exec = Jvm.exec) (hb : c.code = cc) (hK : vK D s) (hv : aA M a tg i = some v) (ht : 100 < tg ∧ (vAty tg).isReference = true) (hdg : decode cc pc = .ok (.aaload, 1))
    (kk : vV D p l e R s m args below meth c n k Q M (F0 m (pc + 1) ls (.ref v :: rest))) : vV D p l e R s m args below meth c n k Q M (F0 m pc ls (.int i :: .ref a :: rest)) := by
  obtain ⟨h1, h2⟩ := v_ifs hv
  have hv2 : aR M a tg i = some (some v) := by unfold aR; rw [if_pos h1, h2]
  exact v_aald hx hb hK hv2 ht hdg kk
theorem v_call0 {a : Array Value} {mc ms : Nat} (hr : ∀ H locs, vRp D M H → va_S (vA D) s.heap H locs → va_Run p l e R s m args below meth c H locs n k mc ms (F0 m pc ls st0) rest (qW D none M1 a) (vA D))
    (kk : vV D p l e R s m args below meth c (n + mc) (k + ms) Q M1 (F0 m (pc + 3) ls rest)) : vV D p l e R s m args below meth c n k Q M (F0 m pc ls st0) := v_call (ov := none) hr kk
theorem v_call1 {a : Array Value} {v : Value} {mc ms : Nat} (hr : ∀ H locs, vRp D M H → va_S (vA D) s.heap H locs → va_Run p l e R s m args below meth c H locs n k mc ms (F0 m pc ls st0) rest (qW D (some v) M1 a) (vA D))
    (kk : vV D p l e R s m args below meth c (n + mc) (k + ms) Q M1 (F0 m (pc + 3) ls (v :: rest))) : vV D p l e R s m args below meth c n k Q M (F0 m pc ls st0) := v_call (ov := some v) hr kk
theorem v_objInit {own : String} {index a : Nat} (hx : p.tables.exec = Jvm.exec) (hb : c.code = cc) (hown : s.vm.findClass own = some m.cls) (hlink : (Cond.methodLink own index objectInit).before args s = true) (hinst : (Cond.instanceMethod objectInit).before args s = true) (hcode : (Cond.code objectInit ⟨#[0xb1]⟩ 1 none).before args s = true)
    (hsz : ls.size = c.maxLocals) (hdg : decode cc pc = .ok (.invokespecial index, 3)) (hf : 1 ≤ R.frames) (hlo : (rest.map fun v => v.category).sum + 12 ≤ R.locals)
    (kk : vV D p l e R s m args below meth c n k Q M (F0 m (pc + 3) ls rest)) : vV D p l e R s m args below meth c n k Q M (F0 m pc ls (.ref a :: rest)) :=
  fun H locs hR hS => W.objInit hx hb hown hlink hinst hcode rfl hsz rfl hdg hf (by show 2 * 0 + _ + 12 ≤ _; omega) (kk H locs hR hS)
/-! the room, as the heap tells it -/
theorem vSum_split {H0 H : Heap} {b : Nat} (hb : b ≤ H0.size) (hz : H0.size ≤ H.size) (hsame : ∀ (a : Nat) (x : Cell), H0[a]? = some x → ∃ y : Cell, H[a]? = some y ∧ y.slots.size = x.slots.size) : vSum b H = vSum b H0 + ((H.toList.drop H0.size).map (fun c => c.slots.size)).sum := by
  have e : (H.toList.map (fun c => c.slots.size)).take H0.size = H0.toList.map (fun c => c.slots.size) := by
    apply List.ext_getElem?
    intro i
    rw [List.getElem?_take, List.getElem?_map, List.getElem?_map, Array.getElem?_toList, Array.getElem?_toList]
    by_cases hi : i < H0.size
    · rw [if_pos hi]
      obtain ⟨y, h1, h2⟩ := hsame i _ (Array.getElem?_eq_getElem hi)
      rw [h1, Array.getElem?_eq_getElem hi]
      simp [h2]
    · rw [if_neg hi, Array.getElem?_eq_none (by omega)]
      rfl
  unfold vSum
  rw [List.map_drop, List.map_drop, List.map_drop]
  rw [← List.take_append_drop H0.size (H.toList.map (fun c => c.slots.size)), e]
  rw [List.drop_append_of_le_length (by simpa using hb), List.sum_append]
  congr 2
  rw [List.drop_append_of_le_length (by simp)]
  simp
theorem v_tight {g : JFrame} (hb0 : D.2.2.2.1 ≤ s.heap.size) (kk : vV D p l e R s m args below meth c (M.2.1 - s.heap.size) (M.2.2.1 - vSum D.2.2.2.1 s.heap) Q M g) : vV D p l e R s m args below meth c n k Q M g := by
  intro H locs hR hS T hT X
  have hs := X.same
  obtain ⟨q1, q2, q3, q4, q5, q6⟩ := hs
  have hh : (T.setVm s.vm).heap = H := hT
  rw [hh] at q2 q3 q5
  have hsum := vSum_split (H0 := s.heap) (H := H) hb0 q2 (fun a x hx => by
    obtain ⟨y, h1, -, h3, -⟩ := q6 a x hx
    rw [hh] at h1
    exact ⟨y, h1, h3⟩)
  rw [hR.2.2.1] at hsum
  have hsz := hR.2.1
  refine kk H locs hR hS T hT { X with same := ⟨q1, by rw [hh]; exact q2, by rw [hh]; omega, q4, by rw [hh]; omega, q6⟩ }
def nwO (M : vMe) (tg len sl : Nat) (f : Nat → Value) (n0 s0 mc ms : Nat) : Option vMe := if M.2.1 + 1 ≤ n0 + mc ∧ M.2.2.1 + sl ≤ s0 + ms ∧ sl ≤ ms then some (nw M tg len sl f) else none
theorem u_new {own C : String} {T : u_T} {N nn ci index tg n0 s0 mc ms : Nat} {Ts : List Cond} {f : Nat → Value} (hx : p.tables.exec = Jvm.exec) (hb : c.code = cc) (hts : ∀ w ∈ Ts, w.before args s = true) (hin : ∀ w ∈ u_ws C T N, w ∈ Ts) (hown : s.vm.findClass own = some m.cls) (hK : vK D s)
    (hty : ∀ i, i < N → parseFieldDescriptor (T i).2.2.1 = some (vTy ci i)) (hc : vCl[ci]? = some (C, T, N)) (hcl : (Cond.classLink own index C).before args s = true) (hinst : (Cond.instantiable C nn).before args s = true) (hini : (Cond.initialized C).before args s = true)
    (hf : ∀ i, i < N → defaultValue (vTy ci i) = f i) (hfit : ∀ i, i < N → fits (vTy ci i) (f i) = true) (hci : tg = ci + 1 ∧ ci < 99) (hb0 : D.2.2.2.1 ≤ s.heap.size) (hz0 : s.heap.size = n0) (hs0 : vSum D.2.2.2.1 s.heap = s0) (hRc : R.cells = mc) (hRs : R.slots = ms)
    (hv : nwO M tg 0 nn f n0 s0 mc ms = some M1) (hdg : decode cc pc = .ok (.new index, 3))
    (kk : vV D p l e R s m args below meth c (M1.2.1 - s.heap.size) (M1.2.2.1 - vSum D.2.2.2.1 s.heap) Q M1 (F0 m (pc + 3) ls (.ref M.2.1 :: rest))) : vV D p l e R s m args below meth c n k Q M (F0 m pc ls rest) := by
  obtain ⟨⟨g1, g2, g3⟩, rfl⟩ := v_tag hv
  obtain ⟨rfl, hci⟩ := hci
  refine v_tight hb0 ?_
  intro H locs hR hS
  have hz := hS.1
  have hsz := hR.2.1
  exact v_new hx hb hts hin hown hK hty hc hcl hinst hini hf hfit hci (by omega) (by omega) hdg (v_tight hb0 kk) H locs hR hS
theorem u_newa {tg N n0 s0 mc ms : Nat} {dv : Value} {atype : ArrayType} {x : Int32} (hx : p.tables.exec = Jvm.exec) (hb : c.code = cc) (hK : vK D s) (harr : (Cond.arrayClass (newarray.typeOf atype)).before args s = true) (hty : 100 < tg ∧ tg < 111 ∧ newarray.typeOf atype = vAty tg ∧ (vAty tg).isReference = false)
    (hn : ¬ x < 0) (hN : x.toNatClampNeg = N) (hbytes : N * componentBytes (vAty tg) ≤ 536870912) (hN2 : N < 2 ^ 31) (hfit : fits (vAty tg) dv = true ∧ dv = defaultValue (vAty tg)) (hb0 : D.2.2.2.1 ≤ s.heap.size) (hz0 : s.heap.size = n0) (hs0 : vSum D.2.2.2.1 s.heap = s0) (hRc : R.cells = mc) (hRs : R.slots = ms)
    (hv : nwO M tg N N (fun _ => dv) n0 s0 mc ms = some M1) (hdg : decode cc pc = .ok (.newarray atype, 2))
    (kk : vV D p l e R s m args below meth c (M1.2.1 - s.heap.size) (M1.2.2.1 - vSum D.2.2.2.1 s.heap) Q M1 (F0 m (pc + 2) ls (.ref M.2.1 :: rest))) : vV D p l e R s m args below meth c n k Q M (F0 m pc ls (.int x :: rest)) := by
  obtain ⟨⟨g1, g2, g3⟩, rfl⟩ := v_tag hv
  obtain ⟨hfit, rfl⟩ := hfit
  refine v_tight hb0 ?_
  intro H locs hR hS
  have hz := hS.1
  have hsz := hR.2.1
  exact v_newa hx hb hK harr hty hn hN hbytes hN2 hfit (by omega) (by omega) hdg (v_tight hb0 kk) H locs hR hS
theorem u_anew {own C : String} {index tg N n0 s0 mc ms : Nat} {x : Int32} (hx : p.tables.exec = Jvm.exec) (hb : c.code = cc) (hK : vK D s) (hown : s.vm.findClass own = some m.cls) (hcl : (Cond.classLink own index C).before args s = true) (hover : (Cond.arrayOver (.object C)).before args s = true) (hty : 100 < tg ∧ tg < 111 ∧ vAty tg = .object C)
    (hn : ¬ x < 0) (hN : x.toNatClampNeg = N) (hbytes : N * 4 ≤ 536870912) (hN2 : N < 2 ^ 31) (hb0 : D.2.2.2.1 ≤ s.heap.size) (hz0 : s.heap.size = n0) (hs0 : vSum D.2.2.2.1 s.heap = s0) (hRc : R.cells = mc) (hRs : R.slots = ms)
    (hv : nwO M tg N N (fun _ => .null) n0 s0 mc ms = some M1) (hdg : decode cc pc = .ok (.anewarray index, 3))
    (kk : vV D p l e R s m args below meth c (M1.2.1 - s.heap.size) (M1.2.2.1 - vSum D.2.2.2.1 s.heap) Q M1 (F0 m (pc + 3) ls (.ref M.2.1 :: rest))) : vV D p l e R s m args below meth c n k Q M (F0 m pc ls (.int x :: rest)) := by
  obtain ⟨⟨g1, g2, g3⟩, rfl⟩ := v_tag hv
  refine v_tight hb0 ?_
  intro H locs hR hS
  have hz := hS.1
  have hsz := hR.2.1
  exact v_anew hx hb hK hown hcl hover hty hn hN hbytes hN2 (by omega) (by omega) hdg (v_tight hb0 kk) H locs hR hS
theorem w_tabIn {dflt lo hi : Int} {offs : Array Int} {len : Nat} {x : Int32} {off : Int} {tgt : Nat} (hx : p.tables.exec = Jvm.exec) (hb : c.code = cc) (hdg : decode cc pc = .ok (.tableswitch dflt lo hi offs, len)) (h1 : ¬ x.toInt < lo) (h2 : ¬ hi < x.toInt) (ho : offs[(x.toInt - lo).toNat]? = some off) (ht : (pc : Int) + off = (tgt : Int))
    (kk : vV D p l e R s m args below meth c n k Q M (F0 m tgt ls rest)) : vV D p l e R s m args below meth c n k Q M (F0 m pc ls (.int x :: rest)) := fun H locs hR hS => lv_tableIn hx hb hdg h1 h2 ho ht (kk H locs hR hS)
theorem w_tabOut {dflt lo hi : Int} {offs : Array Int} {len : Nat} {x : Int32} {tgt : Nat} (hx : p.tables.exec = Jvm.exec) (hb : c.code = cc) (hdg : decode cc pc = .ok (.tableswitch dflt lo hi offs, len)) (h : x.toInt < lo ∨ hi < x.toInt) (ht : (pc : Int) + dflt = (tgt : Int))
    (kk : vV D p l e R s m args below meth c n k Q M (F0 m tgt ls rest)) : vV D p l e R s m args below meth c n k Q M (F0 m pc ls (.int x :: rest)) := fun H locs hR hS => lv_tableOut hx hb hdg h ht (kk H locs hR hS)
end VE
