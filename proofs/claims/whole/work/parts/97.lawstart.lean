/-! THE LAW'S START: what the tables and the start say, as the static world and the memory -/
abbrev z_big : List Cond := flatC (Jvm.Cond.and given_1 narrow_1)
theorem z_ix {α : Type} (f : α → Cond) (L : List α) (ix : List Nat) {big : List Cond} (h : (L.map f).map some = ix.map (fun i => big[i]?)) : ∀ q ∈ L, f q ∈ big := by
  intro q hq
  have h1 : some (f q) ∈ (L.map f).map some := List.mem_map_of_mem (List.mem_map_of_mem hq)
  rw [h] at h1
  obtain ⟨i, -, hi⟩ := List.mem_map.mp h1
  exact List.mem_of_getElem? hi
theorem z_nf : ∀ q ∈ vNF, Cond.fieldLinkNest q.1 q.2.1 q.2.2.1 q.2.2.2.1 q.2.2.2.2.1 q.2.2.2.2.2 ∈ lw_tbl := z_ix (fun q : String × Nat × String × String × String × String => Cond.fieldLinkNest q.1 q.2.1 q.2.2.1 q.2.2.2.1 q.2.2.2.2.1 q.2.2.2.2.2) vNF [123, 124, 143, 160, 189, 191, 193, 195, 197, 215, 216, 218, 219, 221, 222, 224, 225, 227, 229, 230, 232, 233, 255, 256, 258, 259, 261, 263, 264, 266, 267, 269, 271, 272, 274, 275, 294, 295, 297, 299, 301, 302, 304, 306, 307, 309, 310, 312, 314, 556, 559] (by decide +kernel)
theorem z_nm : ∀ q ∈ vNM, Cond.methodLinkNest q.1 q.2.1 q.2.2.1 q.2.2.2 ∈ lw_tbl := z_ix (fun q : String × Nat × MethodName × String => Cond.methodLinkNest q.1 q.2.1 q.2.2.1 q.2.2.2) vNM [118, 134, 153, 178, 184, 250] (by decide +kernel)
theorem z_st : ∀ q ∈ vStr, Cond.stringRef q.1 q.2.1 q.2.2 ∈ lw_tbl := z_ix (fun q : String × Nat × String => Cond.stringRef q.1 q.2.1 q.2.2) vStr [990, 1038, 1062, 1224, 1243, 1273, 1327, 1016, 1132, 1104, 1074, 1309, 515, 615, 642, 897, 948, 949, 958, 213, 1472, 1480, 1559, 1560, 1569, 1441] (by decide +kernel)
theorem z_sx : ∀ q ∈ vStr, Cond.exactly (.string q.1 q.2.1) "java/lang/String" ∈ z_big := by decide +kernel
theorem z_tl : ∀ q ∈ vTok, Cond.laysStatic RX6 q "LTwinSets$Token;" ∈ lw_tbl := by decide +kernel
theorem z_tx : ∀ q ∈ vTok, Cond.exactly (.static RX6 q "LTwinSets$Token;") RX6 ∈ z_big := by decide +kernel
theorem z_tn : ∀ i, i < 5 → ∀ j, j < 5 → i ≠ j → Cond.not (.eq (.static RX6 (vTok.getD i "") "LTwinSets$Token;") (.static RX6 (vTok.getD j "") "LTwinSets$Token;")) ∈ z_big ∨ Cond.not (.eq (.static RX6 (vTok.getD j "") "LTwinSets$Token;") (.static RX6 (vTok.getD i "") "LTwinSets$Token;")) ∈ z_big := by decide +kernel
theorem z_ca : ∀ i, i < 3 → Cond.castable (vE i) (vE i) ∈ lw_tbl := by decide +kernel
theorem z_nc : ∀ i, i < 3 → ∀ j, j < 3 → i ≠ j → Cond.not (.castable (vE i) (vE j)) ∈ z_big := by decide +kernel
theorem z_ao : ∀ C ∈ vAO, Cond.arrayOver (.object C) ∈ lw_tbl := by decide +kernel
theorem z_dc : ∀ C ∈ vDc, Cond.declares (Bundle.initS C) ∈ lw_tbl := by decide +kernel
/-- what the start says of a String constant with text l -/
def z_ws (t : Term) (l : List Nat) : List Cond := [.exactly t "java/lang/String", .eq (.field t "java/lang/String" "coder" "B") (.int 0), .arrayOf (.field t "java/lang/String" "value" "[B") .byte, .eq (.length (.field t "java/lang/String" "value" "[B")) (.int (Int32.ofNat l.length)), .exactly (.field t "java/lang/String" "value" "[B") "[B"] ++ (List.range l.length).map fun j => .eq (.elem (.field t "java/lang/String" "value" "[B") (.int (Int32.ofNat j))) (.int (Int32.ofNat (l.getD j 0)))
def z_w : Nat → List Nat
  | 0 => [115, 101, 116]
  | 1 => [97, 100, 100]
  | 2 => [114, 101, 109, 111, 118, 101]
  | 3 => [99, 108, 101, 97, 114]
  | _ => [109, 97, 114, 107]
def z_w5 : List Nat := [115, 101, 116, 115]
theorem z_sw : ∀ i, i < 5 → ∀ w ∈ z_ws (.string RX3 ((vStr.getD (14 + i) ("", 0, "")).2.1)) (z_w i), w ∈ z_big := by decide +kernel
theorem z_sw5 : ∀ w ∈ z_ws (.string RX3 38) z_w5, w ∈ z_big := by decide +kernel
theorem z_se : ∀ i, i < 5 → Cond.eq (.string RX3 ((vStr.getD (14 + i) ("", 0, "")).2.1)) (.string RX10 ((vStr.getD (20 + i) ("", 0, "")).2.1)) ∈ z_big := by decide +kernel
theorem z_se5 : Cond.eq (.string RX3 38) (.string RX10 176) ∈ z_big := by decide +kernel
theorem z_wl : (∀ i, i < 5 → (z_w i).length < 65536 ∧ ∀ j, j < (z_w i).length → (z_w i).getD j 0 < 128) ∧ z_w5.length < 65536 ∧ ∀ j, j < z_w5.length → z_w5.getD j 0 < 128 := by decide +kernel
section
variable {args : Array Value} {s : State}
theorem z_ens (h0 : ∀ w ∈ lw_tbl, w.before args s = true) : (Cond.selects RJ4 yJ5_ensureCapacityInternal_d00df yJ5_ensureCapacityInternal_d00df).before args s = true := by
  obtain ⟨c, r, m, h1, h2, h3, h4, mk, h5, h6⟩ := Cond.selects_spec (h0 (Cond.selects RJ4 yJ5_isLatin1_aae02 yJ5_isLatin1_aae02) (List.mem_of_getElem? (i := 725) (by decide +kernel)))
  obtain ⟨m2, meth, g1, g2, -, -⟩ := Cond.instanceMethod_spec (h0 (Cond.instanceMethod yJ5_ensureCapacityInternal_d00df) (List.mem_of_getElem? (i := 691) (by decide +kernel)))
  have g3 := Cond.privateMethod_at (h0 (Cond.privateMethod yJ5_ensureCapacityInternal_d00df) (List.mem_of_getElem? (i := 690) (by decide +kernel))) m2 meth g1 g2
  have hf : s.methodFound? yJ5_ensureCapacityInternal_d00df.cls yJ5_ensureCapacityInternal_d00df.name yJ5_ensureCapacityInternal_d00df.desc = some m2 := State.methodFound?_of_named g1 (by decide +kernel)
  have n1 : s.vm.findClass RJ5 = some m2.cls := findClass_of_methodNamed g1
  have n2 : s.vm.findClass RJ5 = some m.cls := findClass_of_methodNamed h3
  have hcls : m2.cls = m.cls := Option.some.inj (n1.symm.trans n2)
  have hsel : selectMethod {} s.vm c m2 = .method m2 := selectMethod_private g2 g3
  rw [← hcls] at h5
  simp only [Cond.before, Cond.holds, Cond.value, h1, hf, g1, hsel, h5]
  first | (simp; exact h6) | simp [h6]
theorem z_eqR {t u : Term} {a b : Nat} (h : (Cond.eq t u).before args s = true) (ht : t.eval args s none [] s = some (.ref a)) (hu : u.eval args s none [] s = some (.ref b)) : a = b := by
  by_cases e : a = b
  · exact e
  · simp [Cond.before, Cond.holds, Cond.value, ht, hu, e] at h
theorem z_len {t : Term} {v : Value} {a : Nat} {cell : Cell} (hv : (Term.length t).eval args s none [] s = some v) (ht : t.eval args s none [] s = some (.ref a)) (hc : s.heap[a]? = some cell) : cell.slots.size < 2147483648 := by
  obtain ⟨b, c2, h1, h2, -⟩ := Term.length_spec hv
  cases h1.symm.trans ht
  obtain ⟨h3, -⟩ := State.arrayAt?_spec h2
  cases Option.some.inj (hc.symm.trans h3)
  simp only [Term.eval, ht, h2, Option.bind_eq_bind, Option.bind_some] at hv
  by_cases hlt : cell.slots.size < 2147483648
  · exact hlt
  · simp [hlt] at hv
end
/-- a String constant and its bytes -/
def sK (D : vD) (H : Heap) (q p : Nat) (l : List Nat) : Prop := ∃ c1 c2 : Cell, H[q]? = some c1 ∧ c1.cls = D.1 0 ∧ c1.vm.isStatics = false ∧ c1.vm ≠ .unknown ∧ c1.slots[D.2.1 0 0]? = some (.ref p) ∧ c1.slots[D.2.1 0 1]? = some (.int 0) ∧ H[p]? = some c2 ∧ vArr (D.2.2.1 102) l.length (fun j => .int (Int32.ofNat (l.getD j 0))) c2 ∧ l.length < 65536 ∧ ∀ i, i < l.length → l.getD i 0 < 128
theorem z_fb : ∀ n, n < 128 → fits .byte (.int (Int32.ofNat n)) = true := by decide +kernel
section
variable {D : vD} {H : Heap} {args : Array Value} {s : State}
theorem sK_mem (hne : D.1 0 ≠ D.2.2.1 102) (hD : D.2.2.2.1 = H.size) (q : Nat) : ∃ o : vOb, vAt D q o H ∧ (H.size ≤ q → o.1 = 0) ∧ (∀ p l, sK D H q p l → ∃ S, o = (1, 0, S) ∧ S 0 = .ref p ∧ vI (S 1) = 0) ∧ ∀ q' l, sK D H q' q l → ∃ B, o = (102, l.length, B) ∧ ∀ i, i < l.length → vI (B i) = Int32.ofNat (l.getD i 0) := by
  by_cases h1 : ∃ p l, sK D H q p l
  · obtain ⟨p, l, c1, c2, g1, g2, g3, g4, g5, g6, g7, g8, g9, g10⟩ := h1
    have hq : q < H.size := (Array.getElem?_eq_some_iff.mp g1).1
    refine ⟨(1, 0, fun k => if k = 0 then .ref p else .int 0), ⟨fun _ _ => ⟨(RJ0, TJ0, 2), rfl, ⟨c1, g1, g2, ⟨g3, g4, fun h => absurd (show D.2.2.2.1 ≤ q from h) (by omega)⟩, fun k hk => ?_⟩, fun k hk => ?_⟩, fun h => absurd (show 100 < 1 from h) (by omega)⟩, fun h => absurd h (by omega), fun p' l' h' => ?_, fun q' l' h' => ?_⟩
    · rcases (show k = 0 ∨ k = 1 by have : k < 2 := hk; omega) with rfl | rfl
      · exact g5
      · exact g6
    · rcases (show k = 0 ∨ k = 1 by have : k < 2 := hk; omega) with rfl | rfl
      · rfl
      · first | rfl | exact z_fb 0 (by decide)
    · obtain ⟨c1', c2', k1, k2, k3, k4, k5, -⟩ := h'
      cases Option.some.inj (g1.symm.trans k1)
      cases Option.some.inj (g5.symm.trans k5)
      exact ⟨_, rfl, rfl, rfl⟩
    · obtain ⟨c1', c2', -, -, -, -, -, -, k7, k8, -⟩ := h'
      cases Option.some.inj (g1.symm.trans k7)
      exact absurd (g2.symm.trans k8.1) hne
  · by_cases h2 : ∃ q' l, sK D H q' q l
    · obtain ⟨q', l, c1, c2, g1, g2, g3, g4, g5, g6, g7, g8, g9, g10⟩ := h2
      have hq : q < H.size := (Array.getElem?_eq_some_iff.mp g7).1
      refine ⟨(102, l.length, fun j => .int (Int32.ofNat (l.getD j 0))), vAt_arr g7 g8 (by decide) (by decide) (by omega) (fun j hj => z_fb _ (g10 j hj)), fun h => absurd h (by omega), fun p' l' h' => absurd ⟨p', l', h'⟩ h1, fun q'' l' h' => ?_⟩
      obtain ⟨c1', c2', -, -, -, -, -, -, k7, k8, -, -⟩ := h'
      cases Option.some.inj (g7.symm.trans k7)
      have hlen : l'.length = l.length := k8.2.2.2.1.symm.trans g8.2.2.2.1
      refine ⟨fun j => .int (Int32.ofNat (l.getD j 0)), by rw [hlen], fun i hi => ?_⟩
      exact Value.int.inj (Option.some.inj ((g8.2.2.2.2 i (by omega)).symm.trans (k8.2.2.2.2 i hi)))
    · exact ⟨(0, 0, fun _ => .null), ⟨fun h => absurd h (Nat.lt_irrefl 0), fun h => absurd (show 100 < 0 from h) (by omega)⟩, fun _ => rfl, fun p l h => absurd ⟨p, l, h⟩ h1, fun q' l h => absurd ⟨q', l, h⟩ h2⟩
theorem sK_of {t : Term} {l : List Nat} (hK : vK D s) (hw : ∀ w ∈ z_ws t l, w.before args s = true) (hl : l.length < 65536) (hl2 : ∀ i, i < l.length → l.getD i 0 < 128) {q : Nat} (hq : t.eval args s none [] s = some (.ref q)) : ∃ p, sK D s.heap q p l ∧ q < s.heap.size ∧ p < s.heap.size := by
  have hex := hw (.exactly t "java/lang/String") (List.mem_append_left _ (List.mem_of_getElem? (i := 0) rfl))
  have hco := hw (.eq (.field t "java/lang/String" "coder" "B") (.int 0)) (List.mem_append_left _ (List.mem_of_getElem? (i := 1) rfl))
  have har := hw (.arrayOf (.field t "java/lang/String" "value" "[B") .byte) (List.mem_append_left _ (List.mem_of_getElem? (i := 2) rfl))
  have hle := hw (.eq (.length (.field t "java/lang/String" "value" "[B")) (.int (Int32.ofNat l.length))) (List.mem_append_left _ (List.mem_of_getElem? (i := 3) rfl))
  have hexa := hw (.exactly (.field t "java/lang/String" "value" "[B") "[B") (List.mem_append_left _ (List.mem_of_getElem? (i := 4) rfl))
  have hel : ∀ j : Nat, j < l.length → (Cond.eq (.elem (.field t "java/lang/String" "value" "[B") (.int (Int32.ofNat j))) (.int (Int32.ofNat (l.getD j 0)))).before args s = true := fun j hj => hw _ (List.mem_append_right _ (List.mem_map.mpr ⟨j, List.mem_range.mpr hj, rfl⟩))
  obtain ⟨a, c, cell, k, q1, q2, q3, q4, q5, q6, -⟩ := Cond.exactly_spec hex
  have ea : a = q := Value.ref.inj (Option.some.inj (q1.symm.trans hq))
  rw [ea] at q1 q3
  obtain ⟨p, cB, cellB, kB, r1, r2, r3, r4, r5, r6, -⟩ := Cond.exactly_spec hexa
  obtain ⟨hSl, hcl, -⟩ := hK.1 0 (RJ0, TJ0, 2) rfl
  have hcl' : s.vm.findClass "java/lang/String" = some (D.1 0) := hcl
  obtain ⟨cf, kf, fi, f, cl1, e1, -, e2, e3, e4, -⟩ := vk_OFof (A := fun _ => False) q1 r1 (fun _ _ h => h)
  obtain ⟨cf', kf', fi', f', e1', e5⟩ := hSl 0 (by decide)
  have e1'' : s.fieldFound? "java/lang/String" "value" "[B" = some (cf', kf', fi', f') := e1'
  cases Option.some.inj (e1.symm.trans e1'')
  have ec1 : cl1 = cell := Option.some.inj (e2.symm.trans q3)
  rw [ec1] at e3 e4
  obtain ⟨df, dk, di, dg, cl2, d1, -, d2, d3, d4, -⟩ := vk_OFof (A := fun _ => False) q1 (va_eqt hco) (fun _ _ h => h)
  obtain ⟨df', dk', di', dg', d1', d5⟩ := hSl 1 (by decide)
  have d1'' : s.fieldFound? "java/lang/String" "coder" "B" = some (df', dk', di', dg') := d1'
  cases Option.some.inj (d1.symm.trans d1'')
  have ec2 : cl2 = cell := Option.some.inj (d2.symm.trans q3)
  rw [ec2] at d4
  obtain ⟨p', hp', cA, t1, t2, t3, t4, t5, t6, -⟩ := va_Tof (N := l.length) (f := fun j => .int (Int32.ofNat (l.getD j 0))) (A := fun _ => False) (by omega) har (va_eqt hle) (fun j hj => va_eqt (hel j hj)) (fun _ _ h => h)
  have hsz := z_len (va_eqt hle) r1 r3
  have ep : p' = p := Value.ref.inj (Option.some.inj (hp'.symm.trans r1))
  rw [ep] at t1
  have ec : cA = cellB := Option.some.inj (t1.symm.trans r3)
  rw [ec] at t2 t3 t4 t5 t6
  have hbyte : s.vm.findClass "[B" = some (D.2.2.1 102) := by
    have := (hK.2 102 (by decide) (by decide)).2
    have h2 : s.vm.findClass ("[" ++ (FieldType.byte).toString) = some (D.2.2.1 102) := this
    rw [show "[" ++ (FieldType.byte).toString = "[B" by first | rfl | decide | decide +kernel] at h2
    exact h2
  have hsz2 : cellB.slots.size = l.length := by
    have h9 : (Int32.ofNat cellB.slots.size).toNatClampNeg = (Int32.ofNat l.length).toNatClampNeg := congrArg _ t5
    rw [n_clamp (show cellB.slots.size < 2147483648 from hsz), n_clamp (show l.length < 2147483648 by omega)] at h9
    exact h9
  exact ⟨p, ⟨cell, cellB, q3, q6.trans (Option.some.inj (q2.symm.trans hcl')), q5, e3, by rw [← e5]; exact e4, by rw [← d5]; exact d4, r3, ⟨r6.trans (Option.some.inj (r2.symm.trans hbyte)), (fun z h => by rw [h] at r5; cases r5), t3, hsz2, fun j hj => t6 j hj⟩, hl, hl2⟩, (Array.getElem?_eq_some_iff.mp q3).1, (Array.getElem?_eq_some_iff.mp r3).1⟩
theorem sK_T {M0 : Nat → vOb} (hM : ∀ q, (∀ p l, sK D H q p l → ∃ S, M0 q = (1, 0, S) ∧ S 0 = .ref p ∧ vI (S 1) = 0) ∧ ∀ q' l, sK D H q' q l → ∃ B, M0 q = (102, l.length, B) ∧ ∀ i, i < l.length → vI (B i) = Int32.ofNat (l.getD i 0)) {q p : Nat} {l : List Nat} (h : sK D H q p l) (hq : q < H.size) (hp : p < H.size) : sT M0 H.size q l := by
  obtain ⟨S, g1, g2, g3⟩ := (hM q).1 p l h
  obtain ⟨B, g4, g5⟩ := (hM p).2 q l h
  obtain ⟨c1, c2, -, -, -, -, -, -, -, -, g9, g10⟩ := h
  exact ⟨p, ⟨S, B, g1, g2, g3, g4, g9, fun i hi => ⟨g5 i hi, g10 i hi⟩⟩, hq, hp⟩
end
section
variable {args : Array Value} {s : State}
theorem z_cls (h0 : ∀ w ∈ lw_tbl, w.before args s = true) (hts : ∀ w ∈ TB, w.before args s = true) (c : Nat) : ∃ y : ClassId × (Nat → Nat), ∀ q : vw_C, vCl[c]? = some q → u_Kn s q.1 q.2.1 q.2.2 y.1 y.2 := by
  by_cases hc : 12 ≤ c
  · exact ⟨(0, fun _ => 0), fun q hq => by
      have := (List.getElem?_eq_some_iff.mp hq).1
      exact absurd this (Nat.not_lt.mpr hc)⟩
  rcases (show c = 0 ∨ c = 1 ∨ c = 2 ∨ c = 3 ∨ c = 4 ∨ c = 5 ∨ c = 6 ∨ c = 7 ∨ c = 8 ∨ c = 9 ∨ c = 10 ∨ c = 11 by omega) with rfl | rfl | rfl | rfl | rfl | rfl | rfl | rfl | rfl | rfl | rfl | rfl
  · obtain ⟨cC, iS, h⟩ := u_known (C := RJ0) (T := TJ0) (N := 2) (n := 4) hts iwJ0 (h0 (Cond.instantiable RJ0 4) (List.mem_of_getElem? (i := 760) (by decide +kernel)))
    exact ⟨(cC, iS), fun q hq => by cases Option.some.inj hq; exact h⟩
  · obtain ⟨cC, iS, h⟩ := u_known (C := RJ4) (T := TJ4) (N := 4) (n := 4) hts iwJ4 (h0 (Cond.instantiable RJ4 4) (List.mem_of_getElem? (i := 653) (by decide +kernel)))
    exact ⟨(cC, iS), fun q hq => by cases Option.some.inj hq; exact h⟩
  · obtain ⟨cC, iS, h⟩ := u_known (C := RX0) (T := TX0) (N := 8) (n := 8) hts iwX0 (h0 (Cond.instantiable RX0 8) (List.mem_of_getElem? (i := 249) (by decide +kernel)))
    exact ⟨(cC, iS), fun q hq => by cases Option.some.inj hq; exact h⟩
  · obtain ⟨cC, iS, h⟩ := u_known (C := RX1) (T := TX1) (N := 2) (n := 2) hts iwX1 (h0 (Cond.instantiable RX1 2) (List.mem_of_getElem? (i := 117) (by decide +kernel)))
    exact ⟨(cC, iS), fun q hq => by cases Option.some.inj hq; exact h⟩
  · obtain ⟨cC, iS, h⟩ := u_known (C := RX2) (T := TX2) (N := 6) (n := 6) hts iwX2 (h0 (Cond.instantiable RX2 6) (List.mem_of_getElem? (i := 183) (by decide +kernel)))
    exact ⟨(cC, iS), fun q hq => by cases Option.some.inj hq; exact h⟩
  · obtain ⟨cC, iS, h⟩ := u_known (C := RX3) (T := TX3) (N := 9) (n := 9) hts iwX3 (h0 (Cond.instantiable RX3 9) (List.mem_of_getElem? (i := 542) (by decide +kernel)))
    exact ⟨(cC, iS), fun q hq => by cases Option.some.inj hq; exact h⟩
  · obtain ⟨cC, iS, h⟩ := u_known (C := RX4) (T := TX4) (N := 2) (n := 2) hts iwX4 (h0 (Cond.instantiable RX4 2) (List.mem_of_getElem? (i := 152) (by decide +kernel)))
    exact ⟨(cC, iS), fun q hq => by cases Option.some.inj hq; exact h⟩
  · obtain ⟨cC, iS, h⟩ := u_known (C := RX5) (T := TX5) (N := 9) (n := 9) hts iwX5 (h0 (Cond.instantiable RX5 9) (List.mem_of_getElem? (i := 168) (by decide +kernel)))
    exact ⟨(cC, iS), fun q hq => by cases Option.some.inj hq; exact h⟩
  · obtain ⟨cC, iS, h⟩ := u_known (C := RX7) (T := TX7) (N := 7) (n := 7) hts iwX7 (h0 (Cond.instantiable RX7 7) (List.mem_of_getElem? (i := 177) (by decide +kernel)))
    exact ⟨(cC, iS), fun q hq => by cases Option.some.inj hq; exact h⟩
  · obtain ⟨cC, iS, h⟩ := u_known (C := RX8) (T := TX8) (N := 3) (n := 3) hts iwX8 (h0 (Cond.instantiable RX8 3) (List.mem_of_getElem? (i := 133) (by decide +kernel)))
    exact ⟨(cC, iS), fun q hq => by cases Option.some.inj hq; exact h⟩
  · obtain ⟨cC, iS, h⟩ := u_known (C := RX9) (T := TX9) (N := 6) (n := 6) hts iwX9 (h0 (Cond.instantiable RX9 6) (List.mem_of_getElem? (i := 109) (by decide +kernel)))
    exact ⟨(cC, iS), fun q hq => by cases Option.some.inj hq; exact h⟩
  · obtain ⟨cC, iS, h⟩ := u_known (C := RX10) (T := TX10) (N := 22) (n := 22) hts iwX10 (h0 (Cond.instantiable RX10 22) (List.mem_of_getElem? (i := 1330) (by decide +kernel)))
    exact ⟨(cC, iS), fun q hq => by cases Option.some.inj hq; exact h⟩
theorem z_arrP (ty : FieldType) (h : (Cond.arrayClass ty).before args s = true) : ∃ cA : ClassId, ArrOfT s cA ty ∧ s.vm.findClass ("[" ++ ty.toString) = some cA := by
  obtain ⟨c, k, comp, h1, h2, h3⟩ := Cond.arrayClass_spec h
  exact ⟨c, fun n z => ⟨(fun q e => by cases e), k, h2, comp, h3⟩, h1⟩
theorem z_arrO (C : String) (h : (Cond.arrayOver (.object C)).before args s = true) : ∃ cA : ClassId, ArrOfT s cA (.object C) ∧ va_RA s cA (.object C) := by
  obtain ⟨comp, c, k, h1, -, h2, h3, h4⟩ := Cond.arrayOver_spec h
  exact ⟨c, fun n z => ⟨(fun q e => by cases e), k, h2, comp, h3⟩, k, comp, h2, h3, h1, h4⟩
theorem z_arr (h0 : ∀ w ∈ lw_tbl, w.before args s = true) (t : Nat) : ∃ cA : ClassId, 100 < t → t < 109 → ArrOfT s cA (vAty t) ∧ va_RA s cA (vAty t) := by
  by_cases ht : 100 < t ∧ t < 109
  case neg => exact ⟨0, fun a b => absurd ⟨a, b⟩ ht⟩
  rcases (show t = 101 ∨ t = 102 ∨ t = 103 ∨ t = 104 ∨ t = 105 ∨ t = 106 ∨ t = 107 ∨ t = 108 by omega) with rfl | rfl | rfl | rfl | rfl | rfl | rfl | rfl
  · obtain ⟨cA, h1, h2⟩ := z_arrP .int (h0 (Cond.arrayClass .int) (List.mem_of_getElem? (i := 212) (by decide +kernel)))
    exact ⟨cA, fun _ _ => ⟨h1, h2⟩⟩
  · obtain ⟨cA, h1, h2⟩ := z_arrP .byte (h0 (Cond.arrayClass .byte) (List.mem_of_getElem? (i := 131) (by decide +kernel)))
    exact ⟨cA, fun _ _ => ⟨h1, h2⟩⟩
  · obtain ⟨cA, h1, h2⟩ := z_arrP .boolean (h0 (Cond.arrayClass .boolean) (List.mem_of_getElem? (i := 166) (by decide +kernel)))
    exact ⟨cA, fun _ _ => ⟨h1, h2⟩⟩
  · obtain ⟨cA, h1, h2⟩ := z_arrP .long (h0 (Cond.arrayClass .long) (List.mem_of_getElem? (i := 1402) (by decide +kernel)))
    exact ⟨cA, fun _ _ => ⟨h1, h2⟩⟩
  · obtain ⟨cA, h1, h2⟩ := z_arrP .double (h0 (Cond.arrayClass .double) (List.mem_of_getElem? (i := 1757) (by decide +kernel)))
    exact ⟨cA, fun _ _ => ⟨h1, h2⟩⟩
  · obtain ⟨cA, h1, h2⟩ := z_arrO RX5 (h0 (Cond.arrayOver (.object RX5)) (List.mem_of_getElem? (i := 139) (by decide +kernel)))
    exact ⟨cA, fun _ _ => ⟨h1, h2⟩⟩
  · obtain ⟨cA, h1, h2⟩ := z_arrO RX7 (h0 (Cond.arrayOver (.object RX7)) (List.mem_of_getElem? (i := 174) (by decide +kernel)))
    exact ⟨cA, fun _ _ => ⟨h1, h2⟩⟩
  · obtain ⟨cA, h1, h2⟩ := z_arrO RX0 (h0 (Cond.arrayOver (.object RX0)) (List.mem_of_getElem? (i := 176) (by decide +kernel)))
    exact ⟨cA, fun _ _ => ⟨h1, h2⟩⟩
theorem l_world (h0 : ∀ w ∈ lw_tbl, w.before args s = true) (hg : (Jvm.Cond.and given_1 narrow_1).before args s = true) : (∀ w ∈ TB, w.before args s = true) ∧ ∃ (D : vD) (M : vMe), D.2.2.2.1 = s.heap.size ∧ M.2.1 = s.heap.size ∧ M.2.2.2 = s.heap.size ∧ vS D s ∧ vRp D M s.heap ∧ lS D s.heap.size M.1 := by
  have hts : ∀ w ∈ TB, w.before args s = true := fun w hw => (List.mem_cons.mp hw).elim (fun e => e ▸ z_ens h0) (fun h => h0 w (List.mem_filter.mp h).1)
  refine ⟨hts, ?_⟩
  have hs : ∀ w ∈ z_big, w.before args s = true := flat_of_before _ hg
  obtain ⟨f, hf⟩ := Classical.axiomOfChoice (z_cls h0 hts)
  obtain ⟨g, hgA⟩ := Classical.axiomOfChoice (z_arr h0)
  have hstr : ∀ i : Nat, ∃ a : Nat, ∀ q, vStr[i]? = some q → (Term.string q.1 q.2.1).eval args s none [] s = some (.ref a) := fun i => by
    cases hi : vStr[i]? with
    | none => exact ⟨0, fun q hq => by cases hq⟩
    | some q =>
      obtain ⟨a, c, cell, k, q1, -⟩ := Cond.exactly_spec (hs _ (z_sx q (List.mem_of_getElem? hi)))
      exact ⟨a, fun q' hq => by cases Option.some.inj hq; exact q1⟩
  have htok : ∀ i : Nat, ∃ a : Nat, ∀ q, vTok[i]? = some q → (Term.static RX6 q "LTwinSets$Token;").eval args s none [] s = some (.ref a) := fun i => by
    cases hi : vTok[i]? with
    | none => exact ⟨0, fun q hq => by cases hq⟩
    | some q =>
      obtain ⟨a, c, cell, k, q1, -⟩ := Cond.exactly_spec (hs _ (z_tx q (List.mem_of_getElem? hi)))
      exact ⟨a, fun q' hq => by cases Option.some.inj hq; exact q1⟩
  obtain ⟨G1, hG1⟩ := Classical.axiomOfChoice hstr
  obtain ⟨G2, hG2⟩ := Classical.axiomOfChoice htok
  obtain ⟨G, gA, gB⟩ : ∃ G : Nat → Nat, (∀ i, i < 100 → G i = G1 i) ∧ ∀ i, G (100 + i) = G2 i := ⟨fun i => if i < 100 then G1 i else G2 (i - 100), fun i hi => if_pos hi, fun i => by show (if 100 + i < 100 then _ else G2 (100 + i - 100)) = _; rw [if_neg (by omega), Nat.add_sub_cancel_left]⟩
  obtain ⟨D, dA, dB, dC, dD, dE⟩ : ∃ D : vD, D.1 = (fun c => (f c).1) ∧ D.2.1 = (fun c => (f c).2) ∧ D.2.2.1 = g ∧ D.2.2.2.1 = s.heap.size ∧ D.2.2.2.2 = G := ⟨(fun c => (f c).1, fun c => (f c).2, g, s.heap.size, G), rfl, rfl, rfl, rfl, rfl⟩
  have hK : vK D s := ⟨fun c q hq => by rw [dA, dB]; exact hf c q hq, fun t h1 h2 => by rw [dC]; exact hgA t h1 h2⟩
  have hA : ∀ a : Nat, a < s.heap.size → ¬ vA D a := fun a ha h => absurd (show D.2.2.2.1 ≤ a from h) (by omega)
  have sv : ∀ i q, vStr[i]? = some q → (Term.string q.1 q.2.1).eval args s none [] s = some (.ref (D.2.2.2.2 i)) := fun i q hq => by
    have hi : i < 26 := (List.getElem?_eq_some_iff.mp hq).1
    rw [dE, gA i (by omega)]
    exact hG1 i q hq
  have tv : ∀ i q, vTok[i]? = some q → (Term.static RX6 q "LTwinSets$Token;").eval args s none [] s = some (.ref (D.2.2.2.2 (100 + i))) := fun i q hq => by
    rw [dE, gB i]
    exact hG2 i q hq
  have iT := h0 (Cond.initialized Bundle.tN) (List.mem_of_getElem? (i := 86) (by decide +kernel))
  have hSS : vS D s := by
    refine ⟨hK, ⟨vx_Zqof (h0 (Cond.laysStatic Bundle.tN "UNASSIGNED_STACK" Bundle.steD) (List.mem_of_getElem? (i := 501) (by decide +kernel))) iT (hs _ (by decide +kernel)) hA, vx_Zqof (h0 (Cond.laysStatic Bundle.tN "SUPPRESSED_SENTINEL" Bundle.listD) (List.mem_of_getElem? (i := 503) (by decide +kernel))) iT (hs _ (by decide +kernel)) hA⟩, fun i q hq => vk_R.of (h0 _ (z_st q (List.mem_of_getElem? hq))) (sv i q hq), fun i q hq => va_Zof (h0 _ (z_tl q (List.mem_of_getElem? hq))) (h0 (Cond.initialized RX6) (List.mem_of_getElem? (i := 92) (by decide +kernel))) (tv i q hq) hA, va_Zof (h0 (Cond.laysStatic RJ0 "COMPACT_STRINGS" "Z") (List.mem_of_getElem? (i := 394) (by decide +kernel))) (h0 (Cond.initialized RJ0) (List.mem_of_getElem? (i := 93) (by decide +kernel))) (va_eqt (hs _ (by decide +kernel))) hA, fun i q hq => va_Nw.of rfl (h0 _ (z_nf q (List.mem_of_getElem? hq))), fun i q hq => va_Nw.of rfl (h0 _ (z_nm q (List.mem_of_getElem? hq))), va_Zqof (h0 (Cond.laysStatic RJ3 "SIOOBE_FORMATTER" "Ljava/util/function/BiFunction;") (List.mem_of_getElem? (i := 410) (by decide +kernel))) (h0 (Cond.initialized RJ3) (List.mem_of_getElem? (i := 95) (by decide +kernel))) (hs _ (by decide +kernel)) hA, fun i hi => va_Nw.of rfl (h0 _ (z_ca i hi)), fun i j hi hj hij => va_Nc.of (hs _ (z_nc i hi j hj hij)), fun i C hC => va_AO.of (h0 _ (z_ao C (List.mem_of_getElem? hC))), fun i C hC => va_Nw.of rfl (h0 _ (z_dc C (List.mem_of_getElem? hC)))⟩
  have hne : D.1 0 ≠ D.2.2.1 102 := by
    intro e
    obtain ⟨-, -, kC, k1, k2⟩ := hK.1 0 (RJ0, TJ0, 2) rfl
    obtain ⟨-, kA, k3, comp, k4⟩ := (hK.2 102 (by decide) (by decide)).1 0 (fun _ => .null)
    have k3' : s.vm.classes[D.2.2.1 102]? = some kA := k3
    rw [← e] at k3'
    cases Option.some.inj (k1.symm.trans k3')
    rw [k2] at k4
    cases k4
  obtain ⟨M0, hM0⟩ := Classical.axiomOfChoice (sK_mem (H := s.heap) hne dD)
  refine ⟨D, (M0, s.heap.size, vSum s.heap.size s.heap, s.heap.size), dD, rfl, rfl, hSS, ⟨fun q => (hM0 q).1, rfl, by rw [dD], dD.symm, by omega, fun q hq => (hM0 q).2.1 hq⟩, dD, ?_, ?_⟩
  · intro i j hi hj e
    by_cases hij : i = j
    · exact hij
    · have ti := tv i (vTok.getD i "") (by rcases (show i = 0 ∨ i = 1 ∨ i = 2 ∨ i = 3 ∨ i = 4 by omega) with rfl | rfl | rfl | rfl | rfl <;> rfl)
      have tj := tv j (vTok.getD j "") (by rcases (show j = 0 ∨ j = 1 ∨ j = 2 ∨ j = 3 ∨ j = 4 by omega) with rfl | rfl | rfl | rfl | rfl <;> rfl)
      rcases z_tn i hi j hj hij with h | h
      · exact absurd e (va_neR (hs _ h) ti tj)
      · exact absurd e.symm (va_neR (hs _ h) tj ti)
  · have hM2 : ∀ q, (∀ p l, sK D s.heap q p l → ∃ S, M0 q = (1, 0, S) ∧ S 0 = .ref p ∧ vI (S 1) = 0) ∧ ∀ q' l, sK D s.heap q' q l → ∃ B, M0 q = (102, l.length, B) ∧ ∀ i, i < l.length → vI (B i) = Int32.ofNat (l.getD i 0) := fun q => (hM0 q).2.2
    have a1 : ∀ i, i < 5 → (Term.string RX3 ((vStr.getD (14 + i) ("", 0, "")).2.1)).eval args s none [] s = some (.ref (D.2.2.2.2 (14 + i))) := fun i hi => by
      rcases (show i = 0 ∨ i = 1 ∨ i = 2 ∨ i = 3 ∨ i = 4 by omega) with rfl | rfl | rfl | rfl | rfl
      · exact sv 14 (RX3, 64, "set") rfl
      · exact sv 15 (RX3, 72, "add") rfl
      · exact sv 16 (RX3, 78, "remove") rfl
      · exact sv 17 (RX3, 80, "clear") rfl
      · exact sv 18 (RX3, 85, "mark") rfl
    have a2 : ∀ i, i < 5 → (Term.string RX10 ((vStr.getD (20 + i) ("", 0, "")).2.1)).eval args s none [] s = some (.ref (D.2.2.2.2 (20 + i))) := fun i hi => by
      rcases (show i = 0 ∨ i = 1 ∨ i = 2 ∨ i = 3 ∨ i = 4 by omega) with rfl | rfl | rfl | rfl | rfl
      · exact sv 20 (RX10, 141, "set") rfl
      · exact sv 21 (RX10, 150, "add") rfl
      · exact sv 22 (RX10, 156, "remove") rfl
      · exact sv 23 (RX10, 158, "clear") rfl
      · exact sv 24 (RX10, 163, "mark") rfl
    have a3 : (Term.string RX3 38).eval args s none [] s = some (.ref (D.2.2.2.2 13)) := sv 13 (RX3, 38, "sets") rfl
    have a4 : (Term.string RX10 176).eval args s none [] s = some (.ref (D.2.2.2.2 25)) := sv 25 (RX10, 176, "sets") rfl
    have b1 : ∀ i, i < 5 → sT M0 s.heap.size (D.2.2.2.2 (14 + i)) (z_w i) := fun i hi => by
      obtain ⟨p, h1, h2, h3⟩ := sK_of hK (fun w hw => hs w (z_sw i hi w hw)) (z_wl.1 i hi).1 (z_wl.1 i hi).2 (a1 i hi)
      exact sK_T hM2 h1 h2 h3
    have b5 : sT M0 s.heap.size (D.2.2.2.2 13) z_w5 := by
      obtain ⟨p, h1, h2, h3⟩ := sK_of hK (fun w hw => hs w (z_sw5 w hw)) z_wl.2.1 z_wl.2.2 a3
      exact sK_T hM2 h1 h2 h3
    refine ⟨z_w, z_w5, b1, b5, fun i hi => ?_, ?_⟩
    · rw [← z_eqR (hs _ (z_se i hi)) (a1 i hi) (a2 i hi)]; exact b1 i hi
    · rw [← z_eqR (hs _ z_se5) a3 a4]; exact b5
end
