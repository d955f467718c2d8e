theorem z_in : ¬ ((0 : Int32) < 0 ∨ 1 ≤ (0 : Int32).toNatClampNeg) := by decide
def rmL_add : Room := { frames := 9, cells := 50, slots := 2001, locals := 168 }
set_option maxHeartbeats 4000000 in
set_option maxRecDepth 100000 in
theorem mL_add (l : Launch) (hfl : l.stackTraces = false) (D : vD) (x : Nat) (x1 : Int32) (x2 : Int32) (out : Nat) (M : vMe) (f : Nat → Value) (z : ((Int32 ⊕ Nat) × vMe)) (h : tX9_add D.2.2.2.2 x x1 x2 M = some z) (hx9 : (M.1 x).1 = 11) (ho : z.2.1 out = (104, 1, f)) (hob : z.2.2.2.2 ≤ out) (hne : ∀ j, z.1 = .inr j → mpA j ≠ 0) : Met l yL_add (Cond.codeWith yL_add cL_add 5 (some .int) [(0, 10, 13, 22), (0, 10, 17, 13)] :: TB) rmL_add (va_Pc [.ref x, .int x1, .int x2, .ref out] (vPre D M)) (qH D (pL z.2 out (Sum.elim (fun v => some (.long v.toInt64)) (fun _ => none) z.1)) (.int (Sum.elim (fun _ => 0) mpA z.1))) 50 2001 (vA D) := by
  refine v_ofH (cc := cL_add) (maxL := 5) (ret := (some .int)) (by decide) (Nat.le_of_ble_eq_true rfl) ?_
  intro p e s m args below meth c hx hb hr hml hown hts hlk htb hSS hR0 ls hl
  have hK := hSS.1
  have hl : lv_has ls 5 [(0, .ref x), (1, .int x1), (2, .int x2), (3, .ref out)] := hl
  refine w_aload_n hx hb dL_add_0 rfl (lv_at hl 3 rfl) ?_
  refine w_iconst (v := 0) hx hb dL_add_1 (by decide) ?_
  refine w_aload_n hx hb dL_add_2 rfl (lv_at hl 0 rfl) ?_
  refine w_iload_n hx hb dL_add_3 rfl (lv_at hl 1 rfl) ?_
  refine w_iload_n hx hb dL_add_4 rfl (lv_at hl 2 rfl) ?_
  rcases hz : z.1 with v | j
  · refine v_callXok (ov := some (.int v)) (mcz := 50) (msz := 2001) (fun H locs hR hS => vx_runV (As := [.int x1, .int x2]) (rest := [.int 0, .ref out]) ⟨hx, hb, hml, hown, hts⟩ (mX9_add l hfl D x x1 x2 M z h) (cwV 2 hts (gdV kl1180 kl1181 kl1182 kw77 kl1183) rfl rfl rfl (by decide +kernel) ⟨Nat.le_of_ble_eq_true rfl, Nat.le_of_ble_eq_true rfl⟩) (v_preV (ci := 10) hSS hR hS hx9 (by decide) rfl [.int x1, .int x2]) rfl rfl hl.1 rfl (lv_room (Nat.le_of_ble_eq_true rfl)) dL_add_5 ⟨by show _ + _ ≤ 50; omega, by show _ + _ ≤ 2001; omega⟩) (by rw [hz]; rfl) (by rw [hz]; rfl) (st1 := [.int v, .int 0, .ref out]) rfl ?_
    refine w_i2l hx hb dL_add_8 ?_
    have hw : sA z.2 out 104 0 (.long v.toInt64) = some (wr z.2 out 0 (.long v.toInt64)) := by
      show (if (z.2.1 out).1 = 104 ∧ ¬ ((0 : Int32) < 0 ∨ (z.2.1 out).2.1 ≤ (0 : Int32).toNatClampNeg) ∧ z.2.2.2.2 ≤ out then some (wr z.2 out (0 : Int32).toNatClampNeg (.long v.toInt64)) else none) = _
      rw [ho, if_pos ⟨rfl, z_in, hob⟩]; rfl
    refine v_last hx hb hK hw dL_add_9 ?_
    refine w_goto (tgt := 21) hx hb dL_add_10 (by decide) ?_
    refine w_iconst (v := 0) hx hb dL_add_21 (by decide) ?_
    refine vV.widen (n' := 50) (k' := 2001) (by omega) (by omega) ?_
    exact v_iretH (P := pL z.2 out (some (.long v.toInt64))) hx hb hr hlk rfl dL_add_22
  · rcases mpA_v (hne j hz) with rfl | rfl
    · refine v_callXca (mcz := 50) (msz := 2001) hown hSS (j := 1) (by decide) [] (⟨0, 10, 13, 22⟩ : ExceptionTableEntry) [(⟨0, 10, 17, 13⟩ : ExceptionTableEntry)] htb (fun z hz9 => absurd hz9 (List.not_mem_nil)) (by decide) (by decide) (hts _ kl994) (fun H locs hR hS => vx_runV (As := [.int x1, .int x2]) (rest := [.int 0, .ref out]) ⟨hx, hb, hml, hown, hts⟩ (mX9_add l hfl D x x1 x2 M z h) (cwV 2 hts (gdV kl1180 kl1181 kl1182 kw77 kl1183) rfl rfl rfl (by decide +kernel) ⟨Nat.le_of_ble_eq_true rfl, Nat.le_of_ble_eq_true rfl⟩) (v_preV (ci := 10) hSS hR hS hx9 (by decide) rfl [.int x1, .int x2]) rfl rfl hl.1 rfl (lv_room (Nat.le_of_ble_eq_true rfl)) dL_add_5 ⟨by show _ + _ ≤ 50; omega, by show _ + _ ≤ 2001; omega⟩) (by rw [hz]; rfl) (by rw [hz]; rfl) (fun A B q hA hB => ?_)
      refine w_astore (lv' := (4, .ref q) :: [(0, .ref x), (1, .int x1), (2, .int x2), (3, .ref out)]) hx hb dL_add_13 hl (by decide) rfl (fun ls hl => ?_)
      refine w_iconst (v := 1) hx hb dL_add_15 (by decide) ?_
      refine vV.widen (n' := 50) (k' := 2001) (by omega) (by omega) ?_
      exact v_iretH (P := pL z.2 out none) hx hb hr hlk ⟨A, B, hA, hB, rfl⟩ dL_add_16
    · refine v_callXca (mcz := 50) (msz := 2001) hown hSS (j := 0) (by decide) [(⟨0, 10, 13, 22⟩ : ExceptionTableEntry)] (⟨0, 10, 17, 13⟩ : ExceptionTableEntry) [] htb (fun z hz9 => by cases List.mem_singleton.mp hz9; exact Or.inr ⟨by decide, vE 1, hts _ kl994, hSS.2.2.2.2.2.2.2.2.2.1 0 1 (by decide) (by decide) (by decide)⟩) (by decide) (by decide) (hts _ kl469) (fun H locs hR hS => vx_runV (As := [.int x1, .int x2]) (rest := [.int 0, .ref out]) ⟨hx, hb, hml, hown, hts⟩ (mX9_add l hfl D x x1 x2 M z h) (cwV 2 hts (gdV kl1180 kl1181 kl1182 kw77 kl1183) rfl rfl rfl (by decide +kernel) ⟨Nat.le_of_ble_eq_true rfl, Nat.le_of_ble_eq_true rfl⟩) (v_preV (ci := 10) hSS hR hS hx9 (by decide) rfl [.int x1, .int x2]) rfl rfl hl.1 rfl (lv_room (Nat.le_of_ble_eq_true rfl)) dL_add_5 ⟨by show _ + _ ≤ 50; omega, by show _ + _ ≤ 2001; omega⟩) (by rw [hz]; rfl) (by rw [hz]; rfl) (fun A B q hA hB => ?_)
      refine w_astore (lv' := (4, .ref q) :: [(0, .ref x), (1, .int x1), (2, .int x2), (3, .ref out)]) hx hb dL_add_17 hl (by decide) rfl (fun ls hl => ?_)
      refine w_iconst (v := 2) hx hb dL_add_19 (by decide) ?_
      refine vV.widen (n' := 50) (k' := 2001) (by omega) (by omega) ?_
      exact v_iretH (P := pL z.2 out none) hx hb hr hlk ⟨A, B, hA, hB, rfl⟩ dL_add_20
def rmL_ahead : Room := { frames := 8, cells := 1, slots := 6, locals := 142 }
set_option maxHeartbeats 4000000 in
set_option maxRecDepth 100000 in
theorem mL_ahead (l : Launch) (hfl : l.stackTraces = false) (D : vD) (x : Nat) (x1 : Int32) (out : Nat) (M : vMe) (f : Nat → Value) (z : ((Int32 ⊕ Nat) × vMe)) (h : tX9_ahead x x1 M = some z) (hx9 : (M.1 x).1 = 11) (ho : z.2.1 out = (104, 1, f)) (hob : z.2.2.2.2 ≤ out) (hne : ∀ j, z.1 = .inr j → mp1 j ≠ 0) : Met l yL_ahead (Cond.codeWith yL_ahead cL_ahead 4 (some .int) [(0, 9, 12, 22)] :: TB) rmL_ahead (va_Pc [.ref x, .int x1, .ref out] (vPre D M)) (qH D (pL z.2 out (Sum.elim (fun v => some (.long v.toInt64)) (fun _ => none) z.1)) (.int (Sum.elim (fun _ => 0) mp1 z.1))) 1 6 (vA D) := by
  refine v_ofH (cc := cL_ahead) (maxL := 4) (ret := (some .int)) (by decide) (Nat.le_of_ble_eq_true rfl) ?_
  intro p e s m args below meth c hx hb hr hml hown hts hlk htb hSS hR0 ls hl
  have hK := hSS.1
  have hl : lv_has ls 4 [(0, .ref x), (1, .int x1), (2, .ref out)] := hl
  refine w_aload_n hx hb dL_ahead_0 rfl (lv_at hl 2 rfl) ?_
  refine w_iconst (v := 0) hx hb dL_ahead_1 (by decide) ?_
  refine w_aload_n hx hb dL_ahead_2 rfl (lv_at hl 0 rfl) ?_
  refine w_iload_n hx hb dL_ahead_3 rfl (lv_at hl 1 rfl) ?_
  rcases hz : z.1 with v | j
  · refine v_callXok (ov := some (.int v)) (mcz := 1) (msz := 6) (fun H locs hR hS => vx_runV (As := [.int x1]) (rest := [.int 0, .ref out]) ⟨hx, hb, hml, hown, hts⟩ (mX9_ahead l hfl D x x1 M z h) (cwV 1 hts (gdV kl1136 kl1137 kl1138 kw77 kl1139) rfl rfl rfl (by decide +kernel) ⟨Nat.le_of_ble_eq_true rfl, Nat.le_of_ble_eq_true rfl⟩) (v_preV (ci := 10) hSS hR hS hx9 (by decide) rfl [.int x1]) rfl rfl hl.1 rfl (lv_room (Nat.le_of_ble_eq_true rfl)) dL_ahead_4 ⟨by show _ + _ ≤ 1; omega, by show _ + _ ≤ 6; omega⟩) (by rw [hz]; rfl) (by rw [hz]; rfl) (st1 := [.int v, .int 0, .ref out]) rfl ?_
    refine w_i2l hx hb dL_ahead_7 ?_
    have hw : sA z.2 out 104 0 (.long v.toInt64) = some (wr z.2 out 0 (.long v.toInt64)) := by
      show (if (z.2.1 out).1 = 104 ∧ ¬ ((0 : Int32) < 0 ∨ (z.2.1 out).2.1 ≤ (0 : Int32).toNatClampNeg) ∧ z.2.2.2.2 ≤ out then some (wr z.2 out (0 : Int32).toNatClampNeg (.long v.toInt64)) else none) = _
      rw [ho, if_pos ⟨rfl, z_in, hob⟩]; rfl
    refine v_last hx hb hK hw dL_ahead_8 ?_
    refine w_goto (tgt := 15) hx hb dL_ahead_9 (by decide) ?_
    refine w_iconst (v := 0) hx hb dL_ahead_15 (by decide) ?_
    refine vV.widen (n' := 1) (k' := 6) (by omega) (by omega) ?_
    exact v_iretH (P := pL z.2 out (some (.long v.toInt64))) hx hb hr hlk rfl dL_ahead_16
  · obtain rfl := mp1_v (hne j hz)
    refine v_callXca (mcz := 1) (msz := 6) hown hSS (j := 1) (by decide) [] (⟨0, 9, 12, 22⟩ : ExceptionTableEntry) [] htb (fun z hz9 => absurd hz9 (List.not_mem_nil)) (by decide) (by decide) (hts _ kl994) (fun H locs hR hS => vx_runV (As := [.int x1]) (rest := [.int 0, .ref out]) ⟨hx, hb, hml, hown, hts⟩ (mX9_ahead l hfl D x x1 M z h) (cwV 1 hts (gdV kl1136 kl1137 kl1138 kw77 kl1139) rfl rfl rfl (by decide +kernel) ⟨Nat.le_of_ble_eq_true rfl, Nat.le_of_ble_eq_true rfl⟩) (v_preV (ci := 10) hSS hR hS hx9 (by decide) rfl [.int x1]) rfl rfl hl.1 rfl (lv_room (Nat.le_of_ble_eq_true rfl)) dL_ahead_4 ⟨by show _ + _ ≤ 1; omega, by show _ + _ ≤ 6; omega⟩) (by rw [hz]; rfl) (by rw [hz]; rfl) (fun A B q hA hB => ?_)
    refine w_astore_n (lv' := (3, .ref q) :: [(0, .ref x), (1, .int x1), (2, .ref out)]) hx hb dL_ahead_12 rfl hl (by decide) rfl (fun ls hl => ?_)
    refine w_iconst (v := 1) hx hb dL_ahead_13 (by decide) ?_
    refine vV.widen (n' := 1) (k' := 6) (by omega) (by omega) ?_
    exact v_iretH (P := pL z.2 out none) hx hb hr hlk ⟨A, B, hA, hB, rfl⟩ dL_ahead_14
def rmL_at : Room := { frames := 9, cells := 1, slots := 6, locals := 165 }
set_option maxHeartbeats 4000000 in
set_option maxRecDepth 100000 in
theorem mL_at (l : Launch) (hfl : l.stackTraces = false) (D : vD) (x : Nat) (x1 : Int32) (x2 : Int32) (out : Nat) (M : vMe) (f : Nat → Value) (z : ((Int64 ⊕ Nat) × vMe)) (h : tX9_at x x1 x2 M = some z) (hx9 : (M.1 x).1 = 11) (ho : z.2.1 out = (104, 1, f)) (hob : z.2.2.2.2 ≤ out) (hne : ∀ j, z.1 = .inr j → mpA j ≠ 0) : Met l yL_at (Cond.codeWith yL_at cL_at 5 (some .int) [(0, 9, 12, 22), (0, 9, 16, 13)] :: TB) rmL_at (va_Pc [.ref x, .int x1, .int x2, .ref out] (vPre D M)) (qH D (pL z.2 out (Sum.elim (fun v => some (.long v)) (fun _ => none) z.1)) (.int (Sum.elim (fun _ => 0) mpA z.1))) 1 6 (vA D) := by
  refine v_ofH (cc := cL_at) (maxL := 5) (ret := (some .int)) (by decide) (Nat.le_of_ble_eq_true rfl) ?_
  intro p e s m args below meth c hx hb hr hml hown hts hlk htb hSS hR0 ls hl
  have hK := hSS.1
  have hl : lv_has ls 5 [(0, .ref x), (1, .int x1), (2, .int x2), (3, .ref out)] := hl
  refine w_aload_n hx hb dL_at_0 rfl (lv_at hl 3 rfl) ?_
  refine w_iconst (v := 0) hx hb dL_at_1 (by decide) ?_
  refine w_aload_n hx hb dL_at_2 rfl (lv_at hl 0 rfl) ?_
  refine w_iload_n hx hb dL_at_3 rfl (lv_at hl 1 rfl) ?_
  refine w_iload_n hx hb dL_at_4 rfl (lv_at hl 2 rfl) ?_
  rcases hz : z.1 with v | j
  · refine v_callXok (ov := some (.long v)) (mcz := 1) (msz := 6) (fun H locs hR hS => vx_runV (As := [.int x1, .int x2]) (rest := [.int 0, .ref out]) ⟨hx, hb, hml, hown, hts⟩ (mX9_at l hfl D x x1 x2 M z h) (cwV 2 hts (gdV kl1066 kl1067 kl1068 kw77 kl1069) rfl rfl rfl (by decide +kernel) ⟨Nat.le_of_ble_eq_true rfl, Nat.le_of_ble_eq_true rfl⟩) (v_preV (ci := 10) hSS hR hS hx9 (by decide) rfl [.int x1, .int x2]) rfl rfl hl.1 rfl (lv_room (Nat.le_of_ble_eq_true rfl)) dL_at_5 ⟨by show _ + _ ≤ 1; omega, by show _ + _ ≤ 6; omega⟩) (by rw [hz]; rfl) (by rw [hz]; rfl) (st1 := [.long v, .int 0, .ref out]) rfl ?_
    have hw : sA z.2 out 104 0 (.long v) = some (wr z.2 out 0 (.long v)) := by
      show (if (z.2.1 out).1 = 104 ∧ ¬ ((0 : Int32) < 0 ∨ (z.2.1 out).2.1 ≤ (0 : Int32).toNatClampNeg) ∧ z.2.2.2.2 ≤ out then some (wr z.2 out (0 : Int32).toNatClampNeg (.long v)) else none) = _
      rw [ho, if_pos ⟨rfl, z_in, hob⟩]; rfl
    refine v_last hx hb hK hw dL_at_8 ?_
    refine w_goto (tgt := 20) hx hb dL_at_9 (by decide) ?_
    refine w_iconst (v := 0) hx hb dL_at_20 (by decide) ?_
    refine vV.widen (n' := 1) (k' := 6) (by omega) (by omega) ?_
    exact v_iretH (P := pL z.2 out (some (.long v))) hx hb hr hlk rfl dL_at_21
  · rcases mpA_v (hne j hz) with rfl | rfl
    · refine v_callXca (mcz := 1) (msz := 6) hown hSS (j := 1) (by decide) [] (⟨0, 9, 12, 22⟩ : ExceptionTableEntry) [(⟨0, 9, 16, 13⟩ : ExceptionTableEntry)] htb (fun z hz9 => absurd hz9 (List.not_mem_nil)) (by decide) (by decide) (hts _ kl994) (fun H locs hR hS => vx_runV (As := [.int x1, .int x2]) (rest := [.int 0, .ref out]) ⟨hx, hb, hml, hown, hts⟩ (mX9_at l hfl D x x1 x2 M z h) (cwV 2 hts (gdV kl1066 kl1067 kl1068 kw77 kl1069) rfl rfl rfl (by decide +kernel) ⟨Nat.le_of_ble_eq_true rfl, Nat.le_of_ble_eq_true rfl⟩) (v_preV (ci := 10) hSS hR hS hx9 (by decide) rfl [.int x1, .int x2]) rfl rfl hl.1 rfl (lv_room (Nat.le_of_ble_eq_true rfl)) dL_at_5 ⟨by show _ + _ ≤ 1; omega, by show _ + _ ≤ 6; omega⟩) (by rw [hz]; rfl) (by rw [hz]; rfl) (fun A B q hA hB => ?_)
      refine w_astore (lv' := (4, .ref q) :: [(0, .ref x), (1, .int x1), (2, .int x2), (3, .ref out)]) hx hb dL_at_12 hl (by decide) rfl (fun ls hl => ?_)
      refine w_iconst (v := 1) hx hb dL_at_14 (by decide) ?_
      refine vV.widen (n' := 1) (k' := 6) (by omega) (by omega) ?_
      exact v_iretH (P := pL z.2 out none) hx hb hr hlk ⟨A, B, hA, hB, rfl⟩ dL_at_15
    · refine v_callXca (mcz := 1) (msz := 6) hown hSS (j := 0) (by decide) [(⟨0, 9, 12, 22⟩ : ExceptionTableEntry)] (⟨0, 9, 16, 13⟩ : ExceptionTableEntry) [] htb (fun z hz9 => by cases List.mem_singleton.mp hz9; exact Or.inr ⟨by decide, vE 1, hts _ kl994, hSS.2.2.2.2.2.2.2.2.2.1 0 1 (by decide) (by decide) (by decide)⟩) (by decide) (by decide) (hts _ kl469) (fun H locs hR hS => vx_runV (As := [.int x1, .int x2]) (rest := [.int 0, .ref out]) ⟨hx, hb, hml, hown, hts⟩ (mX9_at l hfl D x x1 x2 M z h) (cwV 2 hts (gdV kl1066 kl1067 kl1068 kw77 kl1069) rfl rfl rfl (by decide +kernel) ⟨Nat.le_of_ble_eq_true rfl, Nat.le_of_ble_eq_true rfl⟩) (v_preV (ci := 10) hSS hR hS hx9 (by decide) rfl [.int x1, .int x2]) rfl rfl hl.1 rfl (lv_room (Nat.le_of_ble_eq_true rfl)) dL_at_5 ⟨by show _ + _ ≤ 1; omega, by show _ + _ ≤ 6; omega⟩) (by rw [hz]; rfl) (by rw [hz]; rfl) (fun A B q hA hB => ?_)
      refine w_astore (lv' := (4, .ref q) :: [(0, .ref x), (1, .int x1), (2, .int x2), (3, .ref out)]) hx hb dL_at_16 hl (by decide) rfl (fun ls hl => ?_)
      refine w_iconst (v := 2) hx hb dL_at_18 (by decide) ?_
      refine vV.widen (n' := 1) (k' := 6) (by omega) (by omega) ?_
      exact v_iretH (P := pL z.2 out none) hx hb hr hlk ⟨A, B, hA, hB, rfl⟩ dL_at_19
def rmL_cell : Room := { frames := 9, cells := 1, slots := 6, locals := 166 }
set_option maxHeartbeats 4000000 in
set_option maxRecDepth 100000 in
theorem mL_cell (l : Launch) (hfl : l.stackTraces = false) (D : vD) (x : Nat) (x1 : Int32) (x2 : Int32) (x3 : Int32) (out : Nat) (M : vMe) (f : Nat → Value) (z : ((Int32 ⊕ Nat) × vMe)) (h : tX9_cell x x1 x2 x3 M = some z) (hx9 : (M.1 x).1 = 11) (ho : z.2.1 out = (104, 1, f)) (hob : z.2.2.2.2 ≤ out) (hne : ∀ j, z.1 = .inr j → mpA j ≠ 0) : Met l yL_cell (Cond.codeWith yL_cell cL_cell 6 (some .int) [(0, 12, 15, 22), (0, 12, 19, 13)] :: TB) rmL_cell (va_Pc [.ref x, .int x1, .int x2, .int x3, .ref out] (vPre D M)) (qH D (pL z.2 out (Sum.elim (fun v => some (.long v.toInt64)) (fun _ => none) z.1)) (.int (Sum.elim (fun _ => 0) mpA z.1))) 1 6 (vA D) := by
  refine v_ofH (cc := cL_cell) (maxL := 6) (ret := (some .int)) (by decide) (Nat.le_of_ble_eq_true rfl) ?_
  intro p e s m args below meth c hx hb hr hml hown hts hlk htb hSS hR0 ls hl
  have hK := hSS.1
  have hl : lv_has ls 6 [(0, .ref x), (1, .int x1), (2, .int x2), (3, .int x3), (4, .ref out)] := hl
  refine w_aload hx hb dL_cell_0 (lv_at hl 4 rfl) ?_
  refine w_iconst (v := 0) hx hb dL_cell_2 (by decide) ?_
  refine w_aload_n hx hb dL_cell_3 rfl (lv_at hl 0 rfl) ?_
  refine w_iload_n hx hb dL_cell_4 rfl (lv_at hl 1 rfl) ?_
  refine w_iload_n hx hb dL_cell_5 rfl (lv_at hl 2 rfl) ?_
  refine w_iload_n hx hb dL_cell_6 rfl (lv_at hl 3 rfl) ?_
  rcases hz : z.1 with v | j
  · refine v_callXok (ov := some (.int v)) (mcz := 1) (msz := 6) (fun H locs hR hS => vx_runV (As := [.int x1, .int x2, .int x3]) (rest := [.int 0, .ref out]) ⟨hx, hb, hml, hown, hts⟩ (mX9_cell l hfl D x x1 x2 x3 M z h) (cwV 3 hts (gdV kl1030 kl1031 kl1032 kw77 kl1033) rfl rfl rfl (by decide +kernel) ⟨Nat.le_of_ble_eq_true rfl, Nat.le_of_ble_eq_true rfl⟩) (v_preV (ci := 10) hSS hR hS hx9 (by decide) rfl [.int x1, .int x2, .int x3]) rfl rfl hl.1 rfl (lv_room (Nat.le_of_ble_eq_true rfl)) dL_cell_7 ⟨by show _ + _ ≤ 1; omega, by show _ + _ ≤ 6; omega⟩) (by rw [hz]; rfl) (by rw [hz]; rfl) (st1 := [.int v, .int 0, .ref out]) rfl ?_
    refine w_i2l hx hb dL_cell_10 ?_
    have hw : sA z.2 out 104 0 (.long v.toInt64) = some (wr z.2 out 0 (.long v.toInt64)) := by
      show (if (z.2.1 out).1 = 104 ∧ ¬ ((0 : Int32) < 0 ∨ (z.2.1 out).2.1 ≤ (0 : Int32).toNatClampNeg) ∧ z.2.2.2.2 ≤ out then some (wr z.2 out (0 : Int32).toNatClampNeg (.long v.toInt64)) else none) = _
      rw [ho, if_pos ⟨rfl, z_in, hob⟩]; rfl
    refine v_last hx hb hK hw dL_cell_11 ?_
    refine w_goto (tgt := 23) hx hb dL_cell_12 (by decide) ?_
    refine w_iconst (v := 0) hx hb dL_cell_23 (by decide) ?_
    refine vV.widen (n' := 1) (k' := 6) (by omega) (by omega) ?_
    exact v_iretH (P := pL z.2 out (some (.long v.toInt64))) hx hb hr hlk rfl dL_cell_24
  · rcases mpA_v (hne j hz) with rfl | rfl
    · refine v_callXca (mcz := 1) (msz := 6) hown hSS (j := 1) (by decide) [] (⟨0, 12, 15, 22⟩ : ExceptionTableEntry) [(⟨0, 12, 19, 13⟩ : ExceptionTableEntry)] htb (fun z hz9 => absurd hz9 (List.not_mem_nil)) (by decide) (by decide) (hts _ kl994) (fun H locs hR hS => vx_runV (As := [.int x1, .int x2, .int x3]) (rest := [.int 0, .ref out]) ⟨hx, hb, hml, hown, hts⟩ (mX9_cell l hfl D x x1 x2 x3 M z h) (cwV 3 hts (gdV kl1030 kl1031 kl1032 kw77 kl1033) rfl rfl rfl (by decide +kernel) ⟨Nat.le_of_ble_eq_true rfl, Nat.le_of_ble_eq_true rfl⟩) (v_preV (ci := 10) hSS hR hS hx9 (by decide) rfl [.int x1, .int x2, .int x3]) rfl rfl hl.1 rfl (lv_room (Nat.le_of_ble_eq_true rfl)) dL_cell_7 ⟨by show _ + _ ≤ 1; omega, by show _ + _ ≤ 6; omega⟩) (by rw [hz]; rfl) (by rw [hz]; rfl) (fun A B q hA hB => ?_)
      refine w_astore (lv' := (5, .ref q) :: [(0, .ref x), (1, .int x1), (2, .int x2), (3, .int x3), (4, .ref out)]) hx hb dL_cell_15 hl (by decide) rfl (fun ls hl => ?_)
      refine w_iconst (v := 1) hx hb dL_cell_17 (by decide) ?_
      refine vV.widen (n' := 1) (k' := 6) (by omega) (by omega) ?_
      exact v_iretH (P := pL z.2 out none) hx hb hr hlk ⟨A, B, hA, hB, rfl⟩ dL_cell_18
    · refine v_callXca (mcz := 1) (msz := 6) hown hSS (j := 0) (by decide) [(⟨0, 12, 15, 22⟩ : ExceptionTableEntry)] (⟨0, 12, 19, 13⟩ : ExceptionTableEntry) [] htb (fun z hz9 => by cases List.mem_singleton.mp hz9; exact Or.inr ⟨by decide, vE 1, hts _ kl994, hSS.2.2.2.2.2.2.2.2.2.1 0 1 (by decide) (by decide) (by decide)⟩) (by decide) (by decide) (hts _ kl469) (fun H locs hR hS => vx_runV (As := [.int x1, .int x2, .int x3]) (rest := [.int 0, .ref out]) ⟨hx, hb, hml, hown, hts⟩ (mX9_cell l hfl D x x1 x2 x3 M z h) (cwV 3 hts (gdV kl1030 kl1031 kl1032 kw77 kl1033) rfl rfl rfl (by decide +kernel) ⟨Nat.le_of_ble_eq_true rfl, Nat.le_of_ble_eq_true rfl⟩) (v_preV (ci := 10) hSS hR hS hx9 (by decide) rfl [.int x1, .int x2, .int x3]) rfl rfl hl.1 rfl (lv_room (Nat.le_of_ble_eq_true rfl)) dL_cell_7 ⟨by show _ + _ ≤ 1; omega, by show _ + _ ≤ 6; omega⟩) (by rw [hz]; rfl) (by rw [hz]; rfl) (fun A B q hA hB => ?_)
      refine w_astore (lv' := (5, .ref q) :: [(0, .ref x), (1, .int x1), (2, .int x2), (3, .int x3), (4, .ref out)]) hx hb dL_cell_19 hl (by decide) rfl (fun ls hl => ?_)
      refine w_iconst (v := 2) hx hb dL_cell_21 (by decide) ?_
      refine vV.widen (n' := 1) (k' := 6) (by omega) (by omega) ?_
      exact v_iretH (P := pL z.2 out none) hx hb hr hlk ⟨A, B, hA, hB, rfl⟩ dL_cell_22
def rmL_clear : Room := { frames := 9, cells := 50, slots := 2001, locals := 167 }
set_option maxHeartbeats 4000000 in
set_option maxRecDepth 100000 in
theorem mL_clear (l : Launch) (hfl : l.stackTraces = false) (D : vD) (x : Nat) (x1 : Int32) (out : Nat) (M : vMe) (f : Nat → Value) (z : ((Int32 ⊕ Nat) × vMe)) (h : tX9_clear D.2.2.2.2 x x1 M = some z) (hx9 : (M.1 x).1 = 11) (ho : z.2.1 out = (104, 1, f)) (hob : z.2.2.2.2 ≤ out) (hne : ∀ j, z.1 = .inr j → mp1 j ≠ 0) : Met l yL_clear (Cond.codeWith yL_clear cL_clear 4 (some .int) [(0, 9, 12, 22)] :: TB) rmL_clear (va_Pc [.ref x, .int x1, .ref out] (vPre D M)) (qH D (pL z.2 out (Sum.elim (fun v => some (.long v.toInt64)) (fun _ => none) z.1)) (.int (Sum.elim (fun _ => 0) mp1 z.1))) 50 2001 (vA D) := by
  refine v_ofH (cc := cL_clear) (maxL := 4) (ret := (some .int)) (by decide) (Nat.le_of_ble_eq_true rfl) ?_
  intro p e s m args below meth c hx hb hr hml hown hts hlk htb hSS hR0 ls hl
  have hK := hSS.1
  have hl : lv_has ls 4 [(0, .ref x), (1, .int x1), (2, .ref out)] := hl
  refine w_aload_n hx hb dL_clear_0 rfl (lv_at hl 2 rfl) ?_
  refine w_iconst (v := 0) hx hb dL_clear_1 (by decide) ?_
  refine w_aload_n hx hb dL_clear_2 rfl (lv_at hl 0 rfl) ?_
  refine w_iload_n hx hb dL_clear_3 rfl (lv_at hl 1 rfl) ?_
  rcases hz : z.1 with v | j
  · refine v_callXok (ov := some (.int v)) (mcz := 50) (msz := 2001) (fun H locs hR hS => vx_runV (As := [.int x1]) (rest := [.int 0, .ref out]) ⟨hx, hb, hml, hown, hts⟩ (mX9_clear l hfl D x x1 M z h) (cwV 1 hts (gdV kl1202 kl1203 kl1204 kw77 kl1205) rfl rfl rfl (by decide +kernel) ⟨Nat.le_of_ble_eq_true rfl, Nat.le_of_ble_eq_true rfl⟩) (v_preV (ci := 10) hSS hR hS hx9 (by decide) rfl [.int x1]) rfl rfl hl.1 rfl (lv_room (Nat.le_of_ble_eq_true rfl)) dL_clear_4 ⟨by show _ + _ ≤ 50; omega, by show _ + _ ≤ 2001; omega⟩) (by rw [hz]; rfl) (by rw [hz]; rfl) (st1 := [.int v, .int 0, .ref out]) rfl ?_
    refine w_i2l hx hb dL_clear_7 ?_
    have hw : sA z.2 out 104 0 (.long v.toInt64) = some (wr z.2 out 0 (.long v.toInt64)) := by
      show (if (z.2.1 out).1 = 104 ∧ ¬ ((0 : Int32) < 0 ∨ (z.2.1 out).2.1 ≤ (0 : Int32).toNatClampNeg) ∧ z.2.2.2.2 ≤ out then some (wr z.2 out (0 : Int32).toNatClampNeg (.long v.toInt64)) else none) = _
      rw [ho, if_pos ⟨rfl, z_in, hob⟩]; rfl
    refine v_last hx hb hK hw dL_clear_8 ?_
    refine w_goto (tgt := 15) hx hb dL_clear_9 (by decide) ?_
    refine w_iconst (v := 0) hx hb dL_clear_15 (by decide) ?_
    refine vV.widen (n' := 50) (k' := 2001) (by omega) (by omega) ?_
    exact v_iretH (P := pL z.2 out (some (.long v.toInt64))) hx hb hr hlk rfl dL_clear_16
  · obtain rfl := mp1_v (hne j hz)
    refine v_callXca (mcz := 50) (msz := 2001) hown hSS (j := 1) (by decide) [] (⟨0, 9, 12, 22⟩ : ExceptionTableEntry) [] htb (fun z hz9 => absurd hz9 (List.not_mem_nil)) (by decide) (by decide) (hts _ kl994) (fun H locs hR hS => vx_runV (As := [.int x1]) (rest := [.int 0, .ref out]) ⟨hx, hb, hml, hown, hts⟩ (mX9_clear l hfl D x x1 M z h) (cwV 1 hts (gdV kl1202 kl1203 kl1204 kw77 kl1205) rfl rfl rfl (by decide +kernel) ⟨Nat.le_of_ble_eq_true rfl, Nat.le_of_ble_eq_true rfl⟩) (v_preV (ci := 10) hSS hR hS hx9 (by decide) rfl [.int x1]) rfl rfl hl.1 rfl (lv_room (Nat.le_of_ble_eq_true rfl)) dL_clear_4 ⟨by show _ + _ ≤ 50; omega, by show _ + _ ≤ 2001; omega⟩) (by rw [hz]; rfl) (by rw [hz]; rfl) (fun A B q hA hB => ?_)
    refine w_astore_n (lv' := (3, .ref q) :: [(0, .ref x), (1, .int x1), (2, .ref out)]) hx hb dL_clear_12 rfl hl (by decide) rfl (fun ls hl => ?_)
    refine w_iconst (v := 1) hx hb dL_clear_13 (by decide) ?_
    refine vV.widen (n' := 50) (k' := 2001) (by omega) (by omega) ?_
    exact v_iretH (P := pL z.2 out none) hx hb hr hlk ⟨A, B, hA, hB, rfl⟩ dL_clear_14
def rmL_close : Room := { frames := 8, cells := 50, slots := 2001, locals := 167 }
set_option maxHeartbeats 4000000 in
set_option maxRecDepth 100000 in
theorem mL_close (l : Launch) (hfl : l.stackTraces = false) (D : vD) (x : Nat) (x1 : Int32) (out : Nat) (M : vMe) (f : Nat → Value) (z : ((Int32 ⊕ Nat) × vMe)) (h : tX9_close D.2.2.2.2 x x1 M = some z) (hx9 : (M.1 x).1 = 11) (ho : z.2.1 out = (104, 1, f)) (hob : z.2.2.2.2 ≤ out) (hne : ∀ j, z.1 = .inr j → mp1 j ≠ 0) : Met l yL_close (Cond.codeWith yL_close cL_close 4 (some .int) [(0, 9, 12, 22)] :: TB) rmL_close (va_Pc [.ref x, .int x1, .ref out] (vPre D M)) (qH D (pL z.2 out (Sum.elim (fun v => some (.long v.toInt64)) (fun _ => none) z.1)) (.int (Sum.elim (fun _ => 0) mp1 z.1))) 50 2001 (vA D) := by
  refine v_ofH (cc := cL_close) (maxL := 4) (ret := (some .int)) (by decide) (Nat.le_of_ble_eq_true rfl) ?_
  intro p e s m args below meth c hx hb hr hml hown hts hlk htb hSS hR0 ls hl
  have hK := hSS.1
  have hl : lv_has ls 4 [(0, .ref x), (1, .int x1), (2, .ref out)] := hl
  refine w_aload_n hx hb dL_close_0 rfl (lv_at hl 2 rfl) ?_
  refine w_iconst (v := 0) hx hb dL_close_1 (by decide) ?_
  refine w_aload_n hx hb dL_close_2 rfl (lv_at hl 0 rfl) ?_
  refine w_iload_n hx hb dL_close_3 rfl (lv_at hl 1 rfl) ?_
  rcases hz : z.1 with v | j
  · refine v_callXok (ov := some (.int v)) (mcz := 50) (msz := 2001) (fun H locs hR hS => vx_runV (As := [.int x1]) (rest := [.int 0, .ref out]) ⟨hx, hb, hml, hown, hts⟩ (mX9_close l hfl D x x1 M z h) (cwV 1 hts (gdV kl1251 kl1252 kl1253 kw77 kl1254) rfl rfl rfl (by decide +kernel) ⟨Nat.le_of_ble_eq_true rfl, Nat.le_of_ble_eq_true rfl⟩) (v_preV (ci := 10) hSS hR hS hx9 (by decide) rfl [.int x1]) rfl rfl hl.1 rfl (lv_room (Nat.le_of_ble_eq_true rfl)) dL_close_4 ⟨by show _ + _ ≤ 50; omega, by show _ + _ ≤ 2001; omega⟩) (by rw [hz]; rfl) (by rw [hz]; rfl) (st1 := [.int v, .int 0, .ref out]) rfl ?_
    refine w_i2l hx hb dL_close_7 ?_
    have hw : sA z.2 out 104 0 (.long v.toInt64) = some (wr z.2 out 0 (.long v.toInt64)) := by
      show (if (z.2.1 out).1 = 104 ∧ ¬ ((0 : Int32) < 0 ∨ (z.2.1 out).2.1 ≤ (0 : Int32).toNatClampNeg) ∧ z.2.2.2.2 ≤ out then some (wr z.2 out (0 : Int32).toNatClampNeg (.long v.toInt64)) else none) = _
      rw [ho, if_pos ⟨rfl, z_in, hob⟩]; rfl
    refine v_last hx hb hK hw dL_close_8 ?_
    refine w_goto (tgt := 15) hx hb dL_close_9 (by decide) ?_
    refine w_iconst (v := 0) hx hb dL_close_15 (by decide) ?_
    refine vV.widen (n' := 50) (k' := 2001) (by omega) (by omega) ?_
    exact v_iretH (P := pL z.2 out (some (.long v.toInt64))) hx hb hr hlk rfl dL_close_16
  · obtain rfl := mp1_v (hne j hz)
    refine v_callXca (mcz := 50) (msz := 2001) hown hSS (j := 1) (by decide) [] (⟨0, 9, 12, 22⟩ : ExceptionTableEntry) [] htb (fun z hz9 => absurd hz9 (List.not_mem_nil)) (by decide) (by decide) (hts _ kl994) (fun H locs hR hS => vx_runV (As := [.int x1]) (rest := [.int 0, .ref out]) ⟨hx, hb, hml, hown, hts⟩ (mX9_close l hfl D x x1 M z h) (cwV 1 hts (gdV kl1251 kl1252 kl1253 kw77 kl1254) rfl rfl rfl (by decide +kernel) ⟨Nat.le_of_ble_eq_true rfl, Nat.le_of_ble_eq_true rfl⟩) (v_preV (ci := 10) hSS hR hS hx9 (by decide) rfl [.int x1]) rfl rfl hl.1 rfl (lv_room (Nat.le_of_ble_eq_true rfl)) dL_close_4 ⟨by show _ + _ ≤ 50; omega, by show _ + _ ≤ 2001; omega⟩) (by rw [hz]; rfl) (by rw [hz]; rfl) (fun A B q hA hB => ?_)
    refine w_astore_n (lv' := (3, .ref q) :: [(0, .ref x), (1, .int x1), (2, .ref out)]) hx hb dL_close_12 rfl hl (by decide) rfl (fun ls hl => ?_)
    refine w_iconst (v := 1) hx hb dL_close_13 (by decide) ?_
    refine vV.widen (n' := 50) (k' := 2001) (by omega) (by omega) ?_
    exact v_iretH (P := pL z.2 out none) hx hb hr hlk ⟨A, B, hA, hB, rfl⟩ dL_close_14
def rmL_common : Room := { frames := 9, cells := 1, slots := 6, locals := 166 }
set_option maxHeartbeats 4000000 in
set_option maxRecDepth 100000 in
theorem mL_common (l : Launch) (hfl : l.stackTraces = false) (D : vD) (x : Nat) (x1 : Int32) (x2 : Int32) (out : Nat) (M : vMe) (f : Nat → Value) (z : ((Int32 ⊕ Nat) × vMe)) (h : tX9_common x x1 x2 M = some z) (hx9 : (M.1 x).1 = 11) (ho : z.2.1 out = (104, 1, f)) (hob : z.2.2.2.2 ≤ out) (hne : ∀ j, z.1 = .inr j → mp1 j ≠ 0) : Met l yL_common (Cond.codeWith yL_common cL_common 5 (some .int) [(0, 10, 13, 22)] :: TB) rmL_common (va_Pc [.ref x, .int x1, .int x2, .ref out] (vPre D M)) (qH D (pL z.2 out (Sum.elim (fun v => some (.long v.toInt64)) (fun _ => none) z.1)) (.int (Sum.elim (fun _ => 0) mp1 z.1))) 1 6 (vA D) := by
  refine v_ofH (cc := cL_common) (maxL := 5) (ret := (some .int)) (by decide) (Nat.le_of_ble_eq_true rfl) ?_
  intro p e s m args below meth c hx hb hr hml hown hts hlk htb hSS hR0 ls hl
  have hK := hSS.1
  have hl : lv_has ls 5 [(0, .ref x), (1, .int x1), (2, .int x2), (3, .ref out)] := hl
  refine w_aload_n hx hb dL_common_0 rfl (lv_at hl 3 rfl) ?_
  refine w_iconst (v := 0) hx hb dL_common_1 (by decide) ?_
  refine w_aload_n hx hb dL_common_2 rfl (lv_at hl 0 rfl) ?_
  refine w_iload_n hx hb dL_common_3 rfl (lv_at hl 1 rfl) ?_
  refine w_iload_n hx hb dL_common_4 rfl (lv_at hl 2 rfl) ?_
  rcases hz : z.1 with v | j
  · refine v_callXok (ov := some (.int v)) (mcz := 1) (msz := 6) (fun H locs hR hS => vx_runV (As := [.int x1, .int x2]) (rest := [.int 0, .ref out]) ⟨hx, hb, hml, hown, hts⟩ (mX9_common l hfl D x x1 x2 M z h) (cwV 2 hts (gdV kl1155 kl1156 kl1157 kw77 kl1158) rfl rfl rfl (by decide +kernel) ⟨Nat.le_of_ble_eq_true rfl, Nat.le_of_ble_eq_true rfl⟩) (v_preV (ci := 10) hSS hR hS hx9 (by decide) rfl [.int x1, .int x2]) rfl rfl hl.1 rfl (lv_room (Nat.le_of_ble_eq_true rfl)) dL_common_5 ⟨by show _ + _ ≤ 1; omega, by show _ + _ ≤ 6; omega⟩) (by rw [hz]; rfl) (by rw [hz]; rfl) (st1 := [.int v, .int 0, .ref out]) rfl ?_
    refine w_i2l hx hb dL_common_8 ?_
    have hw : sA z.2 out 104 0 (.long v.toInt64) = some (wr z.2 out 0 (.long v.toInt64)) := by
      show (if (z.2.1 out).1 = 104 ∧ ¬ ((0 : Int32) < 0 ∨ (z.2.1 out).2.1 ≤ (0 : Int32).toNatClampNeg) ∧ z.2.2.2.2 ≤ out then some (wr z.2 out (0 : Int32).toNatClampNeg (.long v.toInt64)) else none) = _
      rw [ho, if_pos ⟨rfl, z_in, hob⟩]; rfl
    refine v_last hx hb hK hw dL_common_9 ?_
    refine w_goto (tgt := 17) hx hb dL_common_10 (by decide) ?_
    refine w_iconst (v := 0) hx hb dL_common_17 (by decide) ?_
    refine vV.widen (n' := 1) (k' := 6) (by omega) (by omega) ?_
    exact v_iretH (P := pL z.2 out (some (.long v.toInt64))) hx hb hr hlk rfl dL_common_18
  · obtain rfl := mp1_v (hne j hz)
    refine v_callXca (mcz := 1) (msz := 6) hown hSS (j := 1) (by decide) [] (⟨0, 10, 13, 22⟩ : ExceptionTableEntry) [] htb (fun z hz9 => absurd hz9 (List.not_mem_nil)) (by decide) (by decide) (hts _ kl994) (fun H locs hR hS => vx_runV (As := [.int x1, .int x2]) (rest := [.int 0, .ref out]) ⟨hx, hb, hml, hown, hts⟩ (mX9_common l hfl D x x1 x2 M z h) (cwV 2 hts (gdV kl1155 kl1156 kl1157 kw77 kl1158) rfl rfl rfl (by decide +kernel) ⟨Nat.le_of_ble_eq_true rfl, Nat.le_of_ble_eq_true rfl⟩) (v_preV (ci := 10) hSS hR hS hx9 (by decide) rfl [.int x1, .int x2]) rfl rfl hl.1 rfl (lv_room (Nat.le_of_ble_eq_true rfl)) dL_common_5 ⟨by show _ + _ ≤ 1; omega, by show _ + _ ≤ 6; omega⟩) (by rw [hz]; rfl) (by rw [hz]; rfl) (fun A B q hA hB => ?_)
    refine w_astore (lv' := (4, .ref q) :: [(0, .ref x), (1, .int x1), (2, .int x2), (3, .ref out)]) hx hb dL_common_13 hl (by decide) rfl (fun ls hl => ?_)
    refine w_iconst (v := 1) hx hb dL_common_15 (by decide) ?_
    refine vV.widen (n' := 1) (k' := 6) (by omega) (by omega) ?_
    exact v_iretH (P := pL z.2 out none) hx hb hr hlk ⟨A, B, hA, hB, rfl⟩ dL_common_16
def rmL_cursor : Room := { frames := 8, cells := 1, slots := 6, locals := 144 }
set_option maxHeartbeats 4000000 in
set_option maxRecDepth 100000 in
theorem mL_cursor (l : Launch) (hfl : l.stackTraces = false) (D : vD) (x : Nat) (x1 : Int32) (x2 : Int32) (out : Nat) (M : vMe) (f : Nat → Value) (z : ((Int32 ⊕ Nat) × vMe)) (h : tX9_cursor x x1 x2 M = some z) (hx9 : (M.1 x).1 = 11) (ho : z.2.1 out = (104, 1, f)) (hob : z.2.2.2.2 ≤ out) (hne : ∀ j, z.1 = .inr j → mpA j ≠ 0) : Met l yL_cursor (Cond.codeWith yL_cursor cL_cursor 5 (some .int) [(0, 10, 13, 22), (0, 10, 17, 13)] :: TB) rmL_cursor (va_Pc [.ref x, .int x1, .int x2, .ref out] (vPre D M)) (qH D (pL z.2 out (Sum.elim (fun v => some (.long v.toInt64)) (fun _ => none) z.1)) (.int (Sum.elim (fun _ => 0) mpA z.1))) 1 6 (vA D) := by
  refine v_ofH (cc := cL_cursor) (maxL := 5) (ret := (some .int)) (by decide) (Nat.le_of_ble_eq_true rfl) ?_
  intro p e s m args below meth c hx hb hr hml hown hts hlk htb hSS hR0 ls hl
  have hK := hSS.1
  have hl : lv_has ls 5 [(0, .ref x), (1, .int x1), (2, .int x2), (3, .ref out)] := hl
  refine w_aload_n hx hb dL_cursor_0 rfl (lv_at hl 3 rfl) ?_
  refine w_iconst (v := 0) hx hb dL_cursor_1 (by decide) ?_
  refine w_aload_n hx hb dL_cursor_2 rfl (lv_at hl 0 rfl) ?_
  refine w_iload_n hx hb dL_cursor_3 rfl (lv_at hl 1 rfl) ?_
  refine w_iload_n hx hb dL_cursor_4 rfl (lv_at hl 2 rfl) ?_
  rcases hz : z.1 with v | j
  · refine v_callXok (ov := some (.int v)) (mcz := 1) (msz := 6) (fun H locs hR hS => vx_runV (As := [.int x1, .int x2]) (rest := [.int 0, .ref out]) ⟨hx, hb, hml, hown, hts⟩ (mX9_cursor l hfl D x x1 x2 M z h) (cwV 2 hts (gdV kl1124 kl1125 kl1126 kw77 kl1127) rfl rfl rfl (by decide +kernel) ⟨Nat.le_of_ble_eq_true rfl, Nat.le_of_ble_eq_true rfl⟩) (v_preV (ci := 10) hSS hR hS hx9 (by decide) rfl [.int x1, .int x2]) rfl rfl hl.1 rfl (lv_room (Nat.le_of_ble_eq_true rfl)) dL_cursor_5 ⟨by show _ + _ ≤ 1; omega, by show _ + _ ≤ 6; omega⟩) (by rw [hz]; rfl) (by rw [hz]; rfl) (st1 := [.int v, .int 0, .ref out]) rfl ?_
    refine w_i2l hx hb dL_cursor_8 ?_
    have hw : sA z.2 out 104 0 (.long v.toInt64) = some (wr z.2 out 0 (.long v.toInt64)) := by
      show (if (z.2.1 out).1 = 104 ∧ ¬ ((0 : Int32) < 0 ∨ (z.2.1 out).2.1 ≤ (0 : Int32).toNatClampNeg) ∧ z.2.2.2.2 ≤ out then some (wr z.2 out (0 : Int32).toNatClampNeg (.long v.toInt64)) else none) = _
      rw [ho, if_pos ⟨rfl, z_in, hob⟩]; rfl
    refine v_last hx hb hK hw dL_cursor_9 ?_
    refine w_goto (tgt := 21) hx hb dL_cursor_10 (by decide) ?_
    refine w_iconst (v := 0) hx hb dL_cursor_21 (by decide) ?_
    refine vV.widen (n' := 1) (k' := 6) (by omega) (by omega) ?_
    exact v_iretH (P := pL z.2 out (some (.long v.toInt64))) hx hb hr hlk rfl dL_cursor_22
  · rcases mpA_v (hne j hz) with rfl | rfl
    · refine v_callXca (mcz := 1) (msz := 6) hown hSS (j := 1) (by decide) [] (⟨0, 10, 13, 22⟩ : ExceptionTableEntry) [(⟨0, 10, 17, 13⟩ : ExceptionTableEntry)] htb (fun z hz9 => absurd hz9 (List.not_mem_nil)) (by decide) (by decide) (hts _ kl994) (fun H locs hR hS => vx_runV (As := [.int x1, .int x2]) (rest := [.int 0, .ref out]) ⟨hx, hb, hml, hown, hts⟩ (mX9_cursor l hfl D x x1 x2 M z h) (cwV 2 hts (gdV kl1124 kl1125 kl1126 kw77 kl1127) rfl rfl rfl (by decide +kernel) ⟨Nat.le_of_ble_eq_true rfl, Nat.le_of_ble_eq_true rfl⟩) (v_preV (ci := 10) hSS hR hS hx9 (by decide) rfl [.int x1, .int x2]) rfl rfl hl.1 rfl (lv_room (Nat.le_of_ble_eq_true rfl)) dL_cursor_5 ⟨by show _ + _ ≤ 1; omega, by show _ + _ ≤ 6; omega⟩) (by rw [hz]; rfl) (by rw [hz]; rfl) (fun A B q hA hB => ?_)
      refine w_astore (lv' := (4, .ref q) :: [(0, .ref x), (1, .int x1), (2, .int x2), (3, .ref out)]) hx hb dL_cursor_13 hl (by decide) rfl (fun ls hl => ?_)
      refine w_iconst (v := 1) hx hb dL_cursor_15 (by decide) ?_
      refine vV.widen (n' := 1) (k' := 6) (by omega) (by omega) ?_
      exact v_iretH (P := pL z.2 out none) hx hb hr hlk ⟨A, B, hA, hB, rfl⟩ dL_cursor_16
    · refine v_callXca (mcz := 1) (msz := 6) hown hSS (j := 0) (by decide) [(⟨0, 10, 13, 22⟩ : ExceptionTableEntry)] (⟨0, 10, 17, 13⟩ : ExceptionTableEntry) [] htb (fun z hz9 => by cases List.mem_singleton.mp hz9; exact Or.inr ⟨by decide, vE 1, hts _ kl994, hSS.2.2.2.2.2.2.2.2.2.1 0 1 (by decide) (by decide) (by decide)⟩) (by decide) (by decide) (hts _ kl469) (fun H locs hR hS => vx_runV (As := [.int x1, .int x2]) (rest := [.int 0, .ref out]) ⟨hx, hb, hml, hown, hts⟩ (mX9_cursor l hfl D x x1 x2 M z h) (cwV 2 hts (gdV kl1124 kl1125 kl1126 kw77 kl1127) rfl rfl rfl (by decide +kernel) ⟨Nat.le_of_ble_eq_true rfl, Nat.le_of_ble_eq_true rfl⟩) (v_preV (ci := 10) hSS hR hS hx9 (by decide) rfl [.int x1, .int x2]) rfl rfl hl.1 rfl (lv_room (Nat.le_of_ble_eq_true rfl)) dL_cursor_5 ⟨by show _ + _ ≤ 1; omega, by show _ + _ ≤ 6; omega⟩) (by rw [hz]; rfl) (by rw [hz]; rfl) (fun A B q hA hB => ?_)
      refine w_astore (lv' := (4, .ref q) :: [(0, .ref x), (1, .int x1), (2, .int x2), (3, .ref out)]) hx hb dL_cursor_17 hl (by decide) rfl (fun ls hl => ?_)
      refine w_iconst (v := 2) hx hb dL_cursor_19 (by decide) ?_
      refine vV.widen (n' := 1) (k' := 6) (by omega) (by omega) ?_
      exact v_iretH (P := pL z.2 out none) hx hb hr hlk ⟨A, B, hA, hB, rfl⟩ dL_cursor_20
def rmL_differs : Room := { frames := 9, cells := 1, slots := 6, locals := 171 }
set_option maxHeartbeats 4000000 in
set_option maxRecDepth 100000 in
theorem mL_differs (l : Launch) (hfl : l.stackTraces = false) (D : vD) (x : Nat) (x1 : Int32) (x2 : Int32) (x3 : Int32) (x4 : Int32) (out : Nat) (M : vMe) (f : Nat → Value) (z : ((Int32 ⊕ Nat) × vMe)) (h : tX9_differs x x1 x2 x3 x4 M = some z) (hx9 : (M.1 x).1 = 11) (ho : z.2.1 out = (104, 1, f)) (hob : z.2.2.2.2 ≤ out) (hne : ∀ j, z.1 = .inr j → mpA j ≠ 0) : Met l yL_differs (Cond.codeWith yL_differs cL_differs 7 (some .int) [(0, 14, 17, 22), (0, 14, 21, 13)] :: TB) rmL_differs (va_Pc [.ref x, .int x1, .int x2, .int x3, .int x4, .ref out] (vPre D M)) (qH D (pL z.2 out (Sum.elim (fun v => some (.long v.toInt64)) (fun _ => none) z.1)) (.int (Sum.elim (fun _ => 0) mpA z.1))) 1 6 (vA D) := by
  refine v_ofH (cc := cL_differs) (maxL := 7) (ret := (some .int)) (by decide) (Nat.le_of_ble_eq_true rfl) ?_
  intro p e s m args below meth c hx hb hr hml hown hts hlk htb hSS hR0 ls hl
  have hK := hSS.1
  have hl : lv_has ls 7 [(0, .ref x), (1, .int x1), (2, .int x2), (3, .int x3), (4, .int x4), (5, .ref out)] := hl
  refine w_aload hx hb dL_differs_0 (lv_at hl 5 rfl) ?_
  refine w_iconst (v := 0) hx hb dL_differs_2 (by decide) ?_
  refine w_aload_n hx hb dL_differs_3 rfl (lv_at hl 0 rfl) ?_
  refine w_iload_n hx hb dL_differs_4 rfl (lv_at hl 1 rfl) ?_
  refine w_iload_n hx hb dL_differs_5 rfl (lv_at hl 2 rfl) ?_
  refine w_iload_n hx hb dL_differs_6 rfl (lv_at hl 3 rfl) ?_
  refine w_iload hx hb dL_differs_7 (lv_at hl 4 rfl) ?_
  rcases hz : z.1 with v | j
  · refine v_callXok (ov := some (.int v)) (mcz := 1) (msz := 6) (fun H locs hR hS => vx_runV (As := [.int x1, .int x2, .int x3, .int x4]) (rest := [.int 0, .ref out]) ⟨hx, hb, hml, hown, hts⟩ (mX9_differs l hfl D x x1 x2 x3 x4 M z h) (cwV 4 hts (gdV kl1082 kl1083 kl1084 kw77 kl1085) rfl rfl rfl (by decide +kernel) ⟨Nat.le_of_ble_eq_true rfl, Nat.le_of_ble_eq_true rfl⟩) (v_preV (ci := 10) hSS hR hS hx9 (by decide) rfl [.int x1, .int x2, .int x3, .int x4]) rfl rfl hl.1 rfl (lv_room (Nat.le_of_ble_eq_true rfl)) dL_differs_9 ⟨by show _ + _ ≤ 1; omega, by show _ + _ ≤ 6; omega⟩) (by rw [hz]; rfl) (by rw [hz]; rfl) (st1 := [.int v, .int 0, .ref out]) rfl ?_
    refine w_i2l hx hb dL_differs_12 ?_
    have hw : sA z.2 out 104 0 (.long v.toInt64) = some (wr z.2 out 0 (.long v.toInt64)) := by
      show (if (z.2.1 out).1 = 104 ∧ ¬ ((0 : Int32) < 0 ∨ (z.2.1 out).2.1 ≤ (0 : Int32).toNatClampNeg) ∧ z.2.2.2.2 ≤ out then some (wr z.2 out (0 : Int32).toNatClampNeg (.long v.toInt64)) else none) = _
      rw [ho, if_pos ⟨rfl, z_in, hob⟩]; rfl
    refine v_last hx hb hK hw dL_differs_13 ?_
    refine w_goto (tgt := 25) hx hb dL_differs_14 (by decide) ?_
    refine w_iconst (v := 0) hx hb dL_differs_25 (by decide) ?_
    refine vV.widen (n' := 1) (k' := 6) (by omega) (by omega) ?_
    exact v_iretH (P := pL z.2 out (some (.long v.toInt64))) hx hb hr hlk rfl dL_differs_26
  · rcases mpA_v (hne j hz) with rfl | rfl
    · refine v_callXca (mcz := 1) (msz := 6) hown hSS (j := 1) (by decide) [] (⟨0, 14, 17, 22⟩ : ExceptionTableEntry) [(⟨0, 14, 21, 13⟩ : ExceptionTableEntry)] htb (fun z hz9 => absurd hz9 (List.not_mem_nil)) (by decide) (by decide) (hts _ kl994) (fun H locs hR hS => vx_runV (As := [.int x1, .int x2, .int x3, .int x4]) (rest := [.int 0, .ref out]) ⟨hx, hb, hml, hown, hts⟩ (mX9_differs l hfl D x x1 x2 x3 x4 M z h) (cwV 4 hts (gdV kl1082 kl1083 kl1084 kw77 kl1085) rfl rfl rfl (by decide +kernel) ⟨Nat.le_of_ble_eq_true rfl, Nat.le_of_ble_eq_true rfl⟩) (v_preV (ci := 10) hSS hR hS hx9 (by decide) rfl [.int x1, .int x2, .int x3, .int x4]) rfl rfl hl.1 rfl (lv_room (Nat.le_of_ble_eq_true rfl)) dL_differs_9 ⟨by show _ + _ ≤ 1; omega, by show _ + _ ≤ 6; omega⟩) (by rw [hz]; rfl) (by rw [hz]; rfl) (fun A B q hA hB => ?_)
      refine w_astore (lv' := (6, .ref q) :: [(0, .ref x), (1, .int x1), (2, .int x2), (3, .int x3), (4, .int x4), (5, .ref out)]) hx hb dL_differs_17 hl (by decide) rfl (fun ls hl => ?_)
      refine w_iconst (v := 1) hx hb dL_differs_19 (by decide) ?_
      refine vV.widen (n' := 1) (k' := 6) (by omega) (by omega) ?_
      exact v_iretH (P := pL z.2 out none) hx hb hr hlk ⟨A, B, hA, hB, rfl⟩ dL_differs_20
    · refine v_callXca (mcz := 1) (msz := 6) hown hSS (j := 0) (by decide) [(⟨0, 14, 17, 22⟩ : ExceptionTableEntry)] (⟨0, 14, 21, 13⟩ : ExceptionTableEntry) [] htb (fun z hz9 => by cases List.mem_singleton.mp hz9; exact Or.inr ⟨by decide, vE 1, hts _ kl994, hSS.2.2.2.2.2.2.2.2.2.1 0 1 (by decide) (by decide) (by decide)⟩) (by decide) (by decide) (hts _ kl469) (fun H locs hR hS => vx_runV (As := [.int x1, .int x2, .int x3, .int x4]) (rest := [.int 0, .ref out]) ⟨hx, hb, hml, hown, hts⟩ (mX9_differs l hfl D x x1 x2 x3 x4 M z h) (cwV 4 hts (gdV kl1082 kl1083 kl1084 kw77 kl1085) rfl rfl rfl (by decide +kernel) ⟨Nat.le_of_ble_eq_true rfl, Nat.le_of_ble_eq_true rfl⟩) (v_preV (ci := 10) hSS hR hS hx9 (by decide) rfl [.int x1, .int x2, .int x3, .int x4]) rfl rfl hl.1 rfl (lv_room (Nat.le_of_ble_eq_true rfl)) dL_differs_9 ⟨by show _ + _ ≤ 1; omega, by show _ + _ ≤ 6; omega⟩) (by rw [hz]; rfl) (by rw [hz]; rfl) (fun A B q hA hB => ?_)
      refine w_astore (lv' := (6, .ref q) :: [(0, .ref x), (1, .int x1), (2, .int x2), (3, .int x3), (4, .int x4), (5, .ref out)]) hx hb dL_differs_21 hl (by decide) rfl (fun ls hl => ?_)
      refine w_iconst (v := 2) hx hb dL_differs_23 (by decide) ?_
      refine vV.widen (n' := 1) (k' := 6) (by omega) (by omega) ?_
      exact v_iretH (P := pL z.2 out none) hx hb hr hlk ⟨A, B, hA, hB, rfl⟩ dL_differs_24
def rmL_event : Room := { frames := 9, cells := 1, slots := 6, locals := 166 }
set_option maxHeartbeats 4000000 in
set_option maxRecDepth 100000 in
theorem mL_event (l : Launch) (hfl : l.stackTraces = false) (D : vD) (x : Nat) (x1 : Int32) (x2 : Int32) (x3 : Int32) (out : Nat) (M : vMe) (f : Nat → Value) (z : ((Int32 ⊕ Nat) × vMe)) (h : tX9_event x x1 x2 x3 M = some z) (hx9 : (M.1 x).1 = 11) (ho : z.2.1 out = (104, 1, f)) (hob : z.2.2.2.2 ≤ out) (hne : ∀ j, z.1 = .inr j → mpA j ≠ 0) : Met l yL_event (Cond.codeWith yL_event cL_event 6 (some .int) [(0, 12, 15, 22), (0, 12, 19, 13)] :: TB) rmL_event (va_Pc [.ref x, .int x1, .int x2, .int x3, .ref out] (vPre D M)) (qH D (pL z.2 out (Sum.elim (fun v => some (.long v.toInt64)) (fun _ => none) z.1)) (.int (Sum.elim (fun _ => 0) mpA z.1))) 1 6 (vA D) := by
  refine v_ofH (cc := cL_event) (maxL := 6) (ret := (some .int)) (by decide) (Nat.le_of_ble_eq_true rfl) ?_
  intro p e s m args below meth c hx hb hr hml hown hts hlk htb hSS hR0 ls hl
  have hK := hSS.1
  have hl : lv_has ls 6 [(0, .ref x), (1, .int x1), (2, .int x2), (3, .int x3), (4, .ref out)] := hl
  refine w_aload hx hb dL_event_0 (lv_at hl 4 rfl) ?_
  refine w_iconst (v := 0) hx hb dL_event_2 (by decide) ?_
  refine w_aload_n hx hb dL_event_3 rfl (lv_at hl 0 rfl) ?_
  refine w_iload_n hx hb dL_event_4 rfl (lv_at hl 1 rfl) ?_
  refine w_iload_n hx hb dL_event_5 rfl (lv_at hl 2 rfl) ?_
  refine w_iload_n hx hb dL_event_6 rfl (lv_at hl 3 rfl) ?_
  rcases hz : z.1 with v | j
  · refine v_callXok (ov := some (.int v)) (mcz := 1) (msz := 6) (fun H locs hR hS => vx_runV (As := [.int x1, .int x2, .int x3]) (rest := [.int 0, .ref out]) ⟨hx, hb, hml, hown, hts⟩ (mX9_event l hfl D x x1 x2 x3 M z h) (cwV 3 hts (gdV kl1058 kl1059 kl1060 kw77 kl1061) rfl rfl rfl (by decide +kernel) ⟨Nat.le_of_ble_eq_true rfl, Nat.le_of_ble_eq_true rfl⟩) (v_preV (ci := 10) hSS hR hS hx9 (by decide) rfl [.int x1, .int x2, .int x3]) rfl rfl hl.1 rfl (lv_room (Nat.le_of_ble_eq_true rfl)) dL_event_7 ⟨by show _ + _ ≤ 1; omega, by show _ + _ ≤ 6; omega⟩) (by rw [hz]; rfl) (by rw [hz]; rfl) (st1 := [.int v, .int 0, .ref out]) rfl ?_
    refine w_i2l hx hb dL_event_10 ?_
    have hw : sA z.2 out 104 0 (.long v.toInt64) = some (wr z.2 out 0 (.long v.toInt64)) := by
      show (if (z.2.1 out).1 = 104 ∧ ¬ ((0 : Int32) < 0 ∨ (z.2.1 out).2.1 ≤ (0 : Int32).toNatClampNeg) ∧ z.2.2.2.2 ≤ out then some (wr z.2 out (0 : Int32).toNatClampNeg (.long v.toInt64)) else none) = _
      rw [ho, if_pos ⟨rfl, z_in, hob⟩]; rfl
    refine v_last hx hb hK hw dL_event_11 ?_
    refine w_goto (tgt := 23) hx hb dL_event_12 (by decide) ?_
    refine w_iconst (v := 0) hx hb dL_event_23 (by decide) ?_
    refine vV.widen (n' := 1) (k' := 6) (by omega) (by omega) ?_
    exact v_iretH (P := pL z.2 out (some (.long v.toInt64))) hx hb hr hlk rfl dL_event_24
  · rcases mpA_v (hne j hz) with rfl | rfl
    · refine v_callXca (mcz := 1) (msz := 6) hown hSS (j := 1) (by decide) [] (⟨0, 12, 15, 22⟩ : ExceptionTableEntry) [(⟨0, 12, 19, 13⟩ : ExceptionTableEntry)] htb (fun z hz9 => absurd hz9 (List.not_mem_nil)) (by decide) (by decide) (hts _ kl994) (fun H locs hR hS => vx_runV (As := [.int x1, .int x2, .int x3]) (rest := [.int 0, .ref out]) ⟨hx, hb, hml, hown, hts⟩ (mX9_event l hfl D x x1 x2 x3 M z h) (cwV 3 hts (gdV kl1058 kl1059 kl1060 kw77 kl1061) rfl rfl rfl (by decide +kernel) ⟨Nat.le_of_ble_eq_true rfl, Nat.le_of_ble_eq_true rfl⟩) (v_preV (ci := 10) hSS hR hS hx9 (by decide) rfl [.int x1, .int x2, .int x3]) rfl rfl hl.1 rfl (lv_room (Nat.le_of_ble_eq_true rfl)) dL_event_7 ⟨by show _ + _ ≤ 1; omega, by show _ + _ ≤ 6; omega⟩) (by rw [hz]; rfl) (by rw [hz]; rfl) (fun A B q hA hB => ?_)
      refine w_astore (lv' := (5, .ref q) :: [(0, .ref x), (1, .int x1), (2, .int x2), (3, .int x3), (4, .ref out)]) hx hb dL_event_15 hl (by decide) rfl (fun ls hl => ?_)
      refine w_iconst (v := 1) hx hb dL_event_17 (by decide) ?_
      refine vV.widen (n' := 1) (k' := 6) (by omega) (by omega) ?_
      exact v_iretH (P := pL z.2 out none) hx hb hr hlk ⟨A, B, hA, hB, rfl⟩ dL_event_18
    · refine v_callXca (mcz := 1) (msz := 6) hown hSS (j := 0) (by decide) [(⟨0, 12, 15, 22⟩ : ExceptionTableEntry)] (⟨0, 12, 19, 13⟩ : ExceptionTableEntry) [] htb (fun z hz9 => by cases List.mem_singleton.mp hz9; exact Or.inr ⟨by decide, vE 1, hts _ kl994, hSS.2.2.2.2.2.2.2.2.2.1 0 1 (by decide) (by decide) (by decide)⟩) (by decide) (by decide) (hts _ kl469) (fun H locs hR hS => vx_runV (As := [.int x1, .int x2, .int x3]) (rest := [.int 0, .ref out]) ⟨hx, hb, hml, hown, hts⟩ (mX9_event l hfl D x x1 x2 x3 M z h) (cwV 3 hts (gdV kl1058 kl1059 kl1060 kw77 kl1061) rfl rfl rfl (by decide +kernel) ⟨Nat.le_of_ble_eq_true rfl, Nat.le_of_ble_eq_true rfl⟩) (v_preV (ci := 10) hSS hR hS hx9 (by decide) rfl [.int x1, .int x2, .int x3]) rfl rfl hl.1 rfl (lv_room (Nat.le_of_ble_eq_true rfl)) dL_event_7 ⟨by show _ + _ ≤ 1; omega, by show _ + _ ≤ 6; omega⟩) (by rw [hz]; rfl) (by rw [hz]; rfl) (fun A B q hA hB => ?_)
      refine w_astore (lv' := (5, .ref q) :: [(0, .ref x), (1, .int x1), (2, .int x2), (3, .int x3), (4, .ref out)]) hx hb dL_event_19 hl (by decide) rfl (fun ls hl => ?_)
      refine w_iconst (v := 2) hx hb dL_event_21 (by decide) ?_
      refine vV.widen (n' := 1) (k' := 6) (by omega) (by omega) ?_
      exact v_iretH (P := pL z.2 out none) hx hb hr hlk ⟨A, B, hA, hB, rfl⟩ dL_event_22
def rmL_fullest : Room := { frames := 9, cells := 1, slots := 6, locals := 163 }
set_option maxHeartbeats 4000000 in
set_option maxRecDepth 100000 in
theorem mL_fullest (l : Launch) (hfl : l.stackTraces = false) (D : vD) (x : Nat) (x1 : Int32) (out : Nat) (M : vMe) (f : Nat → Value) (z : ((Int32 ⊕ Nat) × vMe)) (h : tX9_fullest x x1 M = some z) (hx9 : (M.1 x).1 = 11) (ho : z.2.1 out = (104, 1, f)) (hob : z.2.2.2.2 ≤ out) (hne : ∀ j, z.1 = .inr j → mp1 j ≠ 0) : Met l yL_fullest (Cond.codeWith yL_fullest cL_fullest 4 (some .int) [(0, 9, 12, 22)] :: TB) rmL_fullest (va_Pc [.ref x, .int x1, .ref out] (vPre D M)) (qH D (pL z.2 out (Sum.elim (fun v => some (.long v.toInt64)) (fun _ => none) z.1)) (.int (Sum.elim (fun _ => 0) mp1 z.1))) 1 6 (vA D) := by
  refine v_ofH (cc := cL_fullest) (maxL := 4) (ret := (some .int)) (by decide) (Nat.le_of_ble_eq_true rfl) ?_
  intro p e s m args below meth c hx hb hr hml hown hts hlk htb hSS hR0 ls hl
  have hK := hSS.1
  have hl : lv_has ls 4 [(0, .ref x), (1, .int x1), (2, .ref out)] := hl
  refine w_aload_n hx hb dL_fullest_0 rfl (lv_at hl 2 rfl) ?_
  refine w_iconst (v := 0) hx hb dL_fullest_1 (by decide) ?_
  refine w_aload_n hx hb dL_fullest_2 rfl (lv_at hl 0 rfl) ?_
  refine w_iload_n hx hb dL_fullest_3 rfl (lv_at hl 1 rfl) ?_
  rcases hz : z.1 with v | j
  · refine v_callXok (ov := some (.int v)) (mcz := 1) (msz := 6) (fun H locs hR hS => vx_runV (As := [.int x1]) (rest := [.int 0, .ref out]) ⟨hx, hb, hml, hown, hts⟩ (mX9_fullest l hfl D x x1 M z h) (cwV 1 hts (gdV kl1112 kl1113 kl1114 kw77 kl1115) rfl rfl rfl (by decide +kernel) ⟨Nat.le_of_ble_eq_true rfl, Nat.le_of_ble_eq_true rfl⟩) (v_preV (ci := 10) hSS hR hS hx9 (by decide) rfl [.int x1]) rfl rfl hl.1 rfl (lv_room (Nat.le_of_ble_eq_true rfl)) dL_fullest_4 ⟨by show _ + _ ≤ 1; omega, by show _ + _ ≤ 6; omega⟩) (by rw [hz]; rfl) (by rw [hz]; rfl) (st1 := [.int v, .int 0, .ref out]) rfl ?_
    refine w_i2l hx hb dL_fullest_7 ?_
    have hw : sA z.2 out 104 0 (.long v.toInt64) = some (wr z.2 out 0 (.long v.toInt64)) := by
      show (if (z.2.1 out).1 = 104 ∧ ¬ ((0 : Int32) < 0 ∨ (z.2.1 out).2.1 ≤ (0 : Int32).toNatClampNeg) ∧ z.2.2.2.2 ≤ out then some (wr z.2 out (0 : Int32).toNatClampNeg (.long v.toInt64)) else none) = _
      rw [ho, if_pos ⟨rfl, z_in, hob⟩]; rfl
    refine v_last hx hb hK hw dL_fullest_8 ?_
    refine w_goto (tgt := 15) hx hb dL_fullest_9 (by decide) ?_
    refine w_iconst (v := 0) hx hb dL_fullest_15 (by decide) ?_
    refine vV.widen (n' := 1) (k' := 6) (by omega) (by omega) ?_
    exact v_iretH (P := pL z.2 out (some (.long v.toInt64))) hx hb hr hlk rfl dL_fullest_16
  · obtain rfl := mp1_v (hne j hz)
    refine v_callXca (mcz := 1) (msz := 6) hown hSS (j := 1) (by decide) [] (⟨0, 9, 12, 22⟩ : ExceptionTableEntry) [] htb (fun z hz9 => absurd hz9 (List.not_mem_nil)) (by decide) (by decide) (hts _ kl994) (fun H locs hR hS => vx_runV (As := [.int x1]) (rest := [.int 0, .ref out]) ⟨hx, hb, hml, hown, hts⟩ (mX9_fullest l hfl D x x1 M z h) (cwV 1 hts (gdV kl1112 kl1113 kl1114 kw77 kl1115) rfl rfl rfl (by decide +kernel) ⟨Nat.le_of_ble_eq_true rfl, Nat.le_of_ble_eq_true rfl⟩) (v_preV (ci := 10) hSS hR hS hx9 (by decide) rfl [.int x1]) rfl rfl hl.1 rfl (lv_room (Nat.le_of_ble_eq_true rfl)) dL_fullest_4 ⟨by show _ + _ ≤ 1; omega, by show _ + _ ≤ 6; omega⟩) (by rw [hz]; rfl) (by rw [hz]; rfl) (fun A B q hA hB => ?_)
    refine w_astore_n (lv' := (3, .ref q) :: [(0, .ref x), (1, .int x1), (2, .ref out)]) hx hb dL_fullest_12 rfl hl (by decide) rfl (fun ls hl => ?_)
    refine w_iconst (v := 1) hx hb dL_fullest_13 (by decide) ?_
    refine vV.widen (n' := 1) (k' := 6) (by omega) (by omega) ?_
    exact v_iretH (P := pL z.2 out none) hx hb hr hlk ⟨A, B, hA, hB, rfl⟩ dL_fullest_14
def rmL_isWithin : Room := { frames := 9, cells := 1, slots := 6, locals := 166 }
set_option maxHeartbeats 4000000 in
set_option maxRecDepth 100000 in
theorem mL_isWithin (l : Launch) (hfl : l.stackTraces = false) (D : vD) (x : Nat) (x1 : Int32) (x2 : Int32) (out : Nat) (M : vMe) (f : Nat → Value) (z : ((Int32 ⊕ Nat) × vMe)) (h : tX9_isWithin x x1 x2 M = some z) (hx9 : (M.1 x).1 = 11) (ho : z.2.1 out = (104, 1, f)) (hob : z.2.2.2.2 ≤ out) (hne : ∀ j, z.1 = .inr j → mp1 j ≠ 0) : Met l yL_isWithin (Cond.codeWith yL_isWithin cL_isWithin 5 (some .int) [(0, 17, 20, 22)] :: TB) rmL_isWithin (va_Pc [.ref x, .int x1, .int x2, .ref out] (vPre D M)) (qH D (pL z.2 out (Sum.elim (fun v => some (.long (if v = 0 then 0 else 1))) (fun _ => none) z.1)) (.int (Sum.elim (fun _ => 0) mp1 z.1))) 1 6 (vA D) := by
  refine v_ofH (cc := cL_isWithin) (maxL := 5) (ret := (some .int)) (by decide) (Nat.le_of_ble_eq_true rfl) ?_
  intro p e s m args below meth c hx hb hr hml hown hts hlk htb hSS hR0 ls hl
  have hK := hSS.1
  have hl : lv_has ls 5 [(0, .ref x), (1, .int x1), (2, .int x2), (3, .ref out)] := hl
  refine w_aload_n hx hb dL_isWithin_0 rfl (lv_at hl 3 rfl) ?_
  refine w_iconst (v := 0) hx hb dL_isWithin_1 (by decide) ?_
  refine w_aload_n hx hb dL_isWithin_2 rfl (lv_at hl 0 rfl) ?_
  refine w_iload_n hx hb dL_isWithin_3 rfl (lv_at hl 1 rfl) ?_
  refine w_iload_n hx hb dL_isWithin_4 rfl (lv_at hl 2 rfl) ?_
  rcases hz : z.1 with v | j
  · refine v_callXok (ov := some (.int v)) (mcz := 1) (msz := 6) (fun H locs hR hS => vx_runV (As := [.int x1, .int x2]) (rest := [.int 0, .ref out]) ⟨hx, hb, hml, hown, hts⟩ (mX9_isWithin l hfl D x x1 x2 M z h) (cwV 2 hts (gdV kl1166 kl1167 kl1168 kw77 kl1169) rfl rfl rfl (by decide +kernel) ⟨Nat.le_of_ble_eq_true rfl, Nat.le_of_ble_eq_true rfl⟩) (v_preV (ci := 10) hSS hR hS hx9 (by decide) rfl [.int x1, .int x2]) rfl rfl hl.1 rfl (lv_room (Nat.le_of_ble_eq_true rfl)) dL_isWithin_5 ⟨by show _ + _ ≤ 1; omega, by show _ + _ ≤ 6; omega⟩) (by rw [hz]; rfl) (by rw [hz]; rfl) (st1 := [.int v, .int 0, .ref out]) rfl ?_
    refine w_if_eq (tgt := 15) hx hb dL_isWithin_8 (by decide) (fun c0 => ?_) (fun c0 => ?_)
    · refine w_lconst (v := 0) hx hb dL_isWithin_15 (by decide) ?_
      have hw : sA z.2 out 104 0 (.long 0) = some (wr z.2 out 0 (.long 0)) := by
        show (if (z.2.1 out).1 = 104 ∧ ¬ ((0 : Int32) < 0 ∨ (z.2.1 out).2.1 ≤ (0 : Int32).toNatClampNeg) ∧ z.2.2.2.2 ≤ out then some (wr z.2 out (0 : Int32).toNatClampNeg (.long 0)) else none) = _
        rw [ho, if_pos ⟨rfl, z_in, hob⟩]; rfl
      refine v_last hx hb hK hw dL_isWithin_16 ?_
      refine w_goto (tgt := 24) hx hb dL_isWithin_17 (by decide) ?_
      refine w_iconst (v := 0) hx hb dL_isWithin_24 (by decide) ?_
      refine vV.widen (n' := 1) (k' := 6) (by omega) (by omega) ?_
      exact v_iretH (P := pL z.2 out (some (.long (if v = 0 then 0 else 1)))) hx hb hr hlk (by rw [if_pos c0]; rfl) dL_isWithin_25
    · refine w_lconst (v := 1) hx hb dL_isWithin_11 (by decide) ?_
      refine w_goto (tgt := 16) hx hb dL_isWithin_12 (by decide) ?_
      have hw : sA z.2 out 104 0 (.long 1) = some (wr z.2 out 0 (.long 1)) := by
        show (if (z.2.1 out).1 = 104 ∧ ¬ ((0 : Int32) < 0 ∨ (z.2.1 out).2.1 ≤ (0 : Int32).toNatClampNeg) ∧ z.2.2.2.2 ≤ out then some (wr z.2 out (0 : Int32).toNatClampNeg (.long 1)) else none) = _
        rw [ho, if_pos ⟨rfl, z_in, hob⟩]; rfl
      refine v_last hx hb hK hw dL_isWithin_16 ?_
      refine w_goto (tgt := 24) hx hb dL_isWithin_17 (by decide) ?_
      refine w_iconst (v := 0) hx hb dL_isWithin_24 (by decide) ?_
      refine vV.widen (n' := 1) (k' := 6) (by omega) (by omega) ?_
      exact v_iretH (P := pL z.2 out (some (.long (if v = 0 then 0 else 1)))) hx hb hr hlk (by rw [if_neg c0]; rfl) dL_isWithin_25
  · obtain rfl := mp1_v (hne j hz)
    refine v_callXca (mcz := 1) (msz := 6) hown hSS (j := 1) (by decide) [] (⟨0, 17, 20, 22⟩ : ExceptionTableEntry) [] htb (fun z hz9 => absurd hz9 (List.not_mem_nil)) (by decide) (by decide) (hts _ kl994) (fun H locs hR hS => vx_runV (As := [.int x1, .int x2]) (rest := [.int 0, .ref out]) ⟨hx, hb, hml, hown, hts⟩ (mX9_isWithin l hfl D x x1 x2 M z h) (cwV 2 hts (gdV kl1166 kl1167 kl1168 kw77 kl1169) rfl rfl rfl (by decide +kernel) ⟨Nat.le_of_ble_eq_true rfl, Nat.le_of_ble_eq_true rfl⟩) (v_preV (ci := 10) hSS hR hS hx9 (by decide) rfl [.int x1, .int x2]) rfl rfl hl.1 rfl (lv_room (Nat.le_of_ble_eq_true rfl)) dL_isWithin_5 ⟨by show _ + _ ≤ 1; omega, by show _ + _ ≤ 6; omega⟩) (by rw [hz]; rfl) (by rw [hz]; rfl) (fun A B q hA hB => ?_)
    refine w_astore (lv' := (4, .ref q) :: [(0, .ref x), (1, .int x1), (2, .int x2), (3, .ref out)]) hx hb dL_isWithin_20 hl (by decide) rfl (fun ls hl => ?_)
    refine w_iconst (v := 1) hx hb dL_isWithin_22 (by decide) ?_
    refine vV.widen (n' := 1) (k' := 6) (by omega) (by omega) ?_
    exact v_iretH (P := pL z.2 out none) hx hb hr hlk ⟨A, B, hA, hB, rfl⟩ dL_isWithin_23
def rmL_keep : Room := { frames := 8, cells := 50, slots := 2001, locals := 167 }
set_option maxHeartbeats 4000000 in
set_option maxRecDepth 100000 in
theorem mL_keep (l : Launch) (hfl : l.stackTraces = false) (D : vD) (x : Nat) (x1 : Int32) (x2 : Int32) (out : Nat) (M : vMe) (f : Nat → Value) (z : ((Int32 ⊕ Nat) × vMe)) (h : tX9_keep D.2.2.2.2 x x1 x2 M = some z) (hx9 : (M.1 x).1 = 11) (ho : z.2.1 out = (104, 1, f)) (hob : z.2.2.2.2 ≤ out) (hne : ∀ j, z.1 = .inr j → mp1 j ≠ 0) : Met l yL_keep (Cond.codeWith yL_keep cL_keep 5 (some .int) [(0, 10, 13, 22)] :: TB) rmL_keep (va_Pc [.ref x, .int x1, .int x2, .ref out] (vPre D M)) (qH D (pL z.2 out (Sum.elim (fun v => some (.long v.toInt64)) (fun _ => none) z.1)) (.int (Sum.elim (fun _ => 0) mp1 z.1))) 50 2001 (vA D) := by
  refine v_ofH (cc := cL_keep) (maxL := 5) (ret := (some .int)) (by decide) (Nat.le_of_ble_eq_true rfl) ?_
  intro p e s m args below meth c hx hb hr hml hown hts hlk htb hSS hR0 ls hl
  have hK := hSS.1
  have hl : lv_has ls 5 [(0, .ref x), (1, .int x1), (2, .int x2), (3, .ref out)] := hl
  refine w_aload_n hx hb dL_keep_0 rfl (lv_at hl 3 rfl) ?_
  refine w_iconst (v := 0) hx hb dL_keep_1 (by decide) ?_
  refine w_aload_n hx hb dL_keep_2 rfl (lv_at hl 0 rfl) ?_
  refine w_iload_n hx hb dL_keep_3 rfl (lv_at hl 1 rfl) ?_
  refine w_iload_n hx hb dL_keep_4 rfl (lv_at hl 2 rfl) ?_
  rcases hz : z.1 with v | j
  · refine v_callXok (ov := some (.int v)) (mcz := 50) (msz := 2001) (fun H locs hR hS => vx_runV (As := [.int x1, .int x2]) (rest := [.int 0, .ref out]) ⟨hx, hb, hml, hown, hts⟩ (mX9_keep l hfl D x x1 x2 M z h) (cwV 2 hts (gdV kl1277 kl1278 kl1279 kw77 kl1280) rfl rfl rfl (by decide +kernel) ⟨Nat.le_of_ble_eq_true rfl, Nat.le_of_ble_eq_true rfl⟩) (v_preV (ci := 10) hSS hR hS hx9 (by decide) rfl [.int x1, .int x2]) rfl rfl hl.1 rfl (lv_room (Nat.le_of_ble_eq_true rfl)) dL_keep_5 ⟨by show _ + _ ≤ 50; omega, by show _ + _ ≤ 2001; omega⟩) (by rw [hz]; rfl) (by rw [hz]; rfl) (st1 := [.int v, .int 0, .ref out]) rfl ?_
    refine w_i2l hx hb dL_keep_8 ?_
    have hw : sA z.2 out 104 0 (.long v.toInt64) = some (wr z.2 out 0 (.long v.toInt64)) := by
      show (if (z.2.1 out).1 = 104 ∧ ¬ ((0 : Int32) < 0 ∨ (z.2.1 out).2.1 ≤ (0 : Int32).toNatClampNeg) ∧ z.2.2.2.2 ≤ out then some (wr z.2 out (0 : Int32).toNatClampNeg (.long v.toInt64)) else none) = _
      rw [ho, if_pos ⟨rfl, z_in, hob⟩]; rfl
    refine v_last hx hb hK hw dL_keep_9 ?_
    refine w_goto (tgt := 17) hx hb dL_keep_10 (by decide) ?_
    refine w_iconst (v := 0) hx hb dL_keep_17 (by decide) ?_
    refine vV.widen (n' := 50) (k' := 2001) (by omega) (by omega) ?_
    exact v_iretH (P := pL z.2 out (some (.long v.toInt64))) hx hb hr hlk rfl dL_keep_18
  · obtain rfl := mp1_v (hne j hz)
    refine v_callXca (mcz := 50) (msz := 2001) hown hSS (j := 1) (by decide) [] (⟨0, 10, 13, 22⟩ : ExceptionTableEntry) [] htb (fun z hz9 => absurd hz9 (List.not_mem_nil)) (by decide) (by decide) (hts _ kl994) (fun H locs hR hS => vx_runV (As := [.int x1, .int x2]) (rest := [.int 0, .ref out]) ⟨hx, hb, hml, hown, hts⟩ (mX9_keep l hfl D x x1 x2 M z h) (cwV 2 hts (gdV kl1277 kl1278 kl1279 kw77 kl1280) rfl rfl rfl (by decide +kernel) ⟨Nat.le_of_ble_eq_true rfl, Nat.le_of_ble_eq_true rfl⟩) (v_preV (ci := 10) hSS hR hS hx9 (by decide) rfl [.int x1, .int x2]) rfl rfl hl.1 rfl (lv_room (Nat.le_of_ble_eq_true rfl)) dL_keep_5 ⟨by show _ + _ ≤ 50; omega, by show _ + _ ≤ 2001; omega⟩) (by rw [hz]; rfl) (by rw [hz]; rfl) (fun A B q hA hB => ?_)
    refine w_astore (lv' := (4, .ref q) :: [(0, .ref x), (1, .int x1), (2, .int x2), (3, .ref out)]) hx hb dL_keep_13 hl (by decide) rfl (fun ls hl => ?_)
    refine w_iconst (v := 1) hx hb dL_keep_15 (by decide) ?_
    refine vV.widen (n' := 50) (k' := 2001) (by omega) (by omega) ?_
    exact v_iretH (P := pL z.2 out none) hx hb hr hlk ⟨A, B, hA, hB, rfl⟩ dL_keep_16
def rmL_likeness : Room := { frames := 9, cells := 1, slots := 6, locals := 169 }
set_option maxHeartbeats 4000000 in
set_option maxRecDepth 100000 in
theorem mL_likeness (l : Launch) (hfl : l.stackTraces = false) (D : vD) (x : Nat) (x1 : Int32) (x2 : Int32) (out : Nat) (M : vMe) (f : Nat → Value) (z : ((UInt64 ⊕ Nat) × vMe)) (h : tX9_likeness x x1 x2 M = some z) (hx9 : (M.1 x).1 = 11) (ho : z.2.1 out = (105, 1, f)) (hob : z.2.2.2.2 ≤ out) (hne : ∀ j, z.1 = .inr j → mp1 j ≠ 0) : Met l yL_likeness (Cond.codeWith yL_likeness cL_likeness 5 (some .int) [(0, 9, 12, 22)] :: TB) rmL_likeness (va_Pc [.ref x, .int x1, .int x2, .ref out] (vPre D M)) (qH D (pL z.2 out (Sum.elim (fun v => some (.double v)) (fun _ => none) z.1)) (.int (Sum.elim (fun _ => 0) mp1 z.1))) 1 6 (vA D) := by
  refine v_ofH (cc := cL_likeness) (maxL := 5) (ret := (some .int)) (by decide) (Nat.le_of_ble_eq_true rfl) ?_
  intro p e s m args below meth c hx hb hr hml hown hts hlk htb hSS hR0 ls hl
  have hK := hSS.1
  have hl : lv_has ls 5 [(0, .ref x), (1, .int x1), (2, .int x2), (3, .ref out)] := hl
  refine w_aload_n hx hb dL_likeness_0 rfl (lv_at hl 3 rfl) ?_
  refine w_iconst (v := 0) hx hb dL_likeness_1 (by decide) ?_
  refine w_aload_n hx hb dL_likeness_2 rfl (lv_at hl 0 rfl) ?_
  refine w_iload_n hx hb dL_likeness_3 rfl (lv_at hl 1 rfl) ?_
  refine w_iload_n hx hb dL_likeness_4 rfl (lv_at hl 2 rfl) ?_
  rcases hz : z.1 with v | j
  · refine v_callXok (ov := some (.double v)) (mcz := 1) (msz := 6) (fun H locs hR hS => vx_runV (As := [.int x1, .int x2]) (rest := [.int 0, .ref out]) ⟨hx, hb, hml, hown, hts⟩ (mX9_likeness l hfl D x x1 x2 M z h) (cwV 2 hts (gdV kl1173 kl1174 kl1175 kw77 kl1176) rfl rfl rfl (by decide +kernel) ⟨Nat.le_of_ble_eq_true rfl, Nat.le_of_ble_eq_true rfl⟩) (v_preV (ci := 10) hSS hR hS hx9 (by decide) rfl [.int x1, .int x2]) rfl rfl hl.1 rfl (lv_room (Nat.le_of_ble_eq_true rfl)) dL_likeness_5 ⟨by show _ + _ ≤ 1; omega, by show _ + _ ≤ 6; omega⟩) (by rw [hz]; rfl) (by rw [hz]; rfl) (st1 := [.double v, .int 0, .ref out]) rfl ?_
    have hw : sA z.2 out 105 0 (.double v) = some (wr z.2 out 0 (.double v)) := by
      show (if (z.2.1 out).1 = 105 ∧ ¬ ((0 : Int32) < 0 ∨ (z.2.1 out).2.1 ≤ (0 : Int32).toNatClampNeg) ∧ z.2.2.2.2 ≤ out then some (wr z.2 out (0 : Int32).toNatClampNeg (.double v)) else none) = _
      rw [ho, if_pos ⟨rfl, z_in, hob⟩]; rfl
    refine v_dast hx hb hK hw dL_likeness_8 ?_
    refine w_goto (tgt := 16) hx hb dL_likeness_9 (by decide) ?_
    refine w_iconst (v := 0) hx hb dL_likeness_16 (by decide) ?_
    refine vV.widen (n' := 1) (k' := 6) (by omega) (by omega) ?_
    exact v_iretH (P := pL z.2 out (some (.double v))) hx hb hr hlk rfl dL_likeness_17
  · obtain rfl := mp1_v (hne j hz)
    refine v_callXca (mcz := 1) (msz := 6) hown hSS (j := 1) (by decide) [] (⟨0, 9, 12, 22⟩ : ExceptionTableEntry) [] htb (fun z hz9 => absurd hz9 (List.not_mem_nil)) (by decide) (by decide) (hts _ kl994) (fun H locs hR hS => vx_runV (As := [.int x1, .int x2]) (rest := [.int 0, .ref out]) ⟨hx, hb, hml, hown, hts⟩ (mX9_likeness l hfl D x x1 x2 M z h) (cwV 2 hts (gdV kl1173 kl1174 kl1175 kw77 kl1176) rfl rfl rfl (by decide +kernel) ⟨Nat.le_of_ble_eq_true rfl, Nat.le_of_ble_eq_true rfl⟩) (v_preV (ci := 10) hSS hR hS hx9 (by decide) rfl [.int x1, .int x2]) rfl rfl hl.1 rfl (lv_room (Nat.le_of_ble_eq_true rfl)) dL_likeness_5 ⟨by show _ + _ ≤ 1; omega, by show _ + _ ≤ 6; omega⟩) (by rw [hz]; rfl) (by rw [hz]; rfl) (fun A B q hA hB => ?_)
    refine w_astore (lv' := (4, .ref q) :: [(0, .ref x), (1, .int x1), (2, .int x2), (3, .ref out)]) hx hb dL_likeness_12 hl (by decide) rfl (fun ls hl => ?_)
    refine w_iconst (v := 1) hx hb dL_likeness_14 (by decide) ?_
    refine vV.widen (n' := 1) (k' := 6) (by omega) (by omega) ?_
    exact v_iretH (P := pL z.2 out none) hx hb hr hlk ⟨A, B, hA, hB, rfl⟩ dL_likeness_15
def rmL_mark : Room := { frames := 7, cells := 50, slots := 2001, locals := 165 }
set_option maxHeartbeats 4000000 in
set_option maxRecDepth 100000 in
theorem mL_mark (l : Launch) (hfl : l.stackTraces = false) (D : vD) (x : Nat) (out : Nat) (M : vMe) (f : Nat → Value) (z : ((Int32 ⊕ Nat) × vMe)) (h : tX9_mark D.2.2.2.2 x M = some z) (hx9 : (M.1 x).1 = 11) (ho : z.2.1 out = (104, 1, f)) (hob : z.2.2.2.2 ≤ out) (hne : ∀ j, z.1 = .inr j → mp2 j ≠ 0) : Met l yL_mark (Cond.codeWith yL_mark cL_mark 3 (some .int) [(0, 8, 11, 82)] :: TB) rmL_mark (va_Pc [.ref x, .ref out] (vPre D M)) (qH D (pL z.2 out (Sum.elim (fun v => some (.long v.toInt64)) (fun _ => none) z.1)) (.int (Sum.elim (fun _ => 0) mp2 z.1))) 50 2001 (vA D) := by
  refine v_ofH (cc := cL_mark) (maxL := 3) (ret := (some .int)) (by decide) (Nat.le_of_ble_eq_true rfl) ?_
  intro p e s m args below meth c hx hb hr hml hown hts hlk htb hSS hR0 ls hl
  have hK := hSS.1
  have hl : lv_has ls 3 [(0, .ref x), (1, .ref out)] := hl
  refine w_aload_n hx hb dL_mark_0 rfl (lv_at hl 1 rfl) ?_
  refine w_iconst (v := 0) hx hb dL_mark_1 (by decide) ?_
  refine w_aload_n hx hb dL_mark_2 rfl (lv_at hl 0 rfl) ?_
  rcases hz : z.1 with v | j
  · refine v_callXok (ov := some (.int v)) (mcz := 50) (msz := 2001) (fun H locs hR hS => vx_runV (As := []) (rest := [.int 0, .ref out]) ⟨hx, hb, hml, hown, hts⟩ (mX9_mark l hfl D x M z h) (cwV 0 hts (gdV kl1211 kl1212 kl1213 kw77 kl1214) rfl rfl rfl (by decide +kernel) ⟨Nat.le_of_ble_eq_true rfl, Nat.le_of_ble_eq_true rfl⟩) (v_preV (ci := 10) hSS hR hS hx9 (by decide) rfl []) rfl rfl hl.1 rfl (lv_room (Nat.le_of_ble_eq_true rfl)) dL_mark_3 ⟨by show _ + _ ≤ 50; omega, by show _ + _ ≤ 2001; omega⟩) (by rw [hz]; rfl) (by rw [hz]; rfl) (st1 := [.int v, .int 0, .ref out]) rfl ?_
    refine w_i2l hx hb dL_mark_6 ?_
    have hw : sA z.2 out 104 0 (.long v.toInt64) = some (wr z.2 out 0 (.long v.toInt64)) := by
      show (if (z.2.1 out).1 = 104 ∧ ¬ ((0 : Int32) < 0 ∨ (z.2.1 out).2.1 ≤ (0 : Int32).toNatClampNeg) ∧ z.2.2.2.2 ≤ out then some (wr z.2 out (0 : Int32).toNatClampNeg (.long v.toInt64)) else none) = _
      rw [ho, if_pos ⟨rfl, z_in, hob⟩]; rfl
    refine v_last hx hb hK hw dL_mark_7 ?_
    refine w_goto (tgt := 14) hx hb dL_mark_8 (by decide) ?_
    refine w_iconst (v := 0) hx hb dL_mark_14 (by decide) ?_
    refine vV.widen (n' := 50) (k' := 2001) (by omega) (by omega) ?_
    exact v_iretH (P := pL z.2 out (some (.long v.toInt64))) hx hb hr hlk rfl dL_mark_15
  · obtain rfl := mp2_v (hne j hz)
    refine v_callXca (mcz := 50) (msz := 2001) hown hSS (j := 2) (by decide) [] (⟨0, 8, 11, 82⟩ : ExceptionTableEntry) [] htb (fun z hz9 => absurd hz9 (List.not_mem_nil)) (by decide) (by decide) (hts _ kl1210) (fun H locs hR hS => vx_runV (As := []) (rest := [.int 0, .ref out]) ⟨hx, hb, hml, hown, hts⟩ (mX9_mark l hfl D x M z h) (cwV 0 hts (gdV kl1211 kl1212 kl1213 kw77 kl1214) rfl rfl rfl (by decide +kernel) ⟨Nat.le_of_ble_eq_true rfl, Nat.le_of_ble_eq_true rfl⟩) (v_preV (ci := 10) hSS hR hS hx9 (by decide) rfl []) rfl rfl hl.1 rfl (lv_room (Nat.le_of_ble_eq_true rfl)) dL_mark_3 ⟨by show _ + _ ≤ 50; omega, by show _ + _ ≤ 2001; omega⟩) (by rw [hz]; rfl) (by rw [hz]; rfl) (fun A B q hA hB => ?_)
    refine w_astore_n (lv' := (2, .ref q) :: [(0, .ref x), (1, .ref out)]) hx hb dL_mark_11 rfl hl (by decide) rfl (fun ls hl => ?_)
    refine w_iconst (v := 1) hx hb dL_mark_12 (by decide) ?_
    refine vV.widen (n' := 50) (k' := 2001) (by omega) (by omega) ?_
    exact v_iretH (P := pL z.2 out none) hx hb hr hlk ⟨A, B, hA, hB, rfl⟩ dL_mark_13
def rmL_open : Room := { frames := 8, cells := 50, slots := 2001, locals := 168 }
set_option maxHeartbeats 4000000 in
set_option maxRecDepth 100000 in
theorem mL_open (l : Launch) (hfl : l.stackTraces = false) (D : vD) (x : Nat) (x1 : Int32) (x2 : Int32) (out : Nat) (M : vMe) (f : Nat → Value) (z : ((Int32 ⊕ Nat) × vMe)) (h : tX9_open D.2.2.2.2 x x1 x2 M = some z) (hx9 : (M.1 x).1 = 11) (ho : z.2.1 out = (104, 1, f)) (hob : z.2.2.2.2 ≤ out) (hne : ∀ j, z.1 = .inr j → mpC j ≠ 0) : Met l yL_open (Cond.codeWith yL_open cL_open 5 (some .int) [(0, 10, 13, 22), (0, 10, 17, 82)] :: TB) rmL_open (va_Pc [.ref x, .int x1, .int x2, .ref out] (vPre D M)) (qH D (pL z.2 out (Sum.elim (fun v => some (.long v.toInt64)) (fun _ => none) z.1)) (.int (Sum.elim (fun _ => 0) mpC z.1))) 50 2001 (vA D) := by
  refine v_ofH (cc := cL_open) (maxL := 5) (ret := (some .int)) (by decide) (Nat.le_of_ble_eq_true rfl) ?_
  intro p e s m args below meth c hx hb hr hml hown hts hlk htb hSS hR0 ls hl
  have hK := hSS.1
  have hl : lv_has ls 5 [(0, .ref x), (1, .int x1), (2, .int x2), (3, .ref out)] := hl
  refine w_aload_n hx hb dL_open_0 rfl (lv_at hl 3 rfl) ?_
  refine w_iconst (v := 0) hx hb dL_open_1 (by decide) ?_
  refine w_aload_n hx hb dL_open_2 rfl (lv_at hl 0 rfl) ?_
  refine w_iload_n hx hb dL_open_3 rfl (lv_at hl 1 rfl) ?_
  refine w_iload_n hx hb dL_open_4 rfl (lv_at hl 2 rfl) ?_
  rcases hz : z.1 with v | j
  · refine v_callXok (ov := some (.int v)) (mcz := 50) (msz := 2001) (fun H locs hR hS => vx_runV (As := [.int x1, .int x2]) (rest := [.int 0, .ref out]) ⟨hx, hb, hml, hown, hts⟩ (mX9_open l hfl D x x1 x2 M z h) (cwV 2 hts (gdV kl1235 kl1236 kl1237 kw77 kl1238) rfl rfl rfl (by decide +kernel) ⟨Nat.le_of_ble_eq_true rfl, Nat.le_of_ble_eq_true rfl⟩) (v_preV (ci := 10) hSS hR hS hx9 (by decide) rfl [.int x1, .int x2]) rfl rfl hl.1 rfl (lv_room (Nat.le_of_ble_eq_true rfl)) dL_open_5 ⟨by show _ + _ ≤ 50; omega, by show _ + _ ≤ 2001; omega⟩) (by rw [hz]; rfl) (by rw [hz]; rfl) (st1 := [.int v, .int 0, .ref out]) rfl ?_
    refine w_i2l hx hb dL_open_8 ?_
    have hw : sA z.2 out 104 0 (.long v.toInt64) = some (wr z.2 out 0 (.long v.toInt64)) := by
      show (if (z.2.1 out).1 = 104 ∧ ¬ ((0 : Int32) < 0 ∨ (z.2.1 out).2.1 ≤ (0 : Int32).toNatClampNeg) ∧ z.2.2.2.2 ≤ out then some (wr z.2 out (0 : Int32).toNatClampNeg (.long v.toInt64)) else none) = _
      rw [ho, if_pos ⟨rfl, z_in, hob⟩]; rfl
    refine v_last hx hb hK hw dL_open_9 ?_
    refine w_goto (tgt := 21) hx hb dL_open_10 (by decide) ?_
    refine w_iconst (v := 0) hx hb dL_open_21 (by decide) ?_
    refine vV.widen (n' := 50) (k' := 2001) (by omega) (by omega) ?_
    exact v_iretH (P := pL z.2 out (some (.long v.toInt64))) hx hb hr hlk rfl dL_open_22
  · rcases mpC_v (hne j hz) with rfl | rfl
    · refine v_callXca (mcz := 50) (msz := 2001) hown hSS (j := 1) (by decide) [] (⟨0, 10, 13, 22⟩ : ExceptionTableEntry) [(⟨0, 10, 17, 82⟩ : ExceptionTableEntry)] htb (fun z hz9 => absurd hz9 (List.not_mem_nil)) (by decide) (by decide) (hts _ kl994) (fun H locs hR hS => vx_runV (As := [.int x1, .int x2]) (rest := [.int 0, .ref out]) ⟨hx, hb, hml, hown, hts⟩ (mX9_open l hfl D x x1 x2 M z h) (cwV 2 hts (gdV kl1235 kl1236 kl1237 kw77 kl1238) rfl rfl rfl (by decide +kernel) ⟨Nat.le_of_ble_eq_true rfl, Nat.le_of_ble_eq_true rfl⟩) (v_preV (ci := 10) hSS hR hS hx9 (by decide) rfl [.int x1, .int x2]) rfl rfl hl.1 rfl (lv_room (Nat.le_of_ble_eq_true rfl)) dL_open_5 ⟨by show _ + _ ≤ 50; omega, by show _ + _ ≤ 2001; omega⟩) (by rw [hz]; rfl) (by rw [hz]; rfl) (fun A B q hA hB => ?_)
      refine w_astore (lv' := (4, .ref q) :: [(0, .ref x), (1, .int x1), (2, .int x2), (3, .ref out)]) hx hb dL_open_13 hl (by decide) rfl (fun ls hl => ?_)
      refine w_iconst (v := 1) hx hb dL_open_15 (by decide) ?_
      refine vV.widen (n' := 50) (k' := 2001) (by omega) (by omega) ?_
      exact v_iretH (P := pL z.2 out none) hx hb hr hlk ⟨A, B, hA, hB, rfl⟩ dL_open_16
    · refine v_callXca (mcz := 50) (msz := 2001) hown hSS (j := 2) (by decide) [(⟨0, 10, 13, 22⟩ : ExceptionTableEntry)] (⟨0, 10, 17, 82⟩ : ExceptionTableEntry) [] htb (fun z hz9 => by cases List.mem_singleton.mp hz9; exact Or.inr ⟨by decide, vE 1, hts _ kl994, hSS.2.2.2.2.2.2.2.2.2.1 2 1 (by decide) (by decide) (by decide)⟩) (by decide) (by decide) (hts _ kl1210) (fun H locs hR hS => vx_runV (As := [.int x1, .int x2]) (rest := [.int 0, .ref out]) ⟨hx, hb, hml, hown, hts⟩ (mX9_open l hfl D x x1 x2 M z h) (cwV 2 hts (gdV kl1235 kl1236 kl1237 kw77 kl1238) rfl rfl rfl (by decide +kernel) ⟨Nat.le_of_ble_eq_true rfl, Nat.le_of_ble_eq_true rfl⟩) (v_preV (ci := 10) hSS hR hS hx9 (by decide) rfl [.int x1, .int x2]) rfl rfl hl.1 rfl (lv_room (Nat.le_of_ble_eq_true rfl)) dL_open_5 ⟨by show _ + _ ≤ 50; omega, by show _ + _ ≤ 2001; omega⟩) (by rw [hz]; rfl) (by rw [hz]; rfl) (fun A B q hA hB => ?_)
      refine w_astore (lv' := (4, .ref q) :: [(0, .ref x), (1, .int x1), (2, .int x2), (3, .ref out)]) hx hb dL_open_17 hl (by decide) rfl (fun ls hl => ?_)
      refine w_iconst (v := 2) hx hb dL_open_19 (by decide) ?_
      refine vV.widen (n' := 50) (k' := 2001) (by omega) (by omega) ?_
      exact v_iretH (P := pL z.2 out none) hx hb hr hlk ⟨A, B, hA, hB, rfl⟩ dL_open_20
def rmL_parse : Room := { frames := 12, cells := 26, slots := 269, locals := 279 }
set_option maxHeartbeats 4000000 in
set_option maxRecDepth 100000 in
theorem mL_parse (l : Launch) (hfl : l.stackTraces = false) (D : vD) (x : Nat) (x1 : Int32) (out : Nat) (M : vMe) (f : Nat → Value) (z : ((Int32 ⊕ Nat) × vMe)) (h : tX9_parse D.2.2.2.2 x x1 M = some z) (hx9 : (M.1 x).1 = 11) (ho : z.2.1 out = (104, 1, f)) (hob : z.2.2.2.2 ≤ out) (hne : ∀ j, z.1 = .inr j → mp0 j ≠ 0) : Met l yL_parse (Cond.codeWith yL_parse cL_parse 4 (some .int) [(0, 9, 12, 13)] :: TB) rmL_parse (va_Pc [.ref x, .int x1, .ref out] (vPre D M)) (qH D (pL z.2 out (Sum.elim (fun v => some (.long v.toInt64)) (fun _ => none) z.1)) (.int (Sum.elim (fun _ => 0) mp0 z.1))) 26 269 (vA D) := by
  refine v_ofH (cc := cL_parse) (maxL := 4) (ret := (some .int)) (by decide) (Nat.le_of_ble_eq_true rfl) ?_
  intro p e s m args below meth c hx hb hr hml hown hts hlk htb hSS hR0 ls hl
  have hK := hSS.1
  have hl : lv_has ls 4 [(0, .ref x), (1, .int x1), (2, .ref out)] := hl
  refine w_aload_n hx hb dL_parse_0 rfl (lv_at hl 2 rfl) ?_
  refine w_iconst (v := 0) hx hb dL_parse_1 (by decide) ?_
  refine w_aload_n hx hb dL_parse_2 rfl (lv_at hl 0 rfl) ?_
  refine w_iload_n hx hb dL_parse_3 rfl (lv_at hl 1 rfl) ?_
  rcases hz : z.1 with v | j
  · refine v_callXok (ov := some (.int v)) (mcz := 26) (msz := 269) (fun H locs hR hS => vx_runV (As := [.int x1]) (rest := [.int 0, .ref out]) ⟨hx, hb, hml, hown, hts⟩ (mX9_parse l hfl D x x1 M z h) (cwV 1 hts (gdV kl470 kl471 kl472 kw77 kl473) rfl rfl rfl (by decide +kernel) ⟨Nat.le_of_ble_eq_true rfl, Nat.le_of_ble_eq_true rfl⟩) (v_preV (ci := 10) hSS hR hS hx9 (by decide) rfl [.int x1]) rfl rfl hl.1 rfl (lv_room (Nat.le_of_ble_eq_true rfl)) dL_parse_4 ⟨by show _ + _ ≤ 26; omega, by show _ + _ ≤ 269; omega⟩) (by rw [hz]; rfl) (by rw [hz]; rfl) (st1 := [.int v, .int 0, .ref out]) rfl ?_
    refine w_i2l hx hb dL_parse_7 ?_
    have hw : sA z.2 out 104 0 (.long v.toInt64) = some (wr z.2 out 0 (.long v.toInt64)) := by
      show (if (z.2.1 out).1 = 104 ∧ ¬ ((0 : Int32) < 0 ∨ (z.2.1 out).2.1 ≤ (0 : Int32).toNatClampNeg) ∧ z.2.2.2.2 ≤ out then some (wr z.2 out (0 : Int32).toNatClampNeg (.long v.toInt64)) else none) = _
      rw [ho, if_pos ⟨rfl, z_in, hob⟩]; rfl
    refine v_last hx hb hK hw dL_parse_8 ?_
    refine w_goto (tgt := 15) hx hb dL_parse_9 (by decide) ?_
    refine w_iconst (v := 0) hx hb dL_parse_15 (by decide) ?_
    refine vV.widen (n' := 26) (k' := 269) (by omega) (by omega) ?_
    exact v_iretH (P := pL z.2 out (some (.long v.toInt64))) hx hb hr hlk rfl dL_parse_16
  · obtain rfl := mp0_v (hne j hz)
    refine v_callXca (mcz := 26) (msz := 269) hown hSS (j := 0) (by decide) [] (⟨0, 9, 12, 13⟩ : ExceptionTableEntry) [] htb (fun z hz9 => absurd hz9 (List.not_mem_nil)) (by decide) (by decide) (hts _ kl469) (fun H locs hR hS => vx_runV (As := [.int x1]) (rest := [.int 0, .ref out]) ⟨hx, hb, hml, hown, hts⟩ (mX9_parse l hfl D x x1 M z h) (cwV 1 hts (gdV kl470 kl471 kl472 kw77 kl473) rfl rfl rfl (by decide +kernel) ⟨Nat.le_of_ble_eq_true rfl, Nat.le_of_ble_eq_true rfl⟩) (v_preV (ci := 10) hSS hR hS hx9 (by decide) rfl [.int x1]) rfl rfl hl.1 rfl (lv_room (Nat.le_of_ble_eq_true rfl)) dL_parse_4 ⟨by show _ + _ ≤ 26; omega, by show _ + _ ≤ 269; omega⟩) (by rw [hz]; rfl) (by rw [hz]; rfl) (fun A B q hA hB => ?_)
    refine w_astore_n (lv' := (3, .ref q) :: [(0, .ref x), (1, .int x1), (2, .ref out)]) hx hb dL_parse_12 rfl hl (by decide) rfl (fun ls hl => ?_)
    refine w_iconst (v := 1) hx hb dL_parse_13 (by decide) ?_
    refine vV.widen (n' := 26) (k' := 269) (by omega) (by omega) ?_
    exact v_iretH (P := pL z.2 out none) hx hb hr hlk ⟨A, B, hA, hB, rfl⟩ dL_parse_14
def rmL_place : Room := { frames := 9, cells := 1, slots := 6, locals := 164 }
set_option maxHeartbeats 4000000 in
set_option maxRecDepth 100000 in
theorem mL_place (l : Launch) (hfl : l.stackTraces = false) (D : vD) (x : Nat) (x1 : Int32) (x2 : Int32) (out : Nat) (M : vMe) (f : Nat → Value) (z : ((Int32 ⊕ Nat) × vMe)) (h : tX9_place x x1 x2 M = some z) (hx9 : (M.1 x).1 = 11) (ho : z.2.1 out = (104, 1, f)) (hob : z.2.2.2.2 ≤ out) (hne : ∀ j, z.1 = .inr j → mp1 j ≠ 0) : Met l yL_place (Cond.codeWith yL_place cL_place 5 (some .int) [(0, 10, 13, 22)] :: TB) rmL_place (va_Pc [.ref x, .int x1, .int x2, .ref out] (vPre D M)) (qH D (pL z.2 out (Sum.elim (fun v => some (.long v.toInt64)) (fun _ => none) z.1)) (.int (Sum.elim (fun _ => 0) mp1 z.1))) 1 6 (vA D) := by
  refine v_ofH (cc := cL_place) (maxL := 5) (ret := (some .int)) (by decide) (Nat.le_of_ble_eq_true rfl) ?_
  intro p e s m args below meth c hx hb hr hml hown hts hlk htb hSS hR0 ls hl
  have hK := hSS.1
  have hl : lv_has ls 5 [(0, .ref x), (1, .int x1), (2, .int x2), (3, .ref out)] := hl
  refine w_aload_n hx hb dL_place_0 rfl (lv_at hl 3 rfl) ?_
  refine w_iconst (v := 0) hx hb dL_place_1 (by decide) ?_
  refine w_aload_n hx hb dL_place_2 rfl (lv_at hl 0 rfl) ?_
  refine w_iload_n hx hb dL_place_3 rfl (lv_at hl 1 rfl) ?_
  refine w_iload_n hx hb dL_place_4 rfl (lv_at hl 2 rfl) ?_
  rcases hz : z.1 with v | j
  · refine v_callXok (ov := some (.int v)) (mcz := 1) (msz := 6) (fun H locs hR hS => vx_runV (As := [.int x1, .int x2]) (rest := [.int 0, .ref out]) ⟨hx, hb, hml, hown, hts⟩ (mX9_place l hfl D x x1 x2 M z h) (cwV 2 hts (gdV kl1042 kl1043 kl1044 kw77 kl1045) rfl rfl rfl (by decide +kernel) ⟨Nat.le_of_ble_eq_true rfl, Nat.le_of_ble_eq_true rfl⟩) (v_preV (ci := 10) hSS hR hS hx9 (by decide) rfl [.int x1, .int x2]) rfl rfl hl.1 rfl (lv_room (Nat.le_of_ble_eq_true rfl)) dL_place_5 ⟨by show _ + _ ≤ 1; omega, by show _ + _ ≤ 6; omega⟩) (by rw [hz]; rfl) (by rw [hz]; rfl) (st1 := [.int v, .int 0, .ref out]) rfl ?_
    refine w_i2l hx hb dL_place_8 ?_
    have hw : sA z.2 out 104 0 (.long v.toInt64) = some (wr z.2 out 0 (.long v.toInt64)) := by
      show (if (z.2.1 out).1 = 104 ∧ ¬ ((0 : Int32) < 0 ∨ (z.2.1 out).2.1 ≤ (0 : Int32).toNatClampNeg) ∧ z.2.2.2.2 ≤ out then some (wr z.2 out (0 : Int32).toNatClampNeg (.long v.toInt64)) else none) = _
      rw [ho, if_pos ⟨rfl, z_in, hob⟩]; rfl
    refine v_last hx hb hK hw dL_place_9 ?_
    refine w_goto (tgt := 17) hx hb dL_place_10 (by decide) ?_
    refine w_iconst (v := 0) hx hb dL_place_17 (by decide) ?_
    refine vV.widen (n' := 1) (k' := 6) (by omega) (by omega) ?_
    exact v_iretH (P := pL z.2 out (some (.long v.toInt64))) hx hb hr hlk rfl dL_place_18
  · obtain rfl := mp1_v (hne j hz)
    refine v_callXca (mcz := 1) (msz := 6) hown hSS (j := 1) (by decide) [] (⟨0, 10, 13, 22⟩ : ExceptionTableEntry) [] htb (fun z hz9 => absurd hz9 (List.not_mem_nil)) (by decide) (by decide) (hts _ kl994) (fun H locs hR hS => vx_runV (As := [.int x1, .int x2]) (rest := [.int 0, .ref out]) ⟨hx, hb, hml, hown, hts⟩ (mX9_place l hfl D x x1 x2 M z h) (cwV 2 hts (gdV kl1042 kl1043 kl1044 kw77 kl1045) rfl rfl rfl (by decide +kernel) ⟨Nat.le_of_ble_eq_true rfl, Nat.le_of_ble_eq_true rfl⟩) (v_preV (ci := 10) hSS hR hS hx9 (by decide) rfl [.int x1, .int x2]) rfl rfl hl.1 rfl (lv_room (Nat.le_of_ble_eq_true rfl)) dL_place_5 ⟨by show _ + _ ≤ 1; omega, by show _ + _ ≤ 6; omega⟩) (by rw [hz]; rfl) (by rw [hz]; rfl) (fun A B q hA hB => ?_)
    refine w_astore (lv' := (4, .ref q) :: [(0, .ref x), (1, .int x1), (2, .int x2), (3, .ref out)]) hx hb dL_place_13 hl (by decide) rfl (fun ls hl => ?_)
    refine w_iconst (v := 1) hx hb dL_place_15 (by decide) ?_
    refine vV.widen (n' := 1) (k' := 6) (by omega) (by omega) ?_
    exact v_iretH (P := pL z.2 out none) hx hb hr hlk ⟨A, B, hA, hB, rfl⟩ dL_place_16
def rmL_remove : Room := { frames := 8, cells := 50, slots := 2001, locals := 167 }
set_option maxHeartbeats 4000000 in
set_option maxRecDepth 100000 in
theorem mL_remove (l : Launch) (hfl : l.stackTraces = false) (D : vD) (x : Nat) (x1 : Int32) (x2 : Int32) (out : Nat) (M : vMe) (f : Nat → Value) (z : ((Int32 ⊕ Nat) × vMe)) (h : tX9_remove D.2.2.2.2 x x1 x2 M = some z) (hx9 : (M.1 x).1 = 11) (ho : z.2.1 out = (104, 1, f)) (hob : z.2.2.2.2 ≤ out) (hne : ∀ j, z.1 = .inr j → mpA j ≠ 0) : Met l yL_remove (Cond.codeWith yL_remove cL_remove 5 (some .int) [(0, 17, 20, 22), (0, 17, 24, 13)] :: TB) rmL_remove (va_Pc [.ref x, .int x1, .int x2, .ref out] (vPre D M)) (qH D (pL z.2 out (Sum.elim (fun v => some (.long (if v = 0 then 0 else 1))) (fun _ => none) z.1)) (.int (Sum.elim (fun _ => 0) mpA z.1))) 50 2001 (vA D) := by
  refine v_ofH (cc := cL_remove) (maxL := 5) (ret := (some .int)) (by decide) (Nat.le_of_ble_eq_true rfl) ?_
  intro p e s m args below meth c hx hb hr hml hown hts hlk htb hSS hR0 ls hl
  have hK := hSS.1
  have hl : lv_has ls 5 [(0, .ref x), (1, .int x1), (2, .int x2), (3, .ref out)] := hl
  refine w_aload_n hx hb dL_remove_0 rfl (lv_at hl 3 rfl) ?_
  refine w_iconst (v := 0) hx hb dL_remove_1 (by decide) ?_
  refine w_aload_n hx hb dL_remove_2 rfl (lv_at hl 0 rfl) ?_
  refine w_iload_n hx hb dL_remove_3 rfl (lv_at hl 1 rfl) ?_
  refine w_iload_n hx hb dL_remove_4 rfl (lv_at hl 2 rfl) ?_
  rcases hz : z.1 with v | j
  · refine v_callXok (ov := some (.int v)) (mcz := 50) (msz := 2001) (fun H locs hR hS => vx_runV (As := [.int x1, .int x2]) (rest := [.int 0, .ref out]) ⟨hx, hb, hml, hown, hts⟩ (mX9_remove l hfl D x x1 x2 M z h) (cwV 2 hts (gdV kl1194 kl1195 kl1196 kw77 kl1197) rfl rfl rfl (by decide +kernel) ⟨Nat.le_of_ble_eq_true rfl, Nat.le_of_ble_eq_true rfl⟩) (v_preV (ci := 10) hSS hR hS hx9 (by decide) rfl [.int x1, .int x2]) rfl rfl hl.1 rfl (lv_room (Nat.le_of_ble_eq_true rfl)) dL_remove_5 ⟨by show _ + _ ≤ 50; omega, by show _ + _ ≤ 2001; omega⟩) (by rw [hz]; rfl) (by rw [hz]; rfl) (st1 := [.int v, .int 0, .ref out]) rfl ?_
    refine w_if_eq (tgt := 15) hx hb dL_remove_8 (by decide) (fun c0 => ?_) (fun c0 => ?_)
    · refine w_lconst (v := 0) hx hb dL_remove_15 (by decide) ?_
      have hw : sA z.2 out 104 0 (.long 0) = some (wr z.2 out 0 (.long 0)) := by
        show (if (z.2.1 out).1 = 104 ∧ ¬ ((0 : Int32) < 0 ∨ (z.2.1 out).2.1 ≤ (0 : Int32).toNatClampNeg) ∧ z.2.2.2.2 ≤ out then some (wr z.2 out (0 : Int32).toNatClampNeg (.long 0)) else none) = _
        rw [ho, if_pos ⟨rfl, z_in, hob⟩]; rfl
      refine v_last hx hb hK hw dL_remove_16 ?_
      refine w_goto (tgt := 28) hx hb dL_remove_17 (by decide) ?_
      refine w_iconst (v := 0) hx hb dL_remove_28 (by decide) ?_
      refine vV.widen (n' := 50) (k' := 2001) (by omega) (by omega) ?_
      exact v_iretH (P := pL z.2 out (some (.long (if v = 0 then 0 else 1)))) hx hb hr hlk (by rw [if_pos c0]; rfl) dL_remove_29
    · refine w_lconst (v := 1) hx hb dL_remove_11 (by decide) ?_
      refine w_goto (tgt := 16) hx hb dL_remove_12 (by decide) ?_
      have hw : sA z.2 out 104 0 (.long 1) = some (wr z.2 out 0 (.long 1)) := by
        show (if (z.2.1 out).1 = 104 ∧ ¬ ((0 : Int32) < 0 ∨ (z.2.1 out).2.1 ≤ (0 : Int32).toNatClampNeg) ∧ z.2.2.2.2 ≤ out then some (wr z.2 out (0 : Int32).toNatClampNeg (.long 1)) else none) = _
        rw [ho, if_pos ⟨rfl, z_in, hob⟩]; rfl
      refine v_last hx hb hK hw dL_remove_16 ?_
      refine w_goto (tgt := 28) hx hb dL_remove_17 (by decide) ?_
      refine w_iconst (v := 0) hx hb dL_remove_28 (by decide) ?_
      refine vV.widen (n' := 50) (k' := 2001) (by omega) (by omega) ?_
      exact v_iretH (P := pL z.2 out (some (.long (if v = 0 then 0 else 1)))) hx hb hr hlk (by rw [if_neg c0]; rfl) dL_remove_29
  · rcases mpA_v (hne j hz) with rfl | rfl
    · refine v_callXca (mcz := 50) (msz := 2001) hown hSS (j := 1) (by decide) [] (⟨0, 17, 20, 22⟩ : ExceptionTableEntry) [(⟨0, 17, 24, 13⟩ : ExceptionTableEntry)] htb (fun z hz9 => absurd hz9 (List.not_mem_nil)) (by decide) (by decide) (hts _ kl994) (fun H locs hR hS => vx_runV (As := [.int x1, .int x2]) (rest := [.int 0, .ref out]) ⟨hx, hb, hml, hown, hts⟩ (mX9_remove l hfl D x x1 x2 M z h) (cwV 2 hts (gdV kl1194 kl1195 kl1196 kw77 kl1197) rfl rfl rfl (by decide +kernel) ⟨Nat.le_of_ble_eq_true rfl, Nat.le_of_ble_eq_true rfl⟩) (v_preV (ci := 10) hSS hR hS hx9 (by decide) rfl [.int x1, .int x2]) rfl rfl hl.1 rfl (lv_room (Nat.le_of_ble_eq_true rfl)) dL_remove_5 ⟨by show _ + _ ≤ 50; omega, by show _ + _ ≤ 2001; omega⟩) (by rw [hz]; rfl) (by rw [hz]; rfl) (fun A B q hA hB => ?_)
      refine w_astore (lv' := (4, .ref q) :: [(0, .ref x), (1, .int x1), (2, .int x2), (3, .ref out)]) hx hb dL_remove_20 hl (by decide) rfl (fun ls hl => ?_)
      refine w_iconst (v := 1) hx hb dL_remove_22 (by decide) ?_
      refine vV.widen (n' := 50) (k' := 2001) (by omega) (by omega) ?_
      exact v_iretH (P := pL z.2 out none) hx hb hr hlk ⟨A, B, hA, hB, rfl⟩ dL_remove_23
    · refine v_callXca (mcz := 50) (msz := 2001) hown hSS (j := 0) (by decide) [(⟨0, 17, 20, 22⟩ : ExceptionTableEntry)] (⟨0, 17, 24, 13⟩ : ExceptionTableEntry) [] htb (fun z hz9 => by cases List.mem_singleton.mp hz9; exact Or.inr ⟨by decide, vE 1, hts _ kl994, hSS.2.2.2.2.2.2.2.2.2.1 0 1 (by decide) (by decide) (by decide)⟩) (by decide) (by decide) (hts _ kl469) (fun H locs hR hS => vx_runV (As := [.int x1, .int x2]) (rest := [.int 0, .ref out]) ⟨hx, hb, hml, hown, hts⟩ (mX9_remove l hfl D x x1 x2 M z h) (cwV 2 hts (gdV kl1194 kl1195 kl1196 kw77 kl1197) rfl rfl rfl (by decide +kernel) ⟨Nat.le_of_ble_eq_true rfl, Nat.le_of_ble_eq_true rfl⟩) (v_preV (ci := 10) hSS hR hS hx9 (by decide) rfl [.int x1, .int x2]) rfl rfl hl.1 rfl (lv_room (Nat.le_of_ble_eq_true rfl)) dL_remove_5 ⟨by show _ + _ ≤ 50; omega, by show _ + _ ≤ 2001; omega⟩) (by rw [hz]; rfl) (by rw [hz]; rfl) (fun A B q hA hB => ?_)
      refine w_astore (lv' := (4, .ref q) :: [(0, .ref x), (1, .int x1), (2, .int x2), (3, .ref out)]) hx hb dL_remove_24 hl (by decide) rfl (fun ls hl => ?_)
      refine w_iconst (v := 2) hx hb dL_remove_26 (by decide) ?_
      refine vV.widen (n' := 50) (k' := 2001) (by omega) (by omega) ?_
      exact v_iretH (P := pL z.2 out none) hx hb hr hlk ⟨A, B, hA, hB, rfl⟩ dL_remove_27
def rmL_removeMet : Room := { frames := 8, cells := 50, slots := 2001, locals := 168 }
set_option maxHeartbeats 4000000 in
set_option maxRecDepth 100000 in
theorem mL_removeMet (l : Launch) (hfl : l.stackTraces = false) (D : vD) (x : Nat) (x1 : Int32) (out : Nat) (M : vMe) (f : Nat → Value) (z : ((Int32 ⊕ Nat) × vMe)) (h : tX9_removeMet D.2.2.2.2 x x1 M = some z) (hx9 : (M.1 x).1 = 11) (ho : z.2.1 out = (104, 1, f)) (hob : z.2.2.2.2 ≤ out) (hne : ∀ j, z.1 = .inr j → mpC j ≠ 0) : Met l yL_removeMet (Cond.codeWith yL_removeMet cL_removeMet 4 (some .int) [(0, 9, 12, 22), (0, 9, 15, 82)] :: TB) rmL_removeMet (va_Pc [.ref x, .int x1, .ref out] (vPre D M)) (qH D (pL z.2 out (Sum.elim (fun v => some (.long v.toInt64)) (fun _ => none) z.1)) (.int (Sum.elim (fun _ => 0) mpC z.1))) 50 2001 (vA D) := by
  refine v_ofH (cc := cL_removeMet) (maxL := 4) (ret := (some .int)) (by decide) (Nat.le_of_ble_eq_true rfl) ?_
  intro p e s m args below meth c hx hb hr hml hown hts hlk htb hSS hR0 ls hl
  have hK := hSS.1
  have hl : lv_has ls 4 [(0, .ref x), (1, .int x1), (2, .ref out)] := hl
  refine w_aload_n hx hb dL_removeMet_0 rfl (lv_at hl 2 rfl) ?_
  refine w_iconst (v := 0) hx hb dL_removeMet_1 (by decide) ?_
  refine w_aload_n hx hb dL_removeMet_2 rfl (lv_at hl 0 rfl) ?_
  refine w_iload_n hx hb dL_removeMet_3 rfl (lv_at hl 1 rfl) ?_
  rcases hz : z.1 with v | j
  · refine v_callXok (ov := some (.int v)) (mcz := 50) (msz := 2001) (fun H locs hR hS => vx_runV (As := [.int x1]) (rest := [.int 0, .ref out]) ⟨hx, hb, hml, hown, hts⟩ (mX9_removeMet l hfl D x x1 M z h) (cwV 1 hts (gdV kl1269 kl1270 kl1271 kw77 kl1272) rfl rfl rfl (by decide +kernel) ⟨Nat.le_of_ble_eq_true rfl, Nat.le_of_ble_eq_true rfl⟩) (v_preV (ci := 10) hSS hR hS hx9 (by decide) rfl [.int x1]) rfl rfl hl.1 rfl (lv_room (Nat.le_of_ble_eq_true rfl)) dL_removeMet_4 ⟨by show _ + _ ≤ 50; omega, by show _ + _ ≤ 2001; omega⟩) (by rw [hz]; rfl) (by rw [hz]; rfl) (st1 := [.int v, .int 0, .ref out]) rfl ?_
    refine w_i2l hx hb dL_removeMet_7 ?_
    have hw : sA z.2 out 104 0 (.long v.toInt64) = some (wr z.2 out 0 (.long v.toInt64)) := by
      show (if (z.2.1 out).1 = 104 ∧ ¬ ((0 : Int32) < 0 ∨ (z.2.1 out).2.1 ≤ (0 : Int32).toNatClampNeg) ∧ z.2.2.2.2 ≤ out then some (wr z.2 out (0 : Int32).toNatClampNeg (.long v.toInt64)) else none) = _
      rw [ho, if_pos ⟨rfl, z_in, hob⟩]; rfl
    refine v_last hx hb hK hw dL_removeMet_8 ?_
    refine w_goto (tgt := 18) hx hb dL_removeMet_9 (by decide) ?_
    refine w_iconst (v := 0) hx hb dL_removeMet_18 (by decide) ?_
    refine vV.widen (n' := 50) (k' := 2001) (by omega) (by omega) ?_
    exact v_iretH (P := pL z.2 out (some (.long v.toInt64))) hx hb hr hlk rfl dL_removeMet_19
  · rcases mpC_v (hne j hz) with rfl | rfl
    · refine v_callXca (mcz := 50) (msz := 2001) hown hSS (j := 1) (by decide) [] (⟨0, 9, 12, 22⟩ : ExceptionTableEntry) [(⟨0, 9, 15, 82⟩ : ExceptionTableEntry)] htb (fun z hz9 => absurd hz9 (List.not_mem_nil)) (by decide) (by decide) (hts _ kl994) (fun H locs hR hS => vx_runV (As := [.int x1]) (rest := [.int 0, .ref out]) ⟨hx, hb, hml, hown, hts⟩ (mX9_removeMet l hfl D x x1 M z h) (cwV 1 hts (gdV kl1269 kl1270 kl1271 kw77 kl1272) rfl rfl rfl (by decide +kernel) ⟨Nat.le_of_ble_eq_true rfl, Nat.le_of_ble_eq_true rfl⟩) (v_preV (ci := 10) hSS hR hS hx9 (by decide) rfl [.int x1]) rfl rfl hl.1 rfl (lv_room (Nat.le_of_ble_eq_true rfl)) dL_removeMet_4 ⟨by show _ + _ ≤ 50; omega, by show _ + _ ≤ 2001; omega⟩) (by rw [hz]; rfl) (by rw [hz]; rfl) (fun A B q hA hB => ?_)
      refine w_astore_n (lv' := (3, .ref q) :: [(0, .ref x), (1, .int x1), (2, .ref out)]) hx hb dL_removeMet_12 rfl hl (by decide) rfl (fun ls hl => ?_)
      refine w_iconst (v := 1) hx hb dL_removeMet_13 (by decide) ?_
      refine vV.widen (n' := 50) (k' := 2001) (by omega) (by omega) ?_
      exact v_iretH (P := pL z.2 out none) hx hb hr hlk ⟨A, B, hA, hB, rfl⟩ dL_removeMet_14
    · refine v_callXca (mcz := 50) (msz := 2001) hown hSS (j := 2) (by decide) [(⟨0, 9, 12, 22⟩ : ExceptionTableEntry)] (⟨0, 9, 15, 82⟩ : ExceptionTableEntry) [] htb (fun z hz9 => by cases List.mem_singleton.mp hz9; exact Or.inr ⟨by decide, vE 1, hts _ kl994, hSS.2.2.2.2.2.2.2.2.2.1 2 1 (by decide) (by decide) (by decide)⟩) (by decide) (by decide) (hts _ kl1210) (fun H locs hR hS => vx_runV (As := [.int x1]) (rest := [.int 0, .ref out]) ⟨hx, hb, hml, hown, hts⟩ (mX9_removeMet l hfl D x x1 M z h) (cwV 1 hts (gdV kl1269 kl1270 kl1271 kw77 kl1272) rfl rfl rfl (by decide +kernel) ⟨Nat.le_of_ble_eq_true rfl, Nat.le_of_ble_eq_true rfl⟩) (v_preV (ci := 10) hSS hR hS hx9 (by decide) rfl [.int x1]) rfl rfl hl.1 rfl (lv_room (Nat.le_of_ble_eq_true rfl)) dL_removeMet_4 ⟨by show _ + _ ≤ 50; omega, by show _ + _ ≤ 2001; omega⟩) (by rw [hz]; rfl) (by rw [hz]; rfl) (fun A B q hA hB => ?_)
      refine w_astore_n (lv' := (3, .ref q) :: [(0, .ref x), (1, .int x1), (2, .ref out)]) hx hb dL_removeMet_15 rfl hl (by decide) rfl (fun ls hl => ?_)
      refine w_iconst (v := 2) hx hb dL_removeMet_16 (by decide) ?_
      refine vV.widen (n' := 50) (k' := 2001) (by omega) (by omega) ?_
      exact v_iretH (P := pL z.2 out none) hx hb hr hlk ⟨A, B, hA, hB, rfl⟩ dL_removeMet_17
def rmL_restoreSnapshot : Room := { frames := 8, cells := 1, slots := 6, locals := 146 }
set_option maxHeartbeats 4000000 in
set_option maxRecDepth 100000 in
theorem mL_restoreSnapshot (l : Launch) (hfl : l.stackTraces = false) (D : vD) (x : Nat) (x1 : Int32) (out : Nat) (M : vMe) (f : Nat → Value) (z : ((Int32 ⊕ Nat) × vMe)) (h : tX9_restoreSnapshot x x1 M = some z) (hx9 : (M.1 x).1 = 11) (ho : z.2.1 out = (104, 1, f)) (hob : z.2.2.2.2 ≤ out) (hne : ∀ j, z.1 = .inr j → mpC j ≠ 0) : Met l yL_restoreSnapshot (Cond.codeWith yL_restoreSnapshot cL_restoreSnapshot 4 (some .int) [(0, 9, 12, 22), (0, 9, 15, 82)] :: TB) rmL_restoreSnapshot (va_Pc [.ref x, .int x1, .ref out] (vPre D M)) (qH D (pL z.2 out (Sum.elim (fun v => some (.long v.toInt64)) (fun _ => none) z.1)) (.int (Sum.elim (fun _ => 0) mpC z.1))) 1 6 (vA D) := by
  refine v_ofH (cc := cL_restoreSnapshot) (maxL := 4) (ret := (some .int)) (by decide) (Nat.le_of_ble_eq_true rfl) ?_
  intro p e s m args below meth c hx hb hr hml hown hts hlk htb hSS hR0 ls hl
  have hK := hSS.1
  have hl : lv_has ls 4 [(0, .ref x), (1, .int x1), (2, .ref out)] := hl
  refine w_aload_n hx hb dL_restoreSnapshot_0 rfl (lv_at hl 2 rfl) ?_
  refine w_iconst (v := 0) hx hb dL_restoreSnapshot_1 (by decide) ?_
  refine w_aload_n hx hb dL_restoreSnapshot_2 rfl (lv_at hl 0 rfl) ?_
  refine w_iload_n hx hb dL_restoreSnapshot_3 rfl (lv_at hl 1 rfl) ?_
  rcases hz : z.1 with v | j
  · refine v_callXok (ov := some (.int v)) (mcz := 1) (msz := 6) (fun H locs hR hS => vx_runV (As := [.int x1]) (rest := [.int 0, .ref out]) ⟨hx, hb, hml, hown, hts⟩ (mX9_restoreSnapshot l hfl D x x1 M z h) (cwV 1 hts (gdV kl1319 kl1320 kl1321 kw77 kl1322) rfl rfl rfl (by decide +kernel) ⟨Nat.le_of_ble_eq_true rfl, Nat.le_of_ble_eq_true rfl⟩) (v_preV (ci := 10) hSS hR hS hx9 (by decide) rfl [.int x1]) rfl rfl hl.1 rfl (lv_room (Nat.le_of_ble_eq_true rfl)) dL_restoreSnapshot_4 ⟨by show _ + _ ≤ 1; omega, by show _ + _ ≤ 6; omega⟩) (by rw [hz]; rfl) (by rw [hz]; rfl) (st1 := [.int v, .int 0, .ref out]) rfl ?_
    refine w_i2l hx hb dL_restoreSnapshot_7 ?_
    have hw : sA z.2 out 104 0 (.long v.toInt64) = some (wr z.2 out 0 (.long v.toInt64)) := by
      show (if (z.2.1 out).1 = 104 ∧ ¬ ((0 : Int32) < 0 ∨ (z.2.1 out).2.1 ≤ (0 : Int32).toNatClampNeg) ∧ z.2.2.2.2 ≤ out then some (wr z.2 out (0 : Int32).toNatClampNeg (.long v.toInt64)) else none) = _
      rw [ho, if_pos ⟨rfl, z_in, hob⟩]; rfl
    refine v_last hx hb hK hw dL_restoreSnapshot_8 ?_
    refine w_goto (tgt := 18) hx hb dL_restoreSnapshot_9 (by decide) ?_
    refine w_iconst (v := 0) hx hb dL_restoreSnapshot_18 (by decide) ?_
    refine vV.widen (n' := 1) (k' := 6) (by omega) (by omega) ?_
    exact v_iretH (P := pL z.2 out (some (.long v.toInt64))) hx hb hr hlk rfl dL_restoreSnapshot_19
  · rcases mpC_v (hne j hz) with rfl | rfl
    · refine v_callXca (mcz := 1) (msz := 6) hown hSS (j := 1) (by decide) [] (⟨0, 9, 12, 22⟩ : ExceptionTableEntry) [(⟨0, 9, 15, 82⟩ : ExceptionTableEntry)] htb (fun z hz9 => absurd hz9 (List.not_mem_nil)) (by decide) (by decide) (hts _ kl994) (fun H locs hR hS => vx_runV (As := [.int x1]) (rest := [.int 0, .ref out]) ⟨hx, hb, hml, hown, hts⟩ (mX9_restoreSnapshot l hfl D x x1 M z h) (cwV 1 hts (gdV kl1319 kl1320 kl1321 kw77 kl1322) rfl rfl rfl (by decide +kernel) ⟨Nat.le_of_ble_eq_true rfl, Nat.le_of_ble_eq_true rfl⟩) (v_preV (ci := 10) hSS hR hS hx9 (by decide) rfl [.int x1]) rfl rfl hl.1 rfl (lv_room (Nat.le_of_ble_eq_true rfl)) dL_restoreSnapshot_4 ⟨by show _ + _ ≤ 1; omega, by show _ + _ ≤ 6; omega⟩) (by rw [hz]; rfl) (by rw [hz]; rfl) (fun A B q hA hB => ?_)
      refine w_astore_n (lv' := (3, .ref q) :: [(0, .ref x), (1, .int x1), (2, .ref out)]) hx hb dL_restoreSnapshot_12 rfl hl (by decide) rfl (fun ls hl => ?_)
      refine w_iconst (v := 1) hx hb dL_restoreSnapshot_13 (by decide) ?_
      refine vV.widen (n' := 1) (k' := 6) (by omega) (by omega) ?_
      exact v_iretH (P := pL z.2 out none) hx hb hr hlk ⟨A, B, hA, hB, rfl⟩ dL_restoreSnapshot_14
    · refine v_callXca (mcz := 1) (msz := 6) hown hSS (j := 2) (by decide) [(⟨0, 9, 12, 22⟩ : ExceptionTableEntry)] (⟨0, 9, 15, 82⟩ : ExceptionTableEntry) [] htb (fun z hz9 => by cases List.mem_singleton.mp hz9; exact Or.inr ⟨by decide, vE 1, hts _ kl994, hSS.2.2.2.2.2.2.2.2.2.1 2 1 (by decide) (by decide) (by decide)⟩) (by decide) (by decide) (hts _ kl1210) (fun H locs hR hS => vx_runV (As := [.int x1]) (rest := [.int 0, .ref out]) ⟨hx, hb, hml, hown, hts⟩ (mX9_restoreSnapshot l hfl D x x1 M z h) (cwV 1 hts (gdV kl1319 kl1320 kl1321 kw77 kl1322) rfl rfl rfl (by decide +kernel) ⟨Nat.le_of_ble_eq_true rfl, Nat.le_of_ble_eq_true rfl⟩) (v_preV (ci := 10) hSS hR hS hx9 (by decide) rfl [.int x1]) rfl rfl hl.1 rfl (lv_room (Nat.le_of_ble_eq_true rfl)) dL_restoreSnapshot_4 ⟨by show _ + _ ≤ 1; omega, by show _ + _ ≤ 6; omega⟩) (by rw [hz]; rfl) (by rw [hz]; rfl) (fun A B q hA hB => ?_)
      refine w_astore_n (lv' := (3, .ref q) :: [(0, .ref x), (1, .int x1), (2, .ref out)]) hx hb dL_restoreSnapshot_15 rfl hl (by decide) rfl (fun ls hl => ?_)
      refine w_iconst (v := 2) hx hb dL_restoreSnapshot_16 (by decide) ?_
      refine vV.widen (n' := 1) (k' := 6) (by omega) (by omega) ?_
      exact v_iretH (P := pL z.2 out none) hx hb hr hlk ⟨A, B, hA, hB, rfl⟩ dL_restoreSnapshot_17
def rmL_saveSnapshot : Room := { frames := 8, cells := 50, slots := 2001, locals := 168 }
set_option maxHeartbeats 4000000 in
set_option maxRecDepth 100000 in
theorem mL_saveSnapshot (l : Launch) (hfl : l.stackTraces = false) (D : vD) (x : Nat) (x1 : Int32) (out : Nat) (M : vMe) (f : Nat → Value) (z : ((Int32 ⊕ Nat) × vMe)) (h : tX9_saveSnapshot D.2.2.2.2 x x1 M = some z) (hx9 : (M.1 x).1 = 11) (ho : z.2.1 out = (104, 1, f)) (hob : z.2.2.2.2 ≤ out) (hne : ∀ j, z.1 = .inr j → mp1 j ≠ 0) : Met l yL_saveSnapshot (Cond.codeWith yL_saveSnapshot cL_saveSnapshot 4 (some .int) [(0, 16, 19, 22)] :: TB) rmL_saveSnapshot (va_Pc [.ref x, .int x1, .ref out] (vPre D M)) (qH D (pL z.2 out (Sum.elim (fun v => some (.long (if v = 0 then 0 else 1))) (fun _ => none) z.1)) (.int (Sum.elim (fun _ => 0) mp1 z.1))) 50 2001 (vA D) := by
  refine v_ofH (cc := cL_saveSnapshot) (maxL := 4) (ret := (some .int)) (by decide) (Nat.le_of_ble_eq_true rfl) ?_
  intro p e s m args below meth c hx hb hr hml hown hts hlk htb hSS hR0 ls hl
  have hK := hSS.1
  have hl : lv_has ls 4 [(0, .ref x), (1, .int x1), (2, .ref out)] := hl
  refine w_aload_n hx hb dL_saveSnapshot_0 rfl (lv_at hl 2 rfl) ?_
  refine w_iconst (v := 0) hx hb dL_saveSnapshot_1 (by decide) ?_
  refine w_aload_n hx hb dL_saveSnapshot_2 rfl (lv_at hl 0 rfl) ?_
  refine w_iload_n hx hb dL_saveSnapshot_3 rfl (lv_at hl 1 rfl) ?_
  rcases hz : z.1 with v | j
  · refine v_callXok (ov := some (.int v)) (mcz := 50) (msz := 2001) (fun H locs hR hS => vx_runV (As := [.int x1]) (rest := [.int 0, .ref out]) ⟨hx, hb, hml, hown, hts⟩ (mX9_saveSnapshot l hfl D x x1 M z h) (cwV 1 hts (gdV kl1301 kl1302 kl1303 kw77 kl1304) rfl rfl rfl (by decide +kernel) ⟨Nat.le_of_ble_eq_true rfl, Nat.le_of_ble_eq_true rfl⟩) (v_preV (ci := 10) hSS hR hS hx9 (by decide) rfl [.int x1]) rfl rfl hl.1 rfl (lv_room (Nat.le_of_ble_eq_true rfl)) dL_saveSnapshot_4 ⟨by show _ + _ ≤ 50; omega, by show _ + _ ≤ 2001; omega⟩) (by rw [hz]; rfl) (by rw [hz]; rfl) (st1 := [.int v, .int 0, .ref out]) rfl ?_
    refine w_if_eq (tgt := 14) hx hb dL_saveSnapshot_7 (by decide) (fun c0 => ?_) (fun c0 => ?_)
    · refine w_lconst (v := 0) hx hb dL_saveSnapshot_14 (by decide) ?_
      have hw : sA z.2 out 104 0 (.long 0) = some (wr z.2 out 0 (.long 0)) := by
        show (if (z.2.1 out).1 = 104 ∧ ¬ ((0 : Int32) < 0 ∨ (z.2.1 out).2.1 ≤ (0 : Int32).toNatClampNeg) ∧ z.2.2.2.2 ≤ out then some (wr z.2 out (0 : Int32).toNatClampNeg (.long 0)) else none) = _
        rw [ho, if_pos ⟨rfl, z_in, hob⟩]; rfl
      refine v_last hx hb hK hw dL_saveSnapshot_15 ?_
      refine w_goto (tgt := 22) hx hb dL_saveSnapshot_16 (by decide) ?_
      refine w_iconst (v := 0) hx hb dL_saveSnapshot_22 (by decide) ?_
      refine vV.widen (n' := 50) (k' := 2001) (by omega) (by omega) ?_
      exact v_iretH (P := pL z.2 out (some (.long (if v = 0 then 0 else 1)))) hx hb hr hlk (by rw [if_pos c0]; rfl) dL_saveSnapshot_23
    · refine w_lconst (v := 1) hx hb dL_saveSnapshot_10 (by decide) ?_
      refine w_goto (tgt := 15) hx hb dL_saveSnapshot_11 (by decide) ?_
      have hw : sA z.2 out 104 0 (.long 1) = some (wr z.2 out 0 (.long 1)) := by
        show (if (z.2.1 out).1 = 104 ∧ ¬ ((0 : Int32) < 0 ∨ (z.2.1 out).2.1 ≤ (0 : Int32).toNatClampNeg) ∧ z.2.2.2.2 ≤ out then some (wr z.2 out (0 : Int32).toNatClampNeg (.long 1)) else none) = _
        rw [ho, if_pos ⟨rfl, z_in, hob⟩]; rfl
      refine v_last hx hb hK hw dL_saveSnapshot_15 ?_
      refine w_goto (tgt := 22) hx hb dL_saveSnapshot_16 (by decide) ?_
      refine w_iconst (v := 0) hx hb dL_saveSnapshot_22 (by decide) ?_
      refine vV.widen (n' := 50) (k' := 2001) (by omega) (by omega) ?_
      exact v_iretH (P := pL z.2 out (some (.long (if v = 0 then 0 else 1)))) hx hb hr hlk (by rw [if_neg c0]; rfl) dL_saveSnapshot_23
  · obtain rfl := mp1_v (hne j hz)
    refine v_callXca (mcz := 50) (msz := 2001) hown hSS (j := 1) (by decide) [] (⟨0, 16, 19, 22⟩ : ExceptionTableEntry) [] htb (fun z hz9 => absurd hz9 (List.not_mem_nil)) (by decide) (by decide) (hts _ kl994) (fun H locs hR hS => vx_runV (As := [.int x1]) (rest := [.int 0, .ref out]) ⟨hx, hb, hml, hown, hts⟩ (mX9_saveSnapshot l hfl D x x1 M z h) (cwV 1 hts (gdV kl1301 kl1302 kl1303 kw77 kl1304) rfl rfl rfl (by decide +kernel) ⟨Nat.le_of_ble_eq_true rfl, Nat.le_of_ble_eq_true rfl⟩) (v_preV (ci := 10) hSS hR hS hx9 (by decide) rfl [.int x1]) rfl rfl hl.1 rfl (lv_room (Nat.le_of_ble_eq_true rfl)) dL_saveSnapshot_4 ⟨by show _ + _ ≤ 50; omega, by show _ + _ ≤ 2001; omega⟩) (by rw [hz]; rfl) (by rw [hz]; rfl) (fun A B q hA hB => ?_)
    refine w_astore_n (lv' := (3, .ref q) :: [(0, .ref x), (1, .int x1), (2, .ref out)]) hx hb dL_saveSnapshot_19 rfl hl (by decide) rfl (fun ls hl => ?_)
    refine w_iconst (v := 1) hx hb dL_saveSnapshot_20 (by decide) ?_
    refine vV.widen (n' := 50) (k' := 2001) (by omega) (by omega) ?_
    exact v_iretH (P := pL z.2 out none) hx hb hr hlk ⟨A, B, hA, hB, rfl⟩ dL_saveSnapshot_21
def rmL_set : Room := { frames := 9, cells := 1, slots := 6, locals := 165 }
set_option maxHeartbeats 4000000 in
set_option maxRecDepth 100000 in
theorem mL_set (l : Launch) (hfl : l.stackTraces = false) (D : vD) (x : Nat) (x1 : Int32) (x2 : Int32) (out : Nat) (M : vMe) (f : Nat → Value) (z : ((Int32 ⊕ Nat) × vMe)) (h : tX9_set x x1 x2 M = some z) (hx9 : (M.1 x).1 = 11) (ho : z.2.1 out = (104, 1, f)) (hob : z.2.2.2.2 ≤ out) (hne : ∀ j, z.1 = .inr j → mpA j ≠ 0) : Met l yL_set (Cond.codeWith yL_set cL_set 5 (some .int) [(0, 10, 13, 22), (0, 10, 17, 13)] :: TB) rmL_set (va_Pc [.ref x, .int x1, .int x2, .ref out] (vPre D M)) (qH D (pL z.2 out (Sum.elim (fun v => some (.long v.toInt64)) (fun _ => none) z.1)) (.int (Sum.elim (fun _ => 0) mpA z.1))) 1 6 (vA D) := by
  refine v_ofH (cc := cL_set) (maxL := 5) (ret := (some .int)) (by decide) (Nat.le_of_ble_eq_true rfl) ?_
  intro p e s m args below meth c hx hb hr hml hown hts hlk htb hSS hR0 ls hl
  have hK := hSS.1
  have hl : lv_has ls 5 [(0, .ref x), (1, .int x1), (2, .int x2), (3, .ref out)] := hl
  refine w_aload_n hx hb dL_set_0 rfl (lv_at hl 3 rfl) ?_
  refine w_iconst (v := 0) hx hb dL_set_1 (by decide) ?_
  refine w_aload_n hx hb dL_set_2 rfl (lv_at hl 0 rfl) ?_
  refine w_iload_n hx hb dL_set_3 rfl (lv_at hl 1 rfl) ?_
  refine w_iload_n hx hb dL_set_4 rfl (lv_at hl 2 rfl) ?_
  rcases hz : z.1 with v | j
  · refine v_callXok (ov := some (.int v)) (mcz := 1) (msz := 6) (fun H locs hR hS => vx_runV (As := [.int x1, .int x2]) (rest := [.int 0, .ref out]) ⟨hx, hb, hml, hown, hts⟩ (mX9_set l hfl D x x1 x2 M z h) (cwV 2 hts (gdV kl995 kl996 kl997 kw77 kl998) rfl rfl rfl (by decide +kernel) ⟨Nat.le_of_ble_eq_true rfl, Nat.le_of_ble_eq_true rfl⟩) (v_preV (ci := 10) hSS hR hS hx9 (by decide) rfl [.int x1, .int x2]) rfl rfl hl.1 rfl (lv_room (Nat.le_of_ble_eq_true rfl)) dL_set_5 ⟨by show _ + _ ≤ 1; omega, by show _ + _ ≤ 6; omega⟩) (by rw [hz]; rfl) (by rw [hz]; rfl) (st1 := [.int v, .int 0, .ref out]) rfl ?_
    refine w_i2l hx hb dL_set_8 ?_
    have hw : sA z.2 out 104 0 (.long v.toInt64) = some (wr z.2 out 0 (.long v.toInt64)) := by
      show (if (z.2.1 out).1 = 104 ∧ ¬ ((0 : Int32) < 0 ∨ (z.2.1 out).2.1 ≤ (0 : Int32).toNatClampNeg) ∧ z.2.2.2.2 ≤ out then some (wr z.2 out (0 : Int32).toNatClampNeg (.long v.toInt64)) else none) = _
      rw [ho, if_pos ⟨rfl, z_in, hob⟩]; rfl
    refine v_last hx hb hK hw dL_set_9 ?_
    refine w_goto (tgt := 21) hx hb dL_set_10 (by decide) ?_
    refine w_iconst (v := 0) hx hb dL_set_21 (by decide) ?_
    refine vV.widen (n' := 1) (k' := 6) (by omega) (by omega) ?_
    exact v_iretH (P := pL z.2 out (some (.long v.toInt64))) hx hb hr hlk rfl dL_set_22
  · rcases mpA_v (hne j hz) with rfl | rfl
    · refine v_callXca (mcz := 1) (msz := 6) hown hSS (j := 1) (by decide) [] (⟨0, 10, 13, 22⟩ : ExceptionTableEntry) [(⟨0, 10, 17, 13⟩ : ExceptionTableEntry)] htb (fun z hz9 => absurd hz9 (List.not_mem_nil)) (by decide) (by decide) (hts _ kl994) (fun H locs hR hS => vx_runV (As := [.int x1, .int x2]) (rest := [.int 0, .ref out]) ⟨hx, hb, hml, hown, hts⟩ (mX9_set l hfl D x x1 x2 M z h) (cwV 2 hts (gdV kl995 kl996 kl997 kw77 kl998) rfl rfl rfl (by decide +kernel) ⟨Nat.le_of_ble_eq_true rfl, Nat.le_of_ble_eq_true rfl⟩) (v_preV (ci := 10) hSS hR hS hx9 (by decide) rfl [.int x1, .int x2]) rfl rfl hl.1 rfl (lv_room (Nat.le_of_ble_eq_true rfl)) dL_set_5 ⟨by show _ + _ ≤ 1; omega, by show _ + _ ≤ 6; omega⟩) (by rw [hz]; rfl) (by rw [hz]; rfl) (fun A B q hA hB => ?_)
      refine w_astore (lv' := (4, .ref q) :: [(0, .ref x), (1, .int x1), (2, .int x2), (3, .ref out)]) hx hb dL_set_13 hl (by decide) rfl (fun ls hl => ?_)
      refine w_iconst (v := 1) hx hb dL_set_15 (by decide) ?_
      refine vV.widen (n' := 1) (k' := 6) (by omega) (by omega) ?_
      exact v_iretH (P := pL z.2 out none) hx hb hr hlk ⟨A, B, hA, hB, rfl⟩ dL_set_16
    · refine v_callXca (mcz := 1) (msz := 6) hown hSS (j := 0) (by decide) [(⟨0, 10, 13, 22⟩ : ExceptionTableEntry)] (⟨0, 10, 17, 13⟩ : ExceptionTableEntry) [] htb (fun z hz9 => by cases List.mem_singleton.mp hz9; exact Or.inr ⟨by decide, vE 1, hts _ kl994, hSS.2.2.2.2.2.2.2.2.2.1 0 1 (by decide) (by decide) (by decide)⟩) (by decide) (by decide) (hts _ kl469) (fun H locs hR hS => vx_runV (As := [.int x1, .int x2]) (rest := [.int 0, .ref out]) ⟨hx, hb, hml, hown, hts⟩ (mX9_set l hfl D x x1 x2 M z h) (cwV 2 hts (gdV kl995 kl996 kl997 kw77 kl998) rfl rfl rfl (by decide +kernel) ⟨Nat.le_of_ble_eq_true rfl, Nat.le_of_ble_eq_true rfl⟩) (v_preV (ci := 10) hSS hR hS hx9 (by decide) rfl [.int x1, .int x2]) rfl rfl hl.1 rfl (lv_room (Nat.le_of_ble_eq_true rfl)) dL_set_5 ⟨by show _ + _ ≤ 1; omega, by show _ + _ ≤ 6; omega⟩) (by rw [hz]; rfl) (by rw [hz]; rfl) (fun A B q hA hB => ?_)
      refine w_astore (lv' := (4, .ref q) :: [(0, .ref x), (1, .int x1), (2, .int x2), (3, .ref out)]) hx hb dL_set_17 hl (by decide) rfl (fun ls hl => ?_)
      refine w_iconst (v := 2) hx hb dL_set_19 (by decide) ?_
      refine vV.widen (n' := 1) (k' := 6) (by omega) (by omega) ?_
      exact v_iretH (P := pL z.2 out none) hx hb hr hlk ⟨A, B, hA, hB, rfl⟩ dL_set_20
def rmL_since : Room := { frames := 9, cells := 1, slots := 6, locals := 165 }
set_option maxHeartbeats 4000000 in
set_option maxRecDepth 100000 in
theorem mL_since (l : Launch) (hfl : l.stackTraces = false) (D : vD) (x : Nat) (x1 : Int32) (x2 : Int32) (out : Nat) (M : vMe) (f : Nat → Value) (z : ((Int32 ⊕ Nat) × vMe)) (h : tX9_since x x1 x2 M = some z) (hx9 : (M.1 x).1 = 11) (ho : z.2.1 out = (104, 1, f)) (hob : z.2.2.2.2 ≤ out) (hne : ∀ j, z.1 = .inr j → mpA j ≠ 0) : Met l yL_since (Cond.codeWith yL_since cL_since 5 (some .int) [(0, 10, 13, 22), (0, 10, 17, 13)] :: TB) rmL_since (va_Pc [.ref x, .int x1, .int x2, .ref out] (vPre D M)) (qH D (pL z.2 out (Sum.elim (fun v => some (.long v.toInt64)) (fun _ => none) z.1)) (.int (Sum.elim (fun _ => 0) mpA z.1))) 1 6 (vA D) := by
  refine v_ofH (cc := cL_since) (maxL := 5) (ret := (some .int)) (by decide) (Nat.le_of_ble_eq_true rfl) ?_
  intro p e s m args below meth c hx hb hr hml hown hts hlk htb hSS hR0 ls hl
  have hK := hSS.1
  have hl : lv_has ls 5 [(0, .ref x), (1, .int x1), (2, .int x2), (3, .ref out)] := hl
  refine w_aload_n hx hb dL_since_0 rfl (lv_at hl 3 rfl) ?_
  refine w_iconst (v := 0) hx hb dL_since_1 (by decide) ?_
  refine w_aload_n hx hb dL_since_2 rfl (lv_at hl 0 rfl) ?_
  refine w_iload_n hx hb dL_since_3 rfl (lv_at hl 1 rfl) ?_
  refine w_iload_n hx hb dL_since_4 rfl (lv_at hl 2 rfl) ?_
  rcases hz : z.1 with v | j
  · refine v_callXok (ov := some (.int v)) (mcz := 1) (msz := 6) (fun H locs hR hS => vx_runV (As := [.int x1, .int x2]) (rest := [.int 0, .ref out]) ⟨hx, hb, hml, hown, hts⟩ (mX9_since l hfl D x x1 x2 M z h) (cwV 2 hts (gdV kl1096 kl1097 kl1098 kw77 kl1099) rfl rfl rfl (by decide +kernel) ⟨Nat.le_of_ble_eq_true rfl, Nat.le_of_ble_eq_true rfl⟩) (v_preV (ci := 10) hSS hR hS hx9 (by decide) rfl [.int x1, .int x2]) rfl rfl hl.1 rfl (lv_room (Nat.le_of_ble_eq_true rfl)) dL_since_5 ⟨by show _ + _ ≤ 1; omega, by show _ + _ ≤ 6; omega⟩) (by rw [hz]; rfl) (by rw [hz]; rfl) (st1 := [.int v, .int 0, .ref out]) rfl ?_
    refine w_i2l hx hb dL_since_8 ?_
    have hw : sA z.2 out 104 0 (.long v.toInt64) = some (wr z.2 out 0 (.long v.toInt64)) := by
      show (if (z.2.1 out).1 = 104 ∧ ¬ ((0 : Int32) < 0 ∨ (z.2.1 out).2.1 ≤ (0 : Int32).toNatClampNeg) ∧ z.2.2.2.2 ≤ out then some (wr z.2 out (0 : Int32).toNatClampNeg (.long v.toInt64)) else none) = _
      rw [ho, if_pos ⟨rfl, z_in, hob⟩]; rfl
    refine v_last hx hb hK hw dL_since_9 ?_
    refine w_goto (tgt := 21) hx hb dL_since_10 (by decide) ?_
    refine w_iconst (v := 0) hx hb dL_since_21 (by decide) ?_
    refine vV.widen (n' := 1) (k' := 6) (by omega) (by omega) ?_
    exact v_iretH (P := pL z.2 out (some (.long v.toInt64))) hx hb hr hlk rfl dL_since_22
  · rcases mpA_v (hne j hz) with rfl | rfl
    · refine v_callXca (mcz := 1) (msz := 6) hown hSS (j := 1) (by decide) [] (⟨0, 10, 13, 22⟩ : ExceptionTableEntry) [(⟨0, 10, 17, 13⟩ : ExceptionTableEntry)] htb (fun z hz9 => absurd hz9 (List.not_mem_nil)) (by decide) (by decide) (hts _ kl994) (fun H locs hR hS => vx_runV (As := [.int x1, .int x2]) (rest := [.int 0, .ref out]) ⟨hx, hb, hml, hown, hts⟩ (mX9_since l hfl D x x1 x2 M z h) (cwV 2 hts (gdV kl1096 kl1097 kl1098 kw77 kl1099) rfl rfl rfl (by decide +kernel) ⟨Nat.le_of_ble_eq_true rfl, Nat.le_of_ble_eq_true rfl⟩) (v_preV (ci := 10) hSS hR hS hx9 (by decide) rfl [.int x1, .int x2]) rfl rfl hl.1 rfl (lv_room (Nat.le_of_ble_eq_true rfl)) dL_since_5 ⟨by show _ + _ ≤ 1; omega, by show _ + _ ≤ 6; omega⟩) (by rw [hz]; rfl) (by rw [hz]; rfl) (fun A B q hA hB => ?_)
      refine w_astore (lv' := (4, .ref q) :: [(0, .ref x), (1, .int x1), (2, .int x2), (3, .ref out)]) hx hb dL_since_13 hl (by decide) rfl (fun ls hl => ?_)
      refine w_iconst (v := 1) hx hb dL_since_15 (by decide) ?_
      refine vV.widen (n' := 1) (k' := 6) (by omega) (by omega) ?_
      exact v_iretH (P := pL z.2 out none) hx hb hr hlk ⟨A, B, hA, hB, rfl⟩ dL_since_16
    · refine v_callXca (mcz := 1) (msz := 6) hown hSS (j := 0) (by decide) [(⟨0, 10, 13, 22⟩ : ExceptionTableEntry)] (⟨0, 10, 17, 13⟩ : ExceptionTableEntry) [] htb (fun z hz9 => by cases List.mem_singleton.mp hz9; exact Or.inr ⟨by decide, vE 1, hts _ kl994, hSS.2.2.2.2.2.2.2.2.2.1 0 1 (by decide) (by decide) (by decide)⟩) (by decide) (by decide) (hts _ kl469) (fun H locs hR hS => vx_runV (As := [.int x1, .int x2]) (rest := [.int 0, .ref out]) ⟨hx, hb, hml, hown, hts⟩ (mX9_since l hfl D x x1 x2 M z h) (cwV 2 hts (gdV kl1096 kl1097 kl1098 kw77 kl1099) rfl rfl rfl (by decide +kernel) ⟨Nat.le_of_ble_eq_true rfl, Nat.le_of_ble_eq_true rfl⟩) (v_preV (ci := 10) hSS hR hS hx9 (by decide) rfl [.int x1, .int x2]) rfl rfl hl.1 rfl (lv_room (Nat.le_of_ble_eq_true rfl)) dL_since_5 ⟨by show _ + _ ≤ 1; omega, by show _ + _ ≤ 6; omega⟩) (by rw [hz]; rfl) (by rw [hz]; rfl) (fun A B q hA hB => ?_)
      refine w_astore (lv' := (4, .ref q) :: [(0, .ref x), (1, .int x1), (2, .int x2), (3, .ref out)]) hx hb dL_since_17 hl (by decide) rfl (fun ls hl => ?_)
      refine w_iconst (v := 2) hx hb dL_since_19 (by decide) ?_
      refine vV.widen (n' := 1) (k' := 6) (by omega) (by omega) ?_
      exact v_iretH (P := pL z.2 out none) hx hb hr hlk ⟨A, B, hA, hB, rfl⟩ dL_since_20
def rmL_size : Room := { frames := 7, cells := 1, slots := 6, locals := 121 }
set_option maxHeartbeats 4000000 in
set_option maxRecDepth 100000 in
theorem mL_size (l : Launch) (hfl : l.stackTraces = false) (D : vD) (x : Nat) (x1 : Int32) (out : Nat) (M : vMe) (f : Nat → Value) (z : ((Int32 ⊕ Nat) × vMe)) (h : tX9_size x x1 M = some z) (hx9 : (M.1 x).1 = 11) (ho : z.2.1 out = (104, 1, f)) (hob : z.2.2.2.2 ≤ out) (hne : ∀ j, z.1 = .inr j → mp0 j ≠ 0) : Met l yL_size (Cond.codeWith yL_size cL_size 4 (some .int) [(0, 9, 12, 13)] :: TB) rmL_size (va_Pc [.ref x, .int x1, .ref out] (vPre D M)) (qH D (pL z.2 out (Sum.elim (fun v => some (.long v.toInt64)) (fun _ => none) z.1)) (.int (Sum.elim (fun _ => 0) mp0 z.1))) 1 6 (vA D) := by
  refine v_ofH (cc := cL_size) (maxL := 4) (ret := (some .int)) (by decide) (Nat.le_of_ble_eq_true rfl) ?_
  intro p e s m args below meth c hx hb hr hml hown hts hlk htb hSS hR0 ls hl
  have hK := hSS.1
  have hl : lv_has ls 4 [(0, .ref x), (1, .int x1), (2, .ref out)] := hl
  refine w_aload_n hx hb dL_size_0 rfl (lv_at hl 2 rfl) ?_
  refine w_iconst (v := 0) hx hb dL_size_1 (by decide) ?_
  refine w_aload_n hx hb dL_size_2 rfl (lv_at hl 0 rfl) ?_
  refine w_iload_n hx hb dL_size_3 rfl (lv_at hl 1 rfl) ?_
  rcases hz : z.1 with v | j
  · refine v_callXok (ov := some (.int v)) (mcz := 1) (msz := 6) (fun H locs hR hS => vx_runV (As := [.int x1]) (rest := [.int 0, .ref out]) ⟨hx, hb, hml, hown, hts⟩ (mX9_size l hfl D x x1 M z h) (cwV 1 hts (gdV kl982 kl983 kl984 kw77 kl985) rfl rfl rfl (by decide +kernel) ⟨Nat.le_of_ble_eq_true rfl, Nat.le_of_ble_eq_true rfl⟩) (v_preV (ci := 10) hSS hR hS hx9 (by decide) rfl [.int x1]) rfl rfl hl.1 rfl (lv_room (Nat.le_of_ble_eq_true rfl)) dL_size_4 ⟨by show _ + _ ≤ 1; omega, by show _ + _ ≤ 6; omega⟩) (by rw [hz]; rfl) (by rw [hz]; rfl) (st1 := [.int v, .int 0, .ref out]) rfl ?_
    refine w_i2l hx hb dL_size_7 ?_
    have hw : sA z.2 out 104 0 (.long v.toInt64) = some (wr z.2 out 0 (.long v.toInt64)) := by
      show (if (z.2.1 out).1 = 104 ∧ ¬ ((0 : Int32) < 0 ∨ (z.2.1 out).2.1 ≤ (0 : Int32).toNatClampNeg) ∧ z.2.2.2.2 ≤ out then some (wr z.2 out (0 : Int32).toNatClampNeg (.long v.toInt64)) else none) = _
      rw [ho, if_pos ⟨rfl, z_in, hob⟩]; rfl
    refine v_last hx hb hK hw dL_size_8 ?_
    refine w_goto (tgt := 15) hx hb dL_size_9 (by decide) ?_
    refine w_iconst (v := 0) hx hb dL_size_15 (by decide) ?_
    refine vV.widen (n' := 1) (k' := 6) (by omega) (by omega) ?_
    exact v_iretH (P := pL z.2 out (some (.long v.toInt64))) hx hb hr hlk rfl dL_size_16
  · obtain rfl := mp0_v (hne j hz)
    refine v_callXca (mcz := 1) (msz := 6) hown hSS (j := 0) (by decide) [] (⟨0, 9, 12, 13⟩ : ExceptionTableEntry) [] htb (fun z hz9 => absurd hz9 (List.not_mem_nil)) (by decide) (by decide) (hts _ kl469) (fun H locs hR hS => vx_runV (As := [.int x1]) (rest := [.int 0, .ref out]) ⟨hx, hb, hml, hown, hts⟩ (mX9_size l hfl D x x1 M z h) (cwV 1 hts (gdV kl982 kl983 kl984 kw77 kl985) rfl rfl rfl (by decide +kernel) ⟨Nat.le_of_ble_eq_true rfl, Nat.le_of_ble_eq_true rfl⟩) (v_preV (ci := 10) hSS hR hS hx9 (by decide) rfl [.int x1]) rfl rfl hl.1 rfl (lv_room (Nat.le_of_ble_eq_true rfl)) dL_size_4 ⟨by show _ + _ ≤ 1; omega, by show _ + _ ≤ 6; omega⟩) (by rw [hz]; rfl) (by rw [hz]; rfl) (fun A B q hA hB => ?_)
    refine w_astore_n (lv' := (3, .ref q) :: [(0, .ref x), (1, .int x1), (2, .ref out)]) hx hb dL_size_12 rfl hl (by decide) rfl (fun ls hl => ?_)
    refine w_iconst (v := 1) hx hb dL_size_13 (by decide) ?_
    refine vV.widen (n' := 1) (k' := 6) (by omega) (by omega) ?_
    exact v_iretH (P := pL z.2 out none) hx hb hr hlk ⟨A, B, hA, hB, rfl⟩ dL_size_14
def rmL_stampOf : Room := { frames := 9, cells := 1, slots := 6, locals := 165 }
set_option maxHeartbeats 4000000 in
set_option maxRecDepth 100000 in
theorem mL_stampOf (l : Launch) (hfl : l.stackTraces = false) (D : vD) (x : Nat) (x1 : Int32) (x2 : Int32) (out : Nat) (M : vMe) (f : Nat → Value) (z : ((Int32 ⊕ Nat) × vMe)) (h : tX9_stampOf x x1 x2 M = some z) (hx9 : (M.1 x).1 = 11) (ho : z.2.1 out = (104, 1, f)) (hob : z.2.2.2.2 ≤ out) (hne : ∀ j, z.1 = .inr j → mp1 j ≠ 0) : Met l yL_stampOf (Cond.codeWith yL_stampOf cL_stampOf 5 (some .int) [(0, 10, 13, 22)] :: TB) rmL_stampOf (va_Pc [.ref x, .int x1, .int x2, .ref out] (vPre D M)) (qH D (pL z.2 out (Sum.elim (fun v => some (.long v.toInt64)) (fun _ => none) z.1)) (.int (Sum.elim (fun _ => 0) mp1 z.1))) 1 6 (vA D) := by
  refine v_ofH (cc := cL_stampOf) (maxL := 5) (ret := (some .int)) (by decide) (Nat.le_of_ble_eq_true rfl) ?_
  intro p e s m args below meth c hx hb hr hml hown hts hlk htb hSS hR0 ls hl
  have hK := hSS.1
  have hl : lv_has ls 5 [(0, .ref x), (1, .int x1), (2, .int x2), (3, .ref out)] := hl
  refine w_aload_n hx hb dL_stampOf_0 rfl (lv_at hl 3 rfl) ?_
  refine w_iconst (v := 0) hx hb dL_stampOf_1 (by decide) ?_
  refine w_aload_n hx hb dL_stampOf_2 rfl (lv_at hl 0 rfl) ?_
  refine w_iload_n hx hb dL_stampOf_3 rfl (lv_at hl 1 rfl) ?_
  refine w_iload_n hx hb dL_stampOf_4 rfl (lv_at hl 2 rfl) ?_
  rcases hz : z.1 with v | j
  · refine v_callXok (ov := some (.int v)) (mcz := 1) (msz := 6) (fun H locs hR hS => vx_runV (As := [.int x1, .int x2]) (rest := [.int 0, .ref out]) ⟨hx, hb, hml, hown, hts⟩ (mX9_stampOf l hfl D x x1 x2 M z h) (cwV 2 hts (gdV kl1050 kl1051 kl1052 kw77 kl1053) rfl rfl rfl (by decide +kernel) ⟨Nat.le_of_ble_eq_true rfl, Nat.le_of_ble_eq_true rfl⟩) (v_preV (ci := 10) hSS hR hS hx9 (by decide) rfl [.int x1, .int x2]) rfl rfl hl.1 rfl (lv_room (Nat.le_of_ble_eq_true rfl)) dL_stampOf_5 ⟨by show _ + _ ≤ 1; omega, by show _ + _ ≤ 6; omega⟩) (by rw [hz]; rfl) (by rw [hz]; rfl) (st1 := [.int v, .int 0, .ref out]) rfl ?_
    refine w_i2l hx hb dL_stampOf_8 ?_
    have hw : sA z.2 out 104 0 (.long v.toInt64) = some (wr z.2 out 0 (.long v.toInt64)) := by
      show (if (z.2.1 out).1 = 104 ∧ ¬ ((0 : Int32) < 0 ∨ (z.2.1 out).2.1 ≤ (0 : Int32).toNatClampNeg) ∧ z.2.2.2.2 ≤ out then some (wr z.2 out (0 : Int32).toNatClampNeg (.long v.toInt64)) else none) = _
      rw [ho, if_pos ⟨rfl, z_in, hob⟩]; rfl
    refine v_last hx hb hK hw dL_stampOf_9 ?_
    refine w_goto (tgt := 17) hx hb dL_stampOf_10 (by decide) ?_
    refine w_iconst (v := 0) hx hb dL_stampOf_17 (by decide) ?_
    refine vV.widen (n' := 1) (k' := 6) (by omega) (by omega) ?_
    exact v_iretH (P := pL z.2 out (some (.long v.toInt64))) hx hb hr hlk rfl dL_stampOf_18
  · obtain rfl := mp1_v (hne j hz)
    refine v_callXca (mcz := 1) (msz := 6) hown hSS (j := 1) (by decide) [] (⟨0, 10, 13, 22⟩ : ExceptionTableEntry) [] htb (fun z hz9 => absurd hz9 (List.not_mem_nil)) (by decide) (by decide) (hts _ kl994) (fun H locs hR hS => vx_runV (As := [.int x1, .int x2]) (rest := [.int 0, .ref out]) ⟨hx, hb, hml, hown, hts⟩ (mX9_stampOf l hfl D x x1 x2 M z h) (cwV 2 hts (gdV kl1050 kl1051 kl1052 kw77 kl1053) rfl rfl rfl (by decide +kernel) ⟨Nat.le_of_ble_eq_true rfl, Nat.le_of_ble_eq_true rfl⟩) (v_preV (ci := 10) hSS hR hS hx9 (by decide) rfl [.int x1, .int x2]) rfl rfl hl.1 rfl (lv_room (Nat.le_of_ble_eq_true rfl)) dL_stampOf_5 ⟨by show _ + _ ≤ 1; omega, by show _ + _ ≤ 6; omega⟩) (by rw [hz]; rfl) (by rw [hz]; rfl) (fun A B q hA hB => ?_)
    refine w_astore (lv' := (4, .ref q) :: [(0, .ref x), (1, .int x1), (2, .int x2), (3, .ref out)]) hx hb dL_stampOf_13 hl (by decide) rfl (fun ls hl => ?_)
    refine w_iconst (v := 1) hx hb dL_stampOf_15 (by decide) ?_
    refine vV.widen (n' := 1) (k' := 6) (by omega) (by omega) ?_
    exact v_iretH (P := pL z.2 out none) hx hb hr hlk ⟨A, B, hA, hB, rfl⟩ dL_stampOf_16
def rmL_step : Room := { frames := 8, cells := 50, slots := 2001, locals := 167 }
set_option maxHeartbeats 4000000 in
set_option maxRecDepth 100000 in
theorem mL_step (l : Launch) (hfl : l.stackTraces = false) (D : vD) (x : Nat) (x1 : Int32) (out : Nat) (M : vMe) (f : Nat → Value) (z : ((Int32 ⊕ Nat) × vMe)) (h : tX9_step D.2.2.2.2 x x1 M = some z) (hx9 : (M.1 x).1 = 11) (ho : z.2.1 out = (104, 1, f)) (hob : z.2.2.2.2 ≤ out) (hne : ∀ j, z.1 = .inr j → mp1 j ≠ 0) : Met l yL_step (Cond.codeWith yL_step cL_step 4 (some .int) [(0, 9, 12, 22)] :: TB) rmL_step (va_Pc [.ref x, .int x1, .ref out] (vPre D M)) (qH D (pL z.2 out (Sum.elim (fun v => some (.long v.toInt64)) (fun _ => none) z.1)) (.int (Sum.elim (fun _ => 0) mp1 z.1))) 50 2001 (vA D) := by
  refine v_ofH (cc := cL_step) (maxL := 4) (ret := (some .int)) (by decide) (Nat.le_of_ble_eq_true rfl) ?_
  intro p e s m args below meth c hx hb hr hml hown hts hlk htb hSS hR0 ls hl
  have hK := hSS.1
  have hl : lv_has ls 4 [(0, .ref x), (1, .int x1), (2, .ref out)] := hl
  refine w_aload_n hx hb dL_step_0 rfl (lv_at hl 2 rfl) ?_
  refine w_iconst (v := 0) hx hb dL_step_1 (by decide) ?_
  refine w_aload_n hx hb dL_step_2 rfl (lv_at hl 0 rfl) ?_
  refine w_iload_n hx hb dL_step_3 rfl (lv_at hl 1 rfl) ?_
  rcases hz : z.1 with v | j
  · refine v_callXok (ov := some (.int v)) (mcz := 50) (msz := 2001) (fun H locs hR hS => vx_runV (As := [.int x1]) (rest := [.int 0, .ref out]) ⟨hx, hb, hml, hown, hts⟩ (mX9_step l hfl D x x1 M z h) (cwV 1 hts (gdV kl1258 kl1259 kl1260 kw77 kl1261) rfl rfl rfl (by decide +kernel) ⟨Nat.le_of_ble_eq_true rfl, Nat.le_of_ble_eq_true rfl⟩) (v_preV (ci := 10) hSS hR hS hx9 (by decide) rfl [.int x1]) rfl rfl hl.1 rfl (lv_room (Nat.le_of_ble_eq_true rfl)) dL_step_4 ⟨by show _ + _ ≤ 50; omega, by show _ + _ ≤ 2001; omega⟩) (by rw [hz]; rfl) (by rw [hz]; rfl) (st1 := [.int v, .int 0, .ref out]) rfl ?_
    refine w_i2l hx hb dL_step_7 ?_
    have hw : sA z.2 out 104 0 (.long v.toInt64) = some (wr z.2 out 0 (.long v.toInt64)) := by
      show (if (z.2.1 out).1 = 104 ∧ ¬ ((0 : Int32) < 0 ∨ (z.2.1 out).2.1 ≤ (0 : Int32).toNatClampNeg) ∧ z.2.2.2.2 ≤ out then some (wr z.2 out (0 : Int32).toNatClampNeg (.long v.toInt64)) else none) = _
      rw [ho, if_pos ⟨rfl, z_in, hob⟩]; rfl
    refine v_last hx hb hK hw dL_step_8 ?_
    refine w_goto (tgt := 15) hx hb dL_step_9 (by decide) ?_
    refine w_iconst (v := 0) hx hb dL_step_15 (by decide) ?_
    refine vV.widen (n' := 50) (k' := 2001) (by omega) (by omega) ?_
    exact v_iretH (P := pL z.2 out (some (.long v.toInt64))) hx hb hr hlk rfl dL_step_16
  · obtain rfl := mp1_v (hne j hz)
    refine v_callXca (mcz := 50) (msz := 2001) hown hSS (j := 1) (by decide) [] (⟨0, 9, 12, 22⟩ : ExceptionTableEntry) [] htb (fun z hz9 => absurd hz9 (List.not_mem_nil)) (by decide) (by decide) (hts _ kl994) (fun H locs hR hS => vx_runV (As := [.int x1]) (rest := [.int 0, .ref out]) ⟨hx, hb, hml, hown, hts⟩ (mX9_step l hfl D x x1 M z h) (cwV 1 hts (gdV kl1258 kl1259 kl1260 kw77 kl1261) rfl rfl rfl (by decide +kernel) ⟨Nat.le_of_ble_eq_true rfl, Nat.le_of_ble_eq_true rfl⟩) (v_preV (ci := 10) hSS hR hS hx9 (by decide) rfl [.int x1]) rfl rfl hl.1 rfl (lv_room (Nat.le_of_ble_eq_true rfl)) dL_step_4 ⟨by show _ + _ ≤ 50; omega, by show _ + _ ≤ 2001; omega⟩) (by rw [hz]; rfl) (by rw [hz]; rfl) (fun A B q hA hB => ?_)
    refine w_astore_n (lv' := (3, .ref q) :: [(0, .ref x), (1, .int x1), (2, .ref out)]) hx hb dL_step_12 rfl hl (by decide) rfl (fun ls hl => ?_)
    refine w_iconst (v := 1) hx hb dL_step_13 (by decide) ?_
    refine vV.widen (n' := 50) (k' := 2001) (by omega) (by omega) ?_
    exact v_iretH (P := pL z.2 out none) hx hb hr hlk ⟨A, B, hA, hB, rfl⟩ dL_step_14
def rmL_unite : Room := { frames := 8, cells := 50, slots := 2001, locals := 167 }
set_option maxHeartbeats 4000000 in
set_option maxRecDepth 100000 in
theorem mL_unite (l : Launch) (hfl : l.stackTraces = false) (D : vD) (x : Nat) (x1 : Int32) (x2 : Int32) (out : Nat) (M : vMe) (f : Nat → Value) (z : ((Int32 ⊕ Nat) × vMe)) (h : tX9_unite D.2.2.2.2 x x1 x2 M = some z) (hx9 : (M.1 x).1 = 11) (ho : z.2.1 out = (104, 1, f)) (hob : z.2.2.2.2 ≤ out) (hne : ∀ j, z.1 = .inr j → mp1 j ≠ 0) : Met l yL_unite (Cond.codeWith yL_unite cL_unite 5 (some .int) [(0, 10, 13, 22)] :: TB) rmL_unite (va_Pc [.ref x, .int x1, .int x2, .ref out] (vPre D M)) (qH D (pL z.2 out (Sum.elim (fun v => some (.long v.toInt64)) (fun _ => none) z.1)) (.int (Sum.elim (fun _ => 0) mp1 z.1))) 50 2001 (vA D) := by
  refine v_ofH (cc := cL_unite) (maxL := 5) (ret := (some .int)) (by decide) (Nat.le_of_ble_eq_true rfl) ?_
  intro p e s m args below meth c hx hb hr hml hown hts hlk htb hSS hR0 ls hl
  have hK := hSS.1
  have hl : lv_has ls 5 [(0, .ref x), (1, .int x1), (2, .int x2), (3, .ref out)] := hl
  refine w_aload_n hx hb dL_unite_0 rfl (lv_at hl 3 rfl) ?_
  refine w_iconst (v := 0) hx hb dL_unite_1 (by decide) ?_
  refine w_aload_n hx hb dL_unite_2 rfl (lv_at hl 0 rfl) ?_
  refine w_iload_n hx hb dL_unite_3 rfl (lv_at hl 1 rfl) ?_
  refine w_iload_n hx hb dL_unite_4 rfl (lv_at hl 2 rfl) ?_
  rcases hz : z.1 with v | j
  · refine v_callXok (ov := some (.int v)) (mcz := 50) (msz := 2001) (fun H locs hR hS => vx_runV (As := [.int x1, .int x2]) (rest := [.int 0, .ref out]) ⟨hx, hb, hml, hown, hts⟩ (mX9_unite l hfl D x x1 x2 M z h) (cwV 2 hts (gdV kl1289 kl1290 kl1291 kw77 kl1292) rfl rfl rfl (by decide +kernel) ⟨Nat.le_of_ble_eq_true rfl, Nat.le_of_ble_eq_true rfl⟩) (v_preV (ci := 10) hSS hR hS hx9 (by decide) rfl [.int x1, .int x2]) rfl rfl hl.1 rfl (lv_room (Nat.le_of_ble_eq_true rfl)) dL_unite_5 ⟨by show _ + _ ≤ 50; omega, by show _ + _ ≤ 2001; omega⟩) (by rw [hz]; rfl) (by rw [hz]; rfl) (st1 := [.int v, .int 0, .ref out]) rfl ?_
    refine w_i2l hx hb dL_unite_8 ?_
    have hw : sA z.2 out 104 0 (.long v.toInt64) = some (wr z.2 out 0 (.long v.toInt64)) := by
      show (if (z.2.1 out).1 = 104 ∧ ¬ ((0 : Int32) < 0 ∨ (z.2.1 out).2.1 ≤ (0 : Int32).toNatClampNeg) ∧ z.2.2.2.2 ≤ out then some (wr z.2 out (0 : Int32).toNatClampNeg (.long v.toInt64)) else none) = _
      rw [ho, if_pos ⟨rfl, z_in, hob⟩]; rfl
    refine v_last hx hb hK hw dL_unite_9 ?_
    refine w_goto (tgt := 17) hx hb dL_unite_10 (by decide) ?_
    refine w_iconst (v := 0) hx hb dL_unite_17 (by decide) ?_
    refine vV.widen (n' := 50) (k' := 2001) (by omega) (by omega) ?_
    exact v_iretH (P := pL z.2 out (some (.long v.toInt64))) hx hb hr hlk rfl dL_unite_18
  · obtain rfl := mp1_v (hne j hz)
    refine v_callXca (mcz := 50) (msz := 2001) hown hSS (j := 1) (by decide) [] (⟨0, 10, 13, 22⟩ : ExceptionTableEntry) [] htb (fun z hz9 => absurd hz9 (List.not_mem_nil)) (by decide) (by decide) (hts _ kl994) (fun H locs hR hS => vx_runV (As := [.int x1, .int x2]) (rest := [.int 0, .ref out]) ⟨hx, hb, hml, hown, hts⟩ (mX9_unite l hfl D x x1 x2 M z h) (cwV 2 hts (gdV kl1289 kl1290 kl1291 kw77 kl1292) rfl rfl rfl (by decide +kernel) ⟨Nat.le_of_ble_eq_true rfl, Nat.le_of_ble_eq_true rfl⟩) (v_preV (ci := 10) hSS hR hS hx9 (by decide) rfl [.int x1, .int x2]) rfl rfl hl.1 rfl (lv_room (Nat.le_of_ble_eq_true rfl)) dL_unite_5 ⟨by show _ + _ ≤ 50; omega, by show _ + _ ≤ 2001; omega⟩) (by rw [hz]; rfl) (by rw [hz]; rfl) (fun A B q hA hB => ?_)
    refine w_astore (lv' := (4, .ref q) :: [(0, .ref x), (1, .int x1), (2, .int x2), (3, .ref out)]) hx hb dL_unite_13 hl (by decide) rfl (fun ls hl => ?_)
    refine w_iconst (v := 1) hx hb dL_unite_15 (by decide) ?_
    refine vV.widen (n' := 50) (k' := 2001) (by omega) (by omega) ?_
    exact v_iretH (P := pL z.2 out none) hx hb hr hlk ⟨A, B, hA, hB, rfl⟩ dL_unite_16
