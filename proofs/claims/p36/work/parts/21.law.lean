def tX10_init (x0 : Nat) (M : vMe) : Option (Unit × vMe) :=
  (nwO M 101 64 64 (fun _ => .int 0) M.2.1 M.2.2.1 7 8193).bind fun M1 =>
  (sV M1 x0 12 3 (.ref M.2.1)).bind fun M2 =>
  (nwO M2 101 64 64 (fun _ => .int 0) M.2.1 M.2.2.1 7 8193).bind fun M3 =>
  (sV M3 x0 12 4 (.ref M2.2.1)).bind fun M4 =>
  (nwO M4 101 64 64 (fun _ => .int 0) M.2.1 M.2.2.1 7 8193).bind fun M5 =>
  (sV M5 x0 12 5 (.ref M4.2.1)).bind fun M6 =>
  (nwO M6 101 2000 2000 (fun _ => .int 0) M.2.1 M.2.2.1 7 8193).bind fun M7 =>
  (sV M7 x0 12 6 (.ref M6.2.1)).bind fun M8 =>
  (nwO M8 101 2000 2000 (fun _ => .int 0) M.2.1 M.2.2.1 7 8193).bind fun M9 =>
  (sV M9 x0 12 7 (.ref M8.2.1)).bind fun M10 =>
  (nwO M10 101 2000 2000 (fun _ => .int 0) M.2.1 M.2.2.1 7 8193).bind fun M11 =>
  (sV M11 x0 12 8 (.ref M10.2.1)).bind fun M12 =>
  (nwO M12 104 2001 2001 (fun _ => .long 0) M.2.1 M.2.2.1 7 8193).bind fun M13 =>
  (sV M13 x0 12 9 (.ref M12.2.1)).bind fun M14 =>
  if M14.2.1 ≤ M.2.1 + 7 ∧ M14.2.2.1 ≤ M.2.2.1 + 8193 then some ((), M14) else none
def rmX10_init : Room := { frames := 1, cells := 7, slots := 8193, locals := 60 }
set_option maxHeartbeats 4000000 in
set_option maxRecDepth 100000 in
theorem mX10_init (l : Launch) (hfl : l.stackTraces = false) (D : vD) (x0 : Nat) (M : vMe) (z : (Unit × vMe)) (h : tX10_init x0 M = some z) : Met l yX10_init (Cond.code yX10_init cX10_init 1 none :: TB) rmX10_init (va_Pc [.ref x0] (vPre D M)) (qW D none z.2) 7 8193 (vA D) := by
  refine v_ofW (cc := cX10_init) (maxL := 1) (ret := none) (by decide) (Nat.le_of_ble_eq_true rfl) ?_
  intro p e s m args below meth c Q hx hb hr hml hown hts hlk hnm hSS hR0 hQ ls hl
  have hz0 := hR0.2.1
  have hs0 := hR0.2.2.1
  have hb0 : D.2.2.2.1 ≤ s.heap.size := hR0.2.2.2.2.1
  refine v_tight hb0 ?_
  have hK := hSS.1
  have hl : lv_has ls 1 [(0, .ref x0)] := hl
  unfold tX10_init at h
  refine w_aload_n hx hb dX10_init_0 rfl (lv_at hl 0 rfl) ?_
  refine v_objInit hx hb hown (hts _ kw323) (hts _ kw66) (hts _ kw67) (hl.1.trans hml.symm) dX10_init_1 (Nat.le_of_ble_eq_true rfl) (Nat.le_of_ble_eq_true rfl) ?_
  refine w_aload_n hx hb dX10_init_4 rfl (lv_at hl 0 rfl) ?_
  refine w_bipush (v := 64) hx hb dX10_init_5 (by decide) ?_
  obtain ⟨M1, eM1, h⟩ := v_bnd h
  refine u_newa (x := 64) (atype := .int) hx hb hK (hts _ kw163) (by decide) (by decide) rfl (by decide) (by decide) (by decide) hb0 hz0 hs0 rfl rfl eM1 dX10_init_7 ?_
  obtain ⟨M2, eM2, h⟩ := v_bnd h
  refine v_putf (ci := 11) hx hb hts iwX10 hown hK tyX10_ok nmX10 3 eM2 rfl (by decide) (Or.inl (hts _ kw331)) (fun _ h9 => h9) (Or.inr ⟨rfl, hnm, rfl, (hts _ kw331)⟩) rfl rfl dX10_init_9 ?_
  refine w_aload_n hx hb dX10_init_12 rfl (lv_at hl 0 rfl) ?_
  refine w_bipush (v := 64) hx hb dX10_init_13 (by decide) ?_
  obtain ⟨M3, eM3, h⟩ := v_bnd h
  refine u_newa (x := 64) (atype := .int) hx hb hK (hts _ kw163) (by decide) (by decide) rfl (by decide) (by decide) (by decide) hb0 hz0 hs0 rfl rfl eM3 dX10_init_15 ?_
  obtain ⟨M4, eM4, h⟩ := v_bnd h
  refine v_putf (ci := 11) hx hb hts iwX10 hown hK tyX10_ok nmX10 4 eM4 rfl (by decide) (Or.inl (hts _ kw334)) (fun _ h9 => h9) (Or.inr ⟨rfl, hnm, rfl, (hts _ kw334)⟩) rfl rfl dX10_init_17 ?_
  refine w_aload_n hx hb dX10_init_20 rfl (lv_at hl 0 rfl) ?_
  refine w_bipush (v := 64) hx hb dX10_init_21 (by decide) ?_
  obtain ⟨M5, eM5, h⟩ := v_bnd h
  refine u_newa (x := 64) (atype := .int) hx hb hK (hts _ kw163) (by decide) (by decide) rfl (by decide) (by decide) (by decide) hb0 hz0 hs0 rfl rfl eM5 dX10_init_23 ?_
  obtain ⟨M6, eM6, h⟩ := v_bnd h
  refine v_putf (ci := 11) hx hb hts iwX10 hown hK tyX10_ok nmX10 5 eM6 rfl (by decide) (Or.inl (hts _ kw337)) (fun _ h9 => h9) (Or.inr ⟨rfl, hnm, rfl, (hts _ kw337)⟩) rfl rfl dX10_init_25 ?_
  refine w_aload_n hx hb dX10_init_28 rfl (lv_at hl 0 rfl) ?_
  refine w_sipush (v := 2000) hx hb dX10_init_29 (by decide) ?_
  obtain ⟨M7, eM7, h⟩ := v_bnd h
  refine u_newa (x := 2000) (atype := .int) hx hb hK (hts _ kw163) (by decide) (by decide) rfl (by decide) (by decide) (by decide) hb0 hz0 hs0 rfl rfl eM7 dX10_init_32 ?_
  obtain ⟨M8, eM8, h⟩ := v_bnd h
  refine v_putf (ci := 11) hx hb hts iwX10 hown hK tyX10_ok nmX10 6 eM8 rfl (by decide) (Or.inl (hts _ kw341)) (fun _ h9 => h9) (Or.inr ⟨rfl, hnm, rfl, (hts _ kw341)⟩) rfl rfl dX10_init_34 ?_
  refine w_aload_n hx hb dX10_init_37 rfl (lv_at hl 0 rfl) ?_
  refine w_sipush (v := 2000) hx hb dX10_init_38 (by decide) ?_
  obtain ⟨M9, eM9, h⟩ := v_bnd h
  refine u_newa (x := 2000) (atype := .int) hx hb hK (hts _ kw163) (by decide) (by decide) rfl (by decide) (by decide) (by decide) hb0 hz0 hs0 rfl rfl eM9 dX10_init_41 ?_
  obtain ⟨M10, eM10, h⟩ := v_bnd h
  refine v_putf (ci := 11) hx hb hts iwX10 hown hK tyX10_ok nmX10 7 eM10 rfl (by decide) (Or.inl (hts _ kw343)) (fun _ h9 => h9) (Or.inr ⟨rfl, hnm, rfl, (hts _ kw343)⟩) rfl rfl dX10_init_43 ?_
  refine w_aload_n hx hb dX10_init_46 rfl (lv_at hl 0 rfl) ?_
  refine w_sipush (v := 2000) hx hb dX10_init_47 (by decide) ?_
  obtain ⟨M11, eM11, h⟩ := v_bnd h
  refine u_newa (x := 2000) (atype := .int) hx hb hK (hts _ kw163) (by decide) (by decide) rfl (by decide) (by decide) (by decide) hb0 hz0 hs0 rfl rfl eM11 dX10_init_50 ?_
  obtain ⟨M12, eM12, h⟩ := v_bnd h
  refine v_putf (ci := 11) hx hb hts iwX10 hown hK tyX10_ok nmX10 8 eM12 rfl (by decide) (Or.inl (hts _ kw345)) (fun _ h9 => h9) (Or.inr ⟨rfl, hnm, rfl, (hts _ kw345)⟩) rfl rfl dX10_init_52 ?_
  refine w_aload_n hx hb dX10_init_55 rfl (lv_at hl 0 rfl) ?_
  refine w_sipush (v := 2001) hx hb dX10_init_56 (by decide) ?_
  obtain ⟨M13, eM13, h⟩ := v_bnd h
  refine u_newa (x := 2001) (atype := .long) hx hb hK (hts _ kw370) (by decide) (by decide) rfl (by decide) (by decide) (by decide) hb0 hz0 hs0 rfl rfl eM13 dX10_init_59 ?_
  obtain ⟨M14, eM14, h⟩ := v_bnd h
  refine v_putf (ci := 11) hx hb hts iwX10 hown hK tyX10_ok nmX10 9 eM14 rfl (by decide) (Or.inl (hts _ kw347)) (fun _ h9 => h9) (Or.inr ⟨rfl, hnm, rfl, (hts _ kw347)⟩) rfl rfl dX10_init_61 ?_
  obtain ⟨g9, h⟩ := v_ifs h
  refine v_tight hb0 (vV.widen (n' := 7) (k' := 8193) (by omega) (by omega) ?_)
  obtain rfl := Option.some.inj h
  rw [hQ]
  exact v_vret hx hb hr hlk dX10_init_64

def tX10_has (x0 : Nat) (x1 : Int32) (M : vMe) : Option Int32 :=
  (gA M x0 12 4).bind fun a1 =>
  (aI M a1 101 x1).bind fun v2 =>
  (gI M x0 12 0).bind fun v3 =>
  if v3 ≤ v2 then
  (some 0)
else
  ((gA M x0 12 3).bind fun a5 =>
  (gA M x0 12 4).bind fun a6 =>
  (aI M a6 101 x1).bind fun v7 =>
  (aI M a5 101 v7).bind fun v8 =>
  if v8 = x1 then
  (some 1)
else
  (some 0))
def rmX10_has : Room := { frames := 1, cells := 0, slots := 0, locals := 0 }
set_option maxHeartbeats 4000000 in
set_option maxRecDepth 100000 in
theorem mX10_has (l : Launch) (hfl : l.stackTraces = false) (D : vD) (x0 : Nat) (x1 : Int32) (M : vMe) (z : Int32) (h : tX10_has x0 x1 M = some z) : Met l yX10_has (Cond.code yX10_has cX10_has 2 (some .boolean) :: TB) rmX10_has (va_Pc [.ref x0, .int x1] (vPre D M)) (qW D (some (.int z)) M) 0 0 (vA D) := by
  refine v_ofW (cc := cX10_has) (maxL := 2) (ret := (some .boolean)) (by decide) (Nat.le_of_ble_eq_true rfl) ?_
  intro p e s m args below meth c Q hx hb hr hml hown hts hlk hnm hSS hR0 hQ ls hl
  have hK := hSS.1
  have hl : lv_has ls 2 [(0, .ref x0), (1, .int x1)] := hl
  unfold tX10_has at h
  refine w_aload_n hx hb dX10_has_0 rfl (lv_at hl 0 rfl) ?_
  obtain ⟨a1, ea1, h⟩ := v_bnd h
  refine v_gA (ci := 11) hx hb hts iwX10 hown hK 4 ea1 rfl (by decide) (Or.inl (hts _ kw334)) (fun _ h9 => h9) dX10_has_1 ?_
  refine w_iload_n hx hb dX10_has_4 rfl (lv_at hl 1 rfl) ?_
  obtain ⟨v2, ev2, h⟩ := v_bnd h
  refine v_iald hx hb hK ev2 dX10_has_5 ?_
  refine w_aload_n hx hb dX10_has_6 rfl (lv_at hl 0 rfl) ?_
  obtain ⟨v3, ev3, h⟩ := v_bnd h
  refine v_gI (ci := 11) hx hb hts iwX10 hown hK 0 ev3 rfl (by decide) (Or.inl (hts _ kw324)) (fun _ h9 => h9) dX10_has_7 ?_
  refine w_icmp_ge (tgt := 32) hx hb dX10_has_10 (by decide) (fun c4 => ?_) (fun c4 => ?_)
  · rw [if_pos c4] at h
    refine w_iconst (v := 0) hx hb dX10_has_32 (by decide) ?_
    obtain rfl := Option.some.inj h
    rw [hQ]
    exact v_zret (x := 0) hx hb hr hlk rfl dX10_has_33
  · rw [if_neg c4] at h
    refine w_aload_n hx hb dX10_has_13 rfl (lv_at hl 0 rfl) ?_
    obtain ⟨a5, ea5, h⟩ := v_bnd h
    refine v_gA (ci := 11) hx hb hts iwX10 hown hK 3 ea5 rfl (by decide) (Or.inl (hts _ kw331)) (fun _ h9 => h9) dX10_has_14 ?_
    refine w_aload_n hx hb dX10_has_17 rfl (lv_at hl 0 rfl) ?_
    obtain ⟨a6, ea6, h⟩ := v_bnd h
    refine v_gA (ci := 11) hx hb hts iwX10 hown hK 4 ea6 rfl (by decide) (Or.inl (hts _ kw334)) (fun _ h9 => h9) dX10_has_18 ?_
    refine w_iload_n hx hb dX10_has_21 rfl (lv_at hl 1 rfl) ?_
    obtain ⟨v7, ev7, h⟩ := v_bnd h
    refine v_iald hx hb hK ev7 dX10_has_22 ?_
    obtain ⟨v8, ev8, h⟩ := v_bnd h
    refine v_iald hx hb hK ev8 dX10_has_23 ?_
    refine w_iload_n hx hb dX10_has_24 rfl (lv_at hl 1 rfl) ?_
    refine w_icmp_ne (tgt := 32) hx hb dX10_has_25 (by decide) (fun c9 => ?_) (fun c9 => ?_)
    · rw [if_pos c9] at h
      refine w_iconst (v := 1) hx hb dX10_has_28 (by decide) ?_
      refine w_goto (tgt := 33) hx hb dX10_has_29 (by decide) ?_
      obtain rfl := Option.some.inj h
      rw [hQ]
      exact v_zret (x := 1) hx hb hr hlk rfl dX10_has_33
    · rw [if_neg c9] at h
      refine w_iconst (v := 0) hx hb dX10_has_32 (by decide) ?_
      obtain rfl := Option.some.inj h
      rw [hQ]
      exact v_zret (x := 0) hx hb hr hlk rfl dX10_has_33

def tX10_bits_L4 (x0 : Nat) (M : vMe) : Nat → Int64 → Int32 → Option Int64
  | 0, _, _ => none
  | f + 1, x1, x3 =>
  (gI M x0 12 0).bind fun v5 =>
  if v5 ≤ x3 then
  (some x1)
else
  ((gA M x0 12 3).bind fun a7 =>
  (aI M a7 101 x3).bind fun v8 =>
  tX10_bits_L4 x0 M f (x1 ||| (1 <<< (v8.toInt64 &&& 63))) (x3 + 1))
def tX10_bits (x0 : Nat) (M : vMe) : Option Int64 :=
  (tX10_bits_L4 x0 M vF 0 0).bind fun z9 =>
  some z9
def rmX10_bits : Room := { frames := 1, cells := 0, slots := 0, locals := 0 }
set_option maxHeartbeats 4000000 in
set_option maxRecDepth 100000 in
theorem mX10_bits (l : Launch) (hfl : l.stackTraces = false) (D : vD) (x0 : Nat) (M : vMe) (z : Int64) (h : tX10_bits x0 M = some z) : Met l yX10_bits (Cond.code yX10_bits cX10_bits 4 (some .long) :: TB) rmX10_bits (va_Pc [.ref x0] (vPre D M)) (qW D (some (.long z)) M) 0 0 (vA D) := by
  refine v_ofW (cc := cX10_bits) (maxL := 4) (ret := (some .long)) (by decide) (Nat.le_of_ble_eq_true rfl) ?_
  intro p e s m args below meth c Q hx hb hr hml hown hts hlk hnm hSS hR0 hQ ls hl
  have hK := hSS.1
  have hl : lv_has ls 4 [(0, .ref x0)] := hl
  unfold tX10_bits at h
  have X10_bits_L4p : ∀ (x0 : Nat), ∀ (f : Nat) (x1 : Int64) (x3 : Int32) (ls : Array Slot) (z : Int64), lv_has ls 4 [(0, .ref x0), (1, .long x1), (3, .int x3)] → tX10_bits_L4 x0 M f x1 x3 = some z → (∀ ls : Array Slot, lv_has ls 4 [(1, .long z)] → vV D p l e rmX10_bits s m args below meth c 0 0 Q M (F0 m 29 ls [])) → vV D p l e rmX10_bits s m args below meth c 0 0 Q M (F0 m 4 ls []) := by
    intro x0 f
    induction f with
    | zero =>
      intro x1 x3 ls z hl h
      exact absurd h (by simp [tX10_bits_L4])
    | succ f ih =>
      intro x1 x3 ls z hl h KX
      rw [tX10_bits_L4] at h
      refine w_iload_n hx hb dX10_bits_4 rfl (lv_at hl 2 rfl) ?_
      refine w_aload_n hx hb dX10_bits_5 rfl (lv_at hl 0 rfl) ?_
      obtain ⟨v5, ev5, h⟩ := v_bnd h
      refine v_gI (ci := 11) hx hb hts iwX10 hown hK 0 ev5 rfl (by decide) (Or.inl (hts _ kw324)) (fun _ h9 => h9) dX10_bits_6 ?_
      refine w_icmp_ge (tgt := 29) hx hb dX10_bits_9 (by decide) (fun c6 => ?_) (fun c6 => ?_)
      · rw [if_pos c6] at h
        obtain rfl := Option.some.inj h
        exact KX ls (lv_sub hl [1] rfl)
      · rw [if_neg c6] at h
        refine w_lload_n hx hb dX10_bits_12 rfl (lv_at hl 1 rfl) ?_
        refine w_lconst (v := 1) hx hb dX10_bits_13 (by decide) ?_
        refine w_aload_n hx hb dX10_bits_14 rfl (lv_at hl 0 rfl) ?_
        obtain ⟨a7, ea7, h⟩ := v_bnd h
        refine v_gA (ci := 11) hx hb hts iwX10 hown hK 3 ea7 rfl (by decide) (Or.inl (hts _ kw331)) (fun _ h9 => h9) dX10_bits_15 ?_
        refine w_iload_n hx hb dX10_bits_18 rfl (lv_at hl 2 rfl) ?_
        obtain ⟨v8, ev8, h⟩ := v_bnd h
        refine v_iald hx hb hK ev8 dX10_bits_19 ?_
        refine w_lshl hx hb dX10_bits_20 ?_
        refine w_lor hx hb dX10_bits_21 ?_
        refine w_lstore_n (lv' := [(1, .long (x1 ||| (1 <<< (v8.toInt64 &&& 63)))), (0, .ref x0), (3, .int x3)]) hx hb dX10_bits_22 rfl hl (by decide) rfl (fun ls hl => ?_)
        have hl : lv_has ls 4 [(0, .ref x0), (1, .long (x1 ||| (1 <<< (v8.toInt64 &&& 63)))), (3, .int x3)] := lv_sub hl [1, 0, 2] rfl
        refine w_iinc (v := x3 + 1) (lv' := [(3, .int (x3 + 1)), (0, .ref x0), (1, .long (x1 ||| (1 <<< (v8.toInt64 &&& 63))))]) hx hb dX10_bits_23 hl (j := 2) rfl rfl (by decide) rfl (fun ls hl => ?_)
        have hl : lv_has ls 4 [(0, .ref x0), (1, .long (x1 ||| (1 <<< (v8.toInt64 &&& 63)))), (3, .int (x3 + 1))] := lv_sub hl [1, 2, 0] rfl
        refine w_goto (tgt := 4) hx hb dX10_bits_26 (by decide) ?_
        exact ih (x1 ||| (1 <<< (v8.toInt64 &&& 63))) (x3 + 1) ls z (lv_sub hl [0, 1, 2] rfl) h KX
  refine w_lconst (v := 0) hx hb dX10_bits_0 (by decide) ?_
  refine w_lstore_n (lv' := [(1, .long 0), (0, .ref x0)]) hx hb dX10_bits_1 rfl hl (by decide) rfl (fun ls hl => ?_)
  have hl : lv_has ls 4 [(0, .ref x0), (1, .long 0)] := lv_sub hl [1, 0] rfl
  refine w_iconst (v := 0) hx hb dX10_bits_2 (by decide) ?_
  refine w_istore_n (lv' := [(3, .int 0), (0, .ref x0), (1, .long 0)]) hx hb dX10_bits_3 rfl hl (by decide) rfl (fun ls hl => ?_)
  have hl : lv_has ls 4 [(0, .ref x0), (1, .long 0), (3, .int 0)] := lv_sub hl [1, 2, 0] rfl
  obtain ⟨z9, ez9, h⟩ := v_bnd h
  refine X10_bits_L4p x0 vF 0 0 ls z9 (lv_sub hl [0, 1, 2] rfl) ez9 (fun ls hl => ?_)
  refine w_lload_n hx hb dX10_bits_29 rfl (lv_at hl 0 rfl) ?_
  obtain rfl := Option.some.inj h
  rw [hQ]
  exact v_lret hx hb hr hlk dX10_bits_30

def tX10_note (x0 : Nat) (x1 : Int32) (x2 : Int32) (x3 : Int32) (M : vMe) : Option (Unit × vMe) :=
  (gA M x0 12 6).bind fun a1 =>
  (gI M x0 12 2).bind fun v2 =>
  (sA M a1 101 v2 (.int x1)).bind fun M3 =>
  (gA M3 x0 12 7).bind fun a4 =>
  (gI M3 x0 12 2).bind fun v5 =>
  (sA M3 a4 101 v5 (.int x2)).bind fun M6 =>
  (gA M6 x0 12 8).bind fun a7 =>
  (gI M6 x0 12 2).bind fun v8 =>
  (sA M6 a7 101 v8 (.int x3)).bind fun M9 =>
  (gI M9 x0 12 2).bind fun v10 =>
  (sV M9 x0 12 2 (.int (v10 + 1))).bind fun M11 =>
  (gA M11 x0 12 9).bind fun a12 =>
  (gI M11 x0 12 2).bind fun v13 =>
  if (M11.1 x0).1 = 12 then
  ((tX10_bits x0 M11).bind fun z14 =>
  (sA M11 a12 104 v13 (.long z14)).bind fun M15 =>
  some ((), M15))
else none
def rmX10_note : Room := { frames := 2, cells := 0, slots := 0, locals := 23 }
set_option maxHeartbeats 4000000 in
set_option maxRecDepth 100000 in
theorem mX10_note (l : Launch) (hfl : l.stackTraces = false) (D : vD) (x0 : Nat) (x1 : Int32) (x2 : Int32) (x3 : Int32) (M : vMe) (z : (Unit × vMe)) (h : tX10_note x0 x1 x2 x3 M = some z) : Met l yX10_note (Cond.code yX10_note cX10_note 4 none :: TB) rmX10_note (va_Pc [.ref x0, .int x1, .int x2, .int x3] (vPre D M)) (qW D none z.2) 0 0 (vA D) := by
  refine v_ofW (cc := cX10_note) (maxL := 4) (ret := none) (by decide) (Nat.le_of_ble_eq_true rfl) ?_
  intro p e s m args below meth c Q hx hb hr hml hown hts hlk hnm hSS hR0 hQ ls hl
  have hK := hSS.1
  have hl : lv_has ls 4 [(0, .ref x0), (1, .int x1), (2, .int x2), (3, .int x3)] := hl
  unfold tX10_note at h
  refine w_aload_n hx hb dX10_note_0 rfl (lv_at hl 0 rfl) ?_
  obtain ⟨a1, ea1, h⟩ := v_bnd h
  refine v_gA (ci := 11) hx hb hts iwX10 hown hK 6 ea1 rfl (by decide) (Or.inl (hts _ kw341)) (fun _ h9 => h9) dX10_note_1 ?_
  refine w_aload_n hx hb dX10_note_4 rfl (lv_at hl 0 rfl) ?_
  obtain ⟨v2, ev2, h⟩ := v_bnd h
  refine v_gI (ci := 11) hx hb hts iwX10 hown hK 2 ev2 rfl (by decide) (Or.inl (hts _ kw329)) (fun _ h9 => h9) dX10_note_5 ?_
  refine w_iload_n hx hb dX10_note_8 rfl (lv_at hl 1 rfl) ?_
  obtain ⟨M3, eM3, h⟩ := v_bnd h
  refine v_iast hx hb hK eM3 dX10_note_9 ?_
  refine w_aload_n hx hb dX10_note_10 rfl (lv_at hl 0 rfl) ?_
  obtain ⟨a4, ea4, h⟩ := v_bnd h
  refine v_gA (ci := 11) hx hb hts iwX10 hown hK 7 ea4 rfl (by decide) (Or.inl (hts _ kw343)) (fun _ h9 => h9) dX10_note_11 ?_
  refine w_aload_n hx hb dX10_note_14 rfl (lv_at hl 0 rfl) ?_
  obtain ⟨v5, ev5, h⟩ := v_bnd h
  refine v_gI (ci := 11) hx hb hts iwX10 hown hK 2 ev5 rfl (by decide) (Or.inl (hts _ kw329)) (fun _ h9 => h9) dX10_note_15 ?_
  refine w_iload_n hx hb dX10_note_18 rfl (lv_at hl 2 rfl) ?_
  obtain ⟨M6, eM6, h⟩ := v_bnd h
  refine v_iast hx hb hK eM6 dX10_note_19 ?_
  refine w_aload_n hx hb dX10_note_20 rfl (lv_at hl 0 rfl) ?_
  obtain ⟨a7, ea7, h⟩ := v_bnd h
  refine v_gA (ci := 11) hx hb hts iwX10 hown hK 8 ea7 rfl (by decide) (Or.inl (hts _ kw345)) (fun _ h9 => h9) dX10_note_21 ?_
  refine w_aload_n hx hb dX10_note_24 rfl (lv_at hl 0 rfl) ?_
  obtain ⟨v8, ev8, h⟩ := v_bnd h
  refine v_gI (ci := 11) hx hb hts iwX10 hown hK 2 ev8 rfl (by decide) (Or.inl (hts _ kw329)) (fun _ h9 => h9) dX10_note_25 ?_
  refine w_iload_n hx hb dX10_note_28 rfl (lv_at hl 3 rfl) ?_
  obtain ⟨M9, eM9, h⟩ := v_bnd h
  refine v_iast hx hb hK eM9 dX10_note_29 ?_
  refine w_aload_n hx hb dX10_note_30 rfl (lv_at hl 0 rfl) ?_
  refine w_dup hx hb dX10_note_31 rfl ?_
  obtain ⟨v10, ev10, h⟩ := v_bnd h
  refine v_gI (ci := 11) hx hb hts iwX10 hown hK 2 ev10 rfl (by decide) (Or.inl (hts _ kw329)) (fun _ h9 => h9) dX10_note_32 ?_
  refine w_iconst (v := 1) hx hb dX10_note_35 (by decide) ?_
  refine w_iadd hx hb dX10_note_36 ?_
  obtain ⟨M11, eM11, h⟩ := v_bnd h
  refine v_putf (ci := 11) hx hb hts iwX10 hown hK tyX10_ok nmX10 2 eM11 rfl (by decide) (Or.inl (hts _ kw329)) (fun _ h9 => h9) (Or.inl rfl) rfl rfl dX10_note_37 ?_
  refine w_aload_n hx hb dX10_note_40 rfl (lv_at hl 0 rfl) ?_
  obtain ⟨a12, ea12, h⟩ := v_bnd h
  refine v_gA (ci := 11) hx hb hts iwX10 hown hK 9 ea12 rfl (by decide) (Or.inl (hts _ kw347)) (fun _ h9 => h9) dX10_note_41 ?_
  refine w_aload_n hx hb dX10_note_44 rfl (lv_at hl 0 rfl) ?_
  obtain ⟨v13, ev13, h⟩ := v_bnd h
  refine v_gI (ci := 11) hx hb hts iwX10 hown hK 2 ev13 rfl (by decide) (Or.inl (hts _ kw329)) (fun _ h9 => h9) dX10_note_45 ?_
  refine w_aload_n hx hb dX10_note_48 rfl (lv_at hl 0 rfl) ?_
  obtain ⟨g8, h⟩ := v_ifs h
  obtain ⟨z14, ez14, h⟩ := v_bnd h
  refine v_call1 (v := .long z14) (M1 := M11) (mc := 0) (ms := 0) (fun H locs hR hS => va_runV (As := []) (rest := [.int v13, .ref a12]) ⟨hx, hb, hml, hown, hts⟩ (mX10_bits l hfl D x0 M11 z14 ez14) (cwV 0 hts (gdV kw702 kw703 kw704 kw36 kw705) rfl rfl rfl (by decide +kernel) ⟨Nat.le_of_ble_eq_true rfl, Nat.le_of_ble_eq_true rfl⟩) (v_preV (ci := 11) hSS hR hS g8 (by decide) rfl []) rfl rfl hl.1 rfl (lv_room (Nat.le_of_ble_eq_true rfl)) dX10_note_49 ⟨Nat.zero_le _, Nat.zero_le _⟩) ?_
  obtain ⟨M15, eM15, h⟩ := v_bnd h
  refine v_last hx hb hK eM15 dX10_note_52 ?_
  obtain rfl := Option.some.inj h
  rw [hQ]
  exact v_vret hx hb hr hlk dX10_note_53

def tX10_kept (x0 : Nat) (x1 : Int32) (M : vMe) : Option Int32 :=
  (gI M x0 12 2).bind fun v1 =>
  some (if x1 < v1 then x1 else v1)
def rmX10_kept : Room := { frames := 1, cells := 0, slots := 0, locals := 60 }
set_option maxHeartbeats 4000000 in
set_option maxRecDepth 100000 in
theorem mX10_kept (l : Launch) (hfl : l.stackTraces = false) (D : vD) (x0 : Nat) (x1 : Int32) (M : vMe) (z : Int32) (h : tX10_kept x0 x1 M = some z) : Met l yX10_kept (Cond.code yX10_kept cX10_kept 2 (some .int) :: TB) rmX10_kept (va_Pc [.ref x0, .int x1] (vPre D M)) (qW D (some (.int z)) M) 0 0 (vA D) := by
  refine v_ofW (cc := cX10_kept) (maxL := 2) (ret := (some .int)) (by decide) (Nat.le_of_ble_eq_true rfl) ?_
  intro p e s m args below meth c Q hx hb hr hml hown hts hlk hnm hSS hR0 hQ ls hl
  have hK := hSS.1
  have hl : lv_has ls 2 [(0, .ref x0), (1, .int x1)] := hl
  unfold tX10_kept at h
  refine w_aload_n hx hb dX10_kept_0 rfl (lv_at hl 0 rfl) ?_
  obtain ⟨v1, ev1, h⟩ := v_bnd h
  refine v_gI (ci := 11) hx hb hts iwX10 hown hK 2 ev1 rfl (by decide) (Or.inl (hts _ kw329)) (fun _ h9 => h9) dX10_kept_1 ?_
  refine w_iload_n hx hb dX10_kept_4 rfl (lv_at hl 1 rfl) ?_
  refine w_min hx hb (hml.trans hl.1.symm) hown (hts _ kw1256) (hts _ kw484) (hts _ kw42) (hts _ kw485) (Nat.le_of_ble_eq_true rfl) (Nat.le_of_ble_eq_true rfl) (Nat.zero_le _) (Nat.zero_le _) dX10_kept_5 ?_
  obtain rfl := Option.some.inj h
  rw [hQ]
  exact v_iret hx hb hr hlk dX10_kept_8

def tX10_first (x0 : Nat) (x1 : Int32) (M : vMe) : Option Int32 :=
  (gI M x0 12 2).bind fun v1 =>
  if v1 ≤ x1 then
  (some 0)
else
  ((gA M x0 12 6).bind fun a3 =>
  (gI M x0 12 2).bind fun v4 =>
  (aI M a3 101 ((v4 - x1) - 1)).bind fun v5 =>
  some v5)
def rmX10_first : Room := { frames := 1, cells := 0, slots := 0, locals := 0 }
set_option maxHeartbeats 4000000 in
set_option maxRecDepth 100000 in
theorem mX10_first (l : Launch) (hfl : l.stackTraces = false) (D : vD) (x0 : Nat) (x1 : Int32) (M : vMe) (z : Int32) (h : tX10_first x0 x1 M = some z) : Met l yX10_first (Cond.code yX10_first cX10_first 2 (some .int) :: TB) rmX10_first (va_Pc [.ref x0, .int x1] (vPre D M)) (qW D (some (.int z)) M) 0 0 (vA D) := by
  refine v_ofW (cc := cX10_first) (maxL := 2) (ret := (some .int)) (by decide) (Nat.le_of_ble_eq_true rfl) ?_
  intro p e s m args below meth c Q hx hb hr hml hown hts hlk hnm hSS hR0 hQ ls hl
  have hK := hSS.1
  have hl : lv_has ls 2 [(0, .ref x0), (1, .int x1)] := hl
  unfold tX10_first at h
  refine w_aload_n hx hb dX10_first_0 rfl (lv_at hl 0 rfl) ?_
  obtain ⟨v1, ev1, h⟩ := v_bnd h
  refine v_gI (ci := 11) hx hb hts iwX10 hown hK 2 ev1 rfl (by decide) (Or.inl (hts _ kw329)) (fun _ h9 => h9) dX10_first_1 ?_
  refine w_iload_n hx hb dX10_first_4 rfl (lv_at hl 1 rfl) ?_
  refine w_icmp_le (tgt := 24) hx hb dX10_first_5 (by decide) (fun c2 => ?_) (fun c2 => ?_)
  · rw [if_pos c2] at h
    refine w_iconst (v := 0) hx hb dX10_first_24 (by decide) ?_
    obtain rfl := Option.some.inj h
    rw [hQ]
    exact v_iret hx hb hr hlk dX10_first_25
  · rw [if_neg c2] at h
    refine w_aload_n hx hb dX10_first_8 rfl (lv_at hl 0 rfl) ?_
    obtain ⟨a3, ea3, h⟩ := v_bnd h
    refine v_gA (ci := 11) hx hb hts iwX10 hown hK 6 ea3 rfl (by decide) (Or.inl (hts _ kw341)) (fun _ h9 => h9) dX10_first_9 ?_
    refine w_aload_n hx hb dX10_first_12 rfl (lv_at hl 0 rfl) ?_
    obtain ⟨v4, ev4, h⟩ := v_bnd h
    refine v_gI (ci := 11) hx hb hts iwX10 hown hK 2 ev4 rfl (by decide) (Or.inl (hts _ kw329)) (fun _ h9 => h9) dX10_first_13 ?_
    refine w_iload_n hx hb dX10_first_16 rfl (lv_at hl 1 rfl) ?_
    refine w_isub hx hb dX10_first_17 ?_
    refine w_iconst (v := 1) hx hb dX10_first_18 (by decide) ?_
    refine w_isub hx hb dX10_first_19 ?_
    obtain ⟨v5, ev5, h⟩ := v_bnd h
    refine v_iald hx hb hK ev5 dX10_first_20 ?_
    refine w_goto (tgt := 25) hx hb dX10_first_21 (by decide) ?_
    obtain rfl := Option.some.inj h
    rw [hQ]
    exact v_iret hx hb hr hlk dX10_first_25

def tX10_at_L5 (x0 : Nat) (x1 : Int32) (M : vMe) : Nat → Int32 → Option Int32
  | 0, _ => none
  | f + 1, x2 =>
  if x2 ≤ 0 then
  (some x2)
else
  ((gA M x0 12 6).bind fun a7 =>
  (aI M a7 101 (x2 - 1)).bind fun v8 =>
  if v8 ≤ x1 then
  (some x2)
else
  (tX10_at_L5 x0 x1 M f (x2 + (-1))))
def tX10_at_J27 (x0 : Nat) (x2 : Int32) (M : vMe) : Option Int64 :=
  (gA M x0 12 9).bind fun a11 =>
  (aJ M a11 104 x2).bind fun v12 =>
  some v12
def tX10_at (x0 : Nat) (x1 : Int32) (M : vMe) : Option Int64 :=
  (gI M x0 12 2).bind fun v1 =>
  (tX10_at_L5 x0 x1 M vF v1).bind fun z10 =>
  tX10_at_J27 x0 z10 M
def rmX10_at : Room := { frames := 1, cells := 0, slots := 0, locals := 0 }
set_option maxHeartbeats 4000000 in
set_option maxRecDepth 100000 in
theorem mX10_at (l : Launch) (hfl : l.stackTraces = false) (D : vD) (x0 : Nat) (x1 : Int32) (M : vMe) (z : Int64) (h : tX10_at x0 x1 M = some z) : Met l yX10_at (Cond.code yX10_at cX10_at 3 (some .long) :: TB) rmX10_at (va_Pc [.ref x0, .int x1] (vPre D M)) (qW D (some (.long z)) M) 0 0 (vA D) := by
  refine v_ofW (cc := cX10_at) (maxL := 3) (ret := (some .long)) (by decide) (Nat.le_of_ble_eq_true rfl) ?_
  intro p e s m args below meth c Q hx hb hr hml hown hts hlk hnm hSS hR0 hQ ls hl
  have hK := hSS.1
  have hl : lv_has ls 3 [(0, .ref x0), (1, .int x1)] := hl
  unfold tX10_at at h
  have X10_at_L5p : ∀ (x0 : Nat) (x1 : Int32), ∀ (f : Nat) (x2 : Int32) (ls : Array Slot) (z : Int32), lv_has ls 3 [(0, .ref x0), (1, .int x1), (2, .int x2)] → tX10_at_L5 x0 x1 M f x2 = some z → (∀ ls : Array Slot, lv_has ls 3 [(0, .ref x0), (2, .int z)] → vV D p l e rmX10_at s m args below meth c 0 0 Q M (F0 m 27 ls [])) → vV D p l e rmX10_at s m args below meth c 0 0 Q M (F0 m 5 ls []) := by
    intro x0 x1 f
    induction f with
    | zero =>
      intro x2 ls z hl h
      exact absurd h (by simp [tX10_at_L5])
    | succ f ih =>
      intro x2 ls z hl h KX
      rw [tX10_at_L5] at h
      refine w_iload_n hx hb dX10_at_5 rfl (lv_at hl 2 rfl) ?_
      refine w_if_le (tgt := 27) hx hb dX10_at_6 (by decide) (fun c6 => ?_) (fun c6 => ?_)
      · rw [if_pos c6] at h
        obtain rfl := Option.some.inj h
        exact KX ls (lv_sub hl [0, 2] rfl)
      · rw [if_neg c6] at h
        refine w_aload_n hx hb dX10_at_9 rfl (lv_at hl 0 rfl) ?_
        obtain ⟨a7, ea7, h⟩ := v_bnd h
        refine v_gA (ci := 11) hx hb hts iwX10 hown hK 6 ea7 rfl (by decide) (Or.inl (hts _ kw341)) (fun _ h9 => h9) dX10_at_10 ?_
        refine w_iload_n hx hb dX10_at_13 rfl (lv_at hl 2 rfl) ?_
        refine w_iconst (v := 1) hx hb dX10_at_14 (by decide) ?_
        refine w_isub hx hb dX10_at_15 ?_
        obtain ⟨v8, ev8, h⟩ := v_bnd h
        refine v_iald hx hb hK ev8 dX10_at_16 ?_
        refine w_iload_n hx hb dX10_at_17 rfl (lv_at hl 1 rfl) ?_
        refine w_icmp_le (tgt := 27) hx hb dX10_at_18 (by decide) (fun c9 => ?_) (fun c9 => ?_)
        · rw [if_pos c9] at h
          obtain rfl := Option.some.inj h
          exact KX ls (lv_sub hl [0, 2] rfl)
        · rw [if_neg c9] at h
          refine w_iinc (v := x2 + (-1)) (lv' := [(2, .int (x2 + (-1))), (0, .ref x0), (1, .int x1)]) hx hb dX10_at_21 hl (j := 2) rfl rfl (by decide) rfl (fun ls hl => ?_)
          have hl : lv_has ls 3 [(0, .ref x0), (1, .int x1), (2, .int (x2 + (-1)))] := lv_sub hl [1, 2, 0] rfl
          refine w_goto (tgt := 5) hx hb dX10_at_24 (by decide) ?_
          exact ih (x2 + (-1)) ls z (lv_sub hl [0, 1, 2] rfl) h KX
  have X10_at_J27p : ∀ (x0 : Nat) (x2 : Int32) (ls : Array Slot), lv_has ls 3 [(0, .ref x0), (2, .int x2)] → tX10_at_J27 x0 x2 M = some z → vV D p l e rmX10_at s m args below meth c 0 0 Q M (F0 m 27 ls []) := by
    intro x0 x2 ls hl h
    unfold tX10_at_J27 at h
    refine w_aload_n hx hb dX10_at_27 rfl (lv_at hl 0 rfl) ?_
    obtain ⟨a11, ea11, h⟩ := v_bnd h
    refine v_gA (ci := 11) hx hb hts iwX10 hown hK 9 ea11 rfl (by decide) (Or.inl (hts _ kw347)) (fun _ h9 => h9) dX10_at_28 ?_
    refine w_iload_n hx hb dX10_at_31 rfl (lv_at hl 1 rfl) ?_
    obtain ⟨v12, ev12, h⟩ := v_bnd h
    refine v_lald hx hb hK ev12 dX10_at_32 ?_
    obtain rfl := Option.some.inj h
    rw [hQ]
    exact v_lret hx hb hr hlk dX10_at_33
  refine w_aload_n hx hb dX10_at_0 rfl (lv_at hl 0 rfl) ?_
  obtain ⟨v1, ev1, h⟩ := v_bnd h
  refine v_gI (ci := 11) hx hb hts iwX10 hown hK 2 ev1 rfl (by decide) (Or.inl (hts _ kw329)) (fun _ h9 => h9) dX10_at_1 ?_
  refine w_istore_n (lv' := [(2, .int v1), (0, .ref x0), (1, .int x1)]) hx hb dX10_at_4 rfl hl (by decide) rfl (fun ls hl => ?_)
  have hl : lv_has ls 3 [(0, .ref x0), (1, .int x1), (2, .int v1)] := lv_sub hl [1, 2, 0] rfl
  obtain ⟨z10, ez10, h⟩ := v_bnd h
  refine X10_at_L5p x0 x1 vF v1 ls z10 (lv_sub hl [0, 1, 2] rfl) ez10 (fun ls hl => ?_)
  exact X10_at_J27p x0 z10 ls (lv_sub hl [0, 1] rfl) h

def tX11_init (x0 : Nat) (M : vMe) : Option (Unit × vMe) :=
  (sV M x0 13 5 (.int ((-1)))).bind fun M1 =>
  (sV M1 x0 13 6 (.int 1)).bind fun M2 =>
  some ((), M2)
def rmX11_init : Room := { frames := 1, cells := 0, slots := 0, locals := 60 }
set_option maxHeartbeats 4000000 in
set_option maxRecDepth 100000 in
theorem mX11_init (l : Launch) (hfl : l.stackTraces = false) (D : vD) (x0 : Nat) (M : vMe) (z : (Unit × vMe)) (h : tX11_init x0 M = some z) : Met l yX11_init (Cond.code yX11_init cX11_init 1 none :: TB) rmX11_init (va_Pc [.ref x0] (vPre D M)) (qW D none z.2) 0 0 (vA D) := by
  refine v_ofW (cc := cX11_init) (maxL := 1) (ret := none) (by decide) (Nat.le_of_ble_eq_true rfl) ?_
  intro p e s m args below meth c Q hx hb hr hml hown hts hlk hnm hSS hR0 hQ ls hl
  have hK := hSS.1
  have hl : lv_has ls 1 [(0, .ref x0)] := hl
  unfold tX11_init at h
  refine w_aload_n hx hb dX11_init_0 rfl (lv_at hl 0 rfl) ?_
  refine v_objInit hx hb hown (hts _ kw1122) (hts _ kw66) (hts _ kw67) (hl.1.trans hml.symm) dX11_init_1 (Nat.le_of_ble_eq_true rfl) (Nat.le_of_ble_eq_true rfl) ?_
  refine w_aload_n hx hb dX11_init_4 rfl (lv_at hl 0 rfl) ?_
  refine w_iconst (v := (-1)) hx hb dX11_init_5 (by decide) ?_
  obtain ⟨M1, eM1, h⟩ := v_bnd h
  refine v_putf (ci := 12) hx hb hts iwX11 hown hK tyX11_ok nmX11 5 eM1 rfl (by decide) (Or.inl (hts _ kw1133)) (fun _ h9 => h9) (Or.inl rfl) rfl rfl dX11_init_6 ?_
  refine w_aload_n hx hb dX11_init_9 rfl (lv_at hl 0 rfl) ?_
  refine w_iconst (v := 1) hx hb dX11_init_10 (by decide) ?_
  obtain ⟨M2, eM2, h⟩ := v_bnd h
  refine v_putf (ci := 12) hx hb hts iwX11 hown hK tyX11_ok nmX11 6 eM2 rfl (by decide) (Or.inl (hts _ kw1136)) (fun _ h9 => h9) (Or.inl rfl) (by decide) (by decide) dX11_init_11 ?_
  obtain rfl := Option.some.inj h
  rw [hQ]
  exact v_vret hx hb hr hlk dX11_init_14

def tX11_meets (x0 : Nat) (x1 : Int32) (M : vMe) : Option Int32 :=
  (gI M x0 13 7).bind fun v1 =>
  if v1 = 0 then
  (some 1)
else
  ((gA M x0 13 0).bind fun a3 =>
  (gA M a3 12 5).bind fun a4 =>
  (aI M a4 101 x1).bind fun v5 =>
  (gI M x0 13 3).bind fun v6 =>
  if v6 < v5 then
  (some 0)
else
  (some 1))
def rmX11_meets : Room := { frames := 1, cells := 0, slots := 0, locals := 0 }
set_option maxHeartbeats 4000000 in
set_option maxRecDepth 100000 in
theorem mX11_meets (l : Launch) (hfl : l.stackTraces = false) (D : vD) (x0 : Nat) (x1 : Int32) (M : vMe) (z : Int32) (h : tX11_meets x0 x1 M = some z) : Met l yX11_meets (Cond.code yX11_meets cX11_meets 2 (some .boolean) :: TB) rmX11_meets (va_Pc [.ref x0, .int x1] (vPre D M)) (qW D (some (.int z)) M) 0 0 (vA D) := by
  refine v_ofW (cc := cX11_meets) (maxL := 2) (ret := (some .boolean)) (by decide) (Nat.le_of_ble_eq_true rfl) ?_
  intro p e s m args below meth c Q hx hb hr hml hown hts hlk hnm hSS hR0 hQ ls hl
  have hK := hSS.1
  have hl : lv_has ls 2 [(0, .ref x0), (1, .int x1)] := hl
  unfold tX11_meets at h
  refine w_aload_n hx hb dX11_meets_0 rfl (lv_at hl 0 rfl) ?_
  obtain ⟨v1, ev1, h⟩ := v_bnd h
  refine v_gI (ci := 12) hx hb hts iwX11 hown hK 7 ev1 rfl (by decide) (Or.inl (hts _ kw1139)) (fun _ h9 => h9) dX11_meets_1 ?_
  refine w_if_eq (tgt := 23) hx hb dX11_meets_4 (by decide) (fun c2 => ?_) (fun c2 => ?_)
  · rw [if_pos c2] at h
    refine w_iconst (v := 1) hx hb dX11_meets_23 (by decide) ?_
    refine w_goto (tgt := 28) hx hb dX11_meets_24 (by decide) ?_
    obtain rfl := Option.some.inj h
    rw [hQ]
    exact v_zret (x := 1) hx hb hr hlk rfl dX11_meets_28
  · rw [if_neg c2] at h
    refine w_aload_n hx hb dX11_meets_7 rfl (lv_at hl 0 rfl) ?_
    obtain ⟨a3, ea3, h⟩ := v_bnd h
    refine v_gA (ci := 12) hx hb hts iwX11 hown hK 0 ea3 rfl (by decide) (Or.inl (hts _ kw1123)) (fun _ h9 => h9) dX11_meets_8 ?_
    obtain ⟨a4, ea4, h⟩ := v_bnd h
    refine v_gA (ci := 11) hx hb hts iwX10 hown hK 5 ea4 rfl (by decide) (Or.inr ⟨_, kn57 hSS _⟩) (fun _ h9 => h9) dX11_meets_11 ?_
    refine w_iload_n hx hb dX11_meets_14 rfl (lv_at hl 1 rfl) ?_
    obtain ⟨v5, ev5, h⟩ := v_bnd h
    refine v_iald hx hb hK ev5 dX11_meets_15 ?_
    refine w_aload_n hx hb dX11_meets_16 rfl (lv_at hl 0 rfl) ?_
    obtain ⟨v6, ev6, h⟩ := v_bnd h
    refine v_gI (ci := 12) hx hb hts iwX11 hown hK 3 ev6 rfl (by decide) (Or.inl (hts _ kw1129)) (fun _ h9 => h9) dX11_meets_17 ?_
    refine w_icmp_gt (tgt := 27) hx hb dX11_meets_20 (by decide) (fun c7 => ?_) (fun c7 => ?_)
    · rw [if_pos c7] at h
      refine w_iconst (v := 0) hx hb dX11_meets_27 (by decide) ?_
      obtain rfl := Option.some.inj h
      rw [hQ]
      exact v_zret (x := 0) hx hb hr hlk rfl dX11_meets_28
    · rw [if_neg c7] at h
      refine w_iconst (v := 1) hx hb dX11_meets_23 (by decide) ?_
      refine w_goto (tgt := 28) hx hb dX11_meets_24 (by decide) ?_
      obtain rfl := Option.some.inj h
      rw [hQ]
      exact v_zret (x := 1) hx hb hr hlk rfl dX11_meets_28

def tX12_init (x0 : Nat) (M : vMe) : Option (Unit × vMe) :=
  (nwO M 109 5 5 (fun _ => .null) M.2.1 M.2.2.1 43 41034).bind fun M1 =>
  (nwO M1 12 0 10 (vp_V [.int 0, .int 0, .int 0, .null, .null, .null, .null, .null, .null, .null]) M.2.1 M.2.2.1 43 41034).bind fun M2 =>
  if M2.2.1 + 7 ≤ M.2.1 + 43 ∧ M2.2.2.1 + 8193 ≤ M.2.2.1 + 41034 then
  ((tX10_init M1.2.1 M2).bind fun z3 =>
  (sQ z3.2 M.2.1 109 0 M1.2.1 12).bind fun M4 =>
  (nwO M4 12 0 10 (vp_V [.int 0, .int 0, .int 0, .null, .null, .null, .null, .null, .null, .null]) M.2.1 M.2.2.1 43 41034).bind fun M5 =>
  if M5.2.1 + 7 ≤ M.2.1 + 43 ∧ M5.2.2.1 + 8193 ≤ M.2.2.1 + 41034 then
  ((tX10_init M4.2.1 M5).bind fun z6 =>
  (sQ z6.2 M.2.1 109 1 M4.2.1 12).bind fun M7 =>
  (nwO M7 12 0 10 (vp_V [.int 0, .int 0, .int 0, .null, .null, .null, .null, .null, .null, .null]) M.2.1 M.2.2.1 43 41034).bind fun M8 =>
  if M8.2.1 + 7 ≤ M.2.1 + 43 ∧ M8.2.2.1 + 8193 ≤ M.2.2.1 + 41034 then
  ((tX10_init M7.2.1 M8).bind fun z9 =>
  (sQ z9.2 M.2.1 109 2 M7.2.1 12).bind fun M10 =>
  (nwO M10 12 0 10 (vp_V [.int 0, .int 0, .int 0, .null, .null, .null, .null, .null, .null, .null]) M.2.1 M.2.2.1 43 41034).bind fun M11 =>
  if M11.2.1 + 7 ≤ M.2.1 + 43 ∧ M11.2.2.1 + 8193 ≤ M.2.2.1 + 41034 then
  ((tX10_init M10.2.1 M11).bind fun z12 =>
  (sQ z12.2 M.2.1 109 3 M10.2.1 12).bind fun M13 =>
  (nwO M13 12 0 10 (vp_V [.int 0, .int 0, .int 0, .null, .null, .null, .null, .null, .null, .null]) M.2.1 M.2.2.1 43 41034).bind fun M14 =>
  if M14.2.1 + 7 ≤ M.2.1 + 43 ∧ M14.2.2.1 + 8193 ≤ M.2.2.1 + 41034 then
  ((tX10_init M13.2.1 M14).bind fun z15 =>
  (sQ z15.2 M.2.1 109 4 M13.2.1 12).bind fun M16 =>
  (sV M16 x0 14 6 (.ref M.2.1)).bind fun M17 =>
  (nwO M17 110 6 6 (fun _ => .null) M.2.1 M.2.2.1 43 41034).bind fun M18 =>
  (sV M18 x0 14 7 (.ref M17.2.1)).bind fun M19 =>
  (nwO M19 101 8 8 (fun _ => .int 0) M.2.1 M.2.2.1 43 41034).bind fun M20 =>
  (sV M20 x0 14 8 (.ref M19.2.1)).bind fun M21 =>
  if M21.2.1 ≤ M.2.1 + 43 ∧ M21.2.2.1 ≤ M.2.2.1 + 41034 then some ((), M21) else none)
else none)
else none)
else none)
else none)
else none
def rmX12_init : Room := { frames := 2, cells := 43, slots := 41034, locals := 80 }
set_option maxHeartbeats 4000000 in
set_option maxRecDepth 100000 in
theorem mX12_init (l : Launch) (hfl : l.stackTraces = false) (D : vD) (x0 : Nat) (M : vMe) (z : (Unit × vMe)) (h : tX12_init x0 M = some z) : Met l yX12_init (Cond.code yX12_init cX12_init 1 none :: TB) rmX12_init (va_Pc [.ref x0] (vPre D M)) (qW D none z.2) 43 41034 (vA D) := by
  refine v_ofW (cc := cX12_init) (maxL := 1) (ret := none) (by decide) (Nat.le_of_ble_eq_true rfl) ?_
  intro p e s m args below meth c Q hx hb hr hml hown hts hlk hnm hSS hR0 hQ ls hl
  have hz0 := hR0.2.1
  have hs0 := hR0.2.2.1
  have hb0 : D.2.2.2.1 ≤ s.heap.size := hR0.2.2.2.2.1
  refine v_tight hb0 ?_
  have hK := hSS.1
  have hl : lv_has ls 1 [(0, .ref x0)] := hl
  unfold tX12_init at h
  refine w_aload_n hx hb dX12_init_0 rfl (lv_at hl 0 rfl) ?_
  refine v_objInit hx hb hown (hts _ kw316) (hts _ kw66) (hts _ kw67) (hl.1.trans hml.symm) dX12_init_1 (Nat.le_of_ble_eq_true rfl) (Nat.le_of_ble_eq_true rfl) ?_
  refine w_aload_n hx hb dX12_init_4 rfl (lv_at hl 0 rfl) ?_
  refine w_iconst (v := 5) hx hb dX12_init_5 (by decide) ?_
  obtain ⟨M1, eM1, h⟩ := v_bnd h
  refine u_anew (x := 5) hx hb hK hown (hts _ kw317) (va_AO.use (hSS.2.2.2.2.2.2.2.2.2.2.1 3 _ rfl)) (by decide) (by decide) rfl (by decide) (by decide) hb0 hz0 hs0 rfl rfl eM1 dX12_init_6 ?_
  refine w_dup hx hb dX12_init_9 rfl ?_
  refine w_iconst (v := 0) hx hb dX12_init_10 (by decide) ?_
  obtain ⟨M2, eM2, h⟩ := v_bnd h
  refine u_new (ci := 11) (N := 10) hx hb hts iwX10 hown hK tyX10_ok rfl (hts _ kw317) (hts _ kw319) (hts _ kw36) (by decide) (by decide) (by decide) hb0 hz0 hs0 rfl rfl eM2 dX12_init_11 ?_
  refine w_dup hx hb dX12_init_14 rfl ?_
  obtain ⟨g7, h⟩ := v_ifs h
  refine v_tight hb0 ?_
  obtain ⟨z3, ez3, h⟩ := v_bnd h
  refine v_call0 (M1 := z3.2) (mc := 7) (ms := 8193) (fun H locs hR hS => va_runIN (As := []) (rest := [.ref M1.2.1, .int 0, .ref M.2.1, .ref M.2.1, .ref x0]) ⟨hx, hb, hml, hown, hts⟩ (mX10_init l hfl D M1.2.1 M2 z3 ez3) ⟨va_cnB 0 hts (gdI kw322) rfl rfl rfl (km7 hSS) (hts _ kw36) (by decide +kernel) ⟨Nat.le_of_ble_eq_true rfl, Nat.le_of_ble_eq_true rfl⟩, rfl, (hts _ kw321)⟩ (v_preS hSS hR hS [.ref M1.2.1]) rfl rfl hl.1 rfl (lv_room (Nat.le_of_ble_eq_true rfl)) dX12_init_15 ⟨by show _ + _ ≤ 43; omega, by show _ + _ ≤ 41034; omega⟩) ?_
  obtain ⟨M4, eM4, h⟩ := v_bnd h
  refine v_aast (ci := 11) hx hb hK eM4 (by decide) rfl dX12_init_18 ?_
  refine w_dup hx hb dX12_init_19 rfl ?_
  refine w_iconst (v := 1) hx hb dX12_init_20 (by decide) ?_
  obtain ⟨M5, eM5, h⟩ := v_bnd h
  refine u_new (ci := 11) (N := 10) hx hb hts iwX10 hown hK tyX10_ok rfl (hts _ kw317) (hts _ kw319) (hts _ kw36) (by decide) (by decide) (by decide) hb0 hz0 hs0 rfl rfl eM5 dX12_init_21 ?_
  refine w_dup hx hb dX12_init_24 rfl ?_
  obtain ⟨g7, h⟩ := v_ifs h
  refine v_tight hb0 ?_
  obtain ⟨z6, ez6, h⟩ := v_bnd h
  refine v_call0 (M1 := z6.2) (mc := 7) (ms := 8193) (fun H locs hR hS => va_runIN (As := []) (rest := [.ref M4.2.1, .int 1, .ref M.2.1, .ref M.2.1, .ref x0]) ⟨hx, hb, hml, hown, hts⟩ (mX10_init l hfl D M4.2.1 M5 z6 ez6) ⟨va_cnB 0 hts (gdI kw322) rfl rfl rfl (km7 hSS) (hts _ kw36) (by decide +kernel) ⟨Nat.le_of_ble_eq_true rfl, Nat.le_of_ble_eq_true rfl⟩, rfl, (hts _ kw321)⟩ (v_preS hSS hR hS [.ref M4.2.1]) rfl rfl hl.1 rfl (lv_room (Nat.le_of_ble_eq_true rfl)) dX12_init_25 ⟨by show _ + _ ≤ 43; omega, by show _ + _ ≤ 41034; omega⟩) ?_
  obtain ⟨M7, eM7, h⟩ := v_bnd h
  refine v_aast (ci := 11) hx hb hK eM7 (by decide) rfl dX12_init_28 ?_
  refine w_dup hx hb dX12_init_29 rfl ?_
  refine w_iconst (v := 2) hx hb dX12_init_30 (by decide) ?_
  obtain ⟨M8, eM8, h⟩ := v_bnd h
  refine u_new (ci := 11) (N := 10) hx hb hts iwX10 hown hK tyX10_ok rfl (hts _ kw317) (hts _ kw319) (hts _ kw36) (by decide) (by decide) (by decide) hb0 hz0 hs0 rfl rfl eM8 dX12_init_31 ?_
  refine w_dup hx hb dX12_init_34 rfl ?_
  obtain ⟨g7, h⟩ := v_ifs h
  refine v_tight hb0 ?_
  obtain ⟨z9, ez9, h⟩ := v_bnd h
  refine v_call0 (M1 := z9.2) (mc := 7) (ms := 8193) (fun H locs hR hS => va_runIN (As := []) (rest := [.ref M7.2.1, .int 2, .ref M.2.1, .ref M.2.1, .ref x0]) ⟨hx, hb, hml, hown, hts⟩ (mX10_init l hfl D M7.2.1 M8 z9 ez9) ⟨va_cnB 0 hts (gdI kw322) rfl rfl rfl (km7 hSS) (hts _ kw36) (by decide +kernel) ⟨Nat.le_of_ble_eq_true rfl, Nat.le_of_ble_eq_true rfl⟩, rfl, (hts _ kw321)⟩ (v_preS hSS hR hS [.ref M7.2.1]) rfl rfl hl.1 rfl (lv_room (Nat.le_of_ble_eq_true rfl)) dX12_init_35 ⟨by show _ + _ ≤ 43; omega, by show _ + _ ≤ 41034; omega⟩) ?_
  obtain ⟨M10, eM10, h⟩ := v_bnd h
  refine v_aast (ci := 11) hx hb hK eM10 (by decide) rfl dX12_init_38 ?_
  refine w_dup hx hb dX12_init_39 rfl ?_
  refine w_iconst (v := 3) hx hb dX12_init_40 (by decide) ?_
  obtain ⟨M11, eM11, h⟩ := v_bnd h
  refine u_new (ci := 11) (N := 10) hx hb hts iwX10 hown hK tyX10_ok rfl (hts _ kw317) (hts _ kw319) (hts _ kw36) (by decide) (by decide) (by decide) hb0 hz0 hs0 rfl rfl eM11 dX12_init_41 ?_
  refine w_dup hx hb dX12_init_44 rfl ?_
  obtain ⟨g7, h⟩ := v_ifs h
  refine v_tight hb0 ?_
  obtain ⟨z12, ez12, h⟩ := v_bnd h
  refine v_call0 (M1 := z12.2) (mc := 7) (ms := 8193) (fun H locs hR hS => va_runIN (As := []) (rest := [.ref M10.2.1, .int 3, .ref M.2.1, .ref M.2.1, .ref x0]) ⟨hx, hb, hml, hown, hts⟩ (mX10_init l hfl D M10.2.1 M11 z12 ez12) ⟨va_cnB 0 hts (gdI kw322) rfl rfl rfl (km7 hSS) (hts _ kw36) (by decide +kernel) ⟨Nat.le_of_ble_eq_true rfl, Nat.le_of_ble_eq_true rfl⟩, rfl, (hts _ kw321)⟩ (v_preS hSS hR hS [.ref M10.2.1]) rfl rfl hl.1 rfl (lv_room (Nat.le_of_ble_eq_true rfl)) dX12_init_45 ⟨by show _ + _ ≤ 43; omega, by show _ + _ ≤ 41034; omega⟩) ?_
  obtain ⟨M13, eM13, h⟩ := v_bnd h
  refine v_aast (ci := 11) hx hb hK eM13 (by decide) rfl dX12_init_48 ?_
  refine w_dup hx hb dX12_init_49 rfl ?_
  refine w_iconst (v := 4) hx hb dX12_init_50 (by decide) ?_
  obtain ⟨M14, eM14, h⟩ := v_bnd h
  refine u_new (ci := 11) (N := 10) hx hb hts iwX10 hown hK tyX10_ok rfl (hts _ kw317) (hts _ kw319) (hts _ kw36) (by decide) (by decide) (by decide) hb0 hz0 hs0 rfl rfl eM14 dX12_init_51 ?_
  refine w_dup hx hb dX12_init_54 rfl ?_
  obtain ⟨g7, h⟩ := v_ifs h
  refine v_tight hb0 ?_
  obtain ⟨z15, ez15, h⟩ := v_bnd h
  refine v_call0 (M1 := z15.2) (mc := 7) (ms := 8193) (fun H locs hR hS => va_runIN (As := []) (rest := [.ref M13.2.1, .int 4, .ref M.2.1, .ref M.2.1, .ref x0]) ⟨hx, hb, hml, hown, hts⟩ (mX10_init l hfl D M13.2.1 M14 z15 ez15) ⟨va_cnB 0 hts (gdI kw322) rfl rfl rfl (km7 hSS) (hts _ kw36) (by decide +kernel) ⟨Nat.le_of_ble_eq_true rfl, Nat.le_of_ble_eq_true rfl⟩, rfl, (hts _ kw321)⟩ (v_preS hSS hR hS [.ref M13.2.1]) rfl rfl hl.1 rfl (lv_room (Nat.le_of_ble_eq_true rfl)) dX12_init_55 ⟨by show _ + _ ≤ 43; omega, by show _ + _ ≤ 41034; omega⟩) ?_
  obtain ⟨M16, eM16, h⟩ := v_bnd h
  refine v_aast (ci := 11) hx hb hK eM16 (by decide) rfl dX12_init_58 ?_
  obtain ⟨M17, eM17, h⟩ := v_bnd h
  refine v_putf (ci := 13) hx hb hts iwX12 hown hK tyX12_ok nmX12 6 eM17 rfl (by decide) (Or.inl (hts _ kw381)) (fun _ h9 => h9) (Or.inr ⟨rfl, hnm, rfl, (hts _ kw381)⟩) rfl rfl dX12_init_59 ?_
  refine w_aload_n hx hb dX12_init_62 rfl (lv_at hl 0 rfl) ?_
  refine w_bipush (v := 6) hx hb dX12_init_63 (by decide) ?_
  obtain ⟨M18, eM18, h⟩ := v_bnd h
  refine u_anew (x := 6) hx hb hK hown (hts _ kw371) (va_AO.use (hSS.2.2.2.2.2.2.2.2.2.2.1 4 _ rfl)) (by decide) (by decide) rfl (by decide) (by decide) hb0 hz0 hs0 rfl rfl eM18 dX12_init_65 ?_
  obtain ⟨M19, eM19, h⟩ := v_bnd h
  refine v_putf (ci := 13) hx hb hts iwX12 hown hK tyX12_ok nmX12 7 eM19 rfl (by decide) (Or.inl (hts _ kw383)) (fun _ h9 => h9) (Or.inr ⟨rfl, hnm, rfl, (hts _ kw383)⟩) rfl rfl dX12_init_68 ?_
  refine w_aload_n hx hb dX12_init_71 rfl (lv_at hl 0 rfl) ?_
  refine w_bipush (v := 8) hx hb dX12_init_72 (by decide) ?_
  obtain ⟨M20, eM20, h⟩ := v_bnd h
  refine u_newa (x := 8) (atype := .int) hx hb hK (hts _ kw163) (by decide) (by decide) rfl (by decide) (by decide) (by decide) hb0 hz0 hs0 rfl rfl eM20 dX12_init_74 ?_
  obtain ⟨M21, eM21, h⟩ := v_bnd h
  refine v_putf (ci := 13) hx hb hts iwX12 hown hK tyX12_ok nmX12 8 eM21 rfl (by decide) (Or.inl (hts _ kw385)) (fun _ h9 => h9) (Or.inr ⟨rfl, hnm, rfl, (hts _ kw385)⟩) rfl rfl dX12_init_76 ?_
  obtain ⟨g9, h⟩ := v_ifs h
  refine v_tight hb0 (vV.widen (n' := 43) (k' := 41034) (by omega) (by omega) ?_)
  obtain rfl := Option.some.inj h
  rw [hQ]
  exact v_vret hx hb hr hlk dX12_init_79

def tX12_put (x0 : Nat) (x1 : Nat) (x2 : Int32) (x3 : Int32) (M : vMe) : Option (Unit × vMe) :=
  (gA M x1 12 3).bind fun a1 =>
  (sA M a1 101 x3 (.int x2)).bind fun M2 =>
  (gA M2 x1 12 4).bind fun a3 =>
  (sA M2 a3 101 x2 (.int x3)).bind fun M4 =>
  (gI M4 x0 14 4).bind fun v5 =>
  (sV M4 x0 14 4 (.int (v5 + 2))).bind fun M6 =>
  some ((), M6)
def rmX12_put : Room := { frames := 1, cells := 0, slots := 0, locals := 0 }
set_option maxHeartbeats 4000000 in
set_option maxRecDepth 100000 in
theorem mX12_put (l : Launch) (hfl : l.stackTraces = false) (D : vD) (x0 : Nat) (x1 : Nat) (x2 : Int32) (x3 : Int32) (M : vMe) (z : (Unit × vMe)) (h : tX12_put x0 x1 x2 x3 M = some z) : Met l yX12_put (Cond.code yX12_put cX12_put 4 none :: TB) rmX12_put (va_Pc [.ref x0, .ref x1, .int x2, .int x3] (vPre D M)) (qW D none z.2) 0 0 (vA D) := by
  refine v_ofW (cc := cX12_put) (maxL := 4) (ret := none) (by decide) (Nat.le_of_ble_eq_true rfl) ?_
  intro p e s m args below meth c Q hx hb hr hml hown hts hlk hnm hSS hR0 hQ ls hl
  have hK := hSS.1
  have hl : lv_has ls 4 [(0, .ref x0), (1, .ref x1), (2, .int x2), (3, .int x3)] := hl
  unfold tX12_put at h
  refine w_aload_n hx hb dX12_put_0 rfl (lv_at hl 1 rfl) ?_
  obtain ⟨a1, ea1, h⟩ := v_bnd h
  refine v_gA (ci := 11) hx hb hts iwX10 hown hK 3 ea1 rfl (by decide) (Or.inr ⟨_, kn53 hSS _⟩) (fun _ h9 => h9) dX12_put_1 ?_
  refine w_iload_n hx hb dX12_put_4 rfl (lv_at hl 3 rfl) ?_
  refine w_iload_n hx hb dX12_put_5 rfl (lv_at hl 2 rfl) ?_
  obtain ⟨M2, eM2, h⟩ := v_bnd h
  refine v_iast hx hb hK eM2 dX12_put_6 ?_
  refine w_aload_n hx hb dX12_put_7 rfl (lv_at hl 1 rfl) ?_
  obtain ⟨a3, ea3, h⟩ := v_bnd h
  refine v_gA (ci := 11) hx hb hts iwX10 hown hK 4 ea3 rfl (by decide) (Or.inr ⟨_, kn55 hSS _⟩) (fun _ h9 => h9) dX12_put_8 ?_
  refine w_iload_n hx hb dX12_put_11 rfl (lv_at hl 2 rfl) ?_
  refine w_iload_n hx hb dX12_put_12 rfl (lv_at hl 3 rfl) ?_
  obtain ⟨M4, eM4, h⟩ := v_bnd h
  refine v_iast hx hb hK eM4 dX12_put_13 ?_
  refine w_aload_n hx hb dX12_put_14 rfl (lv_at hl 0 rfl) ?_
  refine w_dup hx hb dX12_put_15 rfl ?_
  obtain ⟨v5, ev5, h⟩ := v_bnd h
  refine v_gI (ci := 13) hx hb hts iwX12 hown hK 4 ev5 rfl (by decide) (Or.inl (hts _ kw378)) (fun _ h9 => h9) dX12_put_16 ?_
  refine w_iconst (v := 2) hx hb dX12_put_19 (by decide) ?_
  refine w_iadd hx hb dX12_put_20 ?_
  obtain ⟨M6, eM6, h⟩ := v_bnd h
  refine v_putf (ci := 13) hx hb hts iwX12 hown hK tyX12_ok nmX12 4 eM6 rfl (by decide) (Or.inl (hts _ kw378)) (fun _ h9 => h9) (Or.inl rfl) rfl rfl dX12_put_21 ?_
  obtain rfl := Option.some.inj h
  rw [hQ]
  exact v_vret hx hb hr hlk dX12_put_24

def tX12_add (x0 : Nat) (x1 : Nat) (x2 : Int32) (M : vMe) : Option (Unit × vMe) :=
  if (M.1 x1).1 = 12 then
  ((tX10_has x1 x2 M).bind fun z1 =>
  if z1 = 0 then
  ((gI M x1 12 0).bind fun v3 =>
  if (M.1 x0).1 = 14 then
  ((tX12_put x0 x1 x2 v3 M).bind fun z4 =>
  (gI z4.2 x1 12 0).bind fun v5 =>
  (sV z4.2 x1 12 0 (.int (v5 + 1))).bind fun M6 =>
  (gI M6 x0 14 3).bind fun v7 =>
  (sV M6 x0 14 3 (.int (v7 + 1))).bind fun M8 =>
  (gA M8 x1 12 5).bind fun a9 =>
  (gI M8 x0 14 3).bind fun v10 =>
  (sA M8 a9 101 x2 (.int v10)).bind fun M11 =>
  (gI M11 x0 14 3).bind fun v12 =>
  if (M11.1 x1).1 = 12 then
  ((tX10_note x1 v12 x2 0 M11).bind fun z13 =>
  some ((), z13.2))
else none)
else none)
else
  (some ((), M)))
else none
def rmX12_add : Room := { frames := 3, cells := 0, slots := 0, locals := 46 }
set_option maxHeartbeats 4000000 in
set_option maxRecDepth 100000 in
theorem mX12_add (l : Launch) (hfl : l.stackTraces = false) (D : vD) (x0 : Nat) (x1 : Nat) (x2 : Int32) (M : vMe) (z : (Unit × vMe)) (h : tX12_add x0 x1 x2 M = some z) : Met l yX12_add (Cond.code yX12_add cX12_add 3 none :: TB) rmX12_add (va_Pc [.ref x0, .ref x1, .int x2] (vPre D M)) (qW D none z.2) 0 0 (vA D) := by
  refine v_ofW (cc := cX12_add) (maxL := 3) (ret := none) (by decide) (Nat.le_of_ble_eq_true rfl) ?_
  intro p e s m args below meth c Q hx hb hr hml hown hts hlk hnm hSS hR0 hQ ls hl
  have hK := hSS.1
  have hl : lv_has ls 3 [(0, .ref x0), (1, .ref x1), (2, .int x2)] := hl
  unfold tX12_add at h
  refine w_aload_n hx hb dX12_add_0 rfl (lv_at hl 1 rfl) ?_
  refine w_iload_n hx hb dX12_add_1 rfl (lv_at hl 2 rfl) ?_
  obtain ⟨g8, h⟩ := v_ifs h
  obtain ⟨z1, ez1, h⟩ := v_bnd h
  refine v_call1 (v := .int z1) (M1 := M) (mc := 0) (ms := 0) (fun H locs hR hS => va_runV (As := [.int x2]) (rest := []) ⟨hx, hb, hml, hown, hts⟩ (mX10_has l hfl D x1 x2 M z1 ez1) (cwV 1 hts (gdV kw690 kw691 kw692 kw36 kw693) rfl rfl rfl (by decide +kernel) ⟨Nat.le_of_ble_eq_true rfl, Nat.le_of_ble_eq_true rfl⟩) (v_preV (ci := 11) hSS hR hS g8 (by decide) rfl [.int x2]) rfl rfl hl.1 rfl (lv_room (Nat.le_of_ble_eq_true rfl)) dX12_add_2 ⟨Nat.zero_le _, Nat.zero_le _⟩) ?_
  refine w_if_eq (tgt := 9) hx hb dX12_add_5 (by decide) (fun c2 => ?_) (fun c2 => ?_)
  · rw [if_pos c2] at h
    refine w_aload_n hx hb dX12_add_9 rfl (lv_at hl 0 rfl) ?_
    refine w_aload_n hx hb dX12_add_10 rfl (lv_at hl 1 rfl) ?_
    refine w_iload_n hx hb dX12_add_11 rfl (lv_at hl 2 rfl) ?_
    refine w_aload_n hx hb dX12_add_12 rfl (lv_at hl 1 rfl) ?_
    obtain ⟨v3, ev3, h⟩ := v_bnd h
    refine v_gI (ci := 11) hx hb hts iwX10 hown hK 0 ev3 rfl (by decide) (Or.inr ⟨_, kn48 hSS _⟩) (fun _ h9 => h9) dX12_add_13 ?_
    obtain ⟨g8, h⟩ := v_ifs h
    obtain ⟨z4, ez4, h⟩ := v_bnd h
    refine v_call0 (M1 := z4.2) (mc := 0) (ms := 0) (fun H locs hR hS => va_runV (As := [.ref x1, .int x2, .int v3]) (rest := []) ⟨hx, hb, hml, hown, hts⟩ (mX12_put l hfl D x0 x1 x2 v3 M z4 ez4) (cwV 3 hts (gdV kw694 kw695 kw696 kw35 kw697) rfl rfl rfl (by decide +kernel) ⟨Nat.le_of_ble_eq_true rfl, Nat.le_of_ble_eq_true rfl⟩) (v_preV (ci := 13) hSS hR hS g8 (by decide) rfl [.ref x1, .int x2, .int v3]) rfl rfl hl.1 rfl (lv_room (Nat.le_of_ble_eq_true rfl)) dX12_add_16 ⟨Nat.zero_le _, Nat.zero_le _⟩) ?_
    refine w_aload_n hx hb dX12_add_19 rfl (lv_at hl 1 rfl) ?_
    refine w_dup hx hb dX12_add_20 rfl ?_
    obtain ⟨v5, ev5, h⟩ := v_bnd h
    refine v_gI (ci := 11) hx hb hts iwX10 hown hK 0 ev5 rfl (by decide) (Or.inr ⟨_, kn48 hSS _⟩) (fun _ h9 => h9) dX12_add_21 ?_
    refine w_iconst (v := 1) hx hb dX12_add_24 (by decide) ?_
    refine w_iadd hx hb dX12_add_25 ?_
    obtain ⟨M6, eM6, h⟩ := v_bnd h
    refine v_putf (ci := 11) hx hb hts iwX10 hown hK tyX10_ok nmX10 0 eM6 rfl (by decide) (Or.inr ⟨_, kn48 hSS _⟩) (fun _ h9 => h9) (Or.inl rfl) rfl rfl dX12_add_26 ?_
    refine w_aload_n hx hb dX12_add_29 rfl (lv_at hl 0 rfl) ?_
    refine w_dup hx hb dX12_add_30 rfl ?_
    obtain ⟨v7, ev7, h⟩ := v_bnd h
    refine v_gI (ci := 13) hx hb hts iwX12 hown hK 3 ev7 rfl (by decide) (Or.inl (hts _ kw376)) (fun _ h9 => h9) dX12_add_31 ?_
    refine w_iconst (v := 1) hx hb dX12_add_34 (by decide) ?_
    refine w_iadd hx hb dX12_add_35 ?_
    obtain ⟨M8, eM8, h⟩ := v_bnd h
    refine v_putf (ci := 13) hx hb hts iwX12 hown hK tyX12_ok nmX12 3 eM8 rfl (by decide) (Or.inl (hts _ kw376)) (fun _ h9 => h9) (Or.inl rfl) rfl rfl dX12_add_36 ?_
    refine w_aload_n hx hb dX12_add_39 rfl (lv_at hl 1 rfl) ?_
    obtain ⟨a9, ea9, h⟩ := v_bnd h
    refine v_gA (ci := 11) hx hb hts iwX10 hown hK 5 ea9 rfl (by decide) (Or.inr ⟨_, kn58 hSS _⟩) (fun _ h9 => h9) dX12_add_40 ?_
    refine w_iload_n hx hb dX12_add_43 rfl (lv_at hl 2 rfl) ?_
    refine w_aload_n hx hb dX12_add_44 rfl (lv_at hl 0 rfl) ?_
    obtain ⟨v10, ev10, h⟩ := v_bnd h
    refine v_gI (ci := 13) hx hb hts iwX12 hown hK 3 ev10 rfl (by decide) (Or.inl (hts _ kw376)) (fun _ h9 => h9) dX12_add_45 ?_
    obtain ⟨M11, eM11, h⟩ := v_bnd h
    refine v_iast hx hb hK eM11 dX12_add_48 ?_
    refine w_aload_n hx hb dX12_add_49 rfl (lv_at hl 1 rfl) ?_
    refine w_aload_n hx hb dX12_add_50 rfl (lv_at hl 0 rfl) ?_
    obtain ⟨v12, ev12, h⟩ := v_bnd h
    refine v_gI (ci := 13) hx hb hts iwX12 hown hK 3 ev12 rfl (by decide) (Or.inl (hts _ kw376)) (fun _ h9 => h9) dX12_add_51 ?_
    refine w_iload_n hx hb dX12_add_54 rfl (lv_at hl 2 rfl) ?_
    refine w_iconst (v := 0) hx hb dX12_add_55 (by decide) ?_
    obtain ⟨g8, h⟩ := v_ifs h
    obtain ⟨z13, ez13, h⟩ := v_bnd h
    refine v_call0 (M1 := z13.2) (mc := 0) (ms := 0) (fun H locs hR hS => va_runV (As := [.int v12, .int x2, .int 0]) (rest := []) ⟨hx, hb, hml, hown, hts⟩ (mX10_note l hfl D x1 v12 x2 0 M11 z13 ez13) (cwV 3 hts (gdV kw698 kw699 kw700 kw36 kw701) rfl rfl rfl (by decide +kernel) ⟨Nat.le_of_ble_eq_true rfl, Nat.le_of_ble_eq_true rfl⟩) (v_preV (ci := 11) hSS hR hS g8 (by decide) rfl [.int v12, .int x2, .int 0]) rfl rfl hl.1 rfl (lv_room (Nat.le_of_ble_eq_true rfl)) dX12_add_56 ⟨Nat.zero_le _, Nat.zero_le _⟩) ?_
    obtain rfl := Option.some.inj h
    rw [hQ]
    exact v_vret hx hb hr hlk dX12_add_59
  · rw [if_neg c2] at h
    obtain rfl := Option.some.inj h
    rw [hQ]
    exact v_vret hx hb hr hlk dX12_add_8

def tX12_remove_J133_39 (rec : Int32 → Int32 → vMe → Option (Int32 × vMe)) (n0 s0 : Nat) (x0 : Nat) (x1 : Nat) (x2 : Int32) (x3 : Int32) (x4 : Nat) (x5 : Int32) (x6 : Int32) (x7 : Int32) (Mj : vMe) : Option (Int32 × vMe) :=
  rec x6 (x7 + (-1)) Mj
def tX12_remove_J129_39 (rec : Int32 → Int32 → vMe → Option (Int32 × vMe)) (n0 s0 : Nat) (x0 : Nat) (x1 : Nat) (x2 : Int32) (x3 : Int32) (x4 : Nat) (x5 : Int32) (x7 : Int32) (Mj : vMe) : Option (Int32 × vMe) :=
  tX12_remove_J133_39 (rec) n0 s0 x0 x1 x2 x3 x4 x5 x7 x7 Mj
def tX12_remove_J94_39 (rec : Int32 → Int32 → vMe → Option (Int32 × vMe)) (n0 s0 : Nat) (x0 : Nat) (x1 : Nat) (x2 : Int32) (x3 : Int32) (x4 : Nat) (x5 : Int32) (x6 : Int32) (x7 : Int32) (y0 : Int32) (Mj : vMe) : Option (Int32 × vMe) :=
  if y0 = 0 then
  (tX12_remove_J133_39 (rec) n0 s0 x0 x1 x2 x3 x4 x5 x6 x7 Mj)
else
  (if x6 < 0 then
  (tX12_remove_J129_39 (rec) n0 s0 x0 x1 x2 x3 x4 x5 x7 Mj)
else
  ((gA Mj x0 14 7).bind fun a102 =>
  (aA Mj a102 110 x7).bind fun a103 =>
  (gI Mj a103 13 2).bind fun v104 =>
  (gA Mj x0 14 7).bind fun a105 =>
  (aA Mj a105 110 x6).bind fun a106 =>
  (gI Mj a106 13 2).bind fun v107 =>
  if v107 < v104 then
  (tX12_remove_J133_39 (rec) n0 s0 x0 x1 x2 x3 x4 x5 x6 x7 Mj)
else
  (tX12_remove_J129_39 (rec) n0 s0 x0 x1 x2 x3 x4 x5 x7 Mj)))
def tX12_remove_J93_39 (rec : Int32 → Int32 → vMe → Option (Int32 × vMe)) (n0 s0 : Nat) (x0 : Nat) (x1 : Nat) (x2 : Int32) (x3 : Int32) (x4 : Nat) (x5 : Int32) (x6 : Int32) (x7 : Int32) (Mj : vMe) : Option (Int32 × vMe) :=
  tX12_remove_J94_39 (rec) n0 s0 x0 x1 x2 x3 x4 x5 x6 x7 0 Mj
def tX12_remove_L39 (n0 s0 : Nat) (x0 : Nat) (x1 : Nat) (x2 : Int32) (x3 : Int32) (x4 : Nat) (x5 : Int32) : Nat → Int32 → Int32 → vMe → Option (Int32 × vMe)
  | 0, _, _, _ => none
  | f + 1, x6, x7, Mi =>
  if x7 < 0 then
  (some (x6, Mi))
else
  ((gA Mi x0 14 7).bind fun a97 =>
  (aR Mi a97 110 x7).bind fun a98 =>
  if a98 = none then
  (tX12_remove_J93_39 (tX12_remove_L39 n0 s0 x0 x1 x2 x3 x4 x5 f) n0 s0 x0 x1 x2 x3 x4 x5 x6 x7 Mi)
else
  ((gA Mi x0 14 7).bind fun a110 =>
  (aA Mi a110 110 x7).bind fun a111 =>
  (gI Mi a111 13 6).bind fun v112 =>
  if v112 = 0 then
  (tX12_remove_J93_39 (tX12_remove_L39 n0 s0 x0 x1 x2 x3 x4 x5 f) n0 s0 x0 x1 x2 x3 x4 x5 x6 x7 Mi)
else
  ((gA Mi x0 14 7).bind fun a114 =>
  (aA Mi a114 110 x7).bind fun a115 =>
  (gA Mi a115 13 0).bind fun a116 =>
  if a116 = x1 then
  ((aI Mi x4 103 x7).bind fun v118 =>
  if v118 = 0 then
  (tX12_remove_J94_39 (tX12_remove_L39 n0 s0 x0 x1 x2 x3 x4 x5 f) n0 s0 x0 x1 x2 x3 x4 x5 x6 x7 1 Mi)
else
  (tX12_remove_J93_39 (tX12_remove_L39 n0 s0 x0 x1 x2 x3 x4 x5 f) n0 s0 x0 x1 x2 x3 x4 x5 x6 x7 Mi))
else
  (tX12_remove_J93_39 (tX12_remove_L39 n0 s0 x0 x1 x2 x3 x4 x5 f) n0 s0 x0 x1 x2 x3 x4 x5 x6 x7 Mi))))
def tX12_remove_J216_26 (rec : Int32 → Int32 → vMe → Option (Int32 × vMe)) (n0 s0 : Nat) (x0 : Nat) (x1 : Nat) (x2 : Int32) (x3 : Int32) (x4 : Nat) (x5 : Int32) (Mj : vMe) : Option (Int32 × vMe) :=
  rec x3 (x5 + 1) Mj
def tX12_remove_J210_26 (rec : Int32 → Int32 → vMe → Option (Int32 × vMe)) (n0 s0 : Nat) (x0 : Nat) (x1 : Nat) (x2 : Int32) (x4 : Nat) (x5 : Int32) (x7 : Nat) (Mj : vMe) : Option (Int32 × vMe) :=
  (gI Mj x7 13 2).bind fun v131 =>
  tX12_remove_J216_26 (rec) n0 s0 x0 x1 x2 v131 x4 x5 Mj
def tX12_remove_L26 (n0 s0 : Nat) (x0 : Nat) (x1 : Nat) (x2 : Int32) (x4 : Nat) : Nat → Int32 → Int32 → vMe → Option (Int32 × vMe)
  | 0, _, _, _ => none
  | f + 1, x3, x5, Mi =>
  if (6 : Int32) ≤ x5 then
  (some (x3, Mi))
else
  ((tX12_remove_L39 n0 s0 x0 x1 x2 x3 x4 x5 vF ((-1)) 5 Mi).bind fun z120 =>
  if 0 ≤ z120.1 then
  ((sA z120.2 x4 103 z120.1 (.int (1 &&& 1))).bind fun M122 =>
  (gA M122 x0 14 7).bind fun a123 =>
  (aA M122 a123 110 z120.1).bind fun a124 =>
  (gI M122 a124 13 2).bind fun v125 =>
  if x3 < v125 then
  ((gI M122 a124 13 2).bind fun v127 =>
  (sV M122 a124 13 2 (.int (v127 - 1))).bind fun M128 =>
  (gI M128 a124 13 2).bind fun v129 =>
  if v129 = x3 then
  (tX12_remove_J210_26 (tX12_remove_L26 n0 s0 x0 x1 x2 x4 f) n0 s0 x0 x1 x2 x4 x5 a124 M128)
else
  ((gA M128 x1 12 3).bind fun a132 =>
  (gI M128 a124 13 2).bind fun v133 =>
  (aI M128 a132 101 v133).bind fun v134 =>
  if M128.2.1 + 0 ≤ n0 + 1 ∧ M128.2.2.1 + 0 ≤ s0 + 6 then
  (if (M128.1 x0).1 = 14 then
  ((tX12_put x0 x1 v134 x3 M128).bind fun z135 =>
  tX12_remove_J210_26 (tX12_remove_L26 n0 s0 x0 x1 x2 x4 f) n0 s0 x0 x1 x2 x4 x5 a124 z135.2)
else none)
else none))
else
  (tX12_remove_J216_26 (tX12_remove_L26 n0 s0 x0 x1 x2 x4 f) n0 s0 x0 x1 x2 x3 x4 x5 M122))
else
  (some (x3, z120.2)))
def tX12_remove_J255 (n0 s0 : Nat) (x0 : Nat) (x1 : Nat) (x2 : Int32) (Mj : vMe) : Option (Int32 × vMe) :=
  (gI Mj x0 14 3).bind fun v141 =>
  (sV Mj x0 14 3 (.int (v141 + 1))).bind fun M142 =>
  (gI M142 x0 14 3).bind fun v143 =>
  if M142.2.1 + 0 ≤ n0 + 1 ∧ M142.2.2.1 + 0 ≤ s0 + 6 then
  (if (M142.1 x1).1 = 12 then
  ((tX10_note x1 v143 x2 1 M142).bind fun z144 =>
  if z144.2.2.1 ≤ n0 + 1 ∧ z144.2.2.2.1 ≤ s0 + 6 then some (1, z144.2) else none)
else none)
else none
def tX12_remove_J222 (n0 s0 : Nat) (x0 : Nat) (x1 : Nat) (x2 : Int32) (x3 : Int32) (Mj : vMe) : Option (Int32 × vMe) :=
  (gI Mj x1 12 0).bind fun v137 =>
  (sV Mj x1 12 0 (.int (v137 - 1))).bind fun M138 =>
  (gI M138 x1 12 0).bind fun v139 =>
  if v139 = x3 then
  (tX12_remove_J255 n0 s0 x0 x1 x2 M138)
else
  ((gA M138 x1 12 3).bind fun a145 =>
  (gI M138 x1 12 0).bind fun v146 =>
  (aI M138 a145 101 v146).bind fun v147 =>
  if M138.2.1 + 0 ≤ n0 + 1 ∧ M138.2.2.1 + 0 ≤ s0 + 6 then
  (if (M138.1 x0).1 = 14 then
  ((tX12_put x0 x1 v147 x3 M138).bind fun z148 =>
  tX12_remove_J255 n0 s0 x0 x1 x2 z148.2)
else none)
else none)
def tX12_remove (x0 : Nat) (x1 : Nat) (x2 : Int32) (M : vMe) : Option (Int32 × vMe) :=
  if M.2.1 + 0 ≤ M.2.1 + 1 ∧ M.2.2.1 + 0 ≤ M.2.2.1 + 6 then
  (if (M.1 x1).1 = 12 then
  ((tX10_has x1 x2 M).bind fun z1 =>
  if z1 = 0 then
  (if M.2.1 ≤ M.2.1 + 1 ∧ M.2.2.1 ≤ M.2.2.1 + 6 then some (0, M) else none)
else
  ((gA M x1 12 4).bind fun a3 =>
  (aI M a3 101 x2).bind fun v4 =>
  (nwO M 103 6 6 (fun _ => .int 0) M.2.1 M.2.2.1 1 6).bind fun M5 =>
  (tX12_remove_L26 M.2.1 M.2.2.1 x0 x1 x2 M.2.1 vF v4 0 M5).bind fun z136 =>
  tX12_remove_J222 M.2.1 M.2.2.1 x0 x1 x2 z136.1 z136.2))
else none)
else none
def rmX12_remove : Room := { frames := 3, cells := 1, slots := 6, locals := 46 }
set_option maxHeartbeats 4000000 in
set_option maxRecDepth 100000 in
theorem mX12_remove (l : Launch) (hfl : l.stackTraces = false) (D : vD) (x0 : Nat) (x1 : Nat) (x2 : Int32) (M : vMe) (z : (Int32 × vMe)) (h : tX12_remove x0 x1 x2 M = some z) : Met l yX12_remove (Cond.code yX12_remove cX12_remove 9 (some .boolean) :: TB) rmX12_remove (va_Pc [.ref x0, .ref x1, .int x2] (vPre D M)) (qW D (some (.int z.1)) z.2) 1 6 (vA D) := by
  refine v_ofW (cc := cX12_remove) (maxL := 9) (ret := (some .boolean)) (by decide) (Nat.le_of_ble_eq_true rfl) ?_
  intro p e s m args below meth c Q hx hb hr hml hown hts hlk hnm hSS hR0 hQ ls hl
  have hz0 := hR0.2.1
  have hs0 := hR0.2.2.1
  have hb0 : D.2.2.2.1 ≤ s.heap.size := hR0.2.2.2.2.1
  refine v_tight hb0 ?_
  have hK := hSS.1
  have hl : lv_has ls 9 [(0, .ref x0), (1, .ref x1), (2, .int x2)] := hl
  unfold tX12_remove at h
  have X12_remove_L39p : ∀ (x0 : Nat) (x1 : Nat) (x2 : Int32) (x3 : Int32) (x4 : Nat) (x5 : Int32), ∀ (f : Nat) (x6 : Int32) (x7 : Int32) (Mi : vMe) (ls : Array Slot) (z : (Int32 × vMe)), lv_has ls 9 [(0, .ref x0), (1, .ref x1), (2, .int x2), (3, .int x3), (4, .ref x4), (5, .int x5), (6, .int x6), (7, .int x7)] → tX12_remove_L39 M.2.1 M.2.2.1 x0 x1 x2 x3 x4 x5 f x6 x7 Mi = some z → (∀ ls : Array Slot, lv_has ls 9 [(0, .ref x0), (1, .ref x1), (2, .int x2), (3, .int x3), (4, .ref x4), (5, .int x5), (6, .int z.1)] → vV D p l e rmX12_remove s m args below meth c (z.2.2.1 - s.heap.size) (z.2.2.2.1 - vSum D.2.2.2.1 s.heap) Q z.2 (F0 m 139 ls [])) → vV D p l e rmX12_remove s m args below meth c (Mi.2.1 - s.heap.size) (Mi.2.2.1 - vSum D.2.2.2.1 s.heap) Q Mi (F0 m 39 ls []) := by
    intro x0 x1 x2 x3 x4 x5 f
    induction f with
    | zero =>
      intro x6 x7 Mi ls z hl h
      exact absurd h (by simp [tX12_remove_L39])
    | succ f ih =>
      intro x6 x7 Mi ls z hl h KX
      rw [tX12_remove_L39] at h
      have X12_remove_J133_39p : ∀ (x6 : Int32) (x7 : Int32) (Mj : vMe) (ls : Array Slot), lv_has ls 9 [(0, .ref x0), (1, .ref x1), (2, .int x2), (3, .int x3), (4, .ref x4), (5, .int x5), (6, .int x6), (7, .int x7)] → tX12_remove_J133_39 (tX12_remove_L39 M.2.1 M.2.2.1 x0 x1 x2 x3 x4 x5 f) M.2.1 M.2.2.1 x0 x1 x2 x3 x4 x5 x6 x7 Mj = some z → vV D p l e rmX12_remove s m args below meth c (Mj.2.1 - s.heap.size) (Mj.2.2.1 - vSum D.2.2.2.1 s.heap) Q Mj (F0 m 133 ls []) := by
        intro x6 x7 Mj ls hl h
        unfold tX12_remove_J133_39 at h
        refine w_iinc (v := x7 + (-1)) (lv' := [(7, .int (x7 + (-1))), (0, .ref x0), (1, .ref x1), (2, .int x2), (3, .int x3), (4, .ref x4), (5, .int x5), (6, .int x6)]) hx hb dX12_remove_133 hl (j := 7) rfl rfl (by decide) rfl (fun ls hl => ?_)
        have hl : lv_has ls 9 [(0, .ref x0), (1, .ref x1), (2, .int x2), (3, .int x3), (4, .ref x4), (5, .int x5), (6, .int x6), (7, .int (x7 + (-1)))] := lv_sub hl [1, 2, 3, 4, 5, 6, 7, 0] rfl
        refine w_goto (tgt := 39) hx hb dX12_remove_136 (by decide) ?_
        refine v_tight hb0 ?_
        exact ih x6 (x7 + (-1)) Mj ls z (lv_sub hl [0, 1, 2, 3, 4, 5, 6, 7] rfl) h KX
      have X12_remove_J129_39p : ∀ (x7 : Int32) (Mj : vMe) (ls : Array Slot), lv_has ls 9 [(0, .ref x0), (1, .ref x1), (2, .int x2), (3, .int x3), (4, .ref x4), (5, .int x5), (7, .int x7)] → tX12_remove_J129_39 (tX12_remove_L39 M.2.1 M.2.2.1 x0 x1 x2 x3 x4 x5 f) M.2.1 M.2.2.1 x0 x1 x2 x3 x4 x5 x7 Mj = some z → vV D p l e rmX12_remove s m args below meth c (Mj.2.1 - s.heap.size) (Mj.2.2.1 - vSum D.2.2.2.1 s.heap) Q Mj (F0 m 129 ls []) := by
        intro x7 Mj ls hl h
        unfold tX12_remove_J129_39 at h
        refine w_iload hx hb dX12_remove_129 (lv_at hl 6 rfl) ?_
        refine w_istore (lv' := [(6, .int x7), (0, .ref x0), (1, .ref x1), (2, .int x2), (3, .int x3), (4, .ref x4), (5, .int x5), (7, .int x7)]) hx hb dX12_remove_131 hl (by decide) rfl (fun ls hl => ?_)
        have hl : lv_has ls 9 [(0, .ref x0), (1, .ref x1), (2, .int x2), (3, .int x3), (4, .ref x4), (5, .int x5), (6, .int x7), (7, .int x7)] := lv_sub hl [1, 2, 3, 4, 5, 6, 0, 7] rfl
        refine v_tight hb0 ?_
        exact X12_remove_J133_39p x7 x7 Mj ls (lv_sub hl [0, 1, 2, 3, 4, 5, 6, 7] rfl) h
      have X12_remove_J94_39p : ∀ (x6 : Int32) (x7 : Int32) (y0 : Int32) (Mj : vMe) (ls : Array Slot), lv_has ls 9 [(0, .ref x0), (1, .ref x1), (2, .int x2), (3, .int x3), (4, .ref x4), (5, .int x5), (6, .int x6), (7, .int x7)] → tX12_remove_J94_39 (tX12_remove_L39 M.2.1 M.2.2.1 x0 x1 x2 x3 x4 x5 f) M.2.1 M.2.2.1 x0 x1 x2 x3 x4 x5 x6 x7 y0 Mj = some z → vV D p l e rmX12_remove s m args below meth c (Mj.2.1 - s.heap.size) (Mj.2.2.1 - vSum D.2.2.2.1 s.heap) Q Mj (F0 m 94 ls [.int y0]) := by
        intro x6 x7 y0 Mj ls hl h
        unfold tX12_remove_J94_39 at h
        refine w_istore (lv' := [(8, .int y0), (0, .ref x0), (1, .ref x1), (2, .int x2), (3, .int x3), (4, .ref x4), (5, .int x5), (6, .int x6), (7, .int x7)]) hx hb dX12_remove_94 hl (by decide) rfl (fun ls hl => ?_)
        have hl : lv_has ls 9 [(0, .ref x0), (1, .ref x1), (2, .int x2), (3, .int x3), (4, .ref x4), (5, .int x5), (6, .int x6), (7, .int x7), (8, .int y0)] := lv_sub hl [1, 2, 3, 4, 5, 6, 7, 8, 0] rfl
        refine w_iload hx hb dX12_remove_96 (lv_at hl 8 rfl) ?_
        refine w_if_eq (tgt := 133) hx hb dX12_remove_98 (by decide) (fun c100 => ?_) (fun c100 => ?_)
        · rw [if_pos c100] at h
          refine v_tight hb0 ?_
          exact X12_remove_J133_39p x6 x7 Mj ls (lv_sub hl [0, 1, 2, 3, 4, 5, 6, 7] rfl) h
        · rw [if_neg c100] at h
          refine w_iload hx hb dX12_remove_101 (lv_at hl 6 rfl) ?_
          refine w_if_lt (tgt := 129) hx hb dX12_remove_103 (by decide) (fun c101 => ?_) (fun c101 => ?_)
          · rw [if_pos c101] at h
            refine v_tight hb0 ?_
            exact X12_remove_J129_39p x7 Mj ls (lv_sub hl [0, 1, 2, 3, 4, 5, 7] rfl) h
          · rw [if_neg c101] at h
            refine w_aload_n hx hb dX12_remove_106 rfl (lv_at hl 0 rfl) ?_
            obtain ⟨a102, ea102, h⟩ := v_bnd h
            refine v_gA (ci := 13) hx hb hts iwX12 hown hK 7 ea102 rfl (by decide) (Or.inl (hts _ kw383)) (fun _ h9 => h9) dX12_remove_107 ?_
            refine w_iload hx hb dX12_remove_110 (lv_at hl 7 rfl) ?_
            obtain ⟨a103, ea103, h⟩ := v_bnd h
            refine v_aaldA hx hb hK ea103 (by decide) dX12_remove_112 ?_
            obtain ⟨v104, ev104, h⟩ := v_bnd h
            refine v_gI (ci := 12) hx hb hts iwX11 hown hK 2 ev104 rfl (by decide) (Or.inr ⟨_, kn78 hSS _⟩) (fun _ h9 => h9) dX12_remove_113 ?_
            refine w_aload_n hx hb dX12_remove_116 rfl (lv_at hl 0 rfl) ?_
            obtain ⟨a105, ea105, h⟩ := v_bnd h
            refine v_gA (ci := 13) hx hb hts iwX12 hown hK 7 ea105 rfl (by decide) (Or.inl (hts _ kw383)) (fun _ h9 => h9) dX12_remove_117 ?_
            refine w_iload hx hb dX12_remove_120 (lv_at hl 6 rfl) ?_
            obtain ⟨a106, ea106, h⟩ := v_bnd h
            refine v_aaldA hx hb hK ea106 (by decide) dX12_remove_122 ?_
            obtain ⟨v107, ev107, h⟩ := v_bnd h
            refine v_gI (ci := 12) hx hb hts iwX11 hown hK 2 ev107 rfl (by decide) (Or.inr ⟨_, kn78 hSS _⟩) (fun _ h9 => h9) dX12_remove_123 ?_
            refine w_icmp_gt (tgt := 133) hx hb dX12_remove_126 (by decide) (fun c108 => ?_) (fun c108 => ?_)
            · rw [if_pos c108] at h
              refine v_tight hb0 ?_
              exact X12_remove_J133_39p x6 x7 Mj ls (lv_sub hl [0, 1, 2, 3, 4, 5, 6, 7] rfl) h
            · rw [if_neg c108] at h
              refine v_tight hb0 ?_
              exact X12_remove_J129_39p x7 Mj ls (lv_sub hl [0, 1, 2, 3, 4, 5, 7] rfl) h
      have X12_remove_J93_39p : ∀ (x6 : Int32) (x7 : Int32) (Mj : vMe) (ls : Array Slot), lv_has ls 9 [(0, .ref x0), (1, .ref x1), (2, .int x2), (3, .int x3), (4, .ref x4), (5, .int x5), (6, .int x6), (7, .int x7)] → tX12_remove_J93_39 (tX12_remove_L39 M.2.1 M.2.2.1 x0 x1 x2 x3 x4 x5 f) M.2.1 M.2.2.1 x0 x1 x2 x3 x4 x5 x6 x7 Mj = some z → vV D p l e rmX12_remove s m args below meth c (Mj.2.1 - s.heap.size) (Mj.2.2.1 - vSum D.2.2.2.1 s.heap) Q Mj (F0 m 93 ls []) := by
        intro x6 x7 Mj ls hl h
        unfold tX12_remove_J93_39 at h
        refine w_iconst (v := 0) hx hb dX12_remove_93 (by decide) ?_
        refine v_tight hb0 ?_
        exact X12_remove_J94_39p x6 x7 0 Mj ls (lv_sub hl [0, 1, 2, 3, 4, 5, 6, 7] rfl) h
      refine w_iload hx hb dX12_remove_39 (lv_at hl 7 rfl) ?_
      refine w_if_lt (tgt := 139) hx hb dX12_remove_41 (by decide) (fun c96 => ?_) (fun c96 => ?_)
      · rw [if_pos c96] at h
        obtain rfl := Option.some.inj h
        refine v_tight hb0 ?_
        exact KX ls (lv_sub hl [0, 1, 2, 3, 4, 5, 6] rfl)
      · rw [if_neg c96] at h
        refine w_aload_n hx hb dX12_remove_44 rfl (lv_at hl 0 rfl) ?_
        obtain ⟨a97, ea97, h⟩ := v_bnd h
        refine v_gA (ci := 13) hx hb hts iwX12 hown hK 7 ea97 rfl (by decide) (Or.inl (hts _ kw383)) (fun _ h9 => h9) dX12_remove_45 ?_
        refine w_iload hx hb dX12_remove_48 (lv_at hl 7 rfl) ?_
        obtain ⟨a98, ea98, h⟩ := v_bnd h
        refine v_aald hx hb hK ea98 (by decide) dX12_remove_50 ?_
        refine w_ifnull (tgt := 93) hx hb dX12_remove_51 (by decide) (fun c99 => ?_) (fun c99 => ?_)
        · rw [if_pos c99] at h
          refine v_tight hb0 ?_
          exact X12_remove_J93_39p x6 x7 Mi ls (lv_sub hl [0, 1, 2, 3, 4, 5, 6, 7] rfl) h
        · rw [if_neg c99] at h
          refine w_aload_n hx hb dX12_remove_54 rfl (lv_at hl 0 rfl) ?_
          obtain ⟨a110, ea110, h⟩ := v_bnd h
          refine v_gA (ci := 13) hx hb hts iwX12 hown hK 7 ea110 rfl (by decide) (Or.inl (hts _ kw383)) (fun _ h9 => h9) dX12_remove_55 ?_
          refine w_iload hx hb dX12_remove_58 (lv_at hl 7 rfl) ?_
          obtain ⟨a111, ea111, h⟩ := v_bnd h
          refine v_aaldA hx hb hK ea111 (by decide) dX12_remove_60 ?_
          obtain ⟨v112, ev112, h⟩ := v_bnd h
          refine v_gI (ci := 12) hx hb hts iwX11 hown hK 6 ev112 rfl (by decide) (Or.inr ⟨_, kn85 hSS _⟩) (fun _ h9 => h9) dX12_remove_61 ?_
          refine w_if_eq (tgt := 93) hx hb dX12_remove_64 (by decide) (fun c113 => ?_) (fun c113 => ?_)
          · rw [if_pos c113] at h
            refine v_tight hb0 ?_
            exact X12_remove_J93_39p x6 x7 Mi ls (lv_sub hl [0, 1, 2, 3, 4, 5, 6, 7] rfl) h
          · rw [if_neg c113] at h
            refine w_aload_n hx hb dX12_remove_67 rfl (lv_at hl 0 rfl) ?_
            obtain ⟨a114, ea114, h⟩ := v_bnd h
            refine v_gA (ci := 13) hx hb hts iwX12 hown hK 7 ea114 rfl (by decide) (Or.inl (hts _ kw383)) (fun _ h9 => h9) dX12_remove_68 ?_
            refine w_iload hx hb dX12_remove_71 (lv_at hl 7 rfl) ?_
            obtain ⟨a115, ea115, h⟩ := v_bnd h
            refine v_aaldA hx hb hK ea115 (by decide) dX12_remove_73 ?_
            obtain ⟨a116, ea116, h⟩ := v_bnd h
            refine v_gA (ci := 12) hx hb hts iwX11 hown hK 0 ea116 rfl (by decide) (Or.inr ⟨_, kn75 hSS _⟩) (fun _ h9 => h9) dX12_remove_74 ?_
            refine w_aload_n hx hb dX12_remove_77 rfl (lv_at hl 1 rfl) ?_
            refine w_acmp_ne (tgt := 93) hx hb dX12_remove_78 (by decide) (fun c117 => ?_) (fun c117 => ?_)
            · rw [if_pos c117] at h
              refine w_aload hx hb dX12_remove_81 (lv_at hl 4 rfl) ?_
              refine w_iload hx hb dX12_remove_83 (lv_at hl 7 rfl) ?_
              obtain ⟨v118, ev118, h⟩ := v_bnd h
              refine v_zald hx hb hK ev118 dX12_remove_85 ?_
              refine w_if_ne (tgt := 93) hx hb dX12_remove_86 (by decide) (fun c119 => ?_) (fun c119 => ?_)
              · rw [if_pos c119] at h
                refine w_iconst (v := 1) hx hb dX12_remove_89 (by decide) ?_
                refine w_goto (tgt := 94) hx hb dX12_remove_90 (by decide) ?_
                refine v_tight hb0 ?_
                exact X12_remove_J94_39p x6 x7 1 Mi ls (lv_sub hl [0, 1, 2, 3, 4, 5, 6, 7] rfl) h
              · rw [if_neg c119] at h
                refine v_tight hb0 ?_
                exact X12_remove_J93_39p x6 x7 Mi ls (lv_sub hl [0, 1, 2, 3, 4, 5, 6, 7] rfl) h
            · rw [if_neg c117] at h
              refine v_tight hb0 ?_
              exact X12_remove_J93_39p x6 x7 Mi ls (lv_sub hl [0, 1, 2, 3, 4, 5, 6, 7] rfl) h
  have X12_remove_L26p : ∀ (x0 : Nat) (x1 : Nat) (x2 : Int32) (x4 : Nat), ∀ (f : Nat) (x3 : Int32) (x5 : Int32) (Mi : vMe) (ls : Array Slot) (z : (Int32 × vMe)), lv_has ls 9 [(0, .ref x0), (1, .ref x1), (2, .int x2), (3, .int x3), (4, .ref x4), (5, .int x5)] → tX12_remove_L26 M.2.1 M.2.2.1 x0 x1 x2 x4 f x3 x5 Mi = some z → (∀ ls : Array Slot, lv_has ls 9 [(0, .ref x0), (1, .ref x1), (2, .int x2), (3, .int z.1)] → vV D p l e rmX12_remove s m args below meth c (z.2.2.1 - s.heap.size) (z.2.2.2.1 - vSum D.2.2.2.1 s.heap) Q z.2 (F0 m 222 ls [])) → vV D p l e rmX12_remove s m args below meth c (Mi.2.1 - s.heap.size) (Mi.2.2.1 - vSum D.2.2.2.1 s.heap) Q Mi (F0 m 26 ls []) := by
    intro x0 x1 x2 x4 f
    induction f with
    | zero =>
      intro x3 x5 Mi ls z hl h
      exact absurd h (by simp [tX12_remove_L26])
    | succ f ih =>
      intro x3 x5 Mi ls z hl h KX
      rw [tX12_remove_L26] at h
      have X12_remove_J216_26p : ∀ (x3 : Int32) (x5 : Int32) (Mj : vMe) (ls : Array Slot), lv_has ls 9 [(0, .ref x0), (1, .ref x1), (2, .int x2), (3, .int x3), (4, .ref x4), (5, .int x5)] → tX12_remove_J216_26 (tX12_remove_L26 M.2.1 M.2.2.1 x0 x1 x2 x4 f) M.2.1 M.2.2.1 x0 x1 x2 x3 x4 x5 Mj = some z → vV D p l e rmX12_remove s m args below meth c (Mj.2.1 - s.heap.size) (Mj.2.2.1 - vSum D.2.2.2.1 s.heap) Q Mj (F0 m 216 ls []) := by
        intro x3 x5 Mj ls hl h
        unfold tX12_remove_J216_26 at h
        refine w_iinc (v := x5 + 1) (lv' := [(5, .int (x5 + 1)), (0, .ref x0), (1, .ref x1), (2, .int x2), (3, .int x3), (4, .ref x4)]) hx hb dX12_remove_216 hl (j := 5) rfl rfl (by decide) rfl (fun ls hl => ?_)
        have hl : lv_has ls 9 [(0, .ref x0), (1, .ref x1), (2, .int x2), (3, .int x3), (4, .ref x4), (5, .int (x5 + 1))] := lv_sub hl [1, 2, 3, 4, 5, 0] rfl
        refine w_goto (tgt := 26) hx hb dX12_remove_219 (by decide) ?_
        refine v_tight hb0 ?_
        exact ih x3 (x5 + 1) Mj ls z (lv_sub hl [0, 1, 2, 3, 4, 5] rfl) h KX
      have X12_remove_J210_26p : ∀ (x5 : Int32) (x7 : Nat) (Mj : vMe) (ls : Array Slot), lv_has ls 9 [(0, .ref x0), (1, .ref x1), (2, .int x2), (4, .ref x4), (5, .int x5), (7, .ref x7)] → tX12_remove_J210_26 (tX12_remove_L26 M.2.1 M.2.2.1 x0 x1 x2 x4 f) M.2.1 M.2.2.1 x0 x1 x2 x4 x5 x7 Mj = some z → vV D p l e rmX12_remove s m args below meth c (Mj.2.1 - s.heap.size) (Mj.2.2.1 - vSum D.2.2.2.1 s.heap) Q Mj (F0 m 210 ls []) := by
        intro x5 x7 Mj ls hl h
        unfold tX12_remove_J210_26 at h
        refine w_aload hx hb dX12_remove_210 (lv_at hl 5 rfl) ?_
        obtain ⟨v131, ev131, h⟩ := v_bnd h
        refine v_gI (ci := 12) hx hb hts iwX11 hown hK 2 ev131 rfl (by decide) (Or.inr ⟨_, kn78 hSS _⟩) (fun _ h9 => h9) dX12_remove_212 ?_
        refine w_istore_n (lv' := [(3, .int v131), (0, .ref x0), (1, .ref x1), (2, .int x2), (4, .ref x4), (5, .int x5), (7, .ref x7)]) hx hb dX12_remove_215 rfl hl (by decide) rfl (fun ls hl => ?_)
        have hl : lv_has ls 9 [(0, .ref x0), (1, .ref x1), (2, .int x2), (3, .int v131), (4, .ref x4), (5, .int x5), (7, .ref x7)] := lv_sub hl [1, 2, 3, 0, 4, 5, 6] rfl
        refine v_tight hb0 ?_
        exact X12_remove_J216_26p v131 x5 Mj ls (lv_sub hl [0, 1, 2, 3, 4, 5] rfl) h
      refine w_iload hx hb dX12_remove_26 (lv_at hl 5 rfl) ?_
      refine w_bipush (v := 6) hx hb dX12_remove_28 (by decide) ?_
      refine w_icmp_ge (tgt := 222) hx hb dX12_remove_30 (by decide) (fun c71 => ?_) (fun c71 => ?_)
      · rw [if_pos c71] at h
        obtain rfl := Option.some.inj h
        refine v_tight hb0 ?_
        exact KX ls (lv_sub hl [0, 1, 2, 3] rfl)
      · rw [if_neg c71] at h
        refine w_iconst (v := (-1)) hx hb dX12_remove_33 (by decide) ?_
        refine w_istore (lv' := [(6, .int ((-1))), (0, .ref x0), (1, .ref x1), (2, .int x2), (3, .int x3), (4, .ref x4), (5, .int x5)]) hx hb dX12_remove_34 hl (by decide) rfl (fun ls hl => ?_)
        have hl : lv_has ls 9 [(0, .ref x0), (1, .ref x1), (2, .int x2), (3, .int x3), (4, .ref x4), (5, .int x5), (6, .int ((-1)))] := lv_sub hl [1, 2, 3, 4, 5, 6, 0] rfl
        refine w_iconst (v := 5) hx hb dX12_remove_36 (by decide) ?_
        refine w_istore (lv' := [(7, .int 5), (0, .ref x0), (1, .ref x1), (2, .int x2), (3, .int x3), (4, .ref x4), (5, .int x5), (6, .int ((-1)))]) hx hb dX12_remove_37 hl (by decide) rfl (fun ls hl => ?_)
        have hl : lv_has ls 9 [(0, .ref x0), (1, .ref x1), (2, .int x2), (3, .int x3), (4, .ref x4), (5, .int x5), (6, .int ((-1))), (7, .int 5)] := lv_sub hl [1, 2, 3, 4, 5, 6, 7, 0] rfl
        obtain ⟨z120, ez120, h⟩ := v_bnd h
        refine v_tight hb0 ?_
        refine X12_remove_L39p x0 x1 x2 x3 x4 x5 vF ((-1)) 5 Mi ls z120 (lv_sub hl [0, 1, 2, 3, 4, 5, 6, 7] rfl) ez120 (fun ls hl => ?_)
        refine w_iload hx hb dX12_remove_139 (lv_at hl 6 rfl) ?_
        refine w_if_ge (tgt := 147) hx hb dX12_remove_141 (by decide) (fun c121 => ?_) (fun c121 => ?_)
        · rw [if_pos c121] at h
          refine w_aload hx hb dX12_remove_147 (lv_at hl 4 rfl) ?_
          refine w_iload hx hb dX12_remove_149 (lv_at hl 6 rfl) ?_
          refine w_iconst (v := 1) hx hb dX12_remove_151 (by decide) ?_
          obtain ⟨M122, eM122, h⟩ := v_bnd h
          refine v_zast hx hb hK eM122 dX12_remove_152 ?_
          refine w_aload_n hx hb dX12_remove_153 rfl (lv_at hl 0 rfl) ?_
          obtain ⟨a123, ea123, h⟩ := v_bnd h
          refine v_gA (ci := 13) hx hb hts iwX12 hown hK 7 ea123 rfl (by decide) (Or.inl (hts _ kw383)) (fun _ h9 => h9) dX12_remove_154 ?_
          refine w_iload hx hb dX12_remove_157 (lv_at hl 6 rfl) ?_
          obtain ⟨a124, ea124, h⟩ := v_bnd h
          refine v_aaldA hx hb hK ea124 (by decide) dX12_remove_159 ?_
          refine w_astore (lv' := [(7, .ref a124), (0, .ref x0), (1, .ref x1), (2, .int x2), (3, .int x3), (4, .ref x4), (5, .int x5), (6, .int z120.1)]) hx hb dX12_remove_160 hl (by decide) rfl (fun ls hl => ?_)
          have hl : lv_has ls 9 [(0, .ref x0), (1, .ref x1), (2, .int x2), (3, .int x3), (4, .ref x4), (5, .int x5), (6, .int z120.1), (7, .ref a124)] := lv_sub hl [1, 2, 3, 4, 5, 6, 7, 0] rfl
          refine w_aload hx hb dX12_remove_162 (lv_at hl 7 rfl) ?_
          obtain ⟨v125, ev125, h⟩ := v_bnd h
          refine v_gI (ci := 12) hx hb hts iwX11 hown hK 2 ev125 rfl (by decide) (Or.inr ⟨_, kn78 hSS _⟩) (fun _ h9 => h9) dX12_remove_164 ?_
          refine w_iload_n hx hb dX12_remove_167 rfl (lv_at hl 3 rfl) ?_
          refine w_icmp_gt (tgt := 174) hx hb dX12_remove_168 (by decide) (fun c126 => ?_) (fun c126 => ?_)
          · rw [if_pos c126] at h
            refine w_aload hx hb dX12_remove_174 (lv_at hl 7 rfl) ?_
            refine w_dup hx hb dX12_remove_176 rfl ?_
            obtain ⟨v127, ev127, h⟩ := v_bnd h
            refine v_gI (ci := 12) hx hb hts iwX11 hown hK 2 ev127 rfl (by decide) (Or.inr ⟨_, kn78 hSS _⟩) (fun _ h9 => h9) dX12_remove_177 ?_
            refine w_iconst (v := 1) hx hb dX12_remove_180 (by decide) ?_
            refine w_isub hx hb dX12_remove_181 ?_
            obtain ⟨M128, eM128, h⟩ := v_bnd h
            refine v_putf (ci := 12) hx hb hts iwX11 hown hK tyX11_ok nmX11 2 eM128 rfl (by decide) (Or.inr ⟨_, kn78 hSS _⟩) (fun _ h9 => h9) (Or.inl rfl) rfl rfl dX12_remove_182 ?_
            refine w_aload hx hb dX12_remove_185 (lv_at hl 7 rfl) ?_
            obtain ⟨v129, ev129, h⟩ := v_bnd h
            refine v_gI (ci := 12) hx hb hts iwX11 hown hK 2 ev129 rfl (by decide) (Or.inr ⟨_, kn78 hSS _⟩) (fun _ h9 => h9) dX12_remove_187 ?_
            refine w_iload_n hx hb dX12_remove_190 rfl (lv_at hl 3 rfl) ?_
            refine w_icmp_eq (tgt := 210) hx hb dX12_remove_191 (by decide) (fun c130 => ?_) (fun c130 => ?_)
            · rw [if_pos c130] at h
              refine v_tight hb0 ?_
              exact X12_remove_J210_26p x5 a124 M128 ls (lv_sub hl [0, 1, 2, 4, 5, 7] rfl) h
            · rw [if_neg c130] at h
              refine w_aload_n hx hb dX12_remove_194 rfl (lv_at hl 0 rfl) ?_
              refine w_aload_n hx hb dX12_remove_195 rfl (lv_at hl 1 rfl) ?_
              refine w_aload_n hx hb dX12_remove_196 rfl (lv_at hl 1 rfl) ?_
              obtain ⟨a132, ea132, h⟩ := v_bnd h
              refine v_gA (ci := 11) hx hb hts iwX10 hown hK 3 ea132 rfl (by decide) (Or.inr ⟨_, kn53 hSS _⟩) (fun _ h9 => h9) dX12_remove_197 ?_
              refine w_aload hx hb dX12_remove_200 (lv_at hl 7 rfl) ?_
              obtain ⟨v133, ev133, h⟩ := v_bnd h
              refine v_gI (ci := 12) hx hb hts iwX11 hown hK 2 ev133 rfl (by decide) (Or.inr ⟨_, kn78 hSS _⟩) (fun _ h9 => h9) dX12_remove_202 ?_
              obtain ⟨v134, ev134, h⟩ := v_bnd h
              refine v_iald hx hb hK ev134 dX12_remove_205 ?_
              refine w_iload_n hx hb dX12_remove_206 rfl (lv_at hl 3 rfl) ?_
              obtain ⟨g7, h⟩ := v_ifs h
              refine v_tight hb0 ?_
              obtain ⟨g8, h⟩ := v_ifs h
              obtain ⟨z135, ez135, h⟩ := v_bnd h
              refine v_call0 (M1 := z135.2) (mc := 0) (ms := 0) (fun H locs hR hS => va_runV (As := [.ref x1, .int v134, .int x3]) (rest := []) ⟨hx, hb, hml, hown, hts⟩ (mX12_put l hfl D x0 x1 v134 x3 M128 z135 ez135) (cwV 3 hts (gdV kw694 kw695 kw696 kw35 kw697) rfl rfl rfl (by decide +kernel) ⟨Nat.le_of_ble_eq_true rfl, Nat.le_of_ble_eq_true rfl⟩) (v_preV (ci := 13) hSS hR hS g8 (by decide) rfl [.ref x1, .int v134, .int x3]) rfl rfl hl.1 rfl (lv_room (Nat.le_of_ble_eq_true rfl)) dX12_remove_207 ⟨by show _ + _ ≤ 1; omega, by show _ + _ ≤ 6; omega⟩) ?_
              refine v_tight hb0 ?_
              exact X12_remove_J210_26p x5 a124 z135.2 ls (lv_sub hl [0, 1, 2, 4, 5, 7] rfl) h
          · rw [if_neg c126] at h
            refine w_goto (tgt := 216) hx hb dX12_remove_171 (by decide) ?_
            refine v_tight hb0 ?_
            exact X12_remove_J216_26p x3 x5 M122 ls (lv_sub hl [0, 1, 2, 3, 4, 5] rfl) h
        · rw [if_neg c121] at h
          refine w_goto (tgt := 222) hx hb dX12_remove_144 (by decide) ?_
          obtain rfl := Option.some.inj h
          refine v_tight hb0 ?_
          exact KX ls (lv_sub hl [0, 1, 2, 3] rfl)
  have X12_remove_J255p : ∀ (x0 : Nat) (x1 : Nat) (x2 : Int32) (Mj : vMe) (ls : Array Slot), lv_has ls 9 [(0, .ref x0), (1, .ref x1), (2, .int x2)] → tX12_remove_J255 M.2.1 M.2.2.1 x0 x1 x2 Mj = some z → vV D p l e rmX12_remove s m args below meth c (Mj.2.1 - s.heap.size) (Mj.2.2.1 - vSum D.2.2.2.1 s.heap) Q Mj (F0 m 255 ls []) := by
    intro x0 x1 x2 Mj ls hl h
    unfold tX12_remove_J255 at h
    refine w_aload_n hx hb dX12_remove_255 rfl (lv_at hl 0 rfl) ?_
    refine w_dup hx hb dX12_remove_256 rfl ?_
    obtain ⟨v141, ev141, h⟩ := v_bnd h
    refine v_gI (ci := 13) hx hb hts iwX12 hown hK 3 ev141 rfl (by decide) (Or.inl (hts _ kw376)) (fun _ h9 => h9) dX12_remove_257 ?_
    refine w_iconst (v := 1) hx hb dX12_remove_260 (by decide) ?_
    refine w_iadd hx hb dX12_remove_261 ?_
    obtain ⟨M142, eM142, h⟩ := v_bnd h
    refine v_putf (ci := 13) hx hb hts iwX12 hown hK tyX12_ok nmX12 3 eM142 rfl (by decide) (Or.inl (hts _ kw376)) (fun _ h9 => h9) (Or.inl rfl) rfl rfl dX12_remove_262 ?_
    refine w_aload_n hx hb dX12_remove_265 rfl (lv_at hl 1 rfl) ?_
    refine w_aload_n hx hb dX12_remove_266 rfl (lv_at hl 0 rfl) ?_
    obtain ⟨v143, ev143, h⟩ := v_bnd h
    refine v_gI (ci := 13) hx hb hts iwX12 hown hK 3 ev143 rfl (by decide) (Or.inl (hts _ kw376)) (fun _ h9 => h9) dX12_remove_267 ?_
    refine w_iload_n hx hb dX12_remove_270 rfl (lv_at hl 2 rfl) ?_
    refine w_iconst (v := 1) hx hb dX12_remove_271 (by decide) ?_
    obtain ⟨g7, h⟩ := v_ifs h
    refine v_tight hb0 ?_
    obtain ⟨g8, h⟩ := v_ifs h
    obtain ⟨z144, ez144, h⟩ := v_bnd h
    refine v_call0 (M1 := z144.2) (mc := 0) (ms := 0) (fun H locs hR hS => va_runV (As := [.int v143, .int x2, .int 1]) (rest := []) ⟨hx, hb, hml, hown, hts⟩ (mX10_note l hfl D x1 v143 x2 1 M142 z144 ez144) (cwV 3 hts (gdV kw698 kw699 kw700 kw36 kw701) rfl rfl rfl (by decide +kernel) ⟨Nat.le_of_ble_eq_true rfl, Nat.le_of_ble_eq_true rfl⟩) (v_preV (ci := 11) hSS hR hS g8 (by decide) rfl [.int v143, .int x2, .int 1]) rfl rfl hl.1 rfl (lv_room (Nat.le_of_ble_eq_true rfl)) dX12_remove_272 ⟨by show _ + _ ≤ 1; omega, by show _ + _ ≤ 6; omega⟩) ?_
    refine w_iconst (v := 1) hx hb dX12_remove_275 (by decide) ?_
    obtain ⟨g9, h⟩ := v_ifs h
    refine v_tight hb0 (vV.widen (n' := 1) (k' := 6) (by omega) (by omega) ?_)
    obtain rfl := Option.some.inj h
    rw [hQ]
    exact v_zret (x := 1) hx hb hr hlk rfl dX12_remove_276
  have X12_remove_J222p : ∀ (x0 : Nat) (x1 : Nat) (x2 : Int32) (x3 : Int32) (Mj : vMe) (ls : Array Slot), lv_has ls 9 [(0, .ref x0), (1, .ref x1), (2, .int x2), (3, .int x3)] → tX12_remove_J222 M.2.1 M.2.2.1 x0 x1 x2 x3 Mj = some z → vV D p l e rmX12_remove s m args below meth c (Mj.2.1 - s.heap.size) (Mj.2.2.1 - vSum D.2.2.2.1 s.heap) Q Mj (F0 m 222 ls []) := by
    intro x0 x1 x2 x3 Mj ls hl h
    unfold tX12_remove_J222 at h
    refine w_aload_n hx hb dX12_remove_222 rfl (lv_at hl 1 rfl) ?_
    refine w_dup hx hb dX12_remove_223 rfl ?_
    obtain ⟨v137, ev137, h⟩ := v_bnd h
    refine v_gI (ci := 11) hx hb hts iwX10 hown hK 0 ev137 rfl (by decide) (Or.inr ⟨_, kn48 hSS _⟩) (fun _ h9 => h9) dX12_remove_224 ?_
    refine w_iconst (v := 1) hx hb dX12_remove_227 (by decide) ?_
    refine w_isub hx hb dX12_remove_228 ?_
    obtain ⟨M138, eM138, h⟩ := v_bnd h
    refine v_putf (ci := 11) hx hb hts iwX10 hown hK tyX10_ok nmX10 0 eM138 rfl (by decide) (Or.inr ⟨_, kn48 hSS _⟩) (fun _ h9 => h9) (Or.inl rfl) rfl rfl dX12_remove_229 ?_
    refine w_aload_n hx hb dX12_remove_232 rfl (lv_at hl 1 rfl) ?_
    obtain ⟨v139, ev139, h⟩ := v_bnd h
    refine v_gI (ci := 11) hx hb hts iwX10 hown hK 0 ev139 rfl (by decide) (Or.inr ⟨_, kn48 hSS _⟩) (fun _ h9 => h9) dX12_remove_233 ?_
    refine w_iload_n hx hb dX12_remove_236 rfl (lv_at hl 3 rfl) ?_
    refine w_icmp_eq (tgt := 255) hx hb dX12_remove_237 (by decide) (fun c140 => ?_) (fun c140 => ?_)
    · rw [if_pos c140] at h
      refine v_tight hb0 ?_
      exact X12_remove_J255p x0 x1 x2 M138 ls (lv_sub hl [0, 1, 2] rfl) h
    · rw [if_neg c140] at h
      refine w_aload_n hx hb dX12_remove_240 rfl (lv_at hl 0 rfl) ?_
      refine w_aload_n hx hb dX12_remove_241 rfl (lv_at hl 1 rfl) ?_
      refine w_aload_n hx hb dX12_remove_242 rfl (lv_at hl 1 rfl) ?_
      obtain ⟨a145, ea145, h⟩ := v_bnd h
      refine v_gA (ci := 11) hx hb hts iwX10 hown hK 3 ea145 rfl (by decide) (Or.inr ⟨_, kn53 hSS _⟩) (fun _ h9 => h9) dX12_remove_243 ?_
      refine w_aload_n hx hb dX12_remove_246 rfl (lv_at hl 1 rfl) ?_
      obtain ⟨v146, ev146, h⟩ := v_bnd h
      refine v_gI (ci := 11) hx hb hts iwX10 hown hK 0 ev146 rfl (by decide) (Or.inr ⟨_, kn48 hSS _⟩) (fun _ h9 => h9) dX12_remove_247 ?_
      obtain ⟨v147, ev147, h⟩ := v_bnd h
      refine v_iald hx hb hK ev147 dX12_remove_250 ?_
      refine w_iload_n hx hb dX12_remove_251 rfl (lv_at hl 3 rfl) ?_
      obtain ⟨g7, h⟩ := v_ifs h
      refine v_tight hb0 ?_
      obtain ⟨g8, h⟩ := v_ifs h
      obtain ⟨z148, ez148, h⟩ := v_bnd h
      refine v_call0 (M1 := z148.2) (mc := 0) (ms := 0) (fun H locs hR hS => va_runV (As := [.ref x1, .int v147, .int x3]) (rest := []) ⟨hx, hb, hml, hown, hts⟩ (mX12_put l hfl D x0 x1 v147 x3 M138 z148 ez148) (cwV 3 hts (gdV kw694 kw695 kw696 kw35 kw697) rfl rfl rfl (by decide +kernel) ⟨Nat.le_of_ble_eq_true rfl, Nat.le_of_ble_eq_true rfl⟩) (v_preV (ci := 13) hSS hR hS g8 (by decide) rfl [.ref x1, .int v147, .int x3]) rfl rfl hl.1 rfl (lv_room (Nat.le_of_ble_eq_true rfl)) dX12_remove_252 ⟨by show _ + _ ≤ 1; omega, by show _ + _ ≤ 6; omega⟩) ?_
      refine v_tight hb0 ?_
      exact X12_remove_J255p x0 x1 x2 z148.2 ls (lv_sub hl [0, 1, 2] rfl) h
  refine w_aload_n hx hb dX12_remove_0 rfl (lv_at hl 1 rfl) ?_
  refine w_iload_n hx hb dX12_remove_1 rfl (lv_at hl 2 rfl) ?_
  obtain ⟨g7, h⟩ := v_ifs h
  refine v_tight hb0 ?_
  obtain ⟨g8, h⟩ := v_ifs h
  obtain ⟨z1, ez1, h⟩ := v_bnd h
  refine v_call1 (v := .int z1) (M1 := M) (mc := 0) (ms := 0) (fun H locs hR hS => va_runV (As := [.int x2]) (rest := []) ⟨hx, hb, hml, hown, hts⟩ (mX10_has l hfl D x1 x2 M z1 ez1) (cwV 1 hts (gdV kw690 kw691 kw692 kw36 kw693) rfl rfl rfl (by decide +kernel) ⟨Nat.le_of_ble_eq_true rfl, Nat.le_of_ble_eq_true rfl⟩) (v_preV (ci := 11) hSS hR hS g8 (by decide) rfl [.int x2]) rfl rfl hl.1 rfl (lv_room (Nat.le_of_ble_eq_true rfl)) dX12_remove_2 ⟨by show _ + _ ≤ 1; omega, by show _ + _ ≤ 6; omega⟩) ?_
  refine w_if_ne (tgt := 10) hx hb dX12_remove_5 (by decide) (fun c2 => ?_) (fun c2 => ?_)
  · rw [if_pos c2] at h
    refine w_iconst (v := 0) hx hb dX12_remove_8 (by decide) ?_
    obtain ⟨g9, h⟩ := v_ifs h
    refine v_tight hb0 (vV.widen (n' := 1) (k' := 6) (by omega) (by omega) ?_)
    obtain rfl := Option.some.inj h
    rw [hQ]
    exact v_zret (x := 0) hx hb hr hlk rfl dX12_remove_9
  · rw [if_neg c2] at h
    refine w_aload_n hx hb dX12_remove_10 rfl (lv_at hl 1 rfl) ?_
    obtain ⟨a3, ea3, h⟩ := v_bnd h
    refine v_gA (ci := 11) hx hb hts iwX10 hown hK 4 ea3 rfl (by decide) (Or.inr ⟨_, kn55 hSS _⟩) (fun _ h9 => h9) dX12_remove_11 ?_
    refine w_iload_n hx hb dX12_remove_14 rfl (lv_at hl 2 rfl) ?_
    obtain ⟨v4, ev4, h⟩ := v_bnd h
    refine v_iald hx hb hK ev4 dX12_remove_15 ?_
    refine w_istore_n (lv' := [(3, .int v4), (0, .ref x0), (1, .ref x1), (2, .int x2)]) hx hb dX12_remove_16 rfl hl (by decide) rfl (fun ls hl => ?_)
    have hl : lv_has ls 9 [(0, .ref x0), (1, .ref x1), (2, .int x2), (3, .int v4)] := lv_sub hl [1, 2, 3, 0] rfl
    refine w_bipush (v := 6) hx hb dX12_remove_17 (by decide) ?_
    obtain ⟨M5, eM5, h⟩ := v_bnd h
    refine u_newa (x := 6) (atype := .boolean) hx hb hK (hts _ kw117) (by decide) (by decide) rfl (by decide) (by decide) (by decide) hb0 hz0 hs0 rfl rfl eM5 dX12_remove_19 ?_
    refine w_astore (lv' := [(4, .ref M.2.1), (0, .ref x0), (1, .ref x1), (2, .int x2), (3, .int v4)]) hx hb dX12_remove_21 hl (by decide) rfl (fun ls hl => ?_)
    have hl : lv_has ls 9 [(0, .ref x0), (1, .ref x1), (2, .int x2), (3, .int v4), (4, .ref M.2.1)] := lv_sub hl [1, 2, 3, 4, 0] rfl
    refine w_iconst (v := 0) hx hb dX12_remove_23 (by decide) ?_
    refine w_istore (lv' := [(5, .int 0), (0, .ref x0), (1, .ref x1), (2, .int x2), (3, .int v4), (4, .ref M.2.1)]) hx hb dX12_remove_24 hl (by decide) rfl (fun ls hl => ?_)
    have hl : lv_has ls 9 [(0, .ref x0), (1, .ref x1), (2, .int x2), (3, .int v4), (4, .ref M.2.1), (5, .int 0)] := lv_sub hl [1, 2, 3, 4, 5, 0] rfl
    obtain ⟨z136, ez136, h⟩ := v_bnd h
    refine v_tight hb0 ?_
    refine X12_remove_L26p x0 x1 x2 M.2.1 vF v4 0 M5 ls z136 (lv_sub hl [0, 1, 2, 3, 4, 5] rfl) ez136 (fun ls hl => ?_)
    refine v_tight hb0 ?_
    exact X12_remove_J222p x0 x1 x2 z136.1 z136.2 ls (lv_sub hl [0, 1, 2, 3] rfl) h

def tX12_clear_J94_56 (rec : Int32 → vMe → Option (Unit × vMe)) (x0 : Nat) (x1 : Nat) (x2 : Int32) (x3 : Int32) (Mj : vMe) : Option (Unit × vMe) :=
  rec (x3 + 1) Mj
def tX12_clear_L56 (x0 : Nat) (x1 : Nat) (x2 : Int32) : Nat → Int32 → vMe → Option (Unit × vMe)
  | 0, _, _ => none
  | f + 1, x3, Mi =>
  if (6 : Int32) ≤ x3 then
  (some ((), Mi))
else
  ((gA Mi x0 14 7).bind fun a21 =>
  (aR Mi a21 110 x3).bind fun a22 =>
  if a22 = none then
  (tX12_clear_J94_56 (tX12_clear_L56 x0 x1 x2 f) x0 x1 x2 x3 Mi)
else
  ((gA Mi x0 14 7).bind fun a25 =>
  (aA Mi a25 110 x3).bind fun a26 =>
  (gA Mi a26 13 0).bind fun a27 =>
  if a27 = x1 then
  ((gA Mi x0 14 7).bind fun a29 =>
  (aA Mi a29 110 x3).bind fun a30 =>
  (sV Mi a30 13 6 (.int 0)).bind fun M31 =>
  tX12_clear_J94_56 (tX12_clear_L56 x0 x1 x2 f) x0 x1 x2 x3 M31)
else
  (tX12_clear_J94_56 (tX12_clear_L56 x0 x1 x2 f) x0 x1 x2 x3 Mi)))
def tX12_clear_J54 (x0 : Nat) (x1 : Nat) (x2 : Int32) (Mj : vMe) : Option (Int32 × vMe) :=
  (tX12_clear_L56 x0 x1 x2 vF 0 Mj).bind fun z32 =>
  some (x2, z32.2)
def tX12_clear (x0 : Nat) (x1 : Nat) (M : vMe) : Option (Int32 × vMe) :=
  (gI M x1 12 0).bind fun v1 =>
  (gI M x0 14 4).bind fun v2 =>
  (sV M x0 14 4 (.int (v2 + 1))).bind fun M3 =>
  (sV M3 x1 12 0 (.int 0)).bind fun M4 =>
  (gI M4 x1 12 1).bind fun v5 =>
  (sV M4 x1 12 1 (.int (v5 + 1))).bind fun M6 =>
  if v1 ≤ 0 then
  (tX12_clear_J54 x0 x1 v1 M6)
else
  ((gI M6 x0 14 3).bind fun v33 =>
  (sV M6 x0 14 3 (.int (v33 + 1))).bind fun M34 =>
  (gI M34 x0 14 3).bind fun v35 =>
  if (M34.1 x1).1 = 12 then
  ((tX10_note x1 v35 ((-1)) 2 M34).bind fun z36 =>
  tX12_clear_J54 x0 x1 v1 z36.2)
else none)
def rmX12_clear : Room := { frames := 3, cells := 0, slots := 0, locals := 46 }
set_option maxHeartbeats 4000000 in
set_option maxRecDepth 100000 in
theorem mX12_clear (l : Launch) (hfl : l.stackTraces = false) (D : vD) (x0 : Nat) (x1 : Nat) (M : vMe) (z : (Int32 × vMe)) (h : tX12_clear x0 x1 M = some z) : Met l yX12_clear (Cond.code yX12_clear cX12_clear 4 (some .int) :: TB) rmX12_clear (va_Pc [.ref x0, .ref x1] (vPre D M)) (qW D (some (.int z.1)) z.2) 0 0 (vA D) := by
  refine v_ofW (cc := cX12_clear) (maxL := 4) (ret := (some .int)) (by decide) (Nat.le_of_ble_eq_true rfl) ?_
  intro p e s m args below meth c Q hx hb hr hml hown hts hlk hnm hSS hR0 hQ ls hl
  have hK := hSS.1
  have hl : lv_has ls 4 [(0, .ref x0), (1, .ref x1)] := hl
  unfold tX12_clear at h
  have X12_clear_L56p : ∀ (x0 : Nat) (x1 : Nat) (x2 : Int32), ∀ (f : Nat) (x3 : Int32) (Mi : vMe) (ls : Array Slot) (z : (Unit × vMe)), lv_has ls 4 [(0, .ref x0), (1, .ref x1), (2, .int x2), (3, .int x3)] → tX12_clear_L56 x0 x1 x2 f x3 Mi = some z → (∀ ls : Array Slot, lv_has ls 4 [(2, .int x2)] → vV D p l e rmX12_clear s m args below meth c 0 0 Q z.2 (F0 m 100 ls [])) → vV D p l e rmX12_clear s m args below meth c 0 0 Q Mi (F0 m 56 ls []) := by
    intro x0 x1 x2 f
    induction f with
    | zero =>
      intro x3 Mi ls z hl h
      exact absurd h (by simp [tX12_clear_L56])
    | succ f ih =>
      intro x3 Mi ls z hl h KX
      rw [tX12_clear_L56] at h
      have X12_clear_J94_56p : ∀ (x3 : Int32) (Mj : vMe) (ls : Array Slot), lv_has ls 4 [(0, .ref x0), (1, .ref x1), (2, .int x2), (3, .int x3)] → tX12_clear_J94_56 (tX12_clear_L56 x0 x1 x2 f) x0 x1 x2 x3 Mj = some z → vV D p l e rmX12_clear s m args below meth c 0 0 Q Mj (F0 m 94 ls []) := by
        intro x3 Mj ls hl h
        unfold tX12_clear_J94_56 at h
        refine w_iinc (v := x3 + 1) (lv' := [(3, .int (x3 + 1)), (0, .ref x0), (1, .ref x1), (2, .int x2)]) hx hb dX12_clear_94 hl (j := 3) rfl rfl (by decide) rfl (fun ls hl => ?_)
        have hl : lv_has ls 4 [(0, .ref x0), (1, .ref x1), (2, .int x2), (3, .int (x3 + 1))] := lv_sub hl [1, 2, 3, 0] rfl
        refine w_goto (tgt := 56) hx hb dX12_clear_97 (by decide) ?_
        exact ih (x3 + 1) Mj ls z (lv_sub hl [0, 1, 2, 3] rfl) h KX
      refine w_iload_n hx hb dX12_clear_56 rfl (lv_at hl 3 rfl) ?_
      refine w_bipush (v := 6) hx hb dX12_clear_57 (by decide) ?_
      refine w_icmp_ge (tgt := 100) hx hb dX12_clear_59 (by decide) (fun c20 => ?_) (fun c20 => ?_)
      · rw [if_pos c20] at h
        obtain rfl := Option.some.inj h
        exact KX ls (lv_sub hl [2] rfl)
      · rw [if_neg c20] at h
        refine w_aload_n hx hb dX12_clear_62 rfl (lv_at hl 0 rfl) ?_
        obtain ⟨a21, ea21, h⟩ := v_bnd h
        refine v_gA (ci := 13) hx hb hts iwX12 hown hK 7 ea21 rfl (by decide) (Or.inl (hts _ kw383)) (fun _ h9 => h9) dX12_clear_63 ?_
        refine w_iload_n hx hb dX12_clear_66 rfl (lv_at hl 3 rfl) ?_
        obtain ⟨a22, ea22, h⟩ := v_bnd h
        refine v_aald hx hb hK ea22 (by decide) dX12_clear_67 ?_
        refine w_ifnull (tgt := 94) hx hb dX12_clear_68 (by decide) (fun c23 => ?_) (fun c23 => ?_)
        · rw [if_pos c23] at h
          exact X12_clear_J94_56p x3 Mi ls (lv_sub hl [0, 1, 2, 3] rfl) h
        · rw [if_neg c23] at h
          refine w_aload_n hx hb dX12_clear_71 rfl (lv_at hl 0 rfl) ?_
          obtain ⟨a25, ea25, h⟩ := v_bnd h
          refine v_gA (ci := 13) hx hb hts iwX12 hown hK 7 ea25 rfl (by decide) (Or.inl (hts _ kw383)) (fun _ h9 => h9) dX12_clear_72 ?_
          refine w_iload_n hx hb dX12_clear_75 rfl (lv_at hl 3 rfl) ?_
          obtain ⟨a26, ea26, h⟩ := v_bnd h
          refine v_aaldA hx hb hK ea26 (by decide) dX12_clear_76 ?_
          obtain ⟨a27, ea27, h⟩ := v_bnd h
          refine v_gA (ci := 12) hx hb hts iwX11 hown hK 0 ea27 rfl (by decide) (Or.inr ⟨_, kn75 hSS _⟩) (fun _ h9 => h9) dX12_clear_77 ?_
          refine w_aload_n hx hb dX12_clear_80 rfl (lv_at hl 1 rfl) ?_
          refine w_acmp_ne (tgt := 94) hx hb dX12_clear_81 (by decide) (fun c28 => ?_) (fun c28 => ?_)
          · rw [if_pos c28] at h
            refine w_aload_n hx hb dX12_clear_84 rfl (lv_at hl 0 rfl) ?_
            obtain ⟨a29, ea29, h⟩ := v_bnd h
            refine v_gA (ci := 13) hx hb hts iwX12 hown hK 7 ea29 rfl (by decide) (Or.inl (hts _ kw383)) (fun _ h9 => h9) dX12_clear_85 ?_
            refine w_iload_n hx hb dX12_clear_88 rfl (lv_at hl 3 rfl) ?_
            obtain ⟨a30, ea30, h⟩ := v_bnd h
            refine v_aaldA hx hb hK ea30 (by decide) dX12_clear_89 ?_
            refine w_iconst (v := 0) hx hb dX12_clear_90 (by decide) ?_
            obtain ⟨M31, eM31, h⟩ := v_bnd h
            refine v_putf (ci := 12) hx hb hts iwX11 hown hK tyX11_ok nmX11 6 eM31 rfl (by decide) (Or.inr ⟨_, kn85 hSS _⟩) (fun _ h9 => h9) (Or.inl rfl) (by decide) (by decide) dX12_clear_91 ?_
            exact X12_clear_J94_56p x3 M31 ls (lv_sub hl [0, 1, 2, 3] rfl) h
          · rw [if_neg c28] at h
            exact X12_clear_J94_56p x3 Mi ls (lv_sub hl [0, 1, 2, 3] rfl) h
  have X12_clear_J54p : ∀ (x0 : Nat) (x1 : Nat) (x2 : Int32) (Mj : vMe) (ls : Array Slot), lv_has ls 4 [(0, .ref x0), (1, .ref x1), (2, .int x2)] → tX12_clear_J54 x0 x1 x2 Mj = some z → vV D p l e rmX12_clear s m args below meth c 0 0 Q Mj (F0 m 54 ls []) := by
    intro x0 x1 x2 Mj ls hl h
    unfold tX12_clear_J54 at h
    refine w_iconst (v := 0) hx hb dX12_clear_54 (by decide) ?_
    refine w_istore_n (lv' := [(3, .int 0), (0, .ref x0), (1, .ref x1), (2, .int x2)]) hx hb dX12_clear_55 rfl hl (by decide) rfl (fun ls hl => ?_)
    have hl : lv_has ls 4 [(0, .ref x0), (1, .ref x1), (2, .int x2), (3, .int 0)] := lv_sub hl [1, 2, 3, 0] rfl
    obtain ⟨z32, ez32, h⟩ := v_bnd h
    refine X12_clear_L56p x0 x1 x2 vF 0 Mj ls z32 (lv_sub hl [0, 1, 2, 3] rfl) ez32 (fun ls hl => ?_)
    refine w_iload_n hx hb dX12_clear_100 rfl (lv_at hl 0 rfl) ?_
    obtain rfl := Option.some.inj h
    rw [hQ]
    exact v_iret hx hb hr hlk dX12_clear_101
  refine w_aload_n hx hb dX12_clear_0 rfl (lv_at hl 1 rfl) ?_
  obtain ⟨v1, ev1, h⟩ := v_bnd h
  refine v_gI (ci := 11) hx hb hts iwX10 hown hK 0 ev1 rfl (by decide) (Or.inr ⟨_, kn48 hSS _⟩) (fun _ h9 => h9) dX12_clear_1 ?_
  refine w_istore_n (lv' := [(2, .int v1), (0, .ref x0), (1, .ref x1)]) hx hb dX12_clear_4 rfl hl (by decide) rfl (fun ls hl => ?_)
  have hl : lv_has ls 4 [(0, .ref x0), (1, .ref x1), (2, .int v1)] := lv_sub hl [1, 2, 0] rfl
  refine w_aload_n hx hb dX12_clear_5 rfl (lv_at hl 0 rfl) ?_
  refine w_dup hx hb dX12_clear_6 rfl ?_
  obtain ⟨v2, ev2, h⟩ := v_bnd h
  refine v_gI (ci := 13) hx hb hts iwX12 hown hK 4 ev2 rfl (by decide) (Or.inl (hts _ kw378)) (fun _ h9 => h9) dX12_clear_7 ?_
  refine w_iconst (v := 1) hx hb dX12_clear_10 (by decide) ?_
  refine w_iadd hx hb dX12_clear_11 ?_
  obtain ⟨M3, eM3, h⟩ := v_bnd h
  refine v_putf (ci := 13) hx hb hts iwX12 hown hK tyX12_ok nmX12 4 eM3 rfl (by decide) (Or.inl (hts _ kw378)) (fun _ h9 => h9) (Or.inl rfl) rfl rfl dX12_clear_12 ?_
  refine w_aload_n hx hb dX12_clear_15 rfl (lv_at hl 1 rfl) ?_
  refine w_iconst (v := 0) hx hb dX12_clear_16 (by decide) ?_
  obtain ⟨M4, eM4, h⟩ := v_bnd h
  refine v_putf (ci := 11) hx hb hts iwX10 hown hK tyX10_ok nmX10 0 eM4 rfl (by decide) (Or.inr ⟨_, kn48 hSS _⟩) (fun _ h9 => h9) (Or.inl rfl) rfl rfl dX12_clear_17 ?_
  refine w_aload_n hx hb dX12_clear_20 rfl (lv_at hl 1 rfl) ?_
  refine w_dup hx hb dX12_clear_21 rfl ?_
  obtain ⟨v5, ev5, h⟩ := v_bnd h
  refine v_gI (ci := 11) hx hb hts iwX10 hown hK 1 ev5 rfl (by decide) (Or.inr ⟨_, kn50 hSS _⟩) (fun _ h9 => h9) dX12_clear_22 ?_
  refine w_iconst (v := 1) hx hb dX12_clear_25 (by decide) ?_
  refine w_iadd hx hb dX12_clear_26 ?_
  obtain ⟨M6, eM6, h⟩ := v_bnd h
  refine v_putf (ci := 11) hx hb hts iwX10 hown hK tyX10_ok nmX10 1 eM6 rfl (by decide) (Or.inr ⟨_, kn50 hSS _⟩) (fun _ h9 => h9) (Or.inl rfl) rfl rfl dX12_clear_27 ?_
  refine w_iload_n hx hb dX12_clear_30 rfl (lv_at hl 2 rfl) ?_
  refine w_if_le (tgt := 54) hx hb dX12_clear_31 (by decide) (fun c7 => ?_) (fun c7 => ?_)
  · rw [if_pos c7] at h
    exact X12_clear_J54p x0 x1 v1 M6 ls (lv_sub hl [0, 1, 2] rfl) h
  · rw [if_neg c7] at h
    refine w_aload_n hx hb dX12_clear_34 rfl (lv_at hl 0 rfl) ?_
    refine w_dup hx hb dX12_clear_35 rfl ?_
    obtain ⟨v33, ev33, h⟩ := v_bnd h
    refine v_gI (ci := 13) hx hb hts iwX12 hown hK 3 ev33 rfl (by decide) (Or.inl (hts _ kw376)) (fun _ h9 => h9) dX12_clear_36 ?_
    refine w_iconst (v := 1) hx hb dX12_clear_39 (by decide) ?_
    refine w_iadd hx hb dX12_clear_40 ?_
    obtain ⟨M34, eM34, h⟩ := v_bnd h
    refine v_putf (ci := 13) hx hb hts iwX12 hown hK tyX12_ok nmX12 3 eM34 rfl (by decide) (Or.inl (hts _ kw376)) (fun _ h9 => h9) (Or.inl rfl) rfl rfl dX12_clear_41 ?_
    refine w_aload_n hx hb dX12_clear_44 rfl (lv_at hl 1 rfl) ?_
    refine w_aload_n hx hb dX12_clear_45 rfl (lv_at hl 0 rfl) ?_
    obtain ⟨v35, ev35, h⟩ := v_bnd h
    refine v_gI (ci := 13) hx hb hts iwX12 hown hK 3 ev35 rfl (by decide) (Or.inl (hts _ kw376)) (fun _ h9 => h9) dX12_clear_46 ?_
    refine w_iconst (v := (-1)) hx hb dX12_clear_49 (by decide) ?_
    refine w_iconst (v := 2) hx hb dX12_clear_50 (by decide) ?_
    obtain ⟨g8, h⟩ := v_ifs h
    obtain ⟨z36, ez36, h⟩ := v_bnd h
    refine v_call0 (M1 := z36.2) (mc := 0) (ms := 0) (fun H locs hR hS => va_runV (As := [.int v35, .int ((-1)), .int 2]) (rest := []) ⟨hx, hb, hml, hown, hts⟩ (mX10_note l hfl D x1 v35 ((-1)) 2 M34 z36 ez36) (cwV 3 hts (gdV kw698 kw699 kw700 kw36 kw701) rfl rfl rfl (by decide +kernel) ⟨Nat.le_of_ble_eq_true rfl, Nat.le_of_ble_eq_true rfl⟩) (v_preV (ci := 11) hSS hR hS g8 (by decide) rfl [.int v35, .int ((-1)), .int 2]) rfl rfl hl.1 rfl (lv_room (Nat.le_of_ble_eq_true rfl)) dX12_clear_51 ⟨Nat.zero_le _, Nat.zero_le _⟩) ?_
    exact X12_clear_J54p x0 x1 v1 z36.2 ls (lv_sub hl [0, 1, 2] rfl) h

def tX12_step_L0 (x0 : Nat) (x1 : Nat) : Nat → vMe → Option ((Int32 ⊕ Unit) × vMe)
  | 0, _ => none
  | f + 1, Mi =>
  (gI Mi x1 13 6).bind fun v19 =>
  if v19 = 0 then
  (some (Sum.inr (()), Mi))
else
  ((gI Mi x1 13 2).bind fun v21 =>
  (gA Mi x1 13 0).bind fun a22 =>
  (gI Mi a22 12 0).bind fun v23 =>
  if v23 ≤ v21 then
  (some (Sum.inr (()), Mi))
else
  ((gA Mi x1 13 0).bind fun a25 =>
  (gA Mi a25 12 3).bind fun a26 =>
  (gI Mi x1 13 2).bind fun v27 =>
  (sV Mi x1 13 2 (.int (v27 + 1))).bind fun M28 =>
  (aI M28 a26 101 v27).bind fun v29 =>
  (gI M28 x0 14 4).bind fun v30 =>
  (sV M28 x0 14 4 (.int (v30 + 1))).bind fun M31 =>
  if (M31.1 x1).1 = 13 then
  ((tX11_meets x1 v29 M31).bind fun z32 =>
  if z32 = 0 then
  (tX12_step_L0 x0 x1 f M31)
else
  ((gI M31 x1 13 4).bind fun v34 =>
  (sV M31 x1 13 4 (.int (v34 + 1))).bind fun M35 =>
  (sV M35 x1 13 5 (.int v29)).bind fun M36 =>
  some (Sum.inl v29, M36)))
else none))
def tX12_step_J79 (x1 : Nat) (Mj : vMe) : Option (Int32 × vMe) :=
  (sV Mj x1 13 6 (.int 0)).bind fun M39 =>
  some ((-1), M39)
def tX12_step (x0 : Nat) (x1 : Nat) (M : vMe) : Option (Int32 × vMe) :=
  (tX12_step_L0 x0 x1 vF M).bind fun z37 =>
  Sum.elim (fun r40 => some (r40, z37.2)) (fun w38 =>
  tX12_step_J79 x1 z37.2) z37.1
def rmX12_step : Room := { frames := 2, cells := 0, slots := 0, locals := 21 }
set_option maxHeartbeats 4000000 in
set_option maxRecDepth 100000 in
theorem mX12_step (l : Launch) (hfl : l.stackTraces = false) (D : vD) (x0 : Nat) (x1 : Nat) (M : vMe) (z : (Int32 × vMe)) (h : tX12_step x0 x1 M = some z) : Met l yX12_step (Cond.code yX12_step cX12_step 3 (some .int) :: TB) rmX12_step (va_Pc [.ref x0, .ref x1] (vPre D M)) (qW D (some (.int z.1)) z.2) 0 0 (vA D) := by
  refine v_ofW (cc := cX12_step) (maxL := 3) (ret := (some .int)) (by decide) (Nat.le_of_ble_eq_true rfl) ?_
  intro p e s m args below meth c Q hx hb hr hml hown hts hlk hnm hSS hR0 hQ ls hl
  have hK := hSS.1
  have hl : lv_has ls 3 [(0, .ref x0), (1, .ref x1)] := hl
  unfold tX12_step at h
  have X12_step_L0p : ∀ (x0 : Nat) (x1 : Nat), ∀ (f : Nat) (Mi : vMe) (ls : Array Slot) (z : ((Int32 ⊕ Unit) × vMe)), lv_has ls 3 [(0, .ref x0), (1, .ref x1)] → tX12_step_L0 x0 x1 f Mi = some z → (∀ w, z.1 = Sum.inr w → ∀ ls : Array Slot, lv_has ls 3 [(1, .ref x1)] → vV D p l e rmX12_step s m args below meth c 0 0 Q z.2 (F0 m 79 ls [])) → (∀ r9, z.1 = Sum.inl r9 → Q = MQ below (qW D (some (.int r9)) z.2) args s 0 0 (vA D)) → vV D p l e rmX12_step s m args below meth c 0 0 Q Mi (F0 m 0 ls []) := by
    intro x0 x1 f
    induction f with
    | zero =>
      intro  Mi ls z hl h
      exact absurd h (by simp [tX12_step_L0])
    | succ f ih =>
      intro  Mi ls z hl h KX KR
      rw [tX12_step_L0] at h
      refine w_aload_n hx hb dX12_step_0 rfl (lv_at hl 1 rfl) ?_
      obtain ⟨v19, ev19, h⟩ := v_bnd h
      refine v_gI (ci := 12) hx hb hts iwX11 hown hK 6 ev19 rfl (by decide) (Or.inr ⟨_, kn85 hSS _⟩) (fun _ h9 => h9) dX12_step_1 ?_
      refine w_if_eq (tgt := 79) hx hb dX12_step_4 (by decide) (fun c20 => ?_) (fun c20 => ?_)
      · rw [if_pos c20] at h
        obtain rfl := Option.some.inj h
        exact KX _ rfl ls (lv_sub hl [1] rfl)
      · rw [if_neg c20] at h
        refine w_aload_n hx hb dX12_step_7 rfl (lv_at hl 1 rfl) ?_
        obtain ⟨v21, ev21, h⟩ := v_bnd h
        refine v_gI (ci := 12) hx hb hts iwX11 hown hK 2 ev21 rfl (by decide) (Or.inr ⟨_, kn78 hSS _⟩) (fun _ h9 => h9) dX12_step_8 ?_
        refine w_aload_n hx hb dX12_step_11 rfl (lv_at hl 1 rfl) ?_
        obtain ⟨a22, ea22, h⟩ := v_bnd h
        refine v_gA (ci := 12) hx hb hts iwX11 hown hK 0 ea22 rfl (by decide) (Or.inr ⟨_, kn75 hSS _⟩) (fun _ h9 => h9) dX12_step_12 ?_
        obtain ⟨v23, ev23, h⟩ := v_bnd h
        refine v_gI (ci := 11) hx hb hts iwX10 hown hK 0 ev23 rfl (by decide) (Or.inr ⟨_, kn48 hSS _⟩) (fun _ h9 => h9) dX12_step_15 ?_
        refine w_icmp_ge (tgt := 79) hx hb dX12_step_18 (by decide) (fun c24 => ?_) (fun c24 => ?_)
        · rw [if_pos c24] at h
          obtain rfl := Option.some.inj h
          exact KX _ rfl ls (lv_sub hl [1] rfl)
        · rw [if_neg c24] at h
          refine w_aload_n hx hb dX12_step_21 rfl (lv_at hl 1 rfl) ?_
          obtain ⟨a25, ea25, h⟩ := v_bnd h
          refine v_gA (ci := 12) hx hb hts iwX11 hown hK 0 ea25 rfl (by decide) (Or.inr ⟨_, kn75 hSS _⟩) (fun _ h9 => h9) dX12_step_22 ?_
          obtain ⟨a26, ea26, h⟩ := v_bnd h
          refine v_gA (ci := 11) hx hb hts iwX10 hown hK 3 ea26 rfl (by decide) (Or.inr ⟨_, kn53 hSS _⟩) (fun _ h9 => h9) dX12_step_25 ?_
          refine w_aload_n hx hb dX12_step_28 rfl (lv_at hl 1 rfl) ?_
          refine w_dup hx hb dX12_step_29 rfl ?_
          obtain ⟨v27, ev27, h⟩ := v_bnd h
          refine v_gI (ci := 12) hx hb hts iwX11 hown hK 2 ev27 rfl (by decide) (Or.inr ⟨_, kn78 hSS _⟩) (fun _ h9 => h9) dX12_step_30 ?_
          refine w_dup_x1 hx hb dX12_step_33 rfl rfl ?_
          refine w_iconst (v := 1) hx hb dX12_step_34 (by decide) ?_
          refine w_iadd hx hb dX12_step_35 ?_
          obtain ⟨M28, eM28, h⟩ := v_bnd h
          refine v_putf (ci := 12) hx hb hts iwX11 hown hK tyX11_ok nmX11 2 eM28 rfl (by decide) (Or.inr ⟨_, kn78 hSS _⟩) (fun _ h9 => h9) (Or.inl rfl) rfl rfl dX12_step_36 ?_
          obtain ⟨v29, ev29, h⟩ := v_bnd h
          refine v_iald hx hb hK ev29 dX12_step_39 ?_
          refine w_istore_n (lv' := [(2, .int v29), (0, .ref x0), (1, .ref x1)]) hx hb dX12_step_40 rfl hl (by decide) rfl (fun ls hl => ?_)
          have hl : lv_has ls 3 [(0, .ref x0), (1, .ref x1), (2, .int v29)] := lv_sub hl [1, 2, 0] rfl
          refine w_aload_n hx hb dX12_step_41 rfl (lv_at hl 0 rfl) ?_
          refine w_dup hx hb dX12_step_42 rfl ?_
          obtain ⟨v30, ev30, h⟩ := v_bnd h
          refine v_gI (ci := 13) hx hb hts iwX12 hown hK 4 ev30 rfl (by decide) (Or.inl (hts _ kw378)) (fun _ h9 => h9) dX12_step_43 ?_
          refine w_iconst (v := 1) hx hb dX12_step_46 (by decide) ?_
          refine w_iadd hx hb dX12_step_47 ?_
          obtain ⟨M31, eM31, h⟩ := v_bnd h
          refine v_putf (ci := 13) hx hb hts iwX12 hown hK tyX12_ok nmX12 4 eM31 rfl (by decide) (Or.inl (hts _ kw378)) (fun _ h9 => h9) (Or.inl rfl) rfl rfl dX12_step_48 ?_
          refine w_aload_n hx hb dX12_step_51 rfl (lv_at hl 1 rfl) ?_
          refine w_iload_n hx hb dX12_step_52 rfl (lv_at hl 2 rfl) ?_
          obtain ⟨g8, h⟩ := v_ifs h
          obtain ⟨z32, ez32, h⟩ := v_bnd h
          refine v_call1 (v := .int z32) (M1 := M31) (mc := 0) (ms := 0) (fun H locs hR hS => va_runV (As := [.int v29]) (rest := []) ⟨hx, hb, hml, hown, hts⟩ (mX11_meets l hfl D x1 v29 M31 z32 ez32) (cwV 1 hts (gdV kw1200 kw1201 kw1202 kw58 kw1203) rfl rfl rfl (by decide +kernel) ⟨Nat.le_of_ble_eq_true rfl, Nat.le_of_ble_eq_true rfl⟩) (v_preV (ci := 12) hSS hR hS g8 (by decide) rfl [.int v29]) rfl rfl hl.1 rfl (lv_room (Nat.le_of_ble_eq_true rfl)) dX12_step_53 ⟨Nat.zero_le _, Nat.zero_le _⟩) ?_
          refine w_if_ne (tgt := 62) hx hb dX12_step_56 (by decide) (fun c33 => ?_) (fun c33 => ?_)
          · rw [if_pos c33] at h
            refine w_goto (tgt := 0) hx hb dX12_step_59 (by decide) ?_
            exact ih M31 ls z (lv_sub hl [0, 1] rfl) h KX KR
          · rw [if_neg c33] at h
            refine w_aload_n hx hb dX12_step_62 rfl (lv_at hl 1 rfl) ?_
            refine w_dup hx hb dX12_step_63 rfl ?_
            obtain ⟨v34, ev34, h⟩ := v_bnd h
            refine v_gI (ci := 12) hx hb hts iwX11 hown hK 4 ev34 rfl (by decide) (Or.inr ⟨_, kn81 hSS _⟩) (fun _ h9 => h9) dX12_step_64 ?_
            refine w_iconst (v := 1) hx hb dX12_step_67 (by decide) ?_
            refine w_iadd hx hb dX12_step_68 ?_
            obtain ⟨M35, eM35, h⟩ := v_bnd h
            refine v_putf (ci := 12) hx hb hts iwX11 hown hK tyX11_ok nmX11 4 eM35 rfl (by decide) (Or.inr ⟨_, kn81 hSS _⟩) (fun _ h9 => h9) (Or.inl rfl) rfl rfl dX12_step_69 ?_
            refine w_aload_n hx hb dX12_step_72 rfl (lv_at hl 1 rfl) ?_
            refine w_iload_n hx hb dX12_step_73 rfl (lv_at hl 2 rfl) ?_
            obtain ⟨M36, eM36, h⟩ := v_bnd h
            refine v_putf (ci := 12) hx hb hts iwX11 hown hK tyX11_ok nmX11 5 eM36 rfl (by decide) (Or.inr ⟨_, kn83 hSS _⟩) (fun _ h9 => h9) (Or.inl rfl) rfl rfl dX12_step_74 ?_
            refine w_iload_n hx hb dX12_step_77 rfl (lv_at hl 2 rfl) ?_
            obtain rfl := Option.some.inj h
            rw [KR _ rfl]
            exact v_iret hx hb hr hlk dX12_step_78
  have X12_step_J79p : ∀ (x1 : Nat) (Mj : vMe) (ls : Array Slot), lv_has ls 3 [(1, .ref x1)] → tX12_step_J79 x1 Mj = some z → vV D p l e rmX12_step s m args below meth c 0 0 Q Mj (F0 m 79 ls []) := by
    intro x1 Mj ls hl h
    unfold tX12_step_J79 at h
    refine w_aload_n hx hb dX12_step_79 rfl (lv_at hl 0 rfl) ?_
    refine w_iconst (v := 0) hx hb dX12_step_80 (by decide) ?_
    obtain ⟨M39, eM39, h⟩ := v_bnd h
    refine v_putf (ci := 12) hx hb hts iwX11 hown hK tyX11_ok nmX11 6 eM39 rfl (by decide) (Or.inr ⟨_, kn85 hSS _⟩) (fun _ h9 => h9) (Or.inl rfl) (by decide) (by decide) dX12_step_81 ?_
    refine w_iconst (v := (-1)) hx hb dX12_step_84 (by decide) ?_
    obtain rfl := Option.some.inj h
    rw [hQ]
    exact v_iret hx hb hr hlk dX12_step_85
  obtain ⟨z37, ez37, h⟩ := v_bnd h
  refine X12_step_L0p x0 x1 vF  M ls z37 (lv_sub hl [0, 1] rfl) ez37 (fun w38 qw38 ls hl => ?_) (fun r40 qr40 => ?_)
  · replace h := v_inr qw38 h
    exact X12_step_J79p x1 z37.2 ls (lv_sub hl [0] rfl) h
  · replace h := v_inl qr40 h
    obtain rfl := Option.some.inj h
    exact hQ

def tX12_cursors_J25_4 (rec : Int32 → Int32 → Option Int32) (x0 : Nat) (x2 : Int32) (y0 : Int32) (y1 : Int32) (M : vMe) : Option Int32 :=
  rec (y0 + y1) (x2 + 1)
def tX12_cursors_L4 (x0 : Nat) (M : vMe) : Nat → Int32 → Int32 → Option Int32
  | 0, _, _ => none
  | f + 1, x1, x2 =>
  if (6 : Int32) ≤ x2 then
  (some x1)
else
  ((gA M x0 14 7).bind fun a7 =>
  (aR M a7 110 x2).bind fun a8 =>
  if a8 = none then
  (tX12_cursors_J25_4 (tX12_cursors_L4 x0 M f) x0 x2 x1 0 M)
else
  (tX12_cursors_J25_4 (tX12_cursors_L4 x0 M f) x0 x2 x1 1 M))
def tX12_cursors (x0 : Nat) (M : vMe) : Option Int32 :=
  (tX12_cursors_L4 x0 M vF 0 0).bind fun z11 =>
  some z11
def rmX12_cursors : Room := { frames := 1, cells := 0, slots := 0, locals := 0 }
set_option maxHeartbeats 4000000 in
set_option maxRecDepth 100000 in
theorem mX12_cursors (l : Launch) (hfl : l.stackTraces = false) (D : vD) (x0 : Nat) (M : vMe) (z : Int32) (h : tX12_cursors x0 M = some z) : Met l yX12_cursors (Cond.code yX12_cursors cX12_cursors 3 (some .int) :: TB) rmX12_cursors (va_Pc [.ref x0] (vPre D M)) (qW D (some (.int z)) M) 0 0 (vA D) := by
  refine v_ofW (cc := cX12_cursors) (maxL := 3) (ret := (some .int)) (by decide) (Nat.le_of_ble_eq_true rfl) ?_
  intro p e s m args below meth c Q hx hb hr hml hown hts hlk hnm hSS hR0 hQ ls hl
  have hK := hSS.1
  have hl : lv_has ls 3 [(0, .ref x0)] := hl
  unfold tX12_cursors at h
  have X12_cursors_L4p : ∀ (x0 : Nat), ∀ (f : Nat) (x1 : Int32) (x2 : Int32) (ls : Array Slot) (z : Int32), lv_has ls 3 [(0, .ref x0), (1, .int x1), (2, .int x2)] → tX12_cursors_L4 x0 M f x1 x2 = some z → (∀ ls : Array Slot, lv_has ls 3 [(1, .int z)] → vV D p l e rmX12_cursors s m args below meth c 0 0 Q M (F0 m 33 ls [])) → vV D p l e rmX12_cursors s m args below meth c 0 0 Q M (F0 m 4 ls []) := by
    intro x0 f
    induction f with
    | zero =>
      intro x1 x2 ls z hl h
      exact absurd h (by simp [tX12_cursors_L4])
    | succ f ih =>
      intro x1 x2 ls z hl h KX
      rw [tX12_cursors_L4] at h
      have X12_cursors_J25_4p : ∀ (x2 : Int32) (y0 : Int32) (y1 : Int32) (ls : Array Slot), lv_has ls 3 [(0, .ref x0), (2, .int x2)] → tX12_cursors_J25_4 (tX12_cursors_L4 x0 M f) x0 x2 y0 y1 M = some z → vV D p l e rmX12_cursors s m args below meth c 0 0 Q M (F0 m 25 ls [.int y1, .int y0]) := by
        intro x2 y0 y1 ls hl h
        unfold tX12_cursors_J25_4 at h
        refine w_iadd hx hb dX12_cursors_25 ?_
        refine w_istore_n (lv' := [(1, .int (y0 + y1)), (0, .ref x0), (2, .int x2)]) hx hb dX12_cursors_26 rfl hl (by decide) rfl (fun ls hl => ?_)
        have hl : lv_has ls 3 [(0, .ref x0), (1, .int (y0 + y1)), (2, .int x2)] := lv_sub hl [1, 0, 2] rfl
        refine w_iinc (v := x2 + 1) (lv' := [(2, .int (x2 + 1)), (0, .ref x0), (1, .int (y0 + y1))]) hx hb dX12_cursors_27 hl (j := 2) rfl rfl (by decide) rfl (fun ls hl => ?_)
        have hl : lv_has ls 3 [(0, .ref x0), (1, .int (y0 + y1)), (2, .int (x2 + 1))] := lv_sub hl [1, 2, 0] rfl
        refine w_goto (tgt := 4) hx hb dX12_cursors_30 (by decide) ?_
        exact ih (y0 + y1) (x2 + 1) ls z (lv_sub hl [0, 1, 2] rfl) h KX
      refine w_iload_n hx hb dX12_cursors_4 rfl (lv_at hl 2 rfl) ?_
      refine w_bipush (v := 6) hx hb dX12_cursors_5 (by decide) ?_
      refine w_icmp_ge (tgt := 33) hx hb dX12_cursors_7 (by decide) (fun c6 => ?_) (fun c6 => ?_)
      · rw [if_pos c6] at h
        obtain rfl := Option.some.inj h
        exact KX ls (lv_sub hl [1] rfl)
      · rw [if_neg c6] at h
        refine w_iload_n hx hb dX12_cursors_10 rfl (lv_at hl 1 rfl) ?_
        refine w_aload_n hx hb dX12_cursors_11 rfl (lv_at hl 0 rfl) ?_
        obtain ⟨a7, ea7, h⟩ := v_bnd h
        refine v_gA (ci := 13) hx hb hts iwX12 hown hK 7 ea7 rfl (by decide) (Or.inl (hts _ kw383)) (fun _ h9 => h9) dX12_cursors_12 ?_
        refine w_iload_n hx hb dX12_cursors_15 rfl (lv_at hl 2 rfl) ?_
        obtain ⟨a8, ea8, h⟩ := v_bnd h
        refine v_aald hx hb hK ea8 (by decide) dX12_cursors_16 ?_
        refine w_ifnonnull (tgt := 24) hx hb dX12_cursors_17 (by decide) (fun c9 => ?_) (fun c9 => ?_)
        · rw [if_pos c9] at h
          refine w_iconst (v := 0) hx hb dX12_cursors_20 (by decide) ?_
          refine w_goto (tgt := 25) hx hb dX12_cursors_21 (by decide) ?_
          exact X12_cursors_J25_4p x2 x1 0 ls (lv_sub hl [0, 2] rfl) h
        · rw [if_neg c9] at h
          refine w_iconst (v := 1) hx hb dX12_cursors_24 (by decide) ?_
          exact X12_cursors_J25_4p x2 x1 1 ls (lv_sub hl [0, 2] rfl) h
  refine w_iconst (v := 0) hx hb dX12_cursors_0 (by decide) ?_
  refine w_istore_n (lv' := [(1, .int 0), (0, .ref x0)]) hx hb dX12_cursors_1 rfl hl (by decide) rfl (fun ls hl => ?_)
  have hl : lv_has ls 3 [(0, .ref x0), (1, .int 0)] := lv_sub hl [1, 0] rfl
  refine w_iconst (v := 0) hx hb dX12_cursors_2 (by decide) ?_
  refine w_istore_n (lv' := [(2, .int 0), (0, .ref x0), (1, .int 0)]) hx hb dX12_cursors_3 rfl hl (by decide) rfl (fun ls hl => ?_)
  have hl : lv_has ls 3 [(0, .ref x0), (1, .int 0), (2, .int 0)] := lv_sub hl [1, 2, 0] rfl
  obtain ⟨z11, ez11, h⟩ := v_bnd h
  refine X12_cursors_L4p x0 vF 0 0 ls z11 (lv_sub hl [0, 1, 2] rfl) ez11 (fun ls hl => ?_)
  refine w_iload_n hx hb dX12_cursors_33 rfl (lv_at hl 0 rfl) ?_
  obtain rfl := Option.some.inj h
  rw [hQ]
  exact v_iret hx hb hr hlk dX12_cursors_34

def tL_feeds_J67_20 (rec : Int32 → vMe → Option (Unit × vMe)) (n0 s0 : Nat) (x0 : Nat) (x1 : Nat) (x2 : Int32) (x3 : Int32) (x4 : Nat) (x5 : Int32) (y0 : Nat) (y1 : Int32) (y2 : Int32) (y3 : Int32) (Mj : vMe) : Option (Unit × vMe) :=
  (sA Mj y0 101 y1 (.int (y2 ||| y3))).bind fun M8 =>
  rec (x5 + 1) M8
def tL_feeds_L20 (G : Nat → Nat) (n0 s0 : Nat) (x0 : Nat) (x1 : Nat) (x2 : Int32) (x3 : Int32) (x4 : Nat) : Nat → Int32 → vMe → Option (Unit × vMe)
  | 0, _, _ => none
  | f + 1, x5, Mi =>
  if (20 : Int32) ≤ x5 then
  (some ((), Mi))
else
  ((aI Mi x4 101 (x5 / 4)).bind fun v5 =>
  if Mi.2.1 + 0 ≤ n0 + 20 ∧ Mi.2.2.1 + 0 ≤ s0 + 100 then
  (if (Mi.1 x1).1 = 1 then
  ((tJ0_length_8abf5 x1 Mi).bind fun z6 =>
  if z6 ≤ (x3 + x5) then
  (tL_feeds_J67_20 (tL_feeds_L20 G n0 s0 x0 x1 x2 x3 x4 f) n0 s0 x0 x1 x2 x3 x4 x5 x4 (x5 / 4) (v5 <<< (8 &&& 31)) 32 Mi)
else
  (if Mi.2.1 + 0 ≤ n0 + 20 ∧ Mi.2.2.1 + 0 ≤ s0 + 100 then
  (if (Mi.1 x1).1 = 1 then
  ((tJ0_charAt_5068e G x1 (x3 + x5) Mi).bind fun z9 =>
  tL_feeds_J67_20 (tL_feeds_L20 G n0 s0 x0 x1 x2 x3 x4 f) n0 s0 x0 x1 x2 x3 x4 x5 x4 (x5 / 4) (v5 <<< (8 &&& 31)) z9.1 z9.2)
else none)
else none))
else none)
else none)
def tL_feeds_L4 (G : Nat → Nat) (n0 s0 : Nat) (x0 : Nat) (x1 : Nat) : Nat → Int32 → Int32 → vMe → Option ((Int32 ⊕ Unit) × vMe)
  | 0, _, _, _ => none
  | f + 1, x2, x3, Mi =>
  if Mi.2.1 + 0 ≤ n0 + 20 ∧ Mi.2.2.1 + 0 ≤ s0 + 100 then
  (if (Mi.1 x1).1 = 1 then
  ((tJ0_length_8abf5 x1 Mi).bind fun z1 =>
  if z1 ≤ x3 then
  (some (Sum.inr (()), Mi))
else
  ((nwO Mi 101 5 5 (fun _ => .int 0) n0 s0 20 100).bind fun M3 =>
  (tL_feeds_L20 G n0 s0 x0 x1 x2 x3 Mi.2.1 vF 0 M3).bind fun z10 =>
  (aI z10.2 Mi.2.1 101 0).bind fun v11 =>
  (aI z10.2 Mi.2.1 101 1).bind fun v12 =>
  (aI z10.2 Mi.2.1 101 2).bind fun v13 =>
  (aI z10.2 Mi.2.1 101 3).bind fun v14 =>
  (aI z10.2 Mi.2.1 101 4).bind fun v15 =>
  if z10.2.2.1 + 0 ≤ n0 + 20 ∧ z10.2.2.2.1 + 0 ≤ s0 + 100 then
  (if (z10.2.1 x0).1 = 11 then
  ((tX9_append x0 v11 v12 v13 v14 v15 z10.2).bind fun z16 =>
  if z16.1 = (x2 + 20) then
  (tL_feeds_L4 G n0 s0 x0 x1 f (x2 + 20) (x3 + 20) z16.2)
else
  (if z16.2.2.1 ≤ n0 + 20 ∧ z16.2.2.2.1 ≤ s0 + 100 then some (Sum.inl 0, z16.2) else none))
else none)
else none))
else none)
else none
def tL_feeds (G : Nat → Nat) (x0 : Nat) (x1 : Nat) (M : vMe) : Option (Int32 × vMe) :=
  (tL_feeds_L4 G M.2.1 M.2.2.1 x0 x1 vF 0 0 M).bind fun z18 =>
  Sum.elim (fun r20 => some (r20, z18.2)) (fun w19 =>
  if z18.2.2.1 ≤ M.2.1 + 20 ∧ z18.2.2.2.1 ≤ M.2.2.1 + 100 then some (1, z18.2) else none) z18.1
def rmL_feeds : Room := { frames := 5, cells := 20, slots := 100, locals := 85 }
set_option maxHeartbeats 4000000 in
set_option maxRecDepth 100000 in
theorem mL_feeds (l : Launch) (hfl : l.stackTraces = false) (D : vD) (x0 : Nat) (x1 : Nat) (M : vMe) (z : (Int32 × vMe)) (h : tL_feeds D.2.2.2.2 x0 x1 M = some z) : Met l yL_feeds (Cond.code yL_feeds cL_feeds 6 (some .boolean) :: TB) rmL_feeds (va_Pc [.ref x0, .ref x1] (vPre D M)) (qW D (some (.int z.1)) z.2) 20 100 (vA D) := by
  refine v_ofW (cc := cL_feeds) (maxL := 6) (ret := (some .boolean)) (by decide) (Nat.le_of_ble_eq_true rfl) ?_
  intro p e s m args below meth c Q hx hb hr hml hown hts hlk hnm hSS hR0 hQ ls hl
  have hz0 := hR0.2.1
  have hs0 := hR0.2.2.1
  have hb0 : D.2.2.2.1 ≤ s.heap.size := hR0.2.2.2.2.1
  refine v_tight hb0 ?_
  have hK := hSS.1
  have hl : lv_has ls 6 [(0, .ref x0), (1, .ref x1)] := hl
  unfold tL_feeds at h
  have L_feeds_L20p : ∀ (x0 : Nat) (x1 : Nat) (x2 : Int32) (x3 : Int32) (x4 : Nat), ∀ (f : Nat) (x5 : Int32) (Mi : vMe) (ls : Array Slot) (z : (Unit × vMe)), lv_has ls 6 [(0, .ref x0), (1, .ref x1), (2, .int x2), (3, .int x3), (4, .ref x4), (5, .int x5)] → tL_feeds_L20 D.2.2.2.2 M.2.1 M.2.2.1 x0 x1 x2 x3 x4 f x5 Mi = some z → (∀ ls : Array Slot, lv_has ls 6 [(0, .ref x0), (1, .ref x1), (2, .int x2), (3, .int x3), (4, .ref x4)] → vV D p l e rmL_feeds s m args below meth c (z.2.2.1 - s.heap.size) (z.2.2.2.1 - vSum D.2.2.2.1 s.heap) Q z.2 (F0 m 75 ls [])) → vV D p l e rmL_feeds s m args below meth c (Mi.2.1 - s.heap.size) (Mi.2.2.1 - vSum D.2.2.2.1 s.heap) Q Mi (F0 m 20 ls []) := by
    intro x0 x1 x2 x3 x4 f
    induction f with
    | zero =>
      intro x5 Mi ls z hl h
      exact absurd h (by simp [tL_feeds_L20])
    | succ f ih =>
      intro x5 Mi ls z hl h KX
      rw [tL_feeds_L20] at h
      have L_feeds_J67_20p : ∀ (x5 : Int32) (y0 : Nat) (y1 : Int32) (y2 : Int32) (y3 : Int32) (Mj : vMe) (ls : Array Slot), lv_has ls 6 [(0, .ref x0), (1, .ref x1), (2, .int x2), (3, .int x3), (4, .ref x4), (5, .int x5)] → tL_feeds_J67_20 (tL_feeds_L20 D.2.2.2.2 M.2.1 M.2.2.1 x0 x1 x2 x3 x4 f) M.2.1 M.2.2.1 x0 x1 x2 x3 x4 x5 y0 y1 y2 y3 Mj = some z → vV D p l e rmL_feeds s m args below meth c (Mj.2.1 - s.heap.size) (Mj.2.2.1 - vSum D.2.2.2.1 s.heap) Q Mj (F0 m 67 ls [.int y3, .int y2, .int y1, .ref y0]) := by
        intro x5 y0 y1 y2 y3 Mj ls hl h
        unfold tL_feeds_J67_20 at h
        refine w_ior hx hb dL_feeds_67 ?_
        obtain ⟨M8, eM8, h⟩ := v_bnd h
        refine v_iast hx hb hK eM8 dL_feeds_68 ?_
        refine w_iinc (v := x5 + 1) (lv' := [(5, .int (x5 + 1)), (0, .ref x0), (1, .ref x1), (2, .int x2), (3, .int x3), (4, .ref x4)]) hx hb dL_feeds_69 hl (j := 5) rfl rfl (by decide) rfl (fun ls hl => ?_)
        have hl : lv_has ls 6 [(0, .ref x0), (1, .ref x1), (2, .int x2), (3, .int x3), (4, .ref x4), (5, .int (x5 + 1))] := lv_sub hl [1, 2, 3, 4, 5, 0] rfl
        refine w_goto (tgt := 20) hx hb dL_feeds_72 (by decide) ?_
        refine v_tight hb0 ?_
        exact ih (x5 + 1) M8 ls z (lv_sub hl [0, 1, 2, 3, 4, 5] rfl) h KX
      refine w_iload hx hb dL_feeds_20 (lv_at hl 5 rfl) ?_
      refine w_bipush (v := 20) hx hb dL_feeds_22 (by decide) ?_
      refine w_icmp_ge (tgt := 75) hx hb dL_feeds_24 (by decide) (fun c4 => ?_) (fun c4 => ?_)
      · rw [if_pos c4] at h
        obtain rfl := Option.some.inj h
        refine v_tight hb0 ?_
        exact KX ls (lv_sub hl [0, 1, 2, 3, 4] rfl)
      · rw [if_neg c4] at h
        refine w_aload hx hb dL_feeds_27 (lv_at hl 4 rfl) ?_
        refine w_iload hx hb dL_feeds_29 (lv_at hl 5 rfl) ?_
        refine w_iconst (v := 4) hx hb dL_feeds_31 (by decide) ?_
        refine w_idiv hx hb dL_feeds_32 (by decide) ?_
        refine w_aload hx hb dL_feeds_33 (lv_at hl 4 rfl) ?_
        refine w_iload hx hb dL_feeds_35 (lv_at hl 5 rfl) ?_
        refine w_iconst (v := 4) hx hb dL_feeds_37 (by decide) ?_
        refine w_idiv hx hb dL_feeds_38 (by decide) ?_
        obtain ⟨v5, ev5, h⟩ := v_bnd h
        refine v_iald hx hb hK ev5 dL_feeds_39 ?_
        refine w_bipush (v := 8) hx hb dL_feeds_40 (by decide) ?_
        refine w_ishl hx hb dL_feeds_42 ?_
        refine w_iload_n hx hb dL_feeds_43 rfl (lv_at hl 3 rfl) ?_
        refine w_iload hx hb dL_feeds_44 (lv_at hl 5 rfl) ?_
        refine w_iadd hx hb dL_feeds_46 ?_
        refine w_aload_n hx hb dL_feeds_47 rfl (lv_at hl 1 rfl) ?_
        obtain ⟨g7, h⟩ := v_ifs h
        refine v_tight hb0 ?_
        obtain ⟨g8, h⟩ := v_ifs h
        obtain ⟨z6, ez6, h⟩ := v_bnd h
        refine v_call1 (v := .int z6) (M1 := Mi) (mc := 0) (ms := 0) (fun H locs hR hS => va_runV (As := []) (rest := [.int (x3 + x5), .int (v5 <<< (8 &&& 31)), .int (x5 / 4), .ref x4]) ⟨hx, hb, hml, hown, hts⟩ (mJ0_length_8abf5 l hfl D x1 Mi z6 ez6) (cwV 0 hts (gdV kw714 kw521 kw522 kw39 kw523) rfl rfl rfl (by decide +kernel) ⟨Nat.le_of_ble_eq_true rfl, Nat.le_of_ble_eq_true rfl⟩) (v_preV (ci := 0) hSS hR hS g8 (by decide) rfl []) rfl rfl hl.1 rfl (lv_room (Nat.le_of_ble_eq_true rfl)) dL_feeds_48 ⟨by show _ + _ ≤ 20; omega, by show _ + _ ≤ 100; omega⟩) ?_
        refine w_icmp_ge (tgt := 65) hx hb dL_feeds_51 (by decide) (fun c7 => ?_) (fun c7 => ?_)
        · rw [if_pos c7] at h
          refine w_bipush (v := 32) hx hb dL_feeds_65 (by decide) ?_
          refine v_tight hb0 ?_
          exact L_feeds_J67_20p x5 x4 (x5 / 4) (v5 <<< (8 &&& 31)) 32 Mi ls (lv_sub hl [0, 1, 2, 3, 4, 5] rfl) h
        · rw [if_neg c7] at h
          refine w_aload_n hx hb dL_feeds_54 rfl (lv_at hl 1 rfl) ?_
          refine w_iload_n hx hb dL_feeds_55 rfl (lv_at hl 3 rfl) ?_
          refine w_iload hx hb dL_feeds_56 (lv_at hl 5 rfl) ?_
          refine w_iadd hx hb dL_feeds_58 ?_
          obtain ⟨g7, h⟩ := v_ifs h
          refine v_tight hb0 ?_
          obtain ⟨g8, h⟩ := v_ifs h
          obtain ⟨z9, ez9, h⟩ := v_bnd h
          refine v_call1 (v := .int z9.1) (M1 := z9.2) (mc := 0) (ms := 0) (fun H locs hR hS => va_runV (As := [.int (x3 + x5)]) (rest := [.int (v5 <<< (8 &&& 31)), .int (x5 / 4), .ref x4]) ⟨hx, hb, hml, hown, hts⟩ (mJ0_charAt_5068e l hfl D x1 (x3 + x5) Mi z9 ez9) (cwV 1 hts (gdV kw715 kw716 kw717 kw39 kw718) rfl rfl rfl (by decide +kernel) ⟨Nat.le_of_ble_eq_true rfl, Nat.le_of_ble_eq_true rfl⟩) (v_preV (ci := 0) hSS hR hS g8 (by decide) rfl [.int (x3 + x5)]) rfl rfl hl.1 rfl (lv_room (Nat.le_of_ble_eq_true rfl)) dL_feeds_59 ⟨by show _ + _ ≤ 20; omega, by show _ + _ ≤ 100; omega⟩) ?_
          refine w_goto (tgt := 67) hx hb dL_feeds_62 (by decide) ?_
          refine v_tight hb0 ?_
          exact L_feeds_J67_20p x5 x4 (x5 / 4) (v5 <<< (8 &&& 31)) z9.1 z9.2 ls (lv_sub hl [0, 1, 2, 3, 4, 5] rfl) h
  have L_feeds_L4p : ∀ (x0 : Nat) (x1 : Nat), ∀ (f : Nat) (x2 : Int32) (x3 : Int32) (Mi : vMe) (ls : Array Slot) (z : ((Int32 ⊕ Unit) × vMe)), lv_has ls 6 [(0, .ref x0), (1, .ref x1), (2, .int x2), (3, .int x3)] → tL_feeds_L4 D.2.2.2.2 M.2.1 M.2.2.1 x0 x1 f x2 x3 Mi = some z → (∀ w, z.1 = Sum.inr w → ∀ ls : Array Slot, lv_has ls 6 [] → vV D p l e rmL_feeds s m args below meth c (z.2.2.1 - s.heap.size) (z.2.2.2.1 - vSum D.2.2.2.1 s.heap) Q z.2 (F0 m 114 ls [])) → (∀ r9, z.1 = Sum.inl r9 → Q = MQ below (qW D (some (.int r9)) z.2) args s 20 100 (vA D)) → vV D p l e rmL_feeds s m args below meth c (Mi.2.1 - s.heap.size) (Mi.2.2.1 - vSum D.2.2.2.1 s.heap) Q Mi (F0 m 4 ls []) := by
    intro x0 x1 f
    induction f with
    | zero =>
      intro x2 x3 Mi ls z hl h
      exact absurd h (by simp [tL_feeds_L4])
    | succ f ih =>
      intro x2 x3 Mi ls z hl h KX KR
      rw [tL_feeds_L4] at h
      refine w_iload_n hx hb dL_feeds_4 rfl (lv_at hl 3 rfl) ?_
      refine w_aload_n hx hb dL_feeds_5 rfl (lv_at hl 1 rfl) ?_
      obtain ⟨g7, h⟩ := v_ifs h
      refine v_tight hb0 ?_
      obtain ⟨g8, h⟩ := v_ifs h
      obtain ⟨z1, ez1, h⟩ := v_bnd h
      refine v_call1 (v := .int z1) (M1 := Mi) (mc := 0) (ms := 0) (fun H locs hR hS => va_runV (As := []) (rest := [.int x3]) ⟨hx, hb, hml, hown, hts⟩ (mJ0_length_8abf5 l hfl D x1 Mi z1 ez1) (cwV 0 hts (gdV kw714 kw521 kw522 kw39 kw523) rfl rfl rfl (by decide +kernel) ⟨Nat.le_of_ble_eq_true rfl, Nat.le_of_ble_eq_true rfl⟩) (v_preV (ci := 0) hSS hR hS g8 (by decide) rfl []) rfl rfl hl.1 rfl (lv_room (Nat.le_of_ble_eq_true rfl)) dL_feeds_6 ⟨by show _ + _ ≤ 20; omega, by show _ + _ ≤ 100; omega⟩) ?_
      refine w_icmp_ge (tgt := 114) hx hb dL_feeds_9 (by decide) (fun c2 => ?_) (fun c2 => ?_)
      · rw [if_pos c2] at h
        obtain rfl := Option.some.inj h
        refine v_tight hb0 ?_
        exact KX _ rfl ls (lv_sub hl [] rfl)
      · rw [if_neg c2] at h
        refine w_iconst (v := 5) hx hb dL_feeds_12 (by decide) ?_
        obtain ⟨M3, eM3, h⟩ := v_bnd h
        refine u_newa (x := 5) (atype := .int) hx hb hK (hts _ kw163) (by decide) (by decide) rfl (by decide) (by decide) (by decide) hb0 hz0 hs0 rfl rfl eM3 dL_feeds_13 ?_
        refine w_astore (lv' := [(4, .ref Mi.2.1), (0, .ref x0), (1, .ref x1), (2, .int x2), (3, .int x3)]) hx hb dL_feeds_15 hl (by decide) rfl (fun ls hl => ?_)
        have hl : lv_has ls 6 [(0, .ref x0), (1, .ref x1), (2, .int x2), (3, .int x3), (4, .ref Mi.2.1)] := lv_sub hl [1, 2, 3, 4, 0] rfl
        refine w_iconst (v := 0) hx hb dL_feeds_17 (by decide) ?_
        refine w_istore (lv' := [(5, .int 0), (0, .ref x0), (1, .ref x1), (2, .int x2), (3, .int x3), (4, .ref Mi.2.1)]) hx hb dL_feeds_18 hl (by decide) rfl (fun ls hl => ?_)
        have hl : lv_has ls 6 [(0, .ref x0), (1, .ref x1), (2, .int x2), (3, .int x3), (4, .ref Mi.2.1), (5, .int 0)] := lv_sub hl [1, 2, 3, 4, 5, 0] rfl
        obtain ⟨z10, ez10, h⟩ := v_bnd h
        refine v_tight hb0 ?_
        refine L_feeds_L20p x0 x1 x2 x3 Mi.2.1 vF 0 M3 ls z10 (lv_sub hl [0, 1, 2, 3, 4, 5] rfl) ez10 (fun ls hl => ?_)
        refine w_iinc (v := x2 + 20) (lv' := [(2, .int (x2 + 20)), (0, .ref x0), (1, .ref x1), (3, .int x3), (4, .ref Mi.2.1)]) hx hb dL_feeds_75 hl (j := 2) rfl rfl (by decide) rfl (fun ls hl => ?_)
        have hl : lv_has ls 6 [(0, .ref x0), (1, .ref x1), (2, .int (x2 + 20)), (3, .int x3), (4, .ref Mi.2.1)] := lv_sub hl [1, 2, 0, 3, 4] rfl
        refine w_aload_n hx hb dL_feeds_78 rfl (lv_at hl 0 rfl) ?_
        refine w_aload hx hb dL_feeds_79 (lv_at hl 4 rfl) ?_
        refine w_iconst (v := 0) hx hb dL_feeds_81 (by decide) ?_
        obtain ⟨v11, ev11, h⟩ := v_bnd h
        refine v_iald hx hb hK ev11 dL_feeds_82 ?_
        refine w_aload hx hb dL_feeds_83 (lv_at hl 4 rfl) ?_
        refine w_iconst (v := 1) hx hb dL_feeds_85 (by decide) ?_
        obtain ⟨v12, ev12, h⟩ := v_bnd h
        refine v_iald hx hb hK ev12 dL_feeds_86 ?_
        refine w_aload hx hb dL_feeds_87 (lv_at hl 4 rfl) ?_
        refine w_iconst (v := 2) hx hb dL_feeds_89 (by decide) ?_
        obtain ⟨v13, ev13, h⟩ := v_bnd h
        refine v_iald hx hb hK ev13 dL_feeds_90 ?_
        refine w_aload hx hb dL_feeds_91 (lv_at hl 4 rfl) ?_
        refine w_iconst (v := 3) hx hb dL_feeds_93 (by decide) ?_
        obtain ⟨v14, ev14, h⟩ := v_bnd h
        refine v_iald hx hb hK ev14 dL_feeds_94 ?_
        refine w_aload hx hb dL_feeds_95 (lv_at hl 4 rfl) ?_
        refine w_iconst (v := 4) hx hb dL_feeds_97 (by decide) ?_
        obtain ⟨v15, ev15, h⟩ := v_bnd h
        refine v_iald hx hb hK ev15 dL_feeds_98 ?_
        obtain ⟨g7, h⟩ := v_ifs h
        refine v_tight hb0 ?_
        obtain ⟨g8, h⟩ := v_ifs h
        obtain ⟨z16, ez16, h⟩ := v_bnd h
        refine v_call1 (v := .int z16.1) (M1 := z16.2) (mc := 0) (ms := 0) (fun H locs hR hS => va_runV (As := [.int v11, .int v12, .int v13, .int v14, .int v15]) (rest := []) ⟨hx, hb, hml, hown, hts⟩ (mX9_append l hfl D x0 v11 v12 v13 v14 v15 z10.2 z16 ez16) (cwV 5 hts (gdV kw730 kw731 kw732 kw27 kw733) rfl rfl rfl (by decide +kernel) ⟨Nat.le_of_ble_eq_true rfl, Nat.le_of_ble_eq_true rfl⟩) (v_preV (ci := 10) hSS hR hS g8 (by decide) rfl [.int v11, .int v12, .int v13, .int v14, .int v15]) rfl rfl hl.1 rfl (lv_room (Nat.le_of_ble_eq_true rfl)) dL_feeds_99 ⟨by show _ + _ ≤ 20; omega, by show _ + _ ≤ 100; omega⟩) ?_
        refine w_iload_n hx hb dL_feeds_102 rfl (lv_at hl 2 rfl) ?_
        refine w_icmp_eq (tgt := 108) hx hb dL_feeds_103 (by decide) (fun c17 => ?_) (fun c17 => ?_)
        · rw [if_pos c17] at h
          refine w_iinc (v := x3 + 20) (lv' := [(3, .int (x3 + 20)), (0, .ref x0), (1, .ref x1), (2, .int (x2 + 20)), (4, .ref Mi.2.1)]) hx hb dL_feeds_108 hl (j := 3) rfl rfl (by decide) rfl (fun ls hl => ?_)
          have hl : lv_has ls 6 [(0, .ref x0), (1, .ref x1), (2, .int (x2 + 20)), (3, .int (x3 + 20)), (4, .ref Mi.2.1)] := lv_sub hl [1, 2, 3, 0, 4] rfl
          refine w_goto (tgt := 4) hx hb dL_feeds_111 (by decide) ?_
          refine v_tight hb0 ?_
          exact ih (x2 + 20) (x3 + 20) z16.2 ls z (lv_sub hl [0, 1, 2, 3] rfl) h KX KR
        · rw [if_neg c17] at h
          refine w_iconst (v := 0) hx hb dL_feeds_106 (by decide) ?_
          obtain ⟨g9, h⟩ := v_ifs h
          refine v_tight hb0 (vV.widen (n' := 20) (k' := 100) (by omega) (by omega) ?_)
          obtain rfl := Option.some.inj h
          rw [KR _ rfl]
          exact v_zret (x := 0) hx hb hr hlk rfl dL_feeds_107
  refine w_iconst (v := 0) hx hb dL_feeds_0 (by decide) ?_
  refine w_istore_n (lv' := [(2, .int 0), (0, .ref x0), (1, .ref x1)]) hx hb dL_feeds_1 rfl hl (by decide) rfl (fun ls hl => ?_)
  have hl : lv_has ls 6 [(0, .ref x0), (1, .ref x1), (2, .int 0)] := lv_sub hl [1, 2, 0] rfl
  refine w_iconst (v := 0) hx hb dL_feeds_2 (by decide) ?_
  refine w_istore_n (lv' := [(3, .int 0), (0, .ref x0), (1, .ref x1), (2, .int 0)]) hx hb dL_feeds_3 rfl hl (by decide) rfl (fun ls hl => ?_)
  have hl : lv_has ls 6 [(0, .ref x0), (1, .ref x1), (2, .int 0), (3, .int 0)] := lv_sub hl [1, 2, 3, 0] rfl
  obtain ⟨z18, ez18, h⟩ := v_bnd h
  refine v_tight hb0 ?_
  refine L_feeds_L4p x0 x1 vF 0 0 M ls z18 (lv_sub hl [0, 1, 2, 3] rfl) ez18 (fun w19 qw19 ls hl => ?_) (fun r20 qr20 => ?_)
  · replace h := v_inr qw19 h
    refine w_iconst (v := 1) hx hb dL_feeds_114 (by decide) ?_
    obtain ⟨g9, h⟩ := v_ifs h
    refine v_tight hb0 (vV.widen (n' := 20) (k' := 100) (by omega) (by omega) ?_)
    obtain rfl := Option.some.inj h
    rw [hQ]
    exact v_zret (x := 1) hx hb hr hlk rfl dL_feeds_115
  · replace h := v_inl qr20 h
    obtain rfl := Option.some.inj h
    exact hQ

def tL_draw (x0 : Nat) (x1 : Int32) (M : vMe) : Option (Int32 × vMe) :=
  (aI M x0 101 0).bind fun v1 =>
  (sA M x0 101 0 (.int ((v1 * 1664525) + 1013904223))).bind fun M2 =>
  (aI M2 x0 101 0).bind fun v3 =>
  if ¬ x1 = 0 then
  (some (((v3.toUInt32 >>> ((8 : Int32).toUInt32 &&& Int32.toUInt32 31)).toInt32) - ((v3.toUInt32 >>> ((8 : Int32).toUInt32 &&& Int32.toUInt32 31)).toInt32) / x1 * x1, M2))
else none
def rmL_draw : Room := { frames := 1, cells := 0, slots := 0, locals := 0 }
set_option maxHeartbeats 4000000 in
set_option maxRecDepth 100000 in
theorem mL_draw (l : Launch) (hfl : l.stackTraces = false) (D : vD) (x0 : Nat) (x1 : Int32) (M : vMe) (z : (Int32 × vMe)) (h : tL_draw x0 x1 M = some z) : Met l yL_draw (Cond.code yL_draw cL_draw 2 (some .int) :: TB) rmL_draw (va_Pc [.ref x0, .int x1] (vPre D M)) (qW D (some (.int z.1)) z.2) 0 0 (vA D) := by
  refine v_ofW (cc := cL_draw) (maxL := 2) (ret := (some .int)) (by decide) (Nat.le_of_ble_eq_true rfl) ?_
  intro p e s m args below meth c Q hx hb hr hml hown hts hlk hnm hSS hR0 hQ ls hl
  have hK := hSS.1
  have hl : lv_has ls 2 [(0, .ref x0), (1, .int x1)] := hl
  unfold tL_draw at h
  refine w_aload_n hx hb dL_draw_0 rfl (lv_at hl 0 rfl) ?_
  refine w_iconst (v := 0) hx hb dL_draw_1 (by decide) ?_
  refine w_aload_n hx hb dL_draw_2 rfl (lv_at hl 0 rfl) ?_
  refine w_iconst (v := 0) hx hb dL_draw_3 (by decide) ?_
  obtain ⟨v1, ev1, h⟩ := v_bnd h
  refine v_iald hx hb hK ev1 dL_draw_4 ?_
  refine w_ldcI hx hb hown (hts _ kw409) dL_draw_5 ?_
  refine w_imul hx hb dL_draw_7 ?_
  refine w_ldcI hx hb hown (hts _ kw410) dL_draw_8 ?_
  refine w_iadd hx hb dL_draw_10 ?_
  obtain ⟨M2, eM2, h⟩ := v_bnd h
  refine v_iast hx hb hK eM2 dL_draw_11 ?_
  refine w_aload_n hx hb dL_draw_12 rfl (lv_at hl 0 rfl) ?_
  refine w_iconst (v := 0) hx hb dL_draw_13 (by decide) ?_
  obtain ⟨v3, ev3, h⟩ := v_bnd h
  refine v_iald hx hb hK ev3 dL_draw_14 ?_
  refine w_bipush (v := 8) hx hb dL_draw_15 (by decide) ?_
  refine w_iushr hx hb dL_draw_17 ?_
  refine w_iload_n hx hb dL_draw_18 rfl (lv_at hl 1 rfl) ?_
  obtain ⟨g9, h⟩ := v_ifs h
  refine w_irem hx hb dL_draw_19 g9 ?_
  obtain rfl := Option.some.inj h
  rw [hQ]
  exact v_iret hx hb hr hlk dL_draw_20

def tJ5_inflateIfNeededFor_a7421 (x0 : Nat) (x1 : Nat) (M : vMe) : Option (Unit × vMe) :=
  if (1 : Int32) = 0 then
  (some ((), M))
else
  ((gI M x0 2 1).bind fun v2 =>
  if (M.1 x1).1 = 1 then
  ((tJ0_coder_7d493 x1 M).bind fun z3 =>
  if v2 = z3 then
  (some ((), M))
else
  (none))
else none)
def rmJ5_inflateIfNeededFor_a7421 : Room := { frames := 2, cells := 0, slots := 0, locals := 20 }
set_option maxHeartbeats 4000000 in
set_option maxRecDepth 100000 in
theorem mJ5_inflateIfNeededFor_a7421 (l : Launch) (hfl : l.stackTraces = false) (D : vD) (x0 : Nat) (x1 : Nat) (M : vMe) (z : (Unit × vMe)) (h : tJ5_inflateIfNeededFor_a7421 x0 x1 M = some z) : Met l yJ5_inflateIfNeededFor_a7421 (Cond.code yJ5_inflateIfNeededFor_a7421 cJ5_inflateIfNeededFor_a7421 2 none :: TB) rmJ5_inflateIfNeededFor_a7421 (va_Pc [.ref x0, .ref x1] (vPre D M)) (qW D none z.2) 0 0 (vA D) := by
  refine v_ofW (cc := cJ5_inflateIfNeededFor_a7421) (maxL := 2) (ret := none) (by decide) (Nat.le_of_ble_eq_true rfl) ?_
  intro p e s m args below meth c Q hx hb hr hml hown hts hlk hnm hSS hR0 hQ ls hl
  have hK := hSS.1
  have hl : lv_has ls 2 [(0, .ref x0), (1, .ref x1)] := hl
  unfold tJ5_inflateIfNeededFor_a7421 at h
  refine w_gets hx hb hSS.2.2.2.2.1 hown (hts _ kw420) (fun _ h9 => h9) dJ5_inflateIfNeededFor_a7421_0 ?_
  refine w_if_eq (tgt := 21) hx hb dJ5_inflateIfNeededFor_a7421_3 (by decide) (fun c1 => ?_) (fun c1 => ?_)
  · rw [if_pos c1] at h
    obtain rfl := Option.some.inj h
    rw [hQ]
    exact v_vret hx hb hr hlk dJ5_inflateIfNeededFor_a7421_21
  · rw [if_neg c1] at h
    refine w_aload_n hx hb dJ5_inflateIfNeededFor_a7421_6 rfl (lv_at hl 0 rfl) ?_
    obtain ⟨v2, ev2, h⟩ := v_bnd h
    refine v_gI (ci := 1) hx hb hts iwJ4 hown hK 1 ev2 rfl (by decide) (Or.inl (hts _ kw430)) (fun _ h9 => h9) dJ5_inflateIfNeededFor_a7421_7 ?_
    refine w_aload_n hx hb dJ5_inflateIfNeededFor_a7421_10 rfl (lv_at hl 1 rfl) ?_
    obtain ⟨g8, h⟩ := v_ifs h
    obtain ⟨z3, ez3, h⟩ := v_bnd h
    refine v_call1 (v := .int z3) (M1 := M) (mc := 0) (ms := 0) (fun H locs hR hS => va_runV (As := []) (rest := [.int v2]) ⟨hx, hb, hml, hown, hts⟩ (mJ0_coder_7d493 l hfl D x1 M z3 ez3) (cwV 0 hts (gdV kw537 kw525 kw526 kw39 kw527) rfl rfl rfl (by decide +kernel) ⟨Nat.le_of_ble_eq_true rfl, Nat.le_of_ble_eq_true rfl⟩) (v_preV (ci := 0) hSS hR hS g8 (by decide) rfl []) rfl rfl hl.1 rfl (lv_room (Nat.le_of_ble_eq_true rfl)) dJ5_inflateIfNeededFor_a7421_11 ⟨Nat.zero_le _, Nat.zero_le _⟩) ?_
    refine w_icmp_eq (tgt := 21) hx hb dJ5_inflateIfNeededFor_a7421_14 (by decide) (fun c4 => ?_) (fun c4 => ?_)
    · rw [if_pos c4] at h
      obtain rfl := Option.some.inj h
      rw [hQ]
      exact v_vret hx hb hr hlk dJ5_inflateIfNeededFor_a7421_21
    · rw [if_neg c4] at h
      refine w_aload_n hx hb dJ5_inflateIfNeededFor_a7421_17 rfl (lv_at hl 0 rfl) ?_
      exact nomatch h

def tJ0_getBytes_840e7 (x0 : Nat) (x1 : Nat) (x2 : Int32) (x3 : Int32) (M : vMe) : Option (Unit × vMe) :=
  if (M.1 x0).1 = 1 then
  ((tJ0_coder_7d493 x0 M).bind fun z1 =>
  if z1 = x3 then
  ((gA M x0 1 0).bind fun a3 =>
  (gA M x0 1 0).bind fun a4 =>
  (aN M a4 102).bind fun v5 =>
  (cpA M a3 x1 102 0 (x2 <<< (x3 &&& 31)) v5).bind fun M6 =>
  some ((), M6))
else
  ((gA M x0 1 0).bind fun a7 =>
  (gA M x0 1 0).bind fun a8 =>
  (aN M a8 102).bind fun v9 =>
  none))
else none
def rmJ0_getBytes_840e7 : Room := { frames := 2, cells := 0, slots := 0, locals := 60 }
set_option maxHeartbeats 4000000 in
set_option maxRecDepth 100000 in
theorem mJ0_getBytes_840e7 (l : Launch) (hfl : l.stackTraces = false) (D : vD) (x0 : Nat) (x1 : Nat) (x2 : Int32) (x3 : Int32) (M : vMe) (z : (Unit × vMe)) (h : tJ0_getBytes_840e7 x0 x1 x2 x3 M = some z) : Met l yJ0_getBytes_840e7 (Cond.code yJ0_getBytes_840e7 cJ0_getBytes_840e7 4 none :: TB) rmJ0_getBytes_840e7 (va_Pc [.ref x0, .ref x1, .int x2, .int x3] (vPre D M)) (qW D none z.2) 0 0 (vA D) := by
  refine v_ofW (cc := cJ0_getBytes_840e7) (maxL := 4) (ret := none) (by decide) (Nat.le_of_ble_eq_true rfl) ?_
  intro p e s m args below meth c Q hx hb hr hml hown hts hlk hnm hSS hR0 hQ ls hl
  have hK := hSS.1
  have hl : lv_has ls 4 [(0, .ref x0), (1, .ref x1), (2, .int x2), (3, .int x3)] := hl
  unfold tJ0_getBytes_840e7 at h
  refine w_aload_n hx hb dJ0_getBytes_840e7_0 rfl (lv_at hl 0 rfl) ?_
  obtain ⟨g8, h⟩ := v_ifs h
  obtain ⟨z1, ez1, h⟩ := v_bnd h
  refine v_call1 (v := .int z1) (M1 := M) (mc := 0) (ms := 0) (fun H locs hR hS => va_runV (As := []) (rest := []) ⟨hx, hb, hml, hown, hts⟩ (mJ0_coder_7d493 l hfl D x0 M z1 ez1) (cwV 0 hts (gdV kw524 kw525 kw526 kw39 kw527) rfl rfl rfl (by decide +kernel) ⟨Nat.le_of_ble_eq_true rfl, Nat.le_of_ble_eq_true rfl⟩) (v_preV (ci := 0) hSS hR hS g8 (by decide) rfl []) rfl rfl hl.1 rfl (lv_room (Nat.le_of_ble_eq_true rfl)) dJ0_getBytes_840e7_1 ⟨Nat.zero_le _, Nat.zero_le _⟩) ?_
  refine w_iload_n hx hb dJ0_getBytes_840e7_4 rfl (lv_at hl 3 rfl) ?_
  refine w_icmp_ne (tgt := 28) hx hb dJ0_getBytes_840e7_5 (by decide) (fun c2 => ?_) (fun c2 => ?_)
  · rw [if_pos c2] at h
    refine w_aload_n hx hb dJ0_getBytes_840e7_8 rfl (lv_at hl 0 rfl) ?_
    obtain ⟨a3, ea3, h⟩ := v_bnd h
    refine v_gA (ci := 0) hx hb hts iwJ0 hown hK 0 ea3 rfl (by decide) (Or.inl (hts _ kw639)) (fun _ h9 => h9) dJ0_getBytes_840e7_9 ?_
    refine w_iconst (v := 0) hx hb dJ0_getBytes_840e7_12 (by decide) ?_
    refine w_aload_n hx hb dJ0_getBytes_840e7_13 rfl (lv_at hl 1 rfl) ?_
    refine w_iload_n hx hb dJ0_getBytes_840e7_14 rfl (lv_at hl 2 rfl) ?_
    refine w_iload_n hx hb dJ0_getBytes_840e7_15 rfl (lv_at hl 3 rfl) ?_
    refine w_ishl hx hb dJ0_getBytes_840e7_16 ?_
    refine w_aload_n hx hb dJ0_getBytes_840e7_17 rfl (lv_at hl 0 rfl) ?_
    obtain ⟨a4, ea4, h⟩ := v_bnd h
    refine v_gA (ci := 0) hx hb hts iwJ0 hown hK 0 ea4 rfl (by decide) (Or.inl (hts _ kw639)) (fun _ h9 => h9) dJ0_getBytes_840e7_18 ?_
    obtain ⟨v5, ev5, h⟩ := v_bnd h
    refine v_alen hx hb hK ev5 (by decide) dJ0_getBytes_840e7_21 ?_
    obtain ⟨M6, eM6, h⟩ := v_bnd h
    refine v_copy hx hb (hml.trans hl.1.symm) hown hK (hts _ kw561) (hts _ kw488) (hts _ kw487) (hts _ kw44) eM6 v_cpB (Nat.le_of_ble_eq_true rfl) (Nat.le_of_ble_eq_true rfl) dJ0_getBytes_840e7_22 ?_
    refine w_goto (tgt := 43) hx hb dJ0_getBytes_840e7_25 (by decide) ?_
    obtain rfl := Option.some.inj h
    rw [hQ]
    exact v_vret hx hb hr hlk dJ0_getBytes_840e7_43
  · rw [if_neg c2] at h
    refine w_aload_n hx hb dJ0_getBytes_840e7_28 rfl (lv_at hl 0 rfl) ?_
    obtain ⟨a7, ea7, h⟩ := v_bnd h
    refine v_gA (ci := 0) hx hb hts iwJ0 hown hK 0 ea7 rfl (by decide) (Or.inl (hts _ kw639)) (fun _ h9 => h9) dJ0_getBytes_840e7_29 ?_
    refine w_iconst (v := 0) hx hb dJ0_getBytes_840e7_32 (by decide) ?_
    refine w_aload_n hx hb dJ0_getBytes_840e7_33 rfl (lv_at hl 1 rfl) ?_
    refine w_iload_n hx hb dJ0_getBytes_840e7_34 rfl (lv_at hl 2 rfl) ?_
    refine w_aload_n hx hb dJ0_getBytes_840e7_35 rfl (lv_at hl 0 rfl) ?_
    obtain ⟨a8, ea8, h⟩ := v_bnd h
    refine v_gA (ci := 0) hx hb hts iwJ0 hown hK 0 ea8 rfl (by decide) (Or.inl (hts _ kw639)) (fun _ h9 => h9) dJ0_getBytes_840e7_36 ?_
    obtain ⟨v9, ev9, h⟩ := v_bnd h
    refine v_alen hx hb hK ev9 (by decide) dJ0_getBytes_840e7_39 ?_
    exact nomatch h

def tJ5_putStringAt_47b60 (x0 : Nat) (x1 : Int32) (x2 : Nat) (M : vMe) : Option (Unit × vMe) :=
  if (M.1 x0).1 = 2 then
  ((tJ5_inflateIfNeededFor_a7421 x0 x2 M).bind fun z1 =>
  (gA z1.2 x0 2 0).bind fun a2 =>
  (gI z1.2 x0 2 1).bind fun v3 =>
  if (z1.2.1 x2).1 = 1 then
  ((tJ0_getBytes_840e7 x2 a2 x1 v3 z1.2).bind fun z4 =>
  some ((), z4.2))
else none)
else none
def rmJ5_putStringAt_47b60 : Room := { frames := 3, cells := 0, slots := 0, locals := 83 }
set_option maxHeartbeats 4000000 in
set_option maxRecDepth 100000 in
theorem mJ5_putStringAt_47b60 (l : Launch) (hfl : l.stackTraces = false) (D : vD) (x0 : Nat) (x1 : Int32) (x2 : Nat) (M : vMe) (z : (Unit × vMe)) (h : tJ5_putStringAt_47b60 x0 x1 x2 M = some z) : Met l yJ5_putStringAt_47b60 (Cond.code yJ5_putStringAt_47b60 cJ5_putStringAt_47b60 3 none :: TB) rmJ5_putStringAt_47b60 (va_Pc [.ref x0, .int x1, .ref x2] (vPre D M)) (qW D none z.2) 0 0 (vA D) := by
  refine v_ofW (cc := cJ5_putStringAt_47b60) (maxL := 3) (ret := none) (by decide) (Nat.le_of_ble_eq_true rfl) ?_
  intro p e s m args below meth c Q hx hb hr hml hown hts hlk hnm hSS hR0 hQ ls hl
  have hK := hSS.1
  have hl : lv_has ls 3 [(0, .ref x0), (1, .int x1), (2, .ref x2)] := hl
  unfold tJ5_putStringAt_47b60 at h
  refine w_aload_n hx hb dJ5_putStringAt_47b60_0 rfl (lv_at hl 0 rfl) ?_
  refine w_aload_n hx hb dJ5_putStringAt_47b60_1 rfl (lv_at hl 2 rfl) ?_
  obtain ⟨g8, h⟩ := v_ifs h
  obtain ⟨z1, ez1, h⟩ := v_bnd h
  refine v_call0 (M1 := z1.2) (mc := 0) (ms := 0) (fun H locs hR hS => va_runU (As := [.ref x2]) (rest := []) ⟨hx, hb, hml, hown, hts⟩ (mJ5_inflateIfNeededFor_a7421 l hfl D x0 x2 M z1 ez1) (va_cwU 1 hts (gdU kw533 kw1385 kwE3 kw535 kw37 kw536) rfl rfl rfl rfl (by decide +kernel) ⟨Nat.le_of_ble_eq_true rfl, Nat.le_of_ble_eq_true rfl⟩) (v_preV (ci := 1) hSS hR hS g8 (by decide) rfl [.ref x2]) rfl rfl hl.1 rfl (lv_room (Nat.le_of_ble_eq_true rfl)) dJ5_putStringAt_47b60_2 ⟨Nat.zero_le _, Nat.zero_le _⟩) ?_
  refine w_aload_n hx hb dJ5_putStringAt_47b60_5 rfl (lv_at hl 2 rfl) ?_
  refine w_aload_n hx hb dJ5_putStringAt_47b60_6 rfl (lv_at hl 0 rfl) ?_
  obtain ⟨a2, ea2, h⟩ := v_bnd h
  refine v_gA (ci := 1) hx hb hts iwJ4 hown hK 0 ea2 rfl (by decide) (Or.inl (hts _ kw429)) (fun _ h9 => h9) dJ5_putStringAt_47b60_7 ?_
  refine w_iload_n hx hb dJ5_putStringAt_47b60_10 rfl (lv_at hl 1 rfl) ?_
  refine w_aload_n hx hb dJ5_putStringAt_47b60_11 rfl (lv_at hl 0 rfl) ?_
  obtain ⟨v3, ev3, h⟩ := v_bnd h
  refine v_gI (ci := 1) hx hb hts iwJ4 hown hK 1 ev3 rfl (by decide) (Or.inl (hts _ kw430)) (fun _ h9 => h9) dJ5_putStringAt_47b60_12 ?_
  obtain ⟨g8, h⟩ := v_ifs h
  obtain ⟨z4, ez4, h⟩ := v_bnd h
  refine v_call0 (M1 := z4.2) (mc := 0) (ms := 0) (fun H locs hR hS => va_runV (As := [.ref a2, .int x1, .int v3]) (rest := []) ⟨hx, hb, hml, hown, hts⟩ (mJ0_getBytes_840e7 l hfl D x2 a2 x1 v3 z1.2 z4 ez4) (cwV 3 hts (gdV kw557 kw558 kw559 kw39 kw560) rfl rfl rfl (by decide +kernel) ⟨Nat.le_of_ble_eq_true rfl, Nat.le_of_ble_eq_true rfl⟩) (v_preV (ci := 0) hSS hR hS g8 (by decide) rfl [.ref a2, .int x1, .int v3]) rfl rfl hl.1 rfl (lv_room (Nat.le_of_ble_eq_true rfl)) dJ5_putStringAt_47b60_15 ⟨Nat.zero_le _, Nat.zero_le _⟩) ?_
  obtain rfl := Option.some.inj h
  rw [hQ]
  exact v_vret hx hb hr hlk dJ5_putStringAt_47b60_18

def tJ5_append_cf1ce (x0 : Nat) (x1 : Nat) (M : vMe) : Option (Nat × vMe) :=
  if M.2.1 + 0 ≤ M.2.1 + 1 ∧ M.2.2.1 + 0 ≤ M.2.2.1 + 250 then
  (if (M.1 x1).1 = 1 then
  ((tJ0_length_8abf5 x1 M).bind fun z1 =>
  (gI M x0 2 3).bind fun v2 =>
  if M.2.1 + 1 ≤ M.2.1 + 1 ∧ M.2.2.1 + 250 ≤ M.2.2.1 + 250 then
  (if (M.1 x0).1 = 2 then
  ((tJ5_ensureCapacityInternal_d00df x0 (v2 + z1) M).bind fun z3 =>
  (gI z3.2 x0 2 3).bind fun v4 =>
  if z3.2.2.1 + 0 ≤ M.2.1 + 1 ∧ z3.2.2.2.1 + 0 ≤ M.2.2.1 + 250 then
  (if (z3.2.1 x0).1 = 2 then
  ((tJ5_putStringAt_47b60 x0 v4 x1 z3.2).bind fun z5 =>
  (gI z5.2 x0 2 3).bind fun v6 =>
  (sV z5.2 x0 2 3 (.int (v6 + z1))).bind fun M7 =>
  if M7.2.1 ≤ M.2.1 + 1 ∧ M7.2.2.1 ≤ M.2.2.1 + 250 then some (x0, M7) else none)
else none)
else none)
else none)
else none)
else none)
else none
def rmJ5_append_cf1ce : Room := { frames := 4, cells := 1, slots := 250, locals := 130 }
set_option maxHeartbeats 4000000 in
set_option maxRecDepth 100000 in
theorem mJ5_append_cf1ce (l : Launch) (hfl : l.stackTraces = false) (D : vD) (x0 : Nat) (x1 : Nat) (M : vMe) (z : (Nat × vMe)) (h : tJ5_append_cf1ce x0 x1 M = some z) : Met l yJ5_append_cf1ce (Cond.code yJ5_append_cf1ce cJ5_append_cf1ce 3 (some (.object "java/lang/AbstractStringBuilder")) :: TB) rmJ5_append_cf1ce (va_Pc [.ref x0, .ref x1] (vPre D M)) (qW D (some (.ref z.1)) z.2) 1 250 (vA D) := by
  refine v_ofW (cc := cJ5_append_cf1ce) (maxL := 3) (ret := (some (.object "java/lang/AbstractStringBuilder"))) (by decide) (Nat.le_of_ble_eq_true rfl) ?_
  intro p e s m args below meth c Q hx hb hr hml hown hts hlk hnm hSS hR0 hQ ls hl
  have hz0 := hR0.2.1
  have hs0 := hR0.2.2.1
  have hb0 : D.2.2.2.1 ≤ s.heap.size := hR0.2.2.2.2.1
  refine v_tight hb0 ?_
  have hK := hSS.1
  have hl : lv_has ls 3 [(0, .ref x0), (1, .ref x1)] := hl
  unfold tJ5_append_cf1ce at h
  refine w_aload_n hx hb dJ5_append_cf1ce_0 rfl (lv_at hl 1 rfl) ?_
  refine w_ifnonnullR (tgt := 9) hx hb dJ5_append_cf1ce_1 (by decide) ?_
  refine w_aload_n hx hb dJ5_append_cf1ce_9 rfl (lv_at hl 1 rfl) ?_
  obtain ⟨g7, h⟩ := v_ifs h
  refine v_tight hb0 ?_
  obtain ⟨g8, h⟩ := v_ifs h
  obtain ⟨z1, ez1, h⟩ := v_bnd h
  refine v_call1 (v := .int z1) (M1 := M) (mc := 0) (ms := 0) (fun H locs hR hS => va_runV (As := []) (rest := []) ⟨hx, hb, hml, hown, hts⟩ (mJ0_length_8abf5 l hfl D x1 M z1 ez1) (cwV 0 hts (gdV kw520 kw521 kw522 kw39 kw523) rfl rfl rfl (by decide +kernel) ⟨Nat.le_of_ble_eq_true rfl, Nat.le_of_ble_eq_true rfl⟩) (v_preV (ci := 0) hSS hR hS g8 (by decide) rfl []) rfl rfl hl.1 rfl (lv_room (Nat.le_of_ble_eq_true rfl)) dJ5_append_cf1ce_10 ⟨by show _ + _ ≤ 1; omega, by show _ + _ ≤ 250; omega⟩) ?_
  refine w_istore_n (lv' := [(2, .int z1), (0, .ref x0), (1, .ref x1)]) hx hb dJ5_append_cf1ce_13 rfl hl (by decide) rfl (fun ls hl => ?_)
  have hl : lv_has ls 3 [(0, .ref x0), (1, .ref x1), (2, .int z1)] := lv_sub hl [1, 2, 0] rfl
  refine w_aload_n hx hb dJ5_append_cf1ce_14 rfl (lv_at hl 0 rfl) ?_
  refine w_aload_n hx hb dJ5_append_cf1ce_15 rfl (lv_at hl 0 rfl) ?_
  obtain ⟨v2, ev2, h⟩ := v_bnd h
  refine v_gI (ci := 1) hx hb hts iwJ4 hown hK 3 ev2 rfl (by decide) (Or.inl (hts _ kw432)) (fun _ h9 => h9) dJ5_append_cf1ce_16 ?_
  refine w_iload_n hx hb dJ5_append_cf1ce_19 rfl (lv_at hl 2 rfl) ?_
  refine w_iadd hx hb dJ5_append_cf1ce_20 ?_
  obtain ⟨g7, h⟩ := v_ifs h
  refine v_tight hb0 ?_
  obtain ⟨g8, h⟩ := v_ifs h
  obtain ⟨z3, ez3, h⟩ := v_bnd h
  refine v_call0 (M1 := z3.2) (mc := 1) (ms := 250) (fun H locs hR hS => va_runU (As := [.int (v2 + z1)]) (rest := []) ⟨hx, hb, hml, hown, hts⟩ (mJ5_ensureCapacityInternal_d00df l hfl D x0 (v2 + z1) M z3 ez3) (va_cwU 1 hts (gdU kw454 kw1382 kwE0 kw456 kw37 kw457) rfl rfl rfl rfl (by decide +kernel) ⟨Nat.le_of_ble_eq_true rfl, Nat.le_of_ble_eq_true rfl⟩) (v_preV (ci := 1) hSS hR hS g8 (by decide) rfl [.int (v2 + z1)]) rfl rfl hl.1 rfl (lv_room (Nat.le_of_ble_eq_true rfl)) dJ5_append_cf1ce_21 ⟨by show _ + _ ≤ 1; omega, by show _ + _ ≤ 250; omega⟩) ?_
  refine w_aload_n hx hb dJ5_append_cf1ce_24 rfl (lv_at hl 0 rfl) ?_
  refine w_aload_n hx hb dJ5_append_cf1ce_25 rfl (lv_at hl 0 rfl) ?_
  obtain ⟨v4, ev4, h⟩ := v_bnd h
  refine v_gI (ci := 1) hx hb hts iwJ4 hown hK 3 ev4 rfl (by decide) (Or.inl (hts _ kw432)) (fun _ h9 => h9) dJ5_append_cf1ce_26 ?_
  refine w_aload_n hx hb dJ5_append_cf1ce_29 rfl (lv_at hl 1 rfl) ?_
  obtain ⟨g7, h⟩ := v_ifs h
  refine v_tight hb0 ?_
  obtain ⟨g8, h⟩ := v_ifs h
  obtain ⟨z5, ez5, h⟩ := v_bnd h
  refine v_call0 (M1 := z5.2) (mc := 0) (ms := 0) (fun H locs hR hS => va_runU (As := [.int v4, .ref x1]) (rest := []) ⟨hx, hb, hml, hown, hts⟩ (mJ5_putStringAt_47b60 l hfl D x0 v4 x1 z3.2 z5 ez5) (va_cwU 2 hts (gdU kw529 kw1384 kwE2 kw531 kw37 kw532) rfl rfl rfl rfl (by decide +kernel) ⟨Nat.le_of_ble_eq_true rfl, Nat.le_of_ble_eq_true rfl⟩) (v_preV (ci := 1) hSS hR hS g8 (by decide) rfl [.int v4, .ref x1]) rfl rfl hl.1 rfl (lv_room (Nat.le_of_ble_eq_true rfl)) dJ5_append_cf1ce_30 ⟨by show _ + _ ≤ 1; omega, by show _ + _ ≤ 250; omega⟩) ?_
  refine w_aload_n hx hb dJ5_append_cf1ce_33 rfl (lv_at hl 0 rfl) ?_
  refine w_dup hx hb dJ5_append_cf1ce_34 rfl ?_
  obtain ⟨v6, ev6, h⟩ := v_bnd h
  refine v_gI (ci := 1) hx hb hts iwJ4 hown hK 3 ev6 rfl (by decide) (Or.inl (hts _ kw432)) (fun _ h9 => h9) dJ5_append_cf1ce_35 ?_
  refine w_iload_n hx hb dJ5_append_cf1ce_38 rfl (lv_at hl 2 rfl) ?_
  refine w_iadd hx hb dJ5_append_cf1ce_39 ?_
  obtain ⟨M7, eM7, h⟩ := v_bnd h
  refine v_putf (ci := 1) hx hb hts iwJ4 hown hK tyJ4_ok nmJ4 3 eM7 rfl (by decide) (Or.inl (hts _ kw432)) (fun _ h9 => h9) (Or.inl rfl) rfl rfl dJ5_append_cf1ce_40 ?_
  refine w_aload_n hx hb dJ5_append_cf1ce_43 rfl (lv_at hl 0 rfl) ?_
  obtain ⟨g9, h⟩ := v_ifs h
  refine v_tight hb0 (vV.widen (n' := 1) (k' := 250) (by omega) (by omega) ?_)
  obtain rfl := Option.some.inj h
  rw [hQ]
  exact v_aret hx hb hr (Or.inl ⟨_, rfl⟩) (Or.inr ⟨_, rfl⟩) hlk dJ5_append_cf1ce_44

def tJ4_append_15ec4 (x0 : Nat) (x1 : Nat) (M : vMe) : Option (Nat × vMe) :=
  if M.2.1 + 1 ≤ M.2.1 + 1 ∧ M.2.2.1 + 250 ≤ M.2.2.1 + 250 then
  (if (M.1 x0).1 = 2 then
  ((tJ5_append_cf1ce x0 x1 M).bind fun z1 =>
  if z1.2.2.1 ≤ M.2.1 + 1 ∧ z1.2.2.2.1 ≤ M.2.2.1 + 250 then some (x0, z1.2) else none)
else none)
else none
def rmJ4_append_15ec4 : Room := { frames := 5, cells := 1, slots := 250, locals := 152 }
set_option maxHeartbeats 4000000 in
set_option maxRecDepth 100000 in
theorem mJ4_append_15ec4 (l : Launch) (hfl : l.stackTraces = false) (D : vD) (x0 : Nat) (x1 : Nat) (M : vMe) (z : (Nat × vMe)) (h : tJ4_append_15ec4 x0 x1 M = some z) : Met l yJ4_append_15ec4 (Cond.code yJ4_append_15ec4 cJ4_append_15ec4 2 (some (.object "java/lang/StringBuilder")) :: TB) rmJ4_append_15ec4 (va_Pc [.ref x0, .ref x1] (vPre D M)) (qW D (some (.ref z.1)) z.2) 1 250 (vA D) := by
  refine v_ofW (cc := cJ4_append_15ec4) (maxL := 2) (ret := (some (.object "java/lang/StringBuilder"))) (by decide) (Nat.le_of_ble_eq_true rfl) ?_
  intro p e s m args below meth c Q hx hb hr hml hown hts hlk hnm hSS hR0 hQ ls hl
  have hz0 := hR0.2.1
  have hs0 := hR0.2.2.1
  have hb0 : D.2.2.2.1 ≤ s.heap.size := hR0.2.2.2.2.1
  refine v_tight hb0 ?_
  have hK := hSS.1
  have hl : lv_has ls 2 [(0, .ref x0), (1, .ref x1)] := hl
  unfold tJ4_append_15ec4 at h
  refine w_aload_n hx hb dJ4_append_15ec4_0 rfl (lv_at hl 0 rfl) ?_
  refine w_aload_n hx hb dJ4_append_15ec4_1 rfl (lv_at hl 1 rfl) ?_
  obtain ⟨g7, h⟩ := v_ifs h
  refine v_tight hb0 ?_
  obtain ⟨g8, h⟩ := v_ifs h
  obtain ⟨z1, ez1, h⟩ := v_bnd h
  refine v_call1 (v := .ref z1.1) (M1 := z1.2) (mc := 1) (ms := 250) (fun H locs hR hS => va_runSU (As := [.ref x1]) (rest := []) (hSS.1.1 1 _ rfl).2 ⟨hx, hb, hml, hown, hts⟩ (mJ5_append_cf1ce l hfl D x0 x1 M z1 ez1) (va_cwSU 1 hts (gdSU kw447 kw1380 kw441 kw448 kw37 kw449) rfl rfl rfl (by decide +kernel) ⟨Nat.le_of_ble_eq_true rfl, Nat.le_of_ble_eq_true rfl⟩) (v_preV (ci := 1) hSS hR hS g8 (by decide) rfl [.ref x1]) rfl rfl hl.1 rfl (lv_room (Nat.le_of_ble_eq_true rfl)) dJ4_append_15ec4_2 ⟨by show _ + _ ≤ 1; omega, by show _ + _ ≤ 250; omega⟩) ?_
  refine w_pop hx hb dJ4_append_15ec4_5 rfl ?_
  refine w_aload_n hx hb dJ4_append_15ec4_6 rfl (lv_at hl 0 rfl) ?_
  obtain ⟨g9, h⟩ := v_ifs h
  refine v_tight hb0 (vV.widen (n' := 1) (k' := 250) (by omega) (by omega) ?_)
  obtain rfl := Option.some.inj h
  rw [hQ]
  exact v_aret hx hb hr (Or.inl ⟨_, rfl⟩) (Or.inr ⟨_, rfl⟩) hlk dJ4_append_15ec4_7

def tJ6_stringSize_0f7a4_L16 (x0 : Int32) (x1 : Int32) (M : vMe) : Nat → Int32 → Int32 → Option (Int32 ⊕ Unit)
  | 0, _, _ => none
  | f + 1, x2, x3 =>
  if (10 : Int32) ≤ x3 then
  (some (Sum.inr (())))
else
  (if x0 ≤ x2 then
  (tJ6_stringSize_0f7a4_L16 x0 x1 M f (10 * x2) (x3 + 1))
else
  (some (Sum.inl (x3 + x1))))
def tJ6_stringSize_0f7a4_J11 (x0 : Int32) (x1 : Int32) (M : vMe) : Option Int32 :=
  (tJ6_stringSize_0f7a4_L16 x0 x1 M vF ((-10)) 1).bind fun z6 =>
  Sum.elim (fun r8 => some r8) (fun w7 =>
  some (10 + x1)) z6
def tJ6_stringSize_0f7a4 (x0 : Int32) (M : vMe) : Option Int32 :=
  if x0 < 0 then
  (tJ6_stringSize_0f7a4_J11 x0 1 M)
else
  (tJ6_stringSize_0f7a4_J11 (-x0) 0 M)
def rmJ6_stringSize_0f7a4 : Room := { frames := 1, cells := 0, slots := 0, locals := 0 }
set_option maxHeartbeats 4000000 in
set_option maxRecDepth 100000 in
theorem mJ6_stringSize_0f7a4 (l : Launch) (hfl : l.stackTraces = false) (D : vD) (x0 : Int32) (M : vMe) (z : Int32) (h : tJ6_stringSize_0f7a4 x0 M = some z) : Met l yJ6_stringSize_0f7a4 (Cond.code yJ6_stringSize_0f7a4 cJ6_stringSize_0f7a4 4 (some .int) :: TB) rmJ6_stringSize_0f7a4 (va_Pc [.int x0] (vPre D M)) (qW D (some (.int z)) M) 0 0 (vA D) := by
  refine v_ofW (cc := cJ6_stringSize_0f7a4) (maxL := 4) (ret := (some .int)) (by decide) (Nat.le_of_ble_eq_true rfl) ?_
  intro p e s m args below meth c Q hx hb hr hml hown hts hlk hnm hSS hR0 hQ ls hl
  have hK := hSS.1
  have hl : lv_has ls 4 [(0, .int x0)] := hl
  unfold tJ6_stringSize_0f7a4 at h
  have J6_stringSize_0f7a4_L16p : ∀ (x0 : Int32) (x1 : Int32), ∀ (f : Nat) (x2 : Int32) (x3 : Int32) (ls : Array Slot) (z : (Int32 ⊕ Unit)), lv_has ls 4 [(0, .int x0), (1, .int x1), (2, .int x2), (3, .int x3)] → tJ6_stringSize_0f7a4_L16 x0 x1 M f x2 x3 = some z → (∀ w, z = Sum.inr w → ∀ ls : Array Slot, lv_has ls 4 [(1, .int x1)] → vV D p l e rmJ6_stringSize_0f7a4 s m args below meth c 0 0 Q M (F0 m 42 ls [])) → (∀ r9, z = Sum.inl r9 → Q = MQ below (qW D (some (.int r9)) M) args s 0 0 (vA D)) → vV D p l e rmJ6_stringSize_0f7a4 s m args below meth c 0 0 Q M (F0 m 16 ls []) := by
    intro x0 x1 f
    induction f with
    | zero =>
      intro x2 x3 ls z hl h
      exact absurd h (by simp [tJ6_stringSize_0f7a4_L16])
    | succ f ih =>
      intro x2 x3 ls z hl h KX KR
      rw [tJ6_stringSize_0f7a4_L16] at h
      refine w_iload_n hx hb dJ6_stringSize_0f7a4_16 rfl (lv_at hl 3 rfl) ?_
      refine w_bipush (v := 10) hx hb dJ6_stringSize_0f7a4_17 (by decide) ?_
      refine w_icmp_ge (tgt := 42) hx hb dJ6_stringSize_0f7a4_19 (by decide) (fun c4 => ?_) (fun c4 => ?_)
      · rw [if_pos c4] at h
        obtain rfl := Option.some.inj h
        exact KX _ rfl ls (lv_sub hl [1] rfl)
      · rw [if_neg c4] at h
        refine w_iload_n hx hb dJ6_stringSize_0f7a4_22 rfl (lv_at hl 0 rfl) ?_
        refine w_iload_n hx hb dJ6_stringSize_0f7a4_23 rfl (lv_at hl 2 rfl) ?_
        refine w_icmp_le (tgt := 31) hx hb dJ6_stringSize_0f7a4_24 (by decide) (fun c5 => ?_) (fun c5 => ?_)
        · rw [if_pos c5] at h
          refine w_bipush (v := 10) hx hb dJ6_stringSize_0f7a4_31 (by decide) ?_
          refine w_iload_n hx hb dJ6_stringSize_0f7a4_33 rfl (lv_at hl 2 rfl) ?_
          refine w_imul hx hb dJ6_stringSize_0f7a4_34 ?_
          refine w_istore_n (lv' := [(2, .int (10 * x2)), (0, .int x0), (1, .int x1), (3, .int x3)]) hx hb dJ6_stringSize_0f7a4_35 rfl hl (by decide) rfl (fun ls hl => ?_)
          have hl : lv_has ls 4 [(0, .int x0), (1, .int x1), (2, .int (10 * x2)), (3, .int x3)] := lv_sub hl [1, 2, 0, 3] rfl
          refine w_iinc (v := x3 + 1) (lv' := [(3, .int (x3 + 1)), (0, .int x0), (1, .int x1), (2, .int (10 * x2))]) hx hb dJ6_stringSize_0f7a4_36 hl (j := 3) rfl rfl (by decide) rfl (fun ls hl => ?_)
          have hl : lv_has ls 4 [(0, .int x0), (1, .int x1), (2, .int (10 * x2)), (3, .int (x3 + 1))] := lv_sub hl [1, 2, 3, 0] rfl
          refine w_goto (tgt := 16) hx hb dJ6_stringSize_0f7a4_39 (by decide) ?_
          exact ih (10 * x2) (x3 + 1) ls z (lv_sub hl [0, 1, 2, 3] rfl) h KX KR
        · rw [if_neg c5] at h
          refine w_iload_n hx hb dJ6_stringSize_0f7a4_27 rfl (lv_at hl 3 rfl) ?_
          refine w_iload_n hx hb dJ6_stringSize_0f7a4_28 rfl (lv_at hl 1 rfl) ?_
          refine w_iadd hx hb dJ6_stringSize_0f7a4_29 ?_
          obtain rfl := Option.some.inj h
          rw [KR _ rfl]
          exact v_iret hx hb hr hlk dJ6_stringSize_0f7a4_30
  have J6_stringSize_0f7a4_J11p : ∀ (x0 : Int32) (x1 : Int32) (ls : Array Slot), lv_has ls 4 [(0, .int x0), (1, .int x1)] → tJ6_stringSize_0f7a4_J11 x0 x1 M = some z → vV D p l e rmJ6_stringSize_0f7a4 s m args below meth c 0 0 Q M (F0 m 11 ls []) := by
    intro x0 x1 ls hl h
    unfold tJ6_stringSize_0f7a4_J11 at h
    refine w_bipush (v := (-10)) hx hb dJ6_stringSize_0f7a4_11 (by decide) ?_
    refine w_istore_n (lv' := [(2, .int ((-10))), (0, .int x0), (1, .int x1)]) hx hb dJ6_stringSize_0f7a4_13 rfl hl (by decide) rfl (fun ls hl => ?_)
    have hl : lv_has ls 4 [(0, .int x0), (1, .int x1), (2, .int ((-10)))] := lv_sub hl [1, 2, 0] rfl
    refine w_iconst (v := 1) hx hb dJ6_stringSize_0f7a4_14 (by decide) ?_
    refine w_istore_n (lv' := [(3, .int 1), (0, .int x0), (1, .int x1), (2, .int ((-10)))]) hx hb dJ6_stringSize_0f7a4_15 rfl hl (by decide) rfl (fun ls hl => ?_)
    have hl : lv_has ls 4 [(0, .int x0), (1, .int x1), (2, .int ((-10))), (3, .int 1)] := lv_sub hl [1, 2, 3, 0] rfl
    obtain ⟨z6, ez6, h⟩ := v_bnd h
    refine J6_stringSize_0f7a4_L16p x0 x1 vF ((-10)) 1 ls z6 (lv_sub hl [0, 1, 2, 3] rfl) ez6 (fun w7 qw7 ls hl => ?_) (fun r8 qr8 => ?_)
    · replace h := v_inr qw7 h
      refine w_bipush (v := 10) hx hb dJ6_stringSize_0f7a4_42 (by decide) ?_
      refine w_iload_n hx hb dJ6_stringSize_0f7a4_44 rfl (lv_at hl 0 rfl) ?_
      refine w_iadd hx hb dJ6_stringSize_0f7a4_45 ?_
      obtain rfl := Option.some.inj h
      rw [hQ]
      exact v_iret hx hb hr hlk dJ6_stringSize_0f7a4_46
    · replace h := v_inl qr8 h
      obtain rfl := Option.some.inj h
      exact hQ
  refine w_iconst (v := 1) hx hb dJ6_stringSize_0f7a4_0 (by decide) ?_
  refine w_istore_n (lv' := [(1, .int 1), (0, .int x0)]) hx hb dJ6_stringSize_0f7a4_1 rfl hl (by decide) rfl (fun ls hl => ?_)
  have hl : lv_has ls 4 [(0, .int x0), (1, .int 1)] := lv_sub hl [1, 0] rfl
  refine w_iload_n hx hb dJ6_stringSize_0f7a4_2 rfl (lv_at hl 0 rfl) ?_
  refine w_if_lt (tgt := 11) hx hb dJ6_stringSize_0f7a4_3 (by decide) (fun c1 => ?_) (fun c1 => ?_)
  · rw [if_pos c1] at h
    exact J6_stringSize_0f7a4_J11p x0 1 ls (lv_sub hl [0, 1] rfl) h
  · rw [if_neg c1] at h
    refine w_iconst (v := 0) hx hb dJ6_stringSize_0f7a4_6 (by decide) ?_
    refine w_istore_n (lv' := [(1, .int 0), (0, .int x0)]) hx hb dJ6_stringSize_0f7a4_7 rfl hl (by decide) rfl (fun ls hl => ?_)
    have hl : lv_has ls 4 [(0, .int x0), (1, .int 0)] := lv_sub hl [1, 0] rfl
    refine w_iload_n hx hb dJ6_stringSize_0f7a4_8 rfl (lv_at hl 0 rfl) ?_
    refine w_ineg hx hb dJ6_stringSize_0f7a4_9 ?_
    refine w_istore_n (lv' := [(0, .int (-x0)), (1, .int 0)]) hx hb dJ6_stringSize_0f7a4_10 rfl hl (by decide) rfl (fun ls hl => ?_)
    have hl : lv_has ls 4 [(0, .int (-x0)), (1, .int 0)] := lv_sub hl [0, 1] rfl
    exact J6_stringSize_0f7a4_J11p (-x0) 0 ls (lv_sub hl [0, 1] rfl) h

def tJ6_getChars_ba4f3_L22 (G : Nat → Nat) (x2 : Nat) (x6 : Int32) : Nat → Int32 → Int32 → vMe → Option ((Int32 × Int32) × vMe)
  | 0, _, _, _ => none
  | f + 1, x0, x5, Mi =>
  if ((-100) : Int32) < x0 then
  (some ((x0, x5), Mi))
else
  ((aI Mi (G 201) 102 (((x0 / 100) * 100) - x0)).bind fun v4 =>
  (sA Mi x2 102 (x5 + (-1)) (.int v4.toInt8.toInt32)).bind fun M5 =>
  (aI M5 (G 202) 102 (((x0 / 100) * 100) - x0)).bind fun v6 =>
  (sA M5 x2 102 ((x5 + (-1)) + (-1)) (.int v6.toInt8.toInt32)).bind fun M7 =>
  tJ6_getChars_ba4f3_L22 G x2 x6 f (x0 / 100) ((x5 + (-1)) + (-1)) M7)
def tJ6_getChars_ba4f3_J104 (x2 : Nat) (x5 : Int32) (x6 : Int32) (Mj : vMe) : Option (Int32 × vMe) :=
  if x6 = 0 then
  (some (x5, Mj))
else
  ((sA Mj x2 102 (x5 + (-1)) (.int (45 : Int32).toInt8.toInt32)).bind fun M13 =>
  some (x5 + (-1), M13))
def tJ6_getChars_ba4f3_J12 (G : Nat → Nat) (x0 : Int32) (x2 : Nat) (x5 : Int32) (y0 : Int32) (Mj : vMe) : Option (Int32 × vMe) :=
  if y0 = 0 then
  ((tJ6_getChars_ba4f3_L22 G x2 y0 vF (-x0) x5 Mj).bind fun z8 =>
  (aI z8.2 (G 201) 102 (-z8.1.1)).bind fun v9 =>
  (sA z8.2 x2 102 (z8.1.2 + (-1)) (.int v9.toInt8.toInt32)).bind fun M10 =>
  if ((-9) : Int32) ≤ z8.1.1 then
  (tJ6_getChars_ba4f3_J104 x2 (z8.1.2 + (-1)) y0 M10)
else
  ((aI M10 (G 202) 102 (-z8.1.1)).bind fun v14 =>
  (sA M10 x2 102 ((z8.1.2 + (-1)) + (-1)) (.int v14.toInt8.toInt32)).bind fun M15 =>
  tJ6_getChars_ba4f3_J104 x2 ((z8.1.2 + (-1)) + (-1)) y0 M15))
else
  ((tJ6_getChars_ba4f3_L22 G x2 y0 vF x0 x5 Mj).bind fun z16 =>
  (aI z16.2 (G 201) 102 (-z16.1.1)).bind fun v17 =>
  (sA z16.2 x2 102 (z16.1.2 + (-1)) (.int v17.toInt8.toInt32)).bind fun M18 =>
  if ((-9) : Int32) ≤ z16.1.1 then
  (tJ6_getChars_ba4f3_J104 x2 (z16.1.2 + (-1)) y0 M18)
else
  ((aI M18 (G 202) 102 (-z16.1.1)).bind fun v20 =>
  (sA M18 x2 102 ((z16.1.2 + (-1)) + (-1)) (.int v20.toInt8.toInt32)).bind fun M21 =>
  tJ6_getChars_ba4f3_J104 x2 ((z16.1.2 + (-1)) + (-1)) y0 M21))
def tJ6_getChars_ba4f3 (G : Nat → Nat) (x0 : Int32) (x1 : Int32) (x2 : Nat) (M : vMe) : Option (Int32 × vMe) :=
  if 0 ≤ x0 then
  (tJ6_getChars_ba4f3_J12 G x0 x2 x1 0 M)
else
  (tJ6_getChars_ba4f3_J12 G x0 x2 x1 1 M)
def rmJ6_getChars_ba4f3 : Room := { frames := 1, cells := 0, slots := 0, locals := 0 }
set_option maxHeartbeats 4000000 in
set_option maxRecDepth 100000 in
theorem mJ6_getChars_ba4f3 (l : Launch) (hfl : l.stackTraces = false) (D : vD) (x0 : Int32) (x1 : Int32) (x2 : Nat) (M : vMe) (z : (Int32 × vMe)) (h : tJ6_getChars_ba4f3 D.2.2.2.2 x0 x1 x2 M = some z) : Met l yJ6_getChars_ba4f3 (Cond.code yJ6_getChars_ba4f3 cJ6_getChars_ba4f3 7 (some .int) :: TB) rmJ6_getChars_ba4f3 (va_Pc [.int x0, .int x1, .ref x2] (vPre D M)) (qW D (some (.int z.1)) z.2) 0 0 (vA D) := by
  refine v_ofW (cc := cJ6_getChars_ba4f3) (maxL := 7) (ret := (some .int)) (by decide) (Nat.le_of_ble_eq_true rfl) ?_
  intro p e s m args below meth c Q hx hb hr hml hown hts hlk hnm hSS hR0 hQ ls hl
  have hK := hSS.1
  have hl : lv_has ls 7 [(0, .int x0), (1, .int x1), (2, .ref x2)] := hl
  unfold tJ6_getChars_ba4f3 at h
  have J6_getChars_ba4f3_L22p : ∀ (x2 : Nat) (x6 : Int32), ∀ (f : Nat) (x0 : Int32) (x5 : Int32) (Mi : vMe) (ls : Array Slot) (z : ((Int32 × Int32) × vMe)), lv_has ls 7 [(0, .int x0), (2, .ref x2), (5, .int x5), (6, .int x6)] → tJ6_getChars_ba4f3_L22 D.2.2.2.2 x2 x6 f x0 x5 Mi = some z → (∀ ls : Array Slot, lv_has ls 7 [(0, .int z.1.1), (2, .ref x2), (5, .int z.1.2), (6, .int x6)] → vV D p l e rmJ6_getChars_ba4f3 s m args below meth c 0 0 Q z.2 (F0 m 72 ls [])) → vV D p l e rmJ6_getChars_ba4f3 s m args below meth c 0 0 Q Mi (F0 m 22 ls []) := by
    intro x2 x6 f
    induction f with
    | zero =>
      intro x0 x5 Mi ls z hl h
      exact absurd h (by simp [tJ6_getChars_ba4f3_L22])
    | succ f ih =>
      intro x0 x5 Mi ls z hl h KX
      rw [tJ6_getChars_ba4f3_L22] at h
      refine w_iload_n hx hb dJ6_getChars_ba4f3_22 rfl (lv_at hl 0 rfl) ?_
      refine w_bipush (v := (-100)) hx hb dJ6_getChars_ba4f3_23 (by decide) ?_
      refine w_icmp_gt (tgt := 72) hx hb dJ6_getChars_ba4f3_25 (by decide) (fun c3 => ?_) (fun c3 => ?_)
      · rw [if_pos c3] at h
        obtain rfl := Option.some.inj h
        exact KX ls (lv_sub hl [0, 1, 2, 3] rfl)
      · rw [if_neg c3] at h
        refine w_iload_n hx hb dJ6_getChars_ba4f3_28 rfl (lv_at hl 0 rfl) ?_
        refine w_bipush (v := 100) hx hb dJ6_getChars_ba4f3_29 (by decide) ?_
        refine w_idiv hx hb dJ6_getChars_ba4f3_31 (by decide) ?_
        refine w_istore_n (lv' := [(3, .int (x0 / 100)), (0, .int x0), (2, .ref x2), (5, .int x5), (6, .int x6)]) hx hb dJ6_getChars_ba4f3_32 rfl hl (by decide) rfl (fun ls hl => ?_)
        have hl : lv_has ls 7 [(0, .int x0), (2, .ref x2), (3, .int (x0 / 100)), (5, .int x5), (6, .int x6)] := lv_sub hl [1, 2, 0, 3, 4] rfl
        refine w_iload_n hx hb dJ6_getChars_ba4f3_33 rfl (lv_at hl 2 rfl) ?_
        refine w_bipush (v := 100) hx hb dJ6_getChars_ba4f3_34 (by decide) ?_
        refine w_imul hx hb dJ6_getChars_ba4f3_36 ?_
        refine w_iload_n hx hb dJ6_getChars_ba4f3_37 rfl (lv_at hl 0 rfl) ?_
        refine w_isub hx hb dJ6_getChars_ba4f3_38 ?_
        refine w_istore (lv' := [(4, .int (((x0 / 100) * 100) - x0)), (0, .int x0), (2, .ref x2), (3, .int (x0 / 100)), (5, .int x5), (6, .int x6)]) hx hb dJ6_getChars_ba4f3_39 hl (by decide) rfl (fun ls hl => ?_)
        have hl : lv_has ls 7 [(0, .int x0), (2, .ref x2), (3, .int (x0 / 100)), (4, .int (((x0 / 100) * 100) - x0)), (5, .int x5), (6, .int x6)] := lv_sub hl [1, 2, 3, 0, 4, 5] rfl
        refine w_iload_n hx hb dJ6_getChars_ba4f3_41 rfl (lv_at hl 2 rfl) ?_
        refine w_istore_n (lv' := [(0, .int (x0 / 100)), (2, .ref x2), (3, .int (x0 / 100)), (4, .int (((x0 / 100) * 100) - x0)), (5, .int x5), (6, .int x6)]) hx hb dJ6_getChars_ba4f3_42 rfl hl (by decide) rfl (fun ls hl => ?_)
        have hl : lv_has ls 7 [(0, .int (x0 / 100)), (2, .ref x2), (3, .int (x0 / 100)), (4, .int (((x0 / 100) * 100) - x0)), (5, .int x5), (6, .int x6)] := lv_sub hl [0, 1, 2, 3, 4, 5] rfl
        refine w_aload_n hx hb dJ6_getChars_ba4f3_43 rfl (lv_at hl 1 rfl) ?_
        refine w_iinc (v := x5 + (-1)) (lv' := [(5, .int (x5 + (-1))), (0, .int (x0 / 100)), (2, .ref x2), (3, .int (x0 / 100)), (4, .int (((x0 / 100) * 100) - x0)), (6, .int x6)]) hx hb dJ6_getChars_ba4f3_44 hl (j := 4) rfl rfl (by decide) rfl (fun ls hl => ?_)
        have hl : lv_has ls 7 [(0, .int (x0 / 100)), (2, .ref x2), (3, .int (x0 / 100)), (4, .int (((x0 / 100) * 100) - x0)), (5, .int (x5 + (-1))), (6, .int x6)] := lv_sub hl [1, 2, 3, 4, 0, 5] rfl
        refine w_iload hx hb dJ6_getChars_ba4f3_47 (lv_at hl 4 rfl) ?_
        refine w_gets hx hb hSS.2.2.2.2.2.2.2.2.2.2.2.2.1 hown (hts _ kw576) (fun _ h9 => h9) dJ6_getChars_ba4f3_49 ?_
        refine w_iload hx hb dJ6_getChars_ba4f3_52 (lv_at hl 3 rfl) ?_
        obtain ⟨v4, ev4, h⟩ := v_bnd h
        refine v_bald hx hb hK ev4 dJ6_getChars_ba4f3_54 ?_
        obtain ⟨M5, eM5, h⟩ := v_bnd h
        refine v_bast hx hb hK eM5 dJ6_getChars_ba4f3_55 ?_
        refine w_aload_n hx hb dJ6_getChars_ba4f3_56 rfl (lv_at hl 1 rfl) ?_
        refine w_iinc (v := (x5 + (-1)) + (-1)) (lv' := [(5, .int ((x5 + (-1)) + (-1))), (0, .int (x0 / 100)), (2, .ref x2), (3, .int (x0 / 100)), (4, .int (((x0 / 100) * 100) - x0)), (6, .int x6)]) hx hb dJ6_getChars_ba4f3_57 hl (j := 4) rfl rfl (by decide) rfl (fun ls hl => ?_)
        have hl : lv_has ls 7 [(0, .int (x0 / 100)), (2, .ref x2), (3, .int (x0 / 100)), (4, .int (((x0 / 100) * 100) - x0)), (5, .int ((x5 + (-1)) + (-1))), (6, .int x6)] := lv_sub hl [1, 2, 3, 4, 0, 5] rfl
        refine w_iload hx hb dJ6_getChars_ba4f3_60 (lv_at hl 4 rfl) ?_
        refine w_gets hx hb hSS.2.2.2.2.2.2.2.2.2.2.2.2.2.1 hown (hts _ kw578) (fun _ h9 => h9) dJ6_getChars_ba4f3_62 ?_
        refine w_iload hx hb dJ6_getChars_ba4f3_65 (lv_at hl 3 rfl) ?_
        obtain ⟨v6, ev6, h⟩ := v_bnd h
        refine v_bald hx hb hK ev6 dJ6_getChars_ba4f3_67 ?_
        obtain ⟨M7, eM7, h⟩ := v_bnd h
        refine v_bast hx hb hK eM7 dJ6_getChars_ba4f3_68 ?_
        refine w_goto (tgt := 22) hx hb dJ6_getChars_ba4f3_69 (by decide) ?_
        exact ih (x0 / 100) ((x5 + (-1)) + (-1)) M7 ls z (lv_sub hl [0, 1, 4, 5] rfl) h KX
  have J6_getChars_ba4f3_J104p : ∀ (x2 : Nat) (x5 : Int32) (x6 : Int32) (Mj : vMe) (ls : Array Slot), lv_has ls 7 [(2, .ref x2), (5, .int x5), (6, .int x6)] → tJ6_getChars_ba4f3_J104 x2 x5 x6 Mj = some z → vV D p l e rmJ6_getChars_ba4f3 s m args below meth c 0 0 Q Mj (F0 m 104 ls []) := by
    intro x2 x5 x6 Mj ls hl h
    unfold tJ6_getChars_ba4f3_J104 at h
    refine w_iload hx hb dJ6_getChars_ba4f3_104 (lv_at hl 2 rfl) ?_
    refine w_if_eq (tgt := 118) hx hb dJ6_getChars_ba4f3_106 (by decide) (fun c12 => ?_) (fun c12 => ?_)
    · rw [if_pos c12] at h
      refine w_iload hx hb dJ6_getChars_ba4f3_118 (lv_at hl 1 rfl) ?_
      obtain rfl := Option.some.inj h
      rw [hQ]
      exact v_iret hx hb hr hlk dJ6_getChars_ba4f3_120
    · rw [if_neg c12] at h
      refine w_aload_n hx hb dJ6_getChars_ba4f3_109 rfl (lv_at hl 0 rfl) ?_
      refine w_iinc (v := x5 + (-1)) (lv' := [(5, .int (x5 + (-1))), (2, .ref x2), (6, .int x6)]) hx hb dJ6_getChars_ba4f3_110 hl (j := 1) rfl rfl (by decide) rfl (fun ls hl => ?_)
      have hl : lv_has ls 7 [(2, .ref x2), (5, .int (x5 + (-1))), (6, .int x6)] := lv_sub hl [1, 0, 2] rfl
      refine w_iload hx hb dJ6_getChars_ba4f3_113 (lv_at hl 1 rfl) ?_
      refine w_bipush (v := 45) hx hb dJ6_getChars_ba4f3_115 (by decide) ?_
      obtain ⟨M13, eM13, h⟩ := v_bnd h
      refine v_bast hx hb hK eM13 dJ6_getChars_ba4f3_117 ?_
      refine w_iload hx hb dJ6_getChars_ba4f3_118 (lv_at hl 1 rfl) ?_
      obtain rfl := Option.some.inj h
      rw [hQ]
      exact v_iret hx hb hr hlk dJ6_getChars_ba4f3_120
  have J6_getChars_ba4f3_J12p : ∀ (x0 : Int32) (x2 : Nat) (x5 : Int32) (y0 : Int32) (Mj : vMe) (ls : Array Slot), lv_has ls 7 [(0, .int x0), (2, .ref x2), (5, .int x5)] → tJ6_getChars_ba4f3_J12 D.2.2.2.2 x0 x2 x5 y0 Mj = some z → vV D p l e rmJ6_getChars_ba4f3 s m args below meth c 0 0 Q Mj (F0 m 12 ls [.int y0]) := by
    intro x0 x2 x5 y0 Mj ls hl h
    unfold tJ6_getChars_ba4f3_J12 at h
    refine w_istore (lv' := [(6, .int y0), (0, .int x0), (2, .ref x2), (5, .int x5)]) hx hb dJ6_getChars_ba4f3_12 hl (by decide) rfl (fun ls hl => ?_)
    have hl : lv_has ls 7 [(0, .int x0), (2, .ref x2), (5, .int x5), (6, .int y0)] := lv_sub hl [1, 2, 3, 0] rfl
    refine w_iload hx hb dJ6_getChars_ba4f3_14 (lv_at hl 3 rfl) ?_
    refine w_if_ne (tgt := 22) hx hb dJ6_getChars_ba4f3_16 (by decide) (fun c2 => ?_) (fun c2 => ?_)
    · rw [if_pos c2] at h
      refine w_iload_n hx hb dJ6_getChars_ba4f3_19 rfl (lv_at hl 0 rfl) ?_
      refine w_ineg hx hb dJ6_getChars_ba4f3_20 ?_
      refine w_istore_n (lv' := [(0, .int (-x0)), (2, .ref x2), (5, .int x5), (6, .int y0)]) hx hb dJ6_getChars_ba4f3_21 rfl hl (by decide) rfl (fun ls hl => ?_)
      have hl : lv_has ls 7 [(0, .int (-x0)), (2, .ref x2), (5, .int x5), (6, .int y0)] := lv_sub hl [0, 1, 2, 3] rfl
      obtain ⟨z8, ez8, h⟩ := v_bnd h
      refine J6_getChars_ba4f3_L22p x2 y0 vF (-x0) x5 Mj ls z8 (lv_sub hl [0, 1, 2, 3] rfl) ez8 (fun ls hl => ?_)
      refine w_aload_n hx hb dJ6_getChars_ba4f3_72 rfl (lv_at hl 1 rfl) ?_
      refine w_iinc (v := z8.1.2 + (-1)) (lv' := [(5, .int (z8.1.2 + (-1))), (0, .int z8.1.1), (2, .ref x2), (6, .int y0)]) hx hb dJ6_getChars_ba4f3_73 hl (j := 2) rfl rfl (by decide) rfl (fun ls hl => ?_)
      have hl : lv_has ls 7 [(0, .int z8.1.1), (2, .ref x2), (5, .int (z8.1.2 + (-1))), (6, .int y0)] := lv_sub hl [1, 2, 0, 3] rfl
      refine w_iload hx hb dJ6_getChars_ba4f3_76 (lv_at hl 2 rfl) ?_
      refine w_gets hx hb hSS.2.2.2.2.2.2.2.2.2.2.2.2.1 hown (hts _ kw576) (fun _ h9 => h9) dJ6_getChars_ba4f3_78 ?_
      refine w_iload_n hx hb dJ6_getChars_ba4f3_81 rfl (lv_at hl 0 rfl) ?_
      refine w_ineg hx hb dJ6_getChars_ba4f3_82 ?_
      obtain ⟨v9, ev9, h⟩ := v_bnd h
      refine v_bald hx hb hK ev9 dJ6_getChars_ba4f3_83 ?_
      obtain ⟨M10, eM10, h⟩ := v_bnd h
      refine v_bast hx hb hK eM10 dJ6_getChars_ba4f3_84 ?_
      refine w_iload_n hx hb dJ6_getChars_ba4f3_85 rfl (lv_at hl 0 rfl) ?_
      refine w_bipush (v := (-9)) hx hb dJ6_getChars_ba4f3_86 (by decide) ?_
      refine w_icmp_ge (tgt := 104) hx hb dJ6_getChars_ba4f3_88 (by decide) (fun c11 => ?_) (fun c11 => ?_)
      · rw [if_pos c11] at h
        exact J6_getChars_ba4f3_J104p x2 (z8.1.2 + (-1)) y0 M10 ls (lv_sub hl [1, 2, 3] rfl) h
      · rw [if_neg c11] at h
        refine w_aload_n hx hb dJ6_getChars_ba4f3_91 rfl (lv_at hl 1 rfl) ?_
        refine w_iinc (v := (z8.1.2 + (-1)) + (-1)) (lv' := [(5, .int ((z8.1.2 + (-1)) + (-1))), (0, .int z8.1.1), (2, .ref x2), (6, .int y0)]) hx hb dJ6_getChars_ba4f3_92 hl (j := 2) rfl rfl (by decide) rfl (fun ls hl => ?_)
        have hl : lv_has ls 7 [(0, .int z8.1.1), (2, .ref x2), (5, .int ((z8.1.2 + (-1)) + (-1))), (6, .int y0)] := lv_sub hl [1, 2, 0, 3] rfl
        refine w_iload hx hb dJ6_getChars_ba4f3_95 (lv_at hl 2 rfl) ?_
        refine w_gets hx hb hSS.2.2.2.2.2.2.2.2.2.2.2.2.2.1 hown (hts _ kw578) (fun _ h9 => h9) dJ6_getChars_ba4f3_97 ?_
        refine w_iload_n hx hb dJ6_getChars_ba4f3_100 rfl (lv_at hl 0 rfl) ?_
        refine w_ineg hx hb dJ6_getChars_ba4f3_101 ?_
        obtain ⟨v14, ev14, h⟩ := v_bnd h
        refine v_bald hx hb hK ev14 dJ6_getChars_ba4f3_102 ?_
        obtain ⟨M15, eM15, h⟩ := v_bnd h
        refine v_bast hx hb hK eM15 dJ6_getChars_ba4f3_103 ?_
        exact J6_getChars_ba4f3_J104p x2 ((z8.1.2 + (-1)) + (-1)) y0 M15 ls (lv_sub hl [1, 2, 3] rfl) h
    · rw [if_neg c2] at h
      obtain ⟨z16, ez16, h⟩ := v_bnd h
      refine J6_getChars_ba4f3_L22p x2 y0 vF x0 x5 Mj ls z16 (lv_sub hl [0, 1, 2, 3] rfl) ez16 (fun ls hl => ?_)
      refine w_aload_n hx hb dJ6_getChars_ba4f3_72 rfl (lv_at hl 1 rfl) ?_
      refine w_iinc (v := z16.1.2 + (-1)) (lv' := [(5, .int (z16.1.2 + (-1))), (0, .int z16.1.1), (2, .ref x2), (6, .int y0)]) hx hb dJ6_getChars_ba4f3_73 hl (j := 2) rfl rfl (by decide) rfl (fun ls hl => ?_)
      have hl : lv_has ls 7 [(0, .int z16.1.1), (2, .ref x2), (5, .int (z16.1.2 + (-1))), (6, .int y0)] := lv_sub hl [1, 2, 0, 3] rfl
      refine w_iload hx hb dJ6_getChars_ba4f3_76 (lv_at hl 2 rfl) ?_
      refine w_gets hx hb hSS.2.2.2.2.2.2.2.2.2.2.2.2.1 hown (hts _ kw576) (fun _ h9 => h9) dJ6_getChars_ba4f3_78 ?_
      refine w_iload_n hx hb dJ6_getChars_ba4f3_81 rfl (lv_at hl 0 rfl) ?_
      refine w_ineg hx hb dJ6_getChars_ba4f3_82 ?_
      obtain ⟨v17, ev17, h⟩ := v_bnd h
      refine v_bald hx hb hK ev17 dJ6_getChars_ba4f3_83 ?_
      obtain ⟨M18, eM18, h⟩ := v_bnd h
      refine v_bast hx hb hK eM18 dJ6_getChars_ba4f3_84 ?_
      refine w_iload_n hx hb dJ6_getChars_ba4f3_85 rfl (lv_at hl 0 rfl) ?_
      refine w_bipush (v := (-9)) hx hb dJ6_getChars_ba4f3_86 (by decide) ?_
      refine w_icmp_ge (tgt := 104) hx hb dJ6_getChars_ba4f3_88 (by decide) (fun c19 => ?_) (fun c19 => ?_)
      · rw [if_pos c19] at h
        exact J6_getChars_ba4f3_J104p x2 (z16.1.2 + (-1)) y0 M18 ls (lv_sub hl [1, 2, 3] rfl) h
      · rw [if_neg c19] at h
        refine w_aload_n hx hb dJ6_getChars_ba4f3_91 rfl (lv_at hl 1 rfl) ?_
        refine w_iinc (v := (z16.1.2 + (-1)) + (-1)) (lv' := [(5, .int ((z16.1.2 + (-1)) + (-1))), (0, .int z16.1.1), (2, .ref x2), (6, .int y0)]) hx hb dJ6_getChars_ba4f3_92 hl (j := 2) rfl rfl (by decide) rfl (fun ls hl => ?_)
        have hl : lv_has ls 7 [(0, .int z16.1.1), (2, .ref x2), (5, .int ((z16.1.2 + (-1)) + (-1))), (6, .int y0)] := lv_sub hl [1, 2, 0, 3] rfl
        refine w_iload hx hb dJ6_getChars_ba4f3_95 (lv_at hl 2 rfl) ?_
        refine w_gets hx hb hSS.2.2.2.2.2.2.2.2.2.2.2.2.2.1 hown (hts _ kw578) (fun _ h9 => h9) dJ6_getChars_ba4f3_97 ?_
        refine w_iload_n hx hb dJ6_getChars_ba4f3_100 rfl (lv_at hl 0 rfl) ?_
        refine w_ineg hx hb dJ6_getChars_ba4f3_101 ?_
        obtain ⟨v20, ev20, h⟩ := v_bnd h
        refine v_bald hx hb hK ev20 dJ6_getChars_ba4f3_102 ?_
        obtain ⟨M21, eM21, h⟩ := v_bnd h
        refine v_bast hx hb hK eM21 dJ6_getChars_ba4f3_103 ?_
        exact J6_getChars_ba4f3_J104p x2 ((z16.1.2 + (-1)) + (-1)) y0 M21 ls (lv_sub hl [1, 2, 3] rfl) h
  refine w_iload_n hx hb dJ6_getChars_ba4f3_0 rfl (lv_at hl 1 rfl) ?_
  refine w_istore (lv' := [(5, .int x1), (0, .int x0), (1, .int x1), (2, .ref x2)]) hx hb dJ6_getChars_ba4f3_1 hl (by decide) rfl (fun ls hl => ?_)
  have hl : lv_has ls 7 [(0, .int x0), (1, .int x1), (2, .ref x2), (5, .int x1)] := lv_sub hl [1, 2, 3, 0] rfl
  refine w_iload_n hx hb dJ6_getChars_ba4f3_3 rfl (lv_at hl 0 rfl) ?_
  refine w_if_ge (tgt := 11) hx hb dJ6_getChars_ba4f3_4 (by decide) (fun c1 => ?_) (fun c1 => ?_)
  · rw [if_pos c1] at h
    refine w_iconst (v := 0) hx hb dJ6_getChars_ba4f3_11 (by decide) ?_
    exact J6_getChars_ba4f3_J12p x0 x2 x1 0 M ls (lv_sub hl [0, 2, 3] rfl) h
  · rw [if_neg c1] at h
    refine w_iconst (v := 1) hx hb dJ6_getChars_ba4f3_7 (by decide) ?_
    refine w_goto (tgt := 12) hx hb dJ6_getChars_ba4f3_8 (by decide) ?_
    exact J6_getChars_ba4f3_J12p x0 x2 x1 1 M ls (lv_sub hl [0, 2, 3] rfl) h

def tJ5_append_c97b9_J48 (n0 s0 : Nat) (x0 : Nat) (x3 : Int32) (Mj : vMe) : Option (Nat × vMe) :=
  (sV Mj x0 2 3 (.int x3)).bind fun M9 =>
  if M9.2.1 ≤ n0 + 1 ∧ M9.2.2.1 ≤ s0 + 250 then some (x0, M9) else none
def tJ5_append_c97b9 (G : Nat → Nat) (x0 : Nat) (x1 : Int32) (M : vMe) : Option (Nat × vMe) :=
  (gI M x0 2 3).bind fun v1 =>
  if M.2.1 + 0 ≤ M.2.1 + 1 ∧ M.2.2.1 + 0 ≤ M.2.2.1 + 250 then
  ((tJ6_stringSize_0f7a4 x1 M).bind fun z2 =>
  if M.2.1 + 1 ≤ M.2.1 + 1 ∧ M.2.2.1 + 250 ≤ M.2.2.1 + 250 then
  (if (M.1 x0).1 = 2 then
  ((tJ5_ensureCapacityInternal_d00df x0 (v1 + z2) M).bind fun z3 =>
  if z3.2.2.1 + 0 ≤ M.2.1 + 1 ∧ z3.2.2.2.1 + 0 ≤ M.2.2.1 + 250 then
  (if (z3.2.1 x0).1 = 2 then
  ((tJ5_isLatin1_aae02 x0 z3.2).bind fun z4 =>
  if z4 = 0 then
  ((gA z3.2 x0 2 0).bind fun a6 =>
  none)
else
  ((gA z3.2 x0 2 0).bind fun a7 =>
  if z3.2.2.1 + 0 ≤ M.2.1 + 1 ∧ z3.2.2.2.1 + 0 ≤ M.2.2.1 + 250 then
  ((tJ6_getChars_ba4f3 G x1 (v1 + z2) a7 z3.2).bind fun z8 =>
  tJ5_append_c97b9_J48 M.2.1 M.2.2.1 x0 (v1 + z2) z8.2)
else none))
else none)
else none)
else none)
else none)
else none
def rmJ5_append_c97b9 : Room := { frames := 4, cells := 1, slots := 250, locals := 130 }
set_option maxHeartbeats 4000000 in
set_option maxRecDepth 100000 in
theorem mJ5_append_c97b9 (l : Launch) (hfl : l.stackTraces = false) (D : vD) (x0 : Nat) (x1 : Int32) (M : vMe) (z : (Nat × vMe)) (h : tJ5_append_c97b9 D.2.2.2.2 x0 x1 M = some z) : Met l yJ5_append_c97b9 (Cond.code yJ5_append_c97b9 cJ5_append_c97b9 4 (some (.object "java/lang/AbstractStringBuilder")) :: TB) rmJ5_append_c97b9 (va_Pc [.ref x0, .int x1] (vPre D M)) (qW D (some (.ref z.1)) z.2) 1 250 (vA D) := by
  refine v_ofW (cc := cJ5_append_c97b9) (maxL := 4) (ret := (some (.object "java/lang/AbstractStringBuilder"))) (by decide) (Nat.le_of_ble_eq_true rfl) ?_
  intro p e s m args below meth c Q hx hb hr hml hown hts hlk hnm hSS hR0 hQ ls hl
  have hz0 := hR0.2.1
  have hs0 := hR0.2.2.1
  have hb0 : D.2.2.2.1 ≤ s.heap.size := hR0.2.2.2.2.1
  refine v_tight hb0 ?_
  have hK := hSS.1
  have hl : lv_has ls 4 [(0, .ref x0), (1, .int x1)] := hl
  unfold tJ5_append_c97b9 at h
  have J5_append_c97b9_J48p : ∀ (x0 : Nat) (x3 : Int32) (Mj : vMe) (ls : Array Slot), lv_has ls 4 [(0, .ref x0), (3, .int x3)] → tJ5_append_c97b9_J48 M.2.1 M.2.2.1 x0 x3 Mj = some z → vV D p l e rmJ5_append_c97b9 s m args below meth c (Mj.2.1 - s.heap.size) (Mj.2.2.1 - vSum D.2.2.2.1 s.heap) Q Mj (F0 m 48 ls []) := by
    intro x0 x3 Mj ls hl h
    unfold tJ5_append_c97b9_J48 at h
    refine w_aload_n hx hb dJ5_append_c97b9_48 rfl (lv_at hl 0 rfl) ?_
    refine w_iload_n hx hb dJ5_append_c97b9_49 rfl (lv_at hl 1 rfl) ?_
    obtain ⟨M9, eM9, h⟩ := v_bnd h
    refine v_putf (ci := 1) hx hb hts iwJ4 hown hK tyJ4_ok nmJ4 3 eM9 rfl (by decide) (Or.inl (hts _ kw432)) (fun _ h9 => h9) (Or.inl rfl) rfl rfl dJ5_append_c97b9_50 ?_
    refine w_aload_n hx hb dJ5_append_c97b9_53 rfl (lv_at hl 0 rfl) ?_
    obtain ⟨g9, h⟩ := v_ifs h
    refine v_tight hb0 (vV.widen (n' := 1) (k' := 250) (by omega) (by omega) ?_)
    obtain rfl := Option.some.inj h
    rw [hQ]
    exact v_aret hx hb hr (Or.inl ⟨_, rfl⟩) (Or.inr ⟨_, rfl⟩) hlk dJ5_append_c97b9_54
  refine w_aload_n hx hb dJ5_append_c97b9_0 rfl (lv_at hl 0 rfl) ?_
  obtain ⟨v1, ev1, h⟩ := v_bnd h
  refine v_gI (ci := 1) hx hb hts iwJ4 hown hK 3 ev1 rfl (by decide) (Or.inl (hts _ kw432)) (fun _ h9 => h9) dJ5_append_c97b9_1 ?_
  refine w_istore_n (lv' := [(2, .int v1), (0, .ref x0), (1, .int x1)]) hx hb dJ5_append_c97b9_4 rfl hl (by decide) rfl (fun ls hl => ?_)
  have hl : lv_has ls 4 [(0, .ref x0), (1, .int x1), (2, .int v1)] := lv_sub hl [1, 2, 0] rfl
  refine w_iload_n hx hb dJ5_append_c97b9_5 rfl (lv_at hl 2 rfl) ?_
  refine w_iload_n hx hb dJ5_append_c97b9_6 rfl (lv_at hl 1 rfl) ?_
  obtain ⟨g7, h⟩ := v_ifs h
  refine v_tight hb0 ?_
  obtain ⟨z2, ez2, h⟩ := v_bnd h
  refine v_call1 (v := .int z2) (M1 := M) (mc := 0) (ms := 0) (fun H locs hR hS => va_runS (As := [.int x1]) (rest := [.int v1]) ⟨hx, hb, hml, hown, hts⟩ (mJ6_stringSize_0f7a4 l hfl D x1 M z2 ez2) (va_cwS 1 hts (gdS kw570 kw571 kw48 kw572) rfl rfl rfl (by decide +kernel) ⟨Nat.le_of_ble_eq_true rfl, Nat.le_of_ble_eq_true rfl⟩) (v_preS hSS hR hS [.int x1]) rfl rfl hl.1 rfl (lv_room (Nat.le_of_ble_eq_true rfl)) dJ5_append_c97b9_7 ⟨by show _ + _ ≤ 1; omega, by show _ + _ ≤ 250; omega⟩) ?_
  refine w_iadd hx hb dJ5_append_c97b9_10 ?_
  refine w_istore_n (lv' := [(3, .int (v1 + z2)), (0, .ref x0), (1, .int x1), (2, .int v1)]) hx hb dJ5_append_c97b9_11 rfl hl (by decide) rfl (fun ls hl => ?_)
  have hl : lv_has ls 4 [(0, .ref x0), (1, .int x1), (2, .int v1), (3, .int (v1 + z2))] := lv_sub hl [1, 2, 3, 0] rfl
  refine w_aload_n hx hb dJ5_append_c97b9_12 rfl (lv_at hl 0 rfl) ?_
  refine w_iload_n hx hb dJ5_append_c97b9_13 rfl (lv_at hl 3 rfl) ?_
  obtain ⟨g7, h⟩ := v_ifs h
  refine v_tight hb0 ?_
  obtain ⟨g8, h⟩ := v_ifs h
  obtain ⟨z3, ez3, h⟩ := v_bnd h
  refine v_call0 (M1 := z3.2) (mc := 1) (ms := 250) (fun H locs hR hS => va_runU (As := [.int (v1 + z2)]) (rest := []) ⟨hx, hb, hml, hown, hts⟩ (mJ5_ensureCapacityInternal_d00df l hfl D x0 (v1 + z2) M z3 ez3) (va_cwU 1 hts (gdU kw454 kw1382 kwE0 kw456 kw37 kw457) rfl rfl rfl rfl (by decide +kernel) ⟨Nat.le_of_ble_eq_true rfl, Nat.le_of_ble_eq_true rfl⟩) (v_preV (ci := 1) hSS hR hS g8 (by decide) rfl [.int (v1 + z2)]) rfl rfl hl.1 rfl (lv_room (Nat.le_of_ble_eq_true rfl)) dJ5_append_c97b9_14 ⟨by show _ + _ ≤ 1; omega, by show _ + _ ≤ 250; omega⟩) ?_
  refine w_aload_n hx hb dJ5_append_c97b9_17 rfl (lv_at hl 0 rfl) ?_
  obtain ⟨g7, h⟩ := v_ifs h
  refine v_tight hb0 ?_
  obtain ⟨g8, h⟩ := v_ifs h
  obtain ⟨z4, ez4, h⟩ := v_bnd h
  refine v_call1 (v := .int z4) (M1 := z3.2) (mc := 0) (ms := 0) (fun H locs hR hS => va_runU (As := []) (rest := []) ⟨hx, hb, hml, hown, hts⟩ (mJ5_isLatin1_aae02 l hfl D x0 z3.2 z4 ez4) (va_cwU 0 hts (gdU kw489 kw491 kw492 kw490 kw37 kw493) rfl rfl rfl rfl (by decide +kernel) ⟨Nat.le_of_ble_eq_true rfl, Nat.le_of_ble_eq_true rfl⟩) (v_preV (ci := 1) hSS hR hS g8 (by decide) rfl []) rfl rfl hl.1 rfl (lv_room (Nat.le_of_ble_eq_true rfl)) dJ5_append_c97b9_18 ⟨by show _ + _ ≤ 1; omega, by show _ + _ ≤ 250; omega⟩) ?_
  refine w_if_eq (tgt := 37) hx hb dJ5_append_c97b9_21 (by decide) (fun c5 => ?_) (fun c5 => ?_)
  · rw [if_pos c5] at h
    refine w_iload_n hx hb dJ5_append_c97b9_37 rfl (lv_at hl 1 rfl) ?_
    refine w_iload_n hx hb dJ5_append_c97b9_38 rfl (lv_at hl 2 rfl) ?_
    refine w_iload_n hx hb dJ5_append_c97b9_39 rfl (lv_at hl 3 rfl) ?_
    refine w_aload_n hx hb dJ5_append_c97b9_40 rfl (lv_at hl 0 rfl) ?_
    obtain ⟨a6, ea6, h⟩ := v_bnd h
    refine v_gA (ci := 1) hx hb hts iwJ4 hown hK 0 ea6 rfl (by decide) (Or.inl (hts _ kw429)) (fun _ h9 => h9) dJ5_append_c97b9_41 ?_
    exact nomatch h
  · rw [if_neg c5] at h
    refine w_iload_n hx hb dJ5_append_c97b9_24 rfl (lv_at hl 1 rfl) ?_
    refine w_iload_n hx hb dJ5_append_c97b9_25 rfl (lv_at hl 3 rfl) ?_
    refine w_aload_n hx hb dJ5_append_c97b9_26 rfl (lv_at hl 0 rfl) ?_
    obtain ⟨a7, ea7, h⟩ := v_bnd h
    refine v_gA (ci := 1) hx hb hts iwJ4 hown hK 0 ea7 rfl (by decide) (Or.inl (hts _ kw429)) (fun _ h9 => h9) dJ5_append_c97b9_27 ?_
    obtain ⟨g7, h⟩ := v_ifs h
    refine v_tight hb0 ?_
    obtain ⟨z8, ez8, h⟩ := v_bnd h
    refine v_call1 (v := .int z8.1) (M1 := z8.2) (mc := 0) (ms := 0) (fun H locs hR hS => va_runS (As := [.int x1, .int (v1 + z2), .ref a7]) (rest := []) ⟨hx, hb, hml, hown, hts⟩ (mJ6_getChars_ba4f3 l hfl D x1 (v1 + z2) a7 z3.2 z8 ez8) (va_cwS 3 hts (gdS kw573 kw574 kw48 kw575) rfl rfl rfl (by decide +kernel) ⟨Nat.le_of_ble_eq_true rfl, Nat.le_of_ble_eq_true rfl⟩) (v_preS hSS hR hS [.int x1, .int (v1 + z2), .ref a7]) rfl rfl hl.1 rfl (lv_room (Nat.le_of_ble_eq_true rfl)) dJ5_append_c97b9_30 ⟨by show _ + _ ≤ 1; omega, by show _ + _ ≤ 250; omega⟩) ?_
    refine w_pop hx hb dJ5_append_c97b9_33 rfl ?_
    refine w_goto (tgt := 48) hx hb dJ5_append_c97b9_34 (by decide) ?_
    refine v_tight hb0 ?_
    exact J5_append_c97b9_J48p x0 (v1 + z2) z8.2 ls (lv_sub hl [0, 3] rfl) h

def tJ4_append_bf812 (G : Nat → Nat) (x0 : Nat) (x1 : Int32) (M : vMe) : Option (Nat × vMe) :=
  if M.2.1 + 1 ≤ M.2.1 + 1 ∧ M.2.2.1 + 250 ≤ M.2.2.1 + 250 then
  (if (M.1 x0).1 = 2 then
  ((tJ5_append_c97b9 G x0 x1 M).bind fun z1 =>
  if z1.2.2.1 ≤ M.2.1 + 1 ∧ z1.2.2.2.1 ≤ M.2.2.1 + 250 then some (x0, z1.2) else none)
else none)
else none
def rmJ4_append_bf812 : Room := { frames := 5, cells := 1, slots := 250, locals := 153 }
set_option maxHeartbeats 4000000 in
set_option maxRecDepth 100000 in
theorem mJ4_append_bf812 (l : Launch) (hfl : l.stackTraces = false) (D : vD) (x0 : Nat) (x1 : Int32) (M : vMe) (z : (Nat × vMe)) (h : tJ4_append_bf812 D.2.2.2.2 x0 x1 M = some z) : Met l yJ4_append_bf812 (Cond.code yJ4_append_bf812 cJ4_append_bf812 2 (some (.object "java/lang/StringBuilder")) :: TB) rmJ4_append_bf812 (va_Pc [.ref x0, .int x1] (vPre D M)) (qW D (some (.ref z.1)) z.2) 1 250 (vA D) := by
  refine v_ofW (cc := cJ4_append_bf812) (maxL := 2) (ret := (some (.object "java/lang/StringBuilder"))) (by decide) (Nat.le_of_ble_eq_true rfl) ?_
  intro p e s m args below meth c Q hx hb hr hml hown hts hlk hnm hSS hR0 hQ ls hl
  have hz0 := hR0.2.1
  have hs0 := hR0.2.2.1
  have hb0 : D.2.2.2.1 ≤ s.heap.size := hR0.2.2.2.2.1
  refine v_tight hb0 ?_
  have hK := hSS.1
  have hl : lv_has ls 2 [(0, .ref x0), (1, .int x1)] := hl
  unfold tJ4_append_bf812 at h
  refine w_aload_n hx hb dJ4_append_bf812_0 rfl (lv_at hl 0 rfl) ?_
  refine w_iload_n hx hb dJ4_append_bf812_1 rfl (lv_at hl 1 rfl) ?_
  obtain ⟨g7, h⟩ := v_ifs h
  refine v_tight hb0 ?_
  obtain ⟨g8, h⟩ := v_ifs h
  obtain ⟨z1, ez1, h⟩ := v_bnd h
  refine v_call1 (v := .ref z1.1) (M1 := z1.2) (mc := 1) (ms := 250) (fun H locs hR hS => va_runSU (As := [.int x1]) (rest := []) (hSS.1.1 1 _ rfl).2 ⟨hx, hb, hml, hown, hts⟩ (mJ5_append_c97b9 l hfl D x0 x1 M z1 ez1) (va_cwSU 1 hts (gdSU kw567 kw1387 kw441 kw568 kw37 kw569) rfl rfl rfl (by decide +kernel) ⟨Nat.le_of_ble_eq_true rfl, Nat.le_of_ble_eq_true rfl⟩) (v_preV (ci := 1) hSS hR hS g8 (by decide) rfl [.int x1]) rfl rfl hl.1 rfl (lv_room (Nat.le_of_ble_eq_true rfl)) dJ4_append_bf812_2 ⟨by show _ + _ ≤ 1; omega, by show _ + _ ≤ 250; omega⟩) ?_
  refine w_pop hx hb dJ4_append_bf812_5 rfl ?_
  refine w_aload_n hx hb dJ4_append_bf812_6 rfl (lv_at hl 0 rfl) ?_
  obtain ⟨g9, h⟩ := v_ifs h
  refine v_tight hb0 (vV.widen (n' := 1) (k' := 250) (by omega) (by omega) ?_)
  obtain rfl := Option.some.inj h
  rw [hQ]
  exact v_aret hx hb hr (Or.inl ⟨_, rfl⟩) (Or.inr ⟨_, rfl⟩) hlk dJ4_append_bf812_7

def tJ4_append_cf1ce (x0 : Nat) (x1 : Nat) (M : vMe) : Option (Nat × vMe) :=
  if M.2.1 + 1 ≤ M.2.1 + 1 ∧ M.2.2.1 + 250 ≤ M.2.2.1 + 250 then
  (if (M.1 x0).1 = 2 then
  ((tJ4_append_15ec4 x0 x1 M).bind fun z1 =>
  if z1.2.2.1 ≤ M.2.1 + 1 ∧ z1.2.2.2.1 ≤ M.2.2.1 + 250 then some (z1.1, z1.2) else none)
else none)
else none
def rmJ4_append_cf1ce : Room := { frames := 6, cells := 1, slots := 250, locals := 173 }
set_option maxHeartbeats 4000000 in
set_option maxRecDepth 100000 in
theorem mJ4_append_cf1ce (l : Launch) (hfl : l.stackTraces = false) (D : vD) (x0 : Nat) (x1 : Nat) (M : vMe) (z : (Nat × vMe)) (h : tJ4_append_cf1ce x0 x1 M = some z) : Met l yJ4_append_cf1ce (Cond.code yJ4_append_cf1ce cJ4_append_cf1ce 2 (some (.object "java/lang/AbstractStringBuilder")) :: TB) rmJ4_append_cf1ce (va_Pc [.ref x0, .ref x1] (vPre D M)) (qW D (some (.ref z.1)) z.2) 1 250 (vA D) := by
  refine v_ofW (cc := cJ4_append_cf1ce) (maxL := 2) (ret := (some (.object "java/lang/AbstractStringBuilder"))) (by decide) (Nat.le_of_ble_eq_true rfl) ?_
  intro p e s m args below meth c Q hx hb hr hml hown hts hlk hnm hSS hR0 hQ ls hl
  have hz0 := hR0.2.1
  have hs0 := hR0.2.2.1
  have hb0 : D.2.2.2.1 ≤ s.heap.size := hR0.2.2.2.2.1
  refine v_tight hb0 ?_
  have hK := hSS.1
  have hl : lv_has ls 2 [(0, .ref x0), (1, .ref x1)] := hl
  unfold tJ4_append_cf1ce at h
  refine w_aload_n hx hb dJ4_append_cf1ce_0 rfl (lv_at hl 0 rfl) ?_
  refine w_aload_n hx hb dJ4_append_cf1ce_1 rfl (lv_at hl 1 rfl) ?_
  obtain ⟨g7, h⟩ := v_ifs h
  refine v_tight hb0 ?_
  obtain ⟨g8, h⟩ := v_ifs h
  obtain ⟨z1, ez1, h⟩ := v_bnd h
  refine v_call1 (v := .ref z1.1) (M1 := z1.2) (mc := 1) (ms := 250) (fun H locs hR hS => va_runV (As := [.ref x1]) (rest := []) ⟨hx, hb, hml, hown, hts⟩ (mJ4_append_15ec4 l hfl D x0 x1 M z1 ez1) (cwV 1 hts (gdV kw660 kw444 kw445 kw38 kw446) rfl rfl rfl (by decide +kernel) ⟨Nat.le_of_ble_eq_true rfl, Nat.le_of_ble_eq_true rfl⟩) (v_preV (ci := 1) hSS hR hS g8 (by decide) rfl [.ref x1]) rfl rfl hl.1 rfl (lv_room (Nat.le_of_ble_eq_true rfl)) dJ4_append_cf1ce_2 ⟨by show _ + _ ≤ 1; omega, by show _ + _ ≤ 250; omega⟩) ?_
  obtain ⟨g9, h⟩ := v_ifs h
  refine v_tight hb0 (vV.widen (n' := 1) (k' := 250) (by omega) (by omega) ?_)
  obtain rfl := Option.some.inj h
  rw [hQ]
  exact v_aret hx hb hr (Or.inl ⟨_, rfl⟩) (Or.inr ⟨_, rfl⟩) hlk dJ4_append_cf1ce_5

def tJ5_init_a7421_J53 (n0 s0 : Nat) (x0 : Nat) (x1 : Nat) (y0 : Nat) (y1 : Nat) (Mj : vMe) : Option (Unit × vMe) :=
  (sV Mj y0 2 0 (.ref y1)).bind fun M7 =>
  if M7.2.1 + 1 ≤ n0 + 2 ∧ M7.2.2.1 + 250 ≤ s0 + 300 then
  (if (M7.1 x0).1 = 2 then
  ((tJ4_append_cf1ce x0 x1 M7).bind fun z8 =>
  if z8.2.2.1 ≤ n0 + 2 ∧ z8.2.2.2.1 ≤ s0 + 300 then some ((), z8.2) else none)
else none)
else none
def tJ5_init_a7421_J24 (n0 s0 : Nat) (x0 : Nat) (x1 : Nat) (y0 : Int32) (Mj : vMe) : Option (Unit × vMe) :=
  if Mj.2.1 + 0 ≤ n0 + 2 ∧ Mj.2.2.1 + 0 ≤ s0 + 300 then
  (if (Mj.1 x1).1 = 1 then
  ((tJ0_coder_7d493 x1 Mj).bind fun z3 =>
  if fits .byte (.int z3) = true then
  ((sV Mj x0 2 1 (.int z3)).bind fun M4 =>
  if z3 = 0 then
  (if ¬ y0 < 0 ∧ y0.toNatClampNeg ≤ 65536 then
  ((nwO M4 102 y0.toNatClampNeg y0.toNatClampNeg (fun _ => .int 0) n0 s0 2 300).bind fun M6 =>
  tJ5_init_a7421_J53 n0 s0 x0 x1 x0 M4.2.1 M6)
else none)
else
  (none))
else none)
else none)
else none
def tJ5_init_a7421 (x0 : Nat) (x1 : Nat) (M : vMe) : Option (Unit × vMe) :=
  if M.2.1 + 0 ≤ M.2.1 + 2 ∧ M.2.2.1 + 0 ≤ M.2.2.1 + 300 then
  (if (M.1 x1).1 = 1 then
  ((tJ0_length_8abf5 x1 M).bind fun z1 =>
  if (2147483631 : Int32) ≤ z1 then
  (tJ5_init_a7421_J24 M.2.1 M.2.2.1 x0 x1 2147483647 M)
else
  (tJ5_init_a7421_J24 M.2.1 M.2.2.1 x0 x1 (z1 + 16) M))
else none)
else none
def rmJ5_init_a7421 : Room := { frames := 7, cells := 2, slots := 300, locals := 194 }
set_option maxHeartbeats 4000000 in
set_option maxRecDepth 100000 in
theorem mJ5_init_a7421 (l : Launch) (hfl : l.stackTraces = false) (D : vD) (x0 : Nat) (x1 : Nat) (M : vMe) (z : (Unit × vMe)) (h : tJ5_init_a7421 x0 x1 M = some z) : Met l yJ5_init_a7421 (Cond.code yJ5_init_a7421 cJ5_init_a7421 5 none :: TB) rmJ5_init_a7421 (va_Pc [.ref x0, .ref x1] (vPre D M)) (qW D none z.2) 2 300 (vA D) := by
  refine v_ofW (cc := cJ5_init_a7421) (maxL := 5) (ret := none) (by decide) (Nat.le_of_ble_eq_true rfl) ?_
  intro p e s m args below meth c Q hx hb hr hml hown hts hlk hnm hSS hR0 hQ ls hl
  have hz0 := hR0.2.1
  have hs0 := hR0.2.2.1
  have hb0 : D.2.2.2.1 ≤ s.heap.size := hR0.2.2.2.2.1
  refine v_tight hb0 ?_
  have hK := hSS.1
  have hl : lv_has ls 5 [(0, .ref x0), (1, .ref x1)] := hl
  unfold tJ5_init_a7421 at h
  have J5_init_a7421_J53p : ∀ (x0 : Nat) (x1 : Nat) (y0 : Nat) (y1 : Nat) (Mj : vMe) (ls : Array Slot), lv_has ls 5 [(0, .ref x0), (1, .ref x1)] → tJ5_init_a7421_J53 M.2.1 M.2.2.1 x0 x1 y0 y1 Mj = some z → vV D p l e rmJ5_init_a7421 s m args below meth c (Mj.2.1 - s.heap.size) (Mj.2.2.1 - vSum D.2.2.2.1 s.heap) Q Mj (F0 m 53 ls [.ref y1, .ref y0]) := by
    intro x0 x1 y0 y1 Mj ls hl h
    unfold tJ5_init_a7421_J53 at h
    obtain ⟨M7, eM7, h⟩ := v_bnd h
    refine v_putf (ci := 1) hx hb hts iwJ4 hown hK tyJ4_ok nmJ4 0 eM7 rfl (by decide) (Or.inl (hts _ kw429)) (fun _ h9 => h9) (Or.inl rfl) rfl rfl dJ5_init_a7421_53 ?_
    refine w_aload_n hx hb dJ5_init_a7421_56 rfl (lv_at hl 0 rfl) ?_
    refine w_aload_n hx hb dJ5_init_a7421_57 rfl (lv_at hl 1 rfl) ?_
    obtain ⟨g7, h⟩ := v_ifs h
    refine v_tight hb0 ?_
    obtain ⟨g8, h⟩ := v_ifs h
    obtain ⟨z8, ez8, h⟩ := v_bnd h
    refine v_call1 (v := .ref z8.1) (M1 := z8.2) (mc := 1) (ms := 250) (fun H locs hR hS => va_runU (As := [.ref x1]) (rest := []) ⟨hx, hb, hml, hown, hts⟩ (mJ4_append_cf1ce l hfl D x0 x1 M7 z8 ez8) (va_cwO 1 hts (gdO kw657 kw1380 kw448 kw1388 kw658 kw38 kw659) rfl rfl rfl kw449 (by decide +kernel) ⟨Nat.le_of_ble_eq_true rfl, Nat.le_of_ble_eq_true rfl⟩) (v_preV (ci := 1) hSS hR hS g8 (by decide) rfl [.ref x1]) rfl rfl hl.1 rfl (lv_room (Nat.le_of_ble_eq_true rfl)) dJ5_init_a7421_58 ⟨by show _ + _ ≤ 2; omega, by show _ + _ ≤ 300; omega⟩) ?_
    refine w_pop hx hb dJ5_init_a7421_61 rfl ?_
    obtain ⟨g9, h⟩ := v_ifs h
    refine v_tight hb0 (vV.widen (n' := 2) (k' := 300) (by omega) (by omega) ?_)
    obtain rfl := Option.some.inj h
    rw [hQ]
    exact v_vret hx hb hr hlk dJ5_init_a7421_62
  have J5_init_a7421_J24p : ∀ (x0 : Nat) (x1 : Nat) (y0 : Int32) (Mj : vMe) (ls : Array Slot), lv_has ls 5 [(0, .ref x0), (1, .ref x1)] → tJ5_init_a7421_J24 M.2.1 M.2.2.1 x0 x1 y0 Mj = some z → vV D p l e rmJ5_init_a7421 s m args below meth c (Mj.2.1 - s.heap.size) (Mj.2.2.1 - vSum D.2.2.2.1 s.heap) Q Mj (F0 m 24 ls [.int y0]) := by
    intro x0 x1 y0 Mj ls hl h
    unfold tJ5_init_a7421_J24 at h
    refine w_istore_n (lv' := [(3, .int y0), (0, .ref x0), (1, .ref x1)]) hx hb dJ5_init_a7421_24 rfl hl (by decide) rfl (fun ls hl => ?_)
    have hl : lv_has ls 5 [(0, .ref x0), (1, .ref x1), (3, .int y0)] := lv_sub hl [1, 2, 0] rfl
    refine w_aload_n hx hb dJ5_init_a7421_25 rfl (lv_at hl 1 rfl) ?_
    obtain ⟨g7, h⟩ := v_ifs h
    refine v_tight hb0 ?_
    obtain ⟨g8, h⟩ := v_ifs h
    obtain ⟨z3, ez3, h⟩ := v_bnd h
    refine v_call1 (v := .int z3) (M1 := Mj) (mc := 0) (ms := 0) (fun H locs hR hS => va_runV (As := []) (rest := []) ⟨hx, hb, hml, hown, hts⟩ (mJ0_coder_7d493 l hfl D x1 Mj z3 ez3) (cwV 0 hts (gdV kw537 kw525 kw526 kw39 kw527) rfl rfl rfl (by decide +kernel) ⟨Nat.le_of_ble_eq_true rfl, Nat.le_of_ble_eq_true rfl⟩) (v_preV (ci := 0) hSS hR hS g8 (by decide) rfl []) rfl rfl hl.1 rfl (lv_room (Nat.le_of_ble_eq_true rfl)) dJ5_init_a7421_26 ⟨by show _ + _ ≤ 2; omega, by show _ + _ ≤ 300; omega⟩) ?_
    refine w_istore (lv' := [(4, .int z3), (0, .ref x0), (1, .ref x1), (3, .int y0)]) hx hb dJ5_init_a7421_29 hl (by decide) rfl (fun ls hl => ?_)
    have hl : lv_has ls 5 [(0, .ref x0), (1, .ref x1), (3, .int y0), (4, .int z3)] := lv_sub hl [1, 2, 3, 0] rfl
    refine w_aload_n hx hb dJ5_init_a7421_31 rfl (lv_at hl 0 rfl) ?_
    refine w_iload hx hb dJ5_init_a7421_32 (lv_at hl 3 rfl) ?_
    obtain ⟨g9, h⟩ := v_ifs h
    obtain ⟨M4, eM4, h⟩ := v_bnd h
    refine v_putf (ci := 1) hx hb hts iwJ4 hown hK tyJ4_ok nmJ4 1 eM4 rfl (by decide) (Or.inl (hts _ kw430)) (fun _ h9 => h9) (Or.inl rfl) (v_narB g9) g9 dJ5_init_a7421_34 ?_
    refine w_aload_n hx hb dJ5_init_a7421_37 rfl (lv_at hl 0 rfl) ?_
    refine w_iload hx hb dJ5_init_a7421_38 (lv_at hl 3 rfl) ?_
    refine w_if_ne (tgt := 49) hx hb dJ5_init_a7421_40 (by decide) (fun c5 => ?_) (fun c5 => ?_)
    · rw [if_pos c5] at h
      refine w_iload_n hx hb dJ5_init_a7421_43 rfl (lv_at hl 2 rfl) ?_
      obtain ⟨g8, h⟩ := v_ifs h
      obtain ⟨M6, eM6, h⟩ := v_bnd h
      refine u_newa (x := y0) (atype := .byte) hx hb hK (hts _ kw83) (by decide) g8.1 rfl (Nat.le_trans (Nat.mul_le_mul_right _ g8.2) (by decide)) (v_nclt _) (by decide) hb0 hz0 hs0 rfl rfl eM6 dJ5_init_a7421_44 ?_
      refine w_goto (tgt := 53) hx hb dJ5_init_a7421_46 (by decide) ?_
      refine v_tight hb0 ?_
      exact J5_init_a7421_J53p x0 x1 x0 M4.2.1 M6 ls (lv_sub hl [0, 1] rfl) h
    · rw [if_neg c5] at h
      refine w_iload_n hx hb dJ5_init_a7421_49 rfl (lv_at hl 2 rfl) ?_
      exact nomatch h
  refine w_aload_n hx hb dJ5_init_a7421_0 rfl (lv_at hl 0 rfl) ?_
  refine v_objInit hx hb hown (hts _ kw419) (hts _ kw66) (hts _ kw67) (hl.1.trans hml.symm) dJ5_init_a7421_1 (Nat.le_of_ble_eq_true rfl) (Nat.le_of_ble_eq_true rfl) ?_
  refine w_aload_n hx hb dJ5_init_a7421_4 rfl (lv_at hl 1 rfl) ?_
  obtain ⟨g7, h⟩ := v_ifs h
  refine v_tight hb0 ?_
  obtain ⟨g8, h⟩ := v_ifs h
  obtain ⟨z1, ez1, h⟩ := v_bnd h
  refine v_call1 (v := .int z1) (M1 := M) (mc := 0) (ms := 0) (fun H locs hR hS => va_runV (As := []) (rest := []) ⟨hx, hb, hml, hown, hts⟩ (mJ0_length_8abf5 l hfl D x1 M z1 ez1) (cwV 0 hts (gdV kw520 kw521 kw522 kw39 kw523) rfl rfl rfl (by decide +kernel) ⟨Nat.le_of_ble_eq_true rfl, Nat.le_of_ble_eq_true rfl⟩) (v_preV (ci := 0) hSS hR hS g8 (by decide) rfl []) rfl rfl hl.1 rfl (lv_room (Nat.le_of_ble_eq_true rfl)) dJ5_init_a7421_5 ⟨by show _ + _ ≤ 2; omega, by show _ + _ ≤ 300; omega⟩) ?_
  refine w_istore_n (lv' := [(2, .int z1), (0, .ref x0), (1, .ref x1)]) hx hb dJ5_init_a7421_8 rfl hl (by decide) rfl (fun ls hl => ?_)
  have hl : lv_has ls 5 [(0, .ref x0), (1, .ref x1), (2, .int z1)] := lv_sub hl [1, 2, 0] rfl
  refine w_iload_n hx hb dJ5_init_a7421_9 rfl (lv_at hl 2 rfl) ?_
  refine w_ldcI hx hb hown (hts _ kw656) dJ5_init_a7421_10 ?_
  refine w_icmp_ge (tgt := 22) hx hb dJ5_init_a7421_12 (by decide) (fun c2 => ?_) (fun c2 => ?_)
  · rw [if_pos c2] at h
    refine w_ldcI hx hb hown (hts _ kw472) dJ5_init_a7421_22 ?_
    refine v_tight hb0 ?_
    exact J5_init_a7421_J24p x0 x1 2147483647 M ls (lv_sub hl [0, 1] rfl) h
  · rw [if_neg c2] at h
    refine w_iload_n hx hb dJ5_init_a7421_15 rfl (lv_at hl 2 rfl) ?_
    refine w_bipush (v := 16) hx hb dJ5_init_a7421_16 (by decide) ?_
    refine w_iadd hx hb dJ5_init_a7421_18 ?_
    refine w_goto (tgt := 24) hx hb dJ5_init_a7421_19 (by decide) ?_
    refine v_tight hb0 ?_
    exact J5_init_a7421_J24p x0 x1 (z1 + 16) M ls (lv_sub hl [0, 1] rfl) h

def tJ4_init_a7421 (x0 : Nat) (x1 : Nat) (M : vMe) : Option (Unit × vMe) :=
  if M.2.1 + 2 ≤ M.2.1 + 2 ∧ M.2.2.1 + 300 ≤ M.2.2.1 + 300 then
  ((tJ5_init_a7421 x0 x1 M).bind fun z1 =>
  if z1.2.2.1 ≤ M.2.1 + 2 ∧ z1.2.2.2.1 ≤ M.2.2.1 + 300 then some ((), z1.2) else none)
else none
def rmJ4_init_a7421 : Room := { frames := 8, cells := 2, slots := 300, locals := 218 }
set_option maxHeartbeats 4000000 in
set_option maxRecDepth 100000 in
theorem mJ4_init_a7421 (l : Launch) (hfl : l.stackTraces = false) (D : vD) (x0 : Nat) (x1 : Nat) (M : vMe) (z : (Unit × vMe)) (h : tJ4_init_a7421 x0 x1 M = some z) : Met l yJ4_init_a7421 (Cond.code yJ4_init_a7421 cJ4_init_a7421 2 none :: TB) rmJ4_init_a7421 (va_Pc [.ref x0, .ref x1] (vPre D M)) (qW D none z.2) 2 300 (vA D) := by
  refine v_ofW (cc := cJ4_init_a7421) (maxL := 2) (ret := none) (by decide) (Nat.le_of_ble_eq_true rfl) ?_
  intro p e s m args below meth c Q hx hb hr hml hown hts hlk hnm hSS hR0 hQ ls hl
  have hz0 := hR0.2.1
  have hs0 := hR0.2.2.1
  have hb0 : D.2.2.2.1 ≤ s.heap.size := hR0.2.2.2.2.1
  refine v_tight hb0 ?_
  have hK := hSS.1
  have hl : lv_has ls 2 [(0, .ref x0), (1, .ref x1)] := hl
  unfold tJ4_init_a7421 at h
  refine w_aload_n hx hb dJ4_init_a7421_0 rfl (lv_at hl 0 rfl) ?_
  refine w_aload_n hx hb dJ4_init_a7421_1 rfl (lv_at hl 1 rfl) ?_
  obtain ⟨g7, h⟩ := v_ifs h
  refine v_tight hb0 ?_
  obtain ⟨z1, ez1, h⟩ := v_bnd h
  refine v_call0 (M1 := z1.2) (mc := 2) (ms := 300) (fun H locs hR hS => va_runI (As := [.ref x1]) (rest := []) ⟨hx, hb, hml, hown, hts⟩ (mJ5_init_a7421 l hfl D x0 x1 M z1 ez1) (cwI 1 hts (gdI kw655) rfl rfl rfl (hts _ kw37) (hts _ kw653) (hts _ kw654) rfl (by decide +kernel) ⟨Nat.le_of_ble_eq_true rfl, Nat.le_of_ble_eq_true rfl⟩) (v_preS hSS hR hS [.ref x0, .ref x1]) rfl rfl hl.1 rfl (lv_room (Nat.le_of_ble_eq_true rfl)) dJ4_init_a7421_2 ⟨by show _ + _ ≤ 2; omega, by show _ + _ ≤ 300; omega⟩) ?_
  obtain ⟨g9, h⟩ := v_ifs h
  refine v_tight hb0 (vV.widen (n' := 2) (k' := 300) (by omega) (by omega) ?_)
  obtain rfl := Option.some.inj h
  rw [hQ]
  exact v_vret hx hb hr hlk dJ4_init_a7421_5

def tL_changes_L200 (n0 s0 : Nat) (x0 : Nat) (x1 : Nat) (x2 : Nat) (x3 : Int32) (x4 : Nat) : Nat → Int32 → vMe → Option (Int32 × vMe)
  | 0, _, _ => none
  | f + 1, x7, Mi =>
  (gA Mi x1 14 7).bind fun a32 =>
  (aR Mi a32 110 x7).bind fun a33 =>
  if a33 = none then
  (some (x7, Mi))
else
  (tL_changes_L200 n0 s0 x0 x1 x2 x3 x4 f (x7 + 1) Mi)
def tL_changes_J262 (G : Nat → Nat) (n0 s0 : Nat) (x0 : Nat) (x1 : Nat) (x3 : Int32) (x7 : Int32) (x8 : Nat) (y0 : Nat) (y1 : Int32) (Mj : vMe) : Option (Int32 × vMe) :=
  if fits .boolean (.int y1) = true then
  ((sV Mj y0 13 7 (.int y1)).bind fun M45 =>
  (gA M45 x1 14 7).bind fun a46 =>
  (sQ M45 a46 110 x7 x8 13).bind fun M47 =>
  (gI M47 x8 13 7).bind fun v48 =>
  if M47.2.1 + 50 ≤ n0 + 128 ∧ M47.2.2.1 + 2001 ≤ s0 + 2600 then
  (if (M47.1 x0).1 = 11 then
  ((tX9_open G x0 x3 v48 M47).bind fun z49 =>
  Sum.elim (fun r50 =>
  if r50 = x7 then
  (if z49.2.2.1 ≤ n0 + 128 ∧ z49.2.2.2.1 ≤ s0 + 2600 then some (1, z49.2) else none)
else
  (if z49.2.2.1 ≤ n0 + 128 ∧ z49.2.2.2.1 ≤ s0 + 2600 then some (0, z49.2) else none)) (fun _ => none) z49.1)
else none)
else none)
else none
def tL_changes_J186 (G : Nat → Nat) (n0 s0 : Nat) (x0 : Nat) (x1 : Nat) (x2 : Nat) (x3 : Int32) (x4 : Nat) (Mj : vMe) : Option (Int32 × vMe) :=
  if Mj.2.1 + 0 ≤ n0 + 128 ∧ Mj.2.2.1 + 0 ≤ s0 + 2600 then
  (if (Mj.1 x1).1 = 14 then
  ((tX12_cursors x1 Mj).bind fun z26 =>
  if z26 = (6 : Int32) then
  (if Mj.2.1 ≤ n0 + 128 ∧ Mj.2.2.1 ≤ s0 + 2600 then some (1, Mj) else none)
else
  ((tL_changes_L200 n0 s0 x0 x1 x2 x3 x4 vF 0 Mj).bind fun z36 =>
  (nwO z36.2 13 0 8 (vp_V [.null, .int 0, .int 0, .int 0, .int 0, .int 0, .int 0, .int 0]) n0 s0 128 2600).bind fun M37 =>
  if M37.2.1 + 0 ≤ n0 + 128 ∧ M37.2.2.1 + 0 ≤ s0 + 2600 then
  ((tX11_init z36.2.2.1 M37).bind fun z38 =>
  (sV z38.2 z36.2.2.1 13 0 (.ref x4)).bind fun M39 =>
  (sV M39 z36.2.2.1 13 1 (.int x3)).bind fun M40 =>
  (gI M40 x1 14 3).bind fun v41 =>
  (sV M40 z36.2.2.1 13 3 (.int v41)).bind fun M42 =>
  if M42.2.1 + 0 ≤ n0 + 128 ∧ M42.2.2.1 + 0 ≤ s0 + 2600 then
  ((tL_draw x2 2 M42).bind fun z43 =>
  if z43.1 = 0 then
  (tL_changes_J262 G n0 s0 x0 x1 x3 z36.1 z36.2.2.1 z36.2.2.1 1 z43.2)
else
  (tL_changes_J262 G n0 s0 x0 x1 x3 z36.1 z36.2.2.1 z36.2.2.1 0 z43.2))
else none)
else none))
else none)
else none
def tL_changes_J352 (G : Nat → Nat) (n0 s0 : Nat) (x0 : Nat) (x1 : Nat) (x6 : Int32) (Mj : vMe) : Option (Int32 × vMe) :=
  (gA Mj x1 14 7).bind fun a66 =>
  (aR Mj a66 110 x6).bind fun a67 =>
  if a67 = none then
  (if Mj.2.1 ≤ n0 + 128 ∧ Mj.2.2.1 ≤ s0 + 2600 then some (1, Mj) else none)
else
  (if Mj.2.1 + 50 ≤ n0 + 128 ∧ Mj.2.2.1 + 2001 ≤ s0 + 2600 then
  (if (Mj.1 x0).1 = 11 then
  ((tX9_step G x0 x6 Mj).bind fun z70 =>
  Sum.elim (fun r71 =>
  (gA z70.2 x1 14 7).bind fun a72 =>
  (aA z70.2 a72 110 x6).bind fun a73 =>
  if z70.2.2.1 + 0 ≤ n0 + 128 ∧ z70.2.2.2.1 + 0 ≤ s0 + 2600 then
  (if (z70.2.1 x1).1 = 14 then
  ((tX12_step x1 a73 z70.2).bind fun z74 =>
  if r71 = z74.1 then
  (if z74.2.2.1 ≤ n0 + 128 ∧ z74.2.2.2.1 ≤ s0 + 2600 then some (1, z74.2) else none)
else
  (if z74.2.2.1 ≤ n0 + 128 ∧ z74.2.2.2.1 ≤ s0 + 2600 then some (0, z74.2) else none))
else none)
else none) (fun _ => none) z70.1)
else none)
else none)
def tL_changes_J471 (G : Nat → Nat) (n0 s0 : Nat) (x0 : Nat) (x1 : Nat) (x3 : Int32) (x4 : Nat) (x5 : Int32) (Mj : vMe) : Option (Int32 × vMe) :=
  if Mj.2.1 + 50 ≤ n0 + 128 ∧ Mj.2.2.1 + 2001 ≤ s0 + 2600 then
  (if (Mj.1 x0).1 = 11 then
  ((tX9_remove G x0 x3 x5 Mj).bind fun z95 =>
  Sum.elim (fun r96 =>
  if z95.2.2.1 + 1 ≤ n0 + 128 ∧ z95.2.2.2.1 + 6 ≤ s0 + 2600 then
  (if (z95.2.1 x1).1 = 14 then
  ((tX12_remove x1 x4 x5 z95.2).bind fun z97 =>
  if r96 = z97.1 then
  (if z97.2.2.1 ≤ n0 + 128 ∧ z97.2.2.2.1 ≤ s0 + 2600 then some (1, z97.2) else none)
else
  (if z97.2.2.1 ≤ n0 + 128 ∧ z97.2.2.2.1 ≤ s0 + 2600 then some (0, z97.2) else none))
else none)
else none) (fun _ => none) z95.1)
else none)
else none
def tL_changes_J563_517 (rec : Int32 → Int32 → vMe → Option (Int32 × vMe)) (n0 s0 : Nat) (x0 : Nat) (x1 : Nat) (x3 : Int32) (x4 : Nat) (x7 : Int32) (x8 : Int32) (x9 : Int32) (Mj : vMe) : Option (Int32 × vMe) :=
  rec x8 (x9 + (-1)) Mj
def tL_changes_L517 (n0 s0 : Nat) (x0 : Nat) (x1 : Nat) (x3 : Int32) (x4 : Nat) (x7 : Int32) : Nat → Int32 → Int32 → vMe → Option (Int32 × vMe)
  | 0, _, _, _ => none
  | f + 1, x8, x9, Mi =>
  if x9 < 0 then
  (some (x8, Mi))
else
  ((gA Mi x1 14 6).bind fun a114 =>
  (aA Mi a114 109 x7).bind fun a115 =>
  (gA Mi x4 12 3).bind fun a116 =>
  (aI Mi a116 101 x9).bind fun v117 =>
  if Mi.2.1 + 0 ≤ n0 + 128 ∧ Mi.2.2.1 + 0 ≤ s0 + 2600 then
  (if (Mi.1 a115).1 = 12 then
  ((tX10_has a115 v117 Mi).bind fun z118 =>
  if z118 = 0 then
  ((gA Mi x4 12 3).bind fun a120 =>
  (aI Mi a120 101 x9).bind fun v121 =>
  if Mi.2.1 + 1 ≤ n0 + 128 ∧ Mi.2.2.1 + 6 ≤ s0 + 2600 then
  (if (Mi.1 x1).1 = 14 then
  ((tX12_remove x1 x4 v121 Mi).bind fun z122 =>
  if z122.1 = 0 then
  (tL_changes_J563_517 (tL_changes_L517 n0 s0 x0 x1 x3 x4 x7 f) n0 s0 x0 x1 x3 x4 x7 x8 x9 z122.2)
else
  (tL_changes_J563_517 (tL_changes_L517 n0 s0 x0 x1 x3 x4 x7 f) n0 s0 x0 x1 x3 x4 x7 (x8 + 1) x9 z122.2))
else none)
else none)
else
  (tL_changes_J563_517 (tL_changes_L517 n0 s0 x0 x1 x3 x4 x7 f) n0 s0 x0 x1 x3 x4 x7 x8 x9 Mi))
else none)
else none)
def tL_changes_L607 (n0 s0 : Nat) (x0 : Nat) (x1 : Nat) (x3 : Int32) (x4 : Nat) (x7 : Int32) (x8 : Int32) : Nat → Int32 → vMe → Option (Unit × vMe)
  | 0, _, _ => none
  | f + 1, x9, Mi =>
  (gA Mi x1 14 6).bind fun a141 =>
  (aA Mi a141 109 x7).bind fun a142 =>
  (gI Mi a142 12 0).bind fun v143 =>
  if v143 ≤ x9 then
  (some ((), Mi))
else
  (if x7 = x3 then
  (some ((), Mi))
else
  ((gA Mi x1 14 6).bind fun a146 =>
  (aA Mi a146 109 x7).bind fun a147 =>
  (gA Mi a147 12 3).bind fun a148 =>
  (aI Mi a148 101 x9).bind fun v149 =>
  if Mi.2.1 + 0 ≤ n0 + 128 ∧ Mi.2.2.1 + 0 ≤ s0 + 2600 then
  (if (Mi.1 x1).1 = 14 then
  ((tX12_add x1 x4 v149 Mi).bind fun z150 =>
  tL_changes_L607 n0 s0 x0 x1 x3 x4 x7 x8 f (x9 + 1) z150.2)
else none)
else none))
def tL_changes_J653 (G : Nat → Nat) (n0 s0 : Nat) (x0 : Nat) (x3 : Int32) (x4 : Nat) (x7 : Int32) (x8 : Int32) (Mj : vMe) : Option (Int32 × vMe) :=
  if Mj.2.1 + 50 ≤ n0 + 128 ∧ Mj.2.2.1 + 2001 ≤ s0 + 2600 then
  (if (Mj.1 x0).1 = 11 then
  ((tX9_unite G x0 x3 x7 Mj).bind fun z152 =>
  Sum.elim (fun r153 =>
  (gI z152.2 x4 12 0).bind fun v154 =>
  if r153 = (v154 - x8) then
  (if z152.2.2.1 ≤ n0 + 128 ∧ z152.2.2.2.1 ≤ s0 + 2600 then some (1, z152.2) else none)
else
  (if z152.2.2.1 ≤ n0 + 128 ∧ z152.2.2.2.1 ≤ s0 + 2600 then some (0, z152.2) else none)) (fun _ => none) z152.1)
else none)
else none
def tL_changes (G : Nat → Nat) (x0 : Nat) (x1 : Nat) (x2 : Nat) (M : vMe) : Option (Int32 × vMe) :=
  (gI M x1 14 0).bind fun v1 =>
  if M.2.1 + 0 ≤ M.2.1 + 128 ∧ M.2.2.1 + 0 ≤ M.2.2.1 + 2600 then
  ((tL_draw x2 v1 M).bind fun z2 =>
  (gA z2.2 x1 14 6).bind fun a3 =>
  (aA z2.2 a3 109 z2.1).bind fun a4 =>
  (gI z2.2 x1 14 1).bind fun v5 =>
  if z2.2.2.1 + 0 ≤ M.2.1 + 128 ∧ z2.2.2.2.1 + 0 ≤ M.2.2.1 + 2600 then
  ((tL_draw x2 v5 z2.2).bind fun z6 =>
  if z6.2.2.1 + 0 ≤ M.2.1 + 128 ∧ z6.2.2.2.1 + 0 ≤ M.2.2.1 + 2600 then
  ((tL_draw x2 6 z6.2).bind fun z7 =>
  if z7.2.2.1 + 0 ≤ M.2.1 + 128 ∧ z7.2.2.2.1 + 0 ≤ M.2.2.1 + 2600 then
  ((tL_draw x2 14 z7.2).bind fun z8 =>
  if z8.1 = 0 then
  (if z8.2.2.1 + 0 ≤ M.2.1 + 128 ∧ z8.2.2.2.1 + 0 ≤ M.2.2.1 + 2600 then
  ((tL_draw x2 2 z8.2).bind fun z9 =>
  if z9.1 ≤ 0 then
  (if z9.2.2.1 + 50 ≤ M.2.1 + 128 ∧ z9.2.2.2.1 + 2001 ≤ M.2.2.1 + 2600 then
  (if (z9.2.1 x0).1 = 11 then
  ((tX9_clear G x0 z2.1 z9.2).bind fun z11 =>
  Sum.elim (fun r12 =>
  if z11.2.2.1 + 0 ≤ M.2.1 + 128 ∧ z11.2.2.2.1 + 0 ≤ M.2.2.1 + 2600 then
  (if (z11.2.1 x1).1 = 14 then
  ((tX12_clear x1 a4 z11.2).bind fun z13 =>
  if r12 = z13.1 then
  (if z13.2.2.1 ≤ M.2.1 + 128 ∧ z13.2.2.2.1 ≤ M.2.2.1 + 2600 then some (1, z13.2) else none)
else
  (if z13.2.2.1 ≤ M.2.1 + 128 ∧ z13.2.2.2.1 ≤ M.2.2.1 + 2600 then some (0, z13.2) else none))
else none)
else none) (fun _ => none) z11.1)
else none)
else none)
else
  (if z9.2.2.1 ≤ M.2.1 + 128 ∧ z9.2.2.2.1 ≤ M.2.2.1 + 2600 then some (1, z9.2) else none))
else none)
else
  (if z8.1 = 1 then
  ((gI z8.2 x1 14 5).bind fun v15 =>
  if v15 = (8 : Int32) then
  (if z8.2.2.1 ≤ M.2.1 + 128 ∧ z8.2.2.2.1 ≤ M.2.2.1 + 2600 then some (1, z8.2) else none)
else
  ((gA z8.2 x1 14 8).bind fun a17 =>
  (gI z8.2 x1 14 5).bind fun v18 =>
  (gI z8.2 x1 14 3).bind fun v19 =>
  (sA z8.2 a17 101 v18 (.int v19)).bind fun M20 =>
  if M20.2.1 + 50 ≤ M.2.1 + 128 ∧ M20.2.2.1 + 2001 ≤ M.2.2.1 + 2600 then
  (if (M20.1 x0).1 = 11 then
  ((tX9_mark G x0 M20).bind fun z21 =>
  Sum.elim (fun r22 =>
  (gI z21.2 x1 14 5).bind fun v23 =>
  (sV z21.2 x1 14 5 (.int (v23 + 1))).bind fun M24 =>
  if r22 = v23 then
  (if M24.2.1 ≤ M.2.1 + 128 ∧ M24.2.2.1 ≤ M.2.2.1 + 2600 then some (1, M24) else none)
else
  (if M24.2.1 ≤ M.2.1 + 128 ∧ M24.2.2.1 ≤ M.2.2.1 + 2600 then some (0, M24) else none)) (fun _ => none) z21.1)
else none)
else none))
else
  (if z8.1 = 2 then
  (tL_changes_J186 G M.2.1 M.2.2.1 x0 x1 x2 z2.1 a4 z8.2)
else
  (if z8.1 = 3 then
  (tL_changes_J186 G M.2.1 M.2.2.1 x0 x1 x2 z2.1 a4 z8.2)
else
  (if z8.1 = 4 then
  ((gA z8.2 x1 14 7).bind fun a52 =>
  (aR z8.2 a52 110 z7.1).bind fun a53 =>
  if a53 = none then
  (if z8.2.2.1 ≤ M.2.1 + 128 ∧ z8.2.2.2.1 ≤ M.2.2.1 + 2600 then some (1, z8.2) else none)
else
  (if z8.2.2.1 + 0 ≤ M.2.1 + 128 ∧ z8.2.2.2.1 + 0 ≤ M.2.2.1 + 2600 then
  ((tL_draw x2 2 z8.2).bind fun z56 =>
  if z56.1 ≤ 0 then
  ((gA z56.2 x1 14 7).bind fun a58 =>
  (aA z56.2 a58 110 z7.1).bind fun a59 =>
  (gI z56.2 a59 13 4).bind fun v60 =>
  (gA z56.2 x1 14 7).bind fun a61 =>
  (sA z56.2 a61 110 z7.1 .null).bind fun M62 =>
  if M62.2.1 + 50 ≤ M.2.1 + 128 ∧ M62.2.2.1 + 2001 ≤ M.2.2.1 + 2600 then
  (if (M62.1 x0).1 = 11 then
  ((tX9_close G x0 z7.1 M62).bind fun z63 =>
  Sum.elim (fun r64 =>
  if r64 = v60 then
  (if z63.2.2.1 ≤ M.2.1 + 128 ∧ z63.2.2.2.1 ≤ M.2.2.1 + 2600 then some (1, z63.2) else none)
else
  (if z63.2.2.1 ≤ M.2.1 + 128 ∧ z63.2.2.2.1 ≤ M.2.2.1 + 2600 then some (0, z63.2) else none)) (fun _ => none) z63.1)
else none)
else none)
else
  (if z56.2.2.1 ≤ M.2.1 + 128 ∧ z56.2.2.2.1 ≤ M.2.2.1 + 2600 then some (1, z56.2) else none))
else none))
else
  (if z8.1 = 5 then
  (tL_changes_J352 G M.2.1 M.2.2.1 x0 x1 z7.1 z8.2)
else
  (if z8.1 = 6 then
  (tL_changes_J352 G M.2.1 M.2.2.1 x0 x1 z7.1 z8.2)
else
  (if z8.1 = 7 then
  (tL_changes_J352 G M.2.1 M.2.2.1 x0 x1 z7.1 z8.2)
else
  (if z8.1 = 8 then
  ((gA z8.2 x1 14 7).bind fun a76 =>
  (aR z8.2 a76 110 z7.1).bind fun a77 =>
  if a77 = none then
  (if z8.2.2.1 ≤ M.2.1 + 128 ∧ z8.2.2.2.1 ≤ M.2.2.1 + 2600 then some (1, z8.2) else none)
else
  (a77.bind fun a79 =>
  (gI z8.2 a79 13 6).bind fun v80 =>
  if v80 = 0 then
  (if z8.2.2.1 ≤ M.2.1 + 128 ∧ z8.2.2.2.1 ≤ M.2.2.1 + 2600 then some (1, z8.2) else none)
else
  ((gI z8.2 a79 13 5).bind fun v82 =>
  if v82 < 0 then
  (if z8.2.2.1 ≤ M.2.1 + 128 ∧ z8.2.2.2.1 ≤ M.2.2.1 + 2600 then some (1, z8.2) else none)
else
  ((gA z8.2 a79 13 0).bind fun a84 =>
  (gI z8.2 a79 13 5).bind fun v85 =>
  if z8.2.2.1 + 0 ≤ M.2.1 + 128 ∧ z8.2.2.2.1 + 0 ≤ M.2.2.1 + 2600 then
  (if (z8.2.1 a84).1 = 12 then
  ((tX10_has a84 v85 z8.2).bind fun z86 =>
  if z86 = 0 then
  (if z8.2.2.1 ≤ M.2.1 + 128 ∧ z8.2.2.2.1 ≤ M.2.2.1 + 2600 then some (1, z8.2) else none)
else
  ((gA z8.2 a79 13 0).bind fun a88 =>
  (gI z8.2 a79 13 5).bind fun v89 =>
  if z8.2.2.1 + 1 ≤ M.2.1 + 128 ∧ z8.2.2.2.1 + 6 ≤ M.2.2.1 + 2600 then
  (if (z8.2.1 x1).1 = 14 then
  ((tX12_remove x1 a88 v89 z8.2).bind fun z90 =>
  if z90.2.2.1 + 50 ≤ M.2.1 + 128 ∧ z90.2.2.2.1 + 2001 ≤ M.2.2.1 + 2600 then
  (if (z90.2.1 x0).1 = 11 then
  ((tX9_removeMet G x0 z7.1 z90.2).bind fun z91 =>
  Sum.elim (fun r92 =>
  (gI z91.2 a79 13 5).bind fun v93 =>
  if r92 = v93 then
  (if z91.2.2.1 ≤ M.2.1 + 128 ∧ z91.2.2.2.1 ≤ M.2.2.1 + 2600 then some (1, z91.2) else none)
else
  (if z91.2.2.1 ≤ M.2.1 + 128 ∧ z91.2.2.2.1 ≤ M.2.2.1 + 2600 then some (0, z91.2) else none)) (fun _ => none) z91.1)
else none)
else none)
else none)
else none))
else none)
else none))))
else
  (if z8.1 = 9 then
  (tL_changes_J471 G M.2.1 M.2.2.1 x0 x1 z2.1 a4 z6.1 z8.2)
else
  (if z8.1 = 10 then
  (tL_changes_J471 G M.2.1 M.2.2.1 x0 x1 z2.1 a4 z6.1 z8.2)
else
  (if z8.1 = 11 then
  ((gI z8.2 x1 14 0).bind fun v99 =>
  if z8.2.2.1 + 0 ≤ M.2.1 + 128 ∧ z8.2.2.2.1 + 0 ≤ M.2.2.1 + 2600 then
  ((tL_draw x2 v99 z8.2).bind fun z100 =>
  (gI z100.2 a4 12 0).bind fun v101 =>
  (tL_changes_L517 M.2.1 M.2.2.1 x0 x1 z2.1 a4 z100.1 vF 0 (v101 - 1) z100.2).bind fun z124 =>
  if z124.2.2.1 + 50 ≤ M.2.1 + 128 ∧ z124.2.2.2.1 + 2001 ≤ M.2.2.1 + 2600 then
  (if (z124.2.1 x0).1 = 11 then
  ((tX9_keep G x0 z2.1 z100.1 z124.2).bind fun z125 =>
  Sum.elim (fun r126 =>
  if r126 = z124.1 then
  (if z125.2.2.1 ≤ M.2.1 + 128 ∧ z125.2.2.2.1 ≤ M.2.2.1 + 2600 then some (1, z125.2) else none)
else
  (if z125.2.2.1 ≤ M.2.1 + 128 ∧ z125.2.2.2.1 ≤ M.2.2.1 + 2600 then some (0, z125.2) else none)) (fun _ => none) z125.1)
else none)
else none)
else none)
else
  (if z8.1 = 12 then
  ((gI z8.2 x1 14 0).bind fun v128 =>
  if z8.2.2.1 + 0 ≤ M.2.1 + 128 ∧ z8.2.2.2.1 + 0 ≤ M.2.2.1 + 2600 then
  ((tL_draw x2 v128 z8.2).bind fun z129 =>
  (gI z129.2 a4 12 0).bind fun v130 =>
  (tL_changes_L607 M.2.1 M.2.2.1 x0 x1 z2.1 a4 z129.1 v130 vF 0 z129.2).bind fun z151 =>
  tL_changes_J653 G M.2.1 M.2.2.1 x0 z2.1 a4 z129.1 v130 z151.2)
else none)
else
  (if z8.2.2.1 + 0 ≤ M.2.1 + 128 ∧ z8.2.2.2.1 + 0 ≤ M.2.2.1 + 2600 then
  (if (z8.2.1 x1).1 = 14 then
  ((tX12_add x1 a4 z6.1 z8.2).bind fun z156 =>
  if z156.2.2.1 + 50 ≤ M.2.1 + 128 ∧ z156.2.2.2.1 + 2001 ≤ M.2.2.1 + 2600 then
  (if (z156.2.1 x0).1 = 11 then
  ((tX9_add G x0 z2.1 z6.1 z156.2).bind fun z157 =>
  Sum.elim (fun r158 =>
  (gA z157.2 a4 12 4).bind fun a159 =>
  (aI z157.2 a159 101 z6.1).bind fun v160 =>
  if r158 = v160 then
  (if z157.2.2.1 ≤ M.2.1 + 128 ∧ z157.2.2.2.1 ≤ M.2.2.1 + 2600 then some (1, z157.2) else none)
else
  (if z157.2.2.1 ≤ M.2.1 + 128 ∧ z157.2.2.2.1 ≤ M.2.2.1 + 2600 then some (0, z157.2) else none)) (fun _ => none) z157.1)
else none)
else none)
else none)
else none))))))))))))))
else none)
else none)
else none)
else none
def rmL_changes : Room := { frames := 9, cells := 128, slots := 2600, locals := 168 }
set_option maxHeartbeats 4000000 in
set_option maxRecDepth 100000 in
theorem mL_changes (l : Launch) (hfl : l.stackTraces = false) (D : vD) (x0 : Nat) (x1 : Nat) (x2 : Nat) (M : vMe) (z : (Int32 × vMe)) (h : tL_changes D.2.2.2.2 x0 x1 x2 M = some z) : Met l yL_changes (Cond.code yL_changes cL_changes 10 (some .boolean) :: TB) rmL_changes (va_Pc [.ref x0, .ref x1, .ref x2] (vPre D M)) (qW D (some (.int z.1)) z.2) 128 2600 (vA D) := by
  refine v_ofW (cc := cL_changes) (maxL := 10) (ret := (some .boolean)) (by decide) (Nat.le_of_ble_eq_true rfl) ?_
  intro p e s m args below meth c Q hx hb hr hml hown hts hlk hnm hSS hR0 hQ ls hl
  have hz0 := hR0.2.1
  have hs0 := hR0.2.2.1
  have hb0 : D.2.2.2.1 ≤ s.heap.size := hR0.2.2.2.2.1
  refine v_tight hb0 ?_
  have hK := hSS.1
  have hl : lv_has ls 10 [(0, .ref x0), (1, .ref x1), (2, .ref x2)] := hl
  unfold tL_changes at h
  have L_changes_L200p : ∀ (x0 : Nat) (x1 : Nat) (x2 : Nat) (x3 : Int32) (x4 : Nat), ∀ (f : Nat) (x7 : Int32) (Mi : vMe) (ls : Array Slot) (z : (Int32 × vMe)), lv_has ls 10 [(0, .ref x0), (1, .ref x1), (2, .ref x2), (3, .int x3), (4, .ref x4), (7, .int x7)] → tL_changes_L200 M.2.1 M.2.2.1 x0 x1 x2 x3 x4 f x7 Mi = some z → (∀ ls : Array Slot, lv_has ls 10 [(0, .ref x0), (1, .ref x1), (2, .ref x2), (3, .int x3), (4, .ref x4), (7, .int z.1)] → vV D p l e rmL_changes s m args below meth c (z.2.2.1 - s.heap.size) (z.2.2.2.1 - vSum D.2.2.2.1 s.heap) Q z.2 (F0 m 216 ls [])) → vV D p l e rmL_changes s m args below meth c (Mi.2.1 - s.heap.size) (Mi.2.2.1 - vSum D.2.2.2.1 s.heap) Q Mi (F0 m 200 ls []) := by
    intro x0 x1 x2 x3 x4 f
    induction f with
    | zero =>
      intro x7 Mi ls z hl h
      exact absurd h (by simp [tL_changes_L200])
    | succ f ih =>
      intro x7 Mi ls z hl h KX
      rw [tL_changes_L200] at h
      refine w_aload_n hx hb dL_changes_200 rfl (lv_at hl 1 rfl) ?_
      obtain ⟨a32, ea32, h⟩ := v_bnd h
      refine v_gA (ci := 13) hx hb hts iwX12 hown hK 7 ea32 rfl (by decide) (Or.inr ⟨_, kn71 hSS _⟩) (fun _ h9 => h9) dL_changes_201 ?_
      refine w_iload hx hb dL_changes_204 (lv_at hl 5 rfl) ?_
      obtain ⟨a33, ea33, h⟩ := v_bnd h
      refine v_aald hx hb hK ea33 (by decide) dL_changes_206 ?_
      refine w_ifnull (tgt := 216) hx hb dL_changes_207 (by decide) (fun c34 => ?_) (fun c34 => ?_)
      · rw [if_pos c34] at h
        obtain rfl := Option.some.inj h
        refine v_tight hb0 ?_
        exact KX ls (lv_sub hl [0, 1, 2, 3, 4, 5] rfl)
      · rw [if_neg c34] at h
        refine w_iinc (v := x7 + 1) (lv' := [(7, .int (x7 + 1)), (0, .ref x0), (1, .ref x1), (2, .ref x2), (3, .int x3), (4, .ref x4)]) hx hb dL_changes_210 hl (j := 5) rfl rfl (by decide) rfl (fun ls hl => ?_)
        have hl : lv_has ls 10 [(0, .ref x0), (1, .ref x1), (2, .ref x2), (3, .int x3), (4, .ref x4), (7, .int (x7 + 1))] := lv_sub hl [1, 2, 3, 4, 5, 0] rfl
        refine w_goto (tgt := 200) hx hb dL_changes_213 (by decide) ?_
        refine v_tight hb0 ?_
        exact ih (x7 + 1) Mi ls z (lv_sub hl [0, 1, 2, 3, 4, 5] rfl) h KX
  have L_changes_L517p : ∀ (x0 : Nat) (x1 : Nat) (x3 : Int32) (x4 : Nat) (x7 : Int32), ∀ (f : Nat) (x8 : Int32) (x9 : Int32) (Mi : vMe) (ls : Array Slot) (z : (Int32 × vMe)), lv_has ls 10 [(0, .ref x0), (1, .ref x1), (3, .int x3), (4, .ref x4), (7, .int x7), (8, .int x8), (9, .int x9)] → tL_changes_L517 M.2.1 M.2.2.1 x0 x1 x3 x4 x7 f x8 x9 Mi = some z → (∀ ls : Array Slot, lv_has ls 10 [(0, .ref x0), (3, .int x3), (7, .int x7), (8, .int z.1)] → vV D p l e rmL_changes s m args below meth c (z.2.2.1 - s.heap.size) (z.2.2.2.1 - vSum D.2.2.2.1 s.heap) Q z.2 (F0 m 569 ls [])) → vV D p l e rmL_changes s m args below meth c (Mi.2.1 - s.heap.size) (Mi.2.2.1 - vSum D.2.2.2.1 s.heap) Q Mi (F0 m 517 ls []) := by
    intro x0 x1 x3 x4 x7 f
    induction f with
    | zero =>
      intro x8 x9 Mi ls z hl h
      exact absurd h (by simp [tL_changes_L517])
    | succ f ih =>
      intro x8 x9 Mi ls z hl h KX
      rw [tL_changes_L517] at h
      have L_changes_J563_517p : ∀ (x8 : Int32) (x9 : Int32) (Mj : vMe) (ls : Array Slot), lv_has ls 10 [(0, .ref x0), (1, .ref x1), (3, .int x3), (4, .ref x4), (7, .int x7), (8, .int x8), (9, .int x9)] → tL_changes_J563_517 (tL_changes_L517 M.2.1 M.2.2.1 x0 x1 x3 x4 x7 f) M.2.1 M.2.2.1 x0 x1 x3 x4 x7 x8 x9 Mj = some z → vV D p l e rmL_changes s m args below meth c (Mj.2.1 - s.heap.size) (Mj.2.2.1 - vSum D.2.2.2.1 s.heap) Q Mj (F0 m 563 ls []) := by
        intro x8 x9 Mj ls hl h
        unfold tL_changes_J563_517 at h
        refine w_iinc (v := x9 + (-1)) (lv' := [(9, .int (x9 + (-1))), (0, .ref x0), (1, .ref x1), (3, .int x3), (4, .ref x4), (7, .int x7), (8, .int x8)]) hx hb dL_changes_563 hl (j := 6) rfl rfl (by decide) rfl (fun ls hl => ?_)
        have hl : lv_has ls 10 [(0, .ref x0), (1, .ref x1), (3, .int x3), (4, .ref x4), (7, .int x7), (8, .int x8), (9, .int (x9 + (-1)))] := lv_sub hl [1, 2, 3, 4, 5, 6, 0] rfl
        refine w_goto (tgt := 517) hx hb dL_changes_566 (by decide) ?_
        refine v_tight hb0 ?_
        exact ih x8 (x9 + (-1)) Mj ls z (lv_sub hl [0, 1, 2, 3, 4, 5, 6] rfl) h KX
      refine w_iload hx hb dL_changes_517 (lv_at hl 6 rfl) ?_
      refine w_if_lt (tgt := 569) hx hb dL_changes_519 (by decide) (fun c113 => ?_) (fun c113 => ?_)
      · rw [if_pos c113] at h
        obtain rfl := Option.some.inj h
        refine v_tight hb0 ?_
        exact KX ls (lv_sub hl [0, 2, 4, 5] rfl)
      · rw [if_neg c113] at h
        refine w_aload_n hx hb dL_changes_522 rfl (lv_at hl 1 rfl) ?_
        obtain ⟨a114, ea114, h⟩ := v_bnd h
        refine v_gA (ci := 13) hx hb hts iwX12 hown hK 6 ea114 rfl (by decide) (Or.inr ⟨_, kn70 hSS _⟩) (fun _ h9 => h9) dL_changes_523 ?_
        refine w_iload hx hb dL_changes_526 (lv_at hl 4 rfl) ?_
        obtain ⟨a115, ea115, h⟩ := v_bnd h
        refine v_aaldA hx hb hK ea115 (by decide) dL_changes_528 ?_
        refine w_aload hx hb dL_changes_529 (lv_at hl 3 rfl) ?_
        obtain ⟨a116, ea116, h⟩ := v_bnd h
        refine v_gA (ci := 11) hx hb hts iwX10 hown hK 3 ea116 rfl (by decide) (Or.inr ⟨_, kn54 hSS _⟩) (fun _ h9 => h9) dL_changes_531 ?_
        refine w_iload hx hb dL_changes_534 (lv_at hl 6 rfl) ?_
        obtain ⟨v117, ev117, h⟩ := v_bnd h
        refine v_iald hx hb hK ev117 dL_changes_536 ?_
        obtain ⟨g7, h⟩ := v_ifs h
        refine v_tight hb0 ?_
        obtain ⟨g8, h⟩ := v_ifs h
        obtain ⟨z118, ez118, h⟩ := v_bnd h
        refine v_call1 (v := .int z118) (M1 := Mi) (mc := 0) (ms := 0) (fun H locs hR hS => va_runV (As := [.int v117]) (rest := []) ⟨hx, hb, hml, hown, hts⟩ (mX10_has l hfl D a115 v117 Mi z118 ez118) (cwV 1 hts (gdV kw1204 kw691 kw692 kw36 kw693) rfl rfl rfl (by decide +kernel) ⟨Nat.le_of_ble_eq_true rfl, Nat.le_of_ble_eq_true rfl⟩) (v_preV (ci := 11) hSS hR hS g8 (by decide) rfl [.int v117]) rfl rfl hl.1 rfl (lv_room (Nat.le_of_ble_eq_true rfl)) dL_changes_537 ⟨by show _ + _ ≤ 128; omega, by show _ + _ ≤ 2600; omega⟩) ?_
        refine w_if_ne (tgt := 563) hx hb dL_changes_540 (by decide) (fun c119 => ?_) (fun c119 => ?_)
        · rw [if_pos c119] at h
          refine w_aload_n hx hb dL_changes_543 rfl (lv_at hl 1 rfl) ?_
          refine w_aload hx hb dL_changes_544 (lv_at hl 3 rfl) ?_
          refine w_aload hx hb dL_changes_546 (lv_at hl 3 rfl) ?_
          obtain ⟨a120, ea120, h⟩ := v_bnd h
          refine v_gA (ci := 11) hx hb hts iwX10 hown hK 3 ea120 rfl (by decide) (Or.inr ⟨_, kn54 hSS _⟩) (fun _ h9 => h9) dL_changes_548 ?_
          refine w_iload hx hb dL_changes_551 (lv_at hl 6 rfl) ?_
          obtain ⟨v121, ev121, h⟩ := v_bnd h
          refine v_iald hx hb hK ev121 dL_changes_553 ?_
          obtain ⟨g7, h⟩ := v_ifs h
          refine v_tight hb0 ?_
          obtain ⟨g8, h⟩ := v_ifs h
          obtain ⟨z122, ez122, h⟩ := v_bnd h
          refine v_call1 (v := .int z122.1) (M1 := z122.2) (mc := 1) (ms := 6) (fun H locs hR hS => va_runV (As := [.ref x4, .int v121]) (rest := []) ⟨hx, hb, hml, hown, hts⟩ (mX12_remove l hfl D x1 x4 v121 Mi z122 ez122) (cwV 2 hts (gdV kw706 kw707 kw708 kw35 kw709) rfl rfl rfl (by decide +kernel) ⟨Nat.le_of_ble_eq_true rfl, Nat.le_of_ble_eq_true rfl⟩) (v_preV (ci := 13) hSS hR hS g8 (by decide) rfl [.ref x4, .int v121]) rfl rfl hl.1 rfl (lv_room (Nat.le_of_ble_eq_true rfl)) dL_changes_554 ⟨by show _ + _ ≤ 128; omega, by show _ + _ ≤ 2600; omega⟩) ?_
          refine w_if_eq (tgt := 563) hx hb dL_changes_557 (by decide) (fun c123 => ?_) (fun c123 => ?_)
          · rw [if_pos c123] at h
            refine v_tight hb0 ?_
            exact L_changes_J563_517p x8 x9 z122.2 ls (lv_sub hl [0, 1, 2, 3, 4, 5, 6] rfl) h
          · rw [if_neg c123] at h
            refine w_iinc (v := x8 + 1) (lv' := [(8, .int (x8 + 1)), (0, .ref x0), (1, .ref x1), (3, .int x3), (4, .ref x4), (7, .int x7), (9, .int x9)]) hx hb dL_changes_560 hl (j := 5) rfl rfl (by decide) rfl (fun ls hl => ?_)
            have hl : lv_has ls 10 [(0, .ref x0), (1, .ref x1), (3, .int x3), (4, .ref x4), (7, .int x7), (8, .int (x8 + 1)), (9, .int x9)] := lv_sub hl [1, 2, 3, 4, 5, 0, 6] rfl
            refine v_tight hb0 ?_
            exact L_changes_J563_517p (x8 + 1) x9 z122.2 ls (lv_sub hl [0, 1, 2, 3, 4, 5, 6] rfl) h
        · rw [if_neg c119] at h
          refine v_tight hb0 ?_
          exact L_changes_J563_517p x8 x9 Mi ls (lv_sub hl [0, 1, 2, 3, 4, 5, 6] rfl) h
  have L_changes_L607p : ∀ (x0 : Nat) (x1 : Nat) (x3 : Int32) (x4 : Nat) (x7 : Int32) (x8 : Int32), ∀ (f : Nat) (x9 : Int32) (Mi : vMe) (ls : Array Slot) (z : (Unit × vMe)), lv_has ls 10 [(0, .ref x0), (1, .ref x1), (3, .int x3), (4, .ref x4), (7, .int x7), (8, .int x8), (9, .int x9)] → tL_changes_L607 M.2.1 M.2.2.1 x0 x1 x3 x4 x7 x8 f x9 Mi = some z → (∀ ls : Array Slot, lv_has ls 10 [(0, .ref x0), (3, .int x3), (4, .ref x4), (7, .int x7), (8, .int x8)] → vV D p l e rmL_changes s m args below meth c (z.2.2.1 - s.heap.size) (z.2.2.2.1 - vSum D.2.2.2.1 s.heap) Q z.2 (F0 m 653 ls [])) → vV D p l e rmL_changes s m args below meth c (Mi.2.1 - s.heap.size) (Mi.2.2.1 - vSum D.2.2.2.1 s.heap) Q Mi (F0 m 607 ls []) := by
    intro x0 x1 x3 x4 x7 x8 f
    induction f with
    | zero =>
      intro x9 Mi ls z hl h
      exact absurd h (by simp [tL_changes_L607])
    | succ f ih =>
      intro x9 Mi ls z hl h KX
      rw [tL_changes_L607] at h
      refine w_iload hx hb dL_changes_607 (lv_at hl 6 rfl) ?_
      refine w_aload_n hx hb dL_changes_609 rfl (lv_at hl 1 rfl) ?_
      obtain ⟨a141, ea141, h⟩ := v_bnd h
      refine v_gA (ci := 13) hx hb hts iwX12 hown hK 6 ea141 rfl (by decide) (Or.inr ⟨_, kn70 hSS _⟩) (fun _ h9 => h9) dL_changes_610 ?_
      refine w_iload hx hb dL_changes_613 (lv_at hl 4 rfl) ?_
      obtain ⟨a142, ea142, h⟩ := v_bnd h
      refine v_aaldA hx hb hK ea142 (by decide) dL_changes_615 ?_
      obtain ⟨v143, ev143, h⟩ := v_bnd h
      refine v_gI (ci := 11) hx hb hts iwX10 hown hK 0 ev143 rfl (by decide) (Or.inr ⟨_, kn49 hSS _⟩) (fun _ h9 => h9) dL_changes_616 ?_
      refine w_icmp_ge (tgt := 653) hx hb dL_changes_619 (by decide) (fun c144 => ?_) (fun c144 => ?_)
      · rw [if_pos c144] at h
        obtain rfl := Option.some.inj h
        refine v_tight hb0 ?_
        exact KX ls (lv_sub hl [0, 2, 3, 4, 5] rfl)
      · rw [if_neg c144] at h
        refine w_iload hx hb dL_changes_622 (lv_at hl 4 rfl) ?_
        refine w_iload_n hx hb dL_changes_624 rfl (lv_at hl 2 rfl) ?_
        refine w_icmp_eq (tgt := 653) hx hb dL_changes_625 (by decide) (fun c145 => ?_) (fun c145 => ?_)
        · rw [if_pos c145] at h
          obtain rfl := Option.some.inj h
          refine v_tight hb0 ?_
          exact KX ls (lv_sub hl [0, 2, 3, 4, 5] rfl)
        · rw [if_neg c145] at h
          refine w_aload_n hx hb dL_changes_628 rfl (lv_at hl 1 rfl) ?_
          refine w_aload hx hb dL_changes_629 (lv_at hl 3 rfl) ?_
          refine w_aload_n hx hb dL_changes_631 rfl (lv_at hl 1 rfl) ?_
          obtain ⟨a146, ea146, h⟩ := v_bnd h
          refine v_gA (ci := 13) hx hb hts iwX12 hown hK 6 ea146 rfl (by decide) (Or.inr ⟨_, kn70 hSS _⟩) (fun _ h9 => h9) dL_changes_632 ?_
          refine w_iload hx hb dL_changes_635 (lv_at hl 4 rfl) ?_
          obtain ⟨a147, ea147, h⟩ := v_bnd h
          refine v_aaldA hx hb hK ea147 (by decide) dL_changes_637 ?_
          obtain ⟨a148, ea148, h⟩ := v_bnd h
          refine v_gA (ci := 11) hx hb hts iwX10 hown hK 3 ea148 rfl (by decide) (Or.inr ⟨_, kn54 hSS _⟩) (fun _ h9 => h9) dL_changes_638 ?_
          refine w_iload hx hb dL_changes_641 (lv_at hl 6 rfl) ?_
          obtain ⟨v149, ev149, h⟩ := v_bnd h
          refine v_iald hx hb hK ev149 dL_changes_643 ?_
          obtain ⟨g7, h⟩ := v_ifs h
          refine v_tight hb0 ?_
          obtain ⟨g8, h⟩ := v_ifs h
          obtain ⟨z150, ez150, h⟩ := v_bnd h
          refine v_call0 (M1 := z150.2) (mc := 0) (ms := 0) (fun H locs hR hS => va_runV (As := [.ref x4, .int v149]) (rest := []) ⟨hx, hb, hml, hown, hts⟩ (mX12_add l hfl D x1 x4 v149 Mi z150 ez150) (cwV 2 hts (gdV kw686 kw687 kw688 kw35 kw689) rfl rfl rfl (by decide +kernel) ⟨Nat.le_of_ble_eq_true rfl, Nat.le_of_ble_eq_true rfl⟩) (v_preV (ci := 13) hSS hR hS g8 (by decide) rfl [.ref x4, .int v149]) rfl rfl hl.1 rfl (lv_room (Nat.le_of_ble_eq_true rfl)) dL_changes_644 ⟨by show _ + _ ≤ 128; omega, by show _ + _ ≤ 2600; omega⟩) ?_
          refine w_iinc (v := x9 + 1) (lv' := [(9, .int (x9 + 1)), (0, .ref x0), (1, .ref x1), (3, .int x3), (4, .ref x4), (7, .int x7), (8, .int x8)]) hx hb dL_changes_647 hl (j := 6) rfl rfl (by decide) rfl (fun ls hl => ?_)
          have hl : lv_has ls 10 [(0, .ref x0), (1, .ref x1), (3, .int x3), (4, .ref x4), (7, .int x7), (8, .int x8), (9, .int (x9 + 1))] := lv_sub hl [1, 2, 3, 4, 5, 6, 0] rfl
          refine w_goto (tgt := 607) hx hb dL_changes_650 (by decide) ?_
          refine v_tight hb0 ?_
          exact ih (x9 + 1) z150.2 ls z (lv_sub hl [0, 1, 2, 3, 4, 5, 6] rfl) h KX
  have L_changes_J262p : ∀ (x0 : Nat) (x1 : Nat) (x3 : Int32) (x7 : Int32) (x8 : Nat) (y0 : Nat) (y1 : Int32) (Mj : vMe) (ls : Array Slot), lv_has ls 10 [(0, .ref x0), (1, .ref x1), (3, .int x3), (7, .int x7), (8, .ref x8)] → tL_changes_J262 D.2.2.2.2 M.2.1 M.2.2.1 x0 x1 x3 x7 x8 y0 y1 Mj = some z → vV D p l e rmL_changes s m args below meth c (Mj.2.1 - s.heap.size) (Mj.2.2.1 - vSum D.2.2.2.1 s.heap) Q Mj (F0 m 262 ls [.int y1, .ref y0]) := by
    intro x0 x1 x3 x7 x8 y0 y1 Mj ls hl h
    unfold tL_changes_J262 at h
    obtain ⟨g9, h⟩ := v_ifs h
    obtain ⟨M45, eM45, h⟩ := v_bnd h
    refine v_putf (ci := 12) hx hb hts iwX11 hown hK tyX11_ok nmX11 7 eM45 rfl (by decide) (Or.inr ⟨_, kn87 hSS _⟩) (fun _ h9 => h9) (Or.inl rfl) (v_narZ g9) g9 dL_changes_262 ?_
    refine w_aload_n hx hb dL_changes_265 rfl (lv_at hl 1 rfl) ?_
    obtain ⟨a46, ea46, h⟩ := v_bnd h
    refine v_gA (ci := 13) hx hb hts iwX12 hown hK 7 ea46 rfl (by decide) (Or.inr ⟨_, kn71 hSS _⟩) (fun _ h9 => h9) dL_changes_266 ?_
    refine w_iload hx hb dL_changes_269 (lv_at hl 3 rfl) ?_
    refine w_aload hx hb dL_changes_271 (lv_at hl 4 rfl) ?_
    obtain ⟨M47, eM47, h⟩ := v_bnd h
    refine v_aast (ci := 12) hx hb hK eM47 (by decide) rfl dL_changes_273 ?_
    refine w_aload_n hx hb dL_changes_274 rfl (lv_at hl 0 rfl) ?_
    refine w_iload_n hx hb dL_changes_275 rfl (lv_at hl 2 rfl) ?_
    refine w_aload hx hb dL_changes_276 (lv_at hl 4 rfl) ?_
    obtain ⟨v48, ev48, h⟩ := v_bnd h
    refine v_gI (ci := 12) hx hb hts iwX11 hown hK 7 ev48 rfl (by decide) (Or.inr ⟨_, kn87 hSS _⟩) (fun _ h9 => h9) dL_changes_278 ?_
    obtain ⟨g7, h⟩ := v_ifs h
    refine v_tight hb0 ?_
    obtain ⟨g8, h⟩ := v_ifs h
    obtain ⟨z49, ez49, h⟩ := v_bnd h
    rcases hz49 : z49.1 with r50 | jz49
    · replace h := v_inl hz49 h
      refine v_call1 (v := .int r50) (M1 := z49.2) (mc := 50) (ms := 2001) (fun H locs hR hS => va_runV (As := [.int x3, .int v48]) (rest := []) ⟨hx, hb, hml, hown, hts⟩ (v_noX (by rw [hz49]; rfl) (by rw [hz49]; rfl) (mX9_open l hfl D x0 x3 v48 M47 z49 ez49)) (cwV 2 hts (gdV kw1158 kw1159 kw1160 kw27 kw1161) rfl rfl rfl (by decide +kernel) ⟨Nat.le_of_ble_eq_true rfl, Nat.le_of_ble_eq_true rfl⟩) (v_preV (ci := 10) hSS hR hS g8 (by decide) rfl [.int x3, .int v48]) rfl rfl hl.1 rfl (lv_room (Nat.le_of_ble_eq_true rfl)) dL_changes_281 ⟨by show _ + _ ≤ 128; omega, by show _ + _ ≤ 2600; omega⟩) ?_
      refine w_iload hx hb dL_changes_284 (lv_at hl 3 rfl) ?_
      refine w_icmp_ne (tgt := 293) hx hb dL_changes_286 (by decide) (fun c51 => ?_) (fun c51 => ?_)
      · rw [if_pos c51] at h
        refine w_iconst (v := 1) hx hb dL_changes_289 (by decide) ?_
        refine w_goto (tgt := 294) hx hb dL_changes_290 (by decide) ?_
        obtain ⟨g9, h⟩ := v_ifs h
        refine v_tight hb0 (vV.widen (n' := 128) (k' := 2600) (by omega) (by omega) ?_)
        obtain rfl := Option.some.inj h
        rw [hQ]
        exact v_zret (x := 1) hx hb hr hlk rfl dL_changes_294
      · rw [if_neg c51] at h
        refine w_iconst (v := 0) hx hb dL_changes_293 (by decide) ?_
        obtain ⟨g9, h⟩ := v_ifs h
        refine v_tight hb0 (vV.widen (n' := 128) (k' := 2600) (by omega) (by omega) ?_)
        obtain rfl := Option.some.inj h
        rw [hQ]
        exact v_zret (x := 0) hx hb hr hlk rfl dL_changes_294
    · exact nomatch (v_inr hz49 h)
  have L_changes_J186p : ∀ (x0 : Nat) (x1 : Nat) (x2 : Nat) (x3 : Int32) (x4 : Nat) (Mj : vMe) (ls : Array Slot), lv_has ls 10 [(0, .ref x0), (1, .ref x1), (2, .ref x2), (3, .int x3), (4, .ref x4)] → tL_changes_J186 D.2.2.2.2 M.2.1 M.2.2.1 x0 x1 x2 x3 x4 Mj = some z → vV D p l e rmL_changes s m args below meth c (Mj.2.1 - s.heap.size) (Mj.2.2.1 - vSum D.2.2.2.1 s.heap) Q Mj (F0 m 186 ls []) := by
    intro x0 x1 x2 x3 x4 Mj ls hl h
    unfold tL_changes_J186 at h
    refine w_aload_n hx hb dL_changes_186 rfl (lv_at hl 1 rfl) ?_
    obtain ⟨g7, h⟩ := v_ifs h
    refine v_tight hb0 ?_
    obtain ⟨g8, h⟩ := v_ifs h
    obtain ⟨z26, ez26, h⟩ := v_bnd h
    refine v_call1 (v := .int z26) (M1 := Mj) (mc := 0) (ms := 0) (fun H locs hR hS => va_runV (As := []) (rest := []) ⟨hx, hb, hml, hown, hts⟩ (mX12_cursors l hfl D x1 Mj z26 ez26) (cwV 0 hts (gdV kw1113 kw1114 kw1115 kw35 kw1116) rfl rfl rfl (by decide +kernel) ⟨Nat.le_of_ble_eq_true rfl, Nat.le_of_ble_eq_true rfl⟩) (v_preV (ci := 13) hSS hR hS g8 (by decide) rfl []) rfl rfl hl.1 rfl (lv_room (Nat.le_of_ble_eq_true rfl)) dL_changes_187 ⟨by show _ + _ ≤ 128; omega, by show _ + _ ≤ 2600; omega⟩) ?_
    refine w_bipush (v := 6) hx hb dL_changes_190 (by decide) ?_
    refine w_icmp_ne (tgt := 197) hx hb dL_changes_192 (by decide) (fun c27 => ?_) (fun c27 => ?_)
    · rw [if_pos c27] at h
      refine w_iconst (v := 1) hx hb dL_changes_195 (by decide) ?_
      obtain ⟨g9, h⟩ := v_ifs h
      refine v_tight hb0 (vV.widen (n' := 128) (k' := 2600) (by omega) (by omega) ?_)
      obtain rfl := Option.some.inj h
      rw [hQ]
      exact v_zret (x := 1) hx hb hr hlk rfl dL_changes_196
    · rw [if_neg c27] at h
      refine w_iconst (v := 0) hx hb dL_changes_197 (by decide) ?_
      refine w_istore (lv' := [(7, .int 0), (0, .ref x0), (1, .ref x1), (2, .ref x2), (3, .int x3), (4, .ref x4)]) hx hb dL_changes_198 hl (by decide) rfl (fun ls hl => ?_)
      have hl : lv_has ls 10 [(0, .ref x0), (1, .ref x1), (2, .ref x2), (3, .int x3), (4, .ref x4), (7, .int 0)] := lv_sub hl [1, 2, 3, 4, 5, 0] rfl
      obtain ⟨z36, ez36, h⟩ := v_bnd h
      refine v_tight hb0 ?_
      refine L_changes_L200p x0 x1 x2 x3 x4 vF 0 Mj ls z36 (lv_sub hl [0, 1, 2, 3, 4, 5] rfl) ez36 (fun ls hl => ?_)
      obtain ⟨M37, eM37, h⟩ := v_bnd h
      refine u_new (ci := 12) (N := 8) hx hb hts iwX11 hown hK tyX11_ok rfl (hts _ kw1117) (hts _ kw1118) (hts _ kw58) (by decide) (by decide) (by decide) hb0 hz0 hs0 rfl rfl eM37 dL_changes_216 ?_
      refine w_dup hx hb dL_changes_219 rfl ?_
      obtain ⟨g7, h⟩ := v_ifs h
      refine v_tight hb0 ?_
      obtain ⟨z38, ez38, h⟩ := v_bnd h
      refine v_call0 (M1 := z38.2) (mc := 0) (ms := 0) (fun H locs hR hS => va_runIN (As := []) (rest := [.ref z36.2.2.1]) ⟨hx, hb, hml, hown, hts⟩ (mX11_init l hfl D z36.2.2.1 M37 z38 ez38) ⟨va_cnB 0 hts (gdI kw1121) rfl rfl rfl (km8 hSS) (hts _ kw58) (by decide +kernel) ⟨Nat.le_of_ble_eq_true rfl, Nat.le_of_ble_eq_true rfl⟩, rfl, (hts _ kw1120)⟩ (v_preS hSS hR hS [.ref z36.2.2.1]) rfl rfl hl.1 rfl (lv_room (Nat.le_of_ble_eq_true rfl)) dL_changes_220 ⟨by show _ + _ ≤ 128; omega, by show _ + _ ≤ 2600; omega⟩) ?_
      refine w_astore (lv' := [(8, .ref z36.2.2.1), (0, .ref x0), (1, .ref x1), (2, .ref x2), (3, .int x3), (4, .ref x4), (7, .int z36.1)]) hx hb dL_changes_223 hl (by decide) rfl (fun ls hl => ?_)
      have hl : lv_has ls 10 [(0, .ref x0), (1, .ref x1), (2, .ref x2), (3, .int x3), (4, .ref x4), (7, .int z36.1), (8, .ref z36.2.2.1)] := lv_sub hl [1, 2, 3, 4, 5, 6, 0] rfl
      refine w_aload hx hb dL_changes_225 (lv_at hl 6 rfl) ?_
      refine w_aload hx hb dL_changes_227 (lv_at hl 4 rfl) ?_
      obtain ⟨M39, eM39, h⟩ := v_bnd h
      refine v_putf (ci := 12) hx hb hts iwX11 hown hK tyX11_ok nmX11 0 eM39 rfl (by decide) (Or.inr ⟨_, kn76 hSS _⟩) (fun _ h9 => h9) (Or.inl rfl) rfl rfl dL_changes_229 ?_
      refine w_aload hx hb dL_changes_232 (lv_at hl 6 rfl) ?_
      refine w_iload_n hx hb dL_changes_234 rfl (lv_at hl 3 rfl) ?_
      obtain ⟨M40, eM40, h⟩ := v_bnd h
      refine v_putf (ci := 12) hx hb hts iwX11 hown hK tyX11_ok nmX11 1 eM40 rfl (by decide) (Or.inr ⟨_, kn77 hSS _⟩) (fun _ h9 => h9) (Or.inl rfl) rfl rfl dL_changes_235 ?_
      refine w_aload hx hb dL_changes_238 (lv_at hl 6 rfl) ?_
      refine w_aload_n hx hb dL_changes_240 rfl (lv_at hl 1 rfl) ?_
      obtain ⟨v41, ev41, h⟩ := v_bnd h
      refine v_gI (ci := 13) hx hb hts iwX12 hown hK 3 ev41 rfl (by decide) (Or.inr ⟨_, kn67 hSS _⟩) (fun _ h9 => h9) dL_changes_241 ?_
      obtain ⟨M42, eM42, h⟩ := v_bnd h
      refine v_putf (ci := 12) hx hb hts iwX11 hown hK tyX11_ok nmX11 3 eM42 rfl (by decide) (Or.inr ⟨_, kn80 hSS _⟩) (fun _ h9 => h9) (Or.inl rfl) rfl rfl dL_changes_244 ?_
      refine w_aload hx hb dL_changes_247 (lv_at hl 6 rfl) ?_
      refine w_aload_n hx hb dL_changes_249 rfl (lv_at hl 2 rfl) ?_
      refine w_iconst (v := 2) hx hb dL_changes_250 (by decide) ?_
      obtain ⟨g7, h⟩ := v_ifs h
      refine v_tight hb0 ?_
      obtain ⟨z43, ez43, h⟩ := v_bnd h
      refine v_call1 (v := .int z43.1) (M1 := z43.2) (mc := 0) (ms := 0) (fun H locs hR hS => va_runS (As := [.ref x2, .int 2]) (rest := [.ref z36.2.2.1]) ⟨hx, hb, hml, hown, hts⟩ (mL_draw l hfl D x2 2 M42 z43 ez43) (va_cwS 2 hts (gdS kw406 kw407 kw26 kw408) rfl rfl rfl (by decide +kernel) ⟨Nat.le_of_ble_eq_true rfl, Nat.le_of_ble_eq_true rfl⟩) (v_preS hSS hR hS [.ref x2, .int 2]) rfl rfl hl.1 rfl (lv_room (Nat.le_of_ble_eq_true rfl)) dL_changes_251 ⟨by show _ + _ ≤ 128; omega, by show _ + _ ≤ 2600; omega⟩) ?_
      refine w_if_ne (tgt := 261) hx hb dL_changes_254 (by decide) (fun c44 => ?_) (fun c44 => ?_)
      · rw [if_pos c44] at h
        refine w_iconst (v := 1) hx hb dL_changes_257 (by decide) ?_
        refine w_goto (tgt := 262) hx hb dL_changes_258 (by decide) ?_
        refine v_tight hb0 ?_
        exact L_changes_J262p x0 x1 x3 z36.1 z36.2.2.1 z36.2.2.1 1 z43.2 ls (lv_sub hl [0, 1, 3, 5, 6] rfl) h
      · rw [if_neg c44] at h
        refine w_iconst (v := 0) hx hb dL_changes_261 (by decide) ?_
        refine v_tight hb0 ?_
        exact L_changes_J262p x0 x1 x3 z36.1 z36.2.2.1 z36.2.2.1 0 z43.2 ls (lv_sub hl [0, 1, 3, 5, 6] rfl) h
  have L_changes_J352p : ∀ (x0 : Nat) (x1 : Nat) (x6 : Int32) (Mj : vMe) (ls : Array Slot), lv_has ls 10 [(0, .ref x0), (1, .ref x1), (6, .int x6)] → tL_changes_J352 D.2.2.2.2 M.2.1 M.2.2.1 x0 x1 x6 Mj = some z → vV D p l e rmL_changes s m args below meth c (Mj.2.1 - s.heap.size) (Mj.2.2.1 - vSum D.2.2.2.1 s.heap) Q Mj (F0 m 352 ls []) := by
    intro x0 x1 x6 Mj ls hl h
    unfold tL_changes_J352 at h
    refine w_aload_n hx hb dL_changes_352 rfl (lv_at hl 1 rfl) ?_
    obtain ⟨a66, ea66, h⟩ := v_bnd h
    refine v_gA (ci := 13) hx hb hts iwX12 hown hK 7 ea66 rfl (by decide) (Or.inr ⟨_, kn71 hSS _⟩) (fun _ h9 => h9) dL_changes_353 ?_
    refine w_iload hx hb dL_changes_356 (lv_at hl 2 rfl) ?_
    obtain ⟨a67, ea67, h⟩ := v_bnd h
    refine v_aald hx hb hK ea67 (by decide) dL_changes_358 ?_
    refine w_ifnull (tgt := 382) hx hb dL_changes_359 (by decide) (fun c68 => ?_) (fun c68 => ?_)
    · rw [if_pos c68] at h
      refine w_iconst (v := 1) hx hb dL_changes_382 (by decide) ?_
      refine w_goto (tgt := 387) hx hb dL_changes_383 (by decide) ?_
      obtain ⟨g9, h⟩ := v_ifs h
      refine v_tight hb0 (vV.widen (n' := 128) (k' := 2600) (by omega) (by omega) ?_)
      obtain rfl := Option.some.inj h
      rw [hQ]
      exact v_zret (x := 1) hx hb hr hlk rfl dL_changes_387
    · rw [if_neg c68] at h
      refine w_aload_n hx hb dL_changes_362 rfl (lv_at hl 0 rfl) ?_
      refine w_iload hx hb dL_changes_363 (lv_at hl 2 rfl) ?_
      obtain ⟨g7, h⟩ := v_ifs h
      refine v_tight hb0 ?_
      obtain ⟨g8, h⟩ := v_ifs h
      obtain ⟨z70, ez70, h⟩ := v_bnd h
      rcases hz70 : z70.1 with r71 | jz70
      · replace h := v_inl hz70 h
        refine v_call1 (v := .int r71) (M1 := z70.2) (mc := 50) (ms := 2001) (fun H locs hR hS => va_runV (As := [.int x6]) (rest := []) ⟨hx, hb, hml, hown, hts⟩ (v_noX (by rw [hz70]; rfl) (by rw [hz70]; rfl) (mX9_step l hfl D x0 x6 Mj z70 ez70)) (cwV 1 hts (gdV kw1180 kw1181 kw1182 kw27 kw1183) rfl rfl rfl (by decide +kernel) ⟨Nat.le_of_ble_eq_true rfl, Nat.le_of_ble_eq_true rfl⟩) (v_preV (ci := 10) hSS hR hS g8 (by decide) rfl [.int x6]) rfl rfl hl.1 rfl (lv_room (Nat.le_of_ble_eq_true rfl)) dL_changes_365 ⟨by show _ + _ ≤ 128; omega, by show _ + _ ≤ 2600; omega⟩) ?_
        refine w_aload_n hx hb dL_changes_368 rfl (lv_at hl 1 rfl) ?_
        refine w_aload_n hx hb dL_changes_369 rfl (lv_at hl 1 rfl) ?_
        obtain ⟨a72, ea72, h⟩ := v_bnd h
        refine v_gA (ci := 13) hx hb hts iwX12 hown hK 7 ea72 rfl (by decide) (Or.inr ⟨_, kn71 hSS _⟩) (fun _ h9 => h9) dL_changes_370 ?_
        refine w_iload hx hb dL_changes_373 (lv_at hl 2 rfl) ?_
        obtain ⟨a73, ea73, h⟩ := v_bnd h
        refine v_aaldA hx hb hK ea73 (by decide) dL_changes_375 ?_
        obtain ⟨g7, h⟩ := v_ifs h
        refine v_tight hb0 ?_
        obtain ⟨g8, h⟩ := v_ifs h
        obtain ⟨z74, ez74, h⟩ := v_bnd h
        refine v_call1 (v := .int z74.1) (M1 := z74.2) (mc := 0) (ms := 0) (fun H locs hR hS => va_runV (As := [.ref a73]) (rest := [.int r71]) ⟨hx, hb, hml, hown, hts⟩ (mX12_step l hfl D x1 a73 z70.2 z74 ez74) (cwV 1 hts (gdV kw1196 kw1197 kw1198 kw35 kw1199) rfl rfl rfl (by decide +kernel) ⟨Nat.le_of_ble_eq_true rfl, Nat.le_of_ble_eq_true rfl⟩) (v_preV (ci := 13) hSS hR hS g8 (by decide) rfl [.ref a73]) rfl rfl hl.1 rfl (lv_room (Nat.le_of_ble_eq_true rfl)) dL_changes_376 ⟨by show _ + _ ≤ 128; omega, by show _ + _ ≤ 2600; omega⟩) ?_
        refine w_icmp_ne (tgt := 386) hx hb dL_changes_379 (by decide) (fun c75 => ?_) (fun c75 => ?_)
        · rw [if_pos c75] at h
          refine w_iconst (v := 1) hx hb dL_changes_382 (by decide) ?_
          refine w_goto (tgt := 387) hx hb dL_changes_383 (by decide) ?_
          obtain ⟨g9, h⟩ := v_ifs h
          refine v_tight hb0 (vV.widen (n' := 128) (k' := 2600) (by omega) (by omega) ?_)
          obtain rfl := Option.some.inj h
          rw [hQ]
          exact v_zret (x := 1) hx hb hr hlk rfl dL_changes_387
        · rw [if_neg c75] at h
          refine w_iconst (v := 0) hx hb dL_changes_386 (by decide) ?_
          obtain ⟨g9, h⟩ := v_ifs h
          refine v_tight hb0 (vV.widen (n' := 128) (k' := 2600) (by omega) (by omega) ?_)
          obtain rfl := Option.some.inj h
          rw [hQ]
          exact v_zret (x := 0) hx hb hr hlk rfl dL_changes_387
      · exact nomatch (v_inr hz70 h)
  have L_changes_J471p : ∀ (x0 : Nat) (x1 : Nat) (x3 : Int32) (x4 : Nat) (x5 : Int32) (Mj : vMe) (ls : Array Slot), lv_has ls 10 [(0, .ref x0), (1, .ref x1), (3, .int x3), (4, .ref x4), (5, .int x5)] → tL_changes_J471 D.2.2.2.2 M.2.1 M.2.2.1 x0 x1 x3 x4 x5 Mj = some z → vV D p l e rmL_changes s m args below meth c (Mj.2.1 - s.heap.size) (Mj.2.2.1 - vSum D.2.2.2.1 s.heap) Q Mj (F0 m 471 ls []) := by
    intro x0 x1 x3 x4 x5 Mj ls hl h
    unfold tL_changes_J471 at h
    refine w_aload_n hx hb dL_changes_471 rfl (lv_at hl 0 rfl) ?_
    refine w_iload_n hx hb dL_changes_472 rfl (lv_at hl 2 rfl) ?_
    refine w_iload hx hb dL_changes_473 (lv_at hl 4 rfl) ?_
    obtain ⟨g7, h⟩ := v_ifs h
    refine v_tight hb0 ?_
    obtain ⟨g8, h⟩ := v_ifs h
    obtain ⟨z95, ez95, h⟩ := v_bnd h
    rcases hz95 : z95.1 with r96 | jz95
    · replace h := v_inl hz95 h
      refine v_call1 (v := .int r96) (M1 := z95.2) (mc := 50) (ms := 2001) (fun H locs hR hS => va_runV (As := [.int x3, .int x5]) (rest := []) ⟨hx, hb, hml, hown, hts⟩ (v_noX (by rw [hz95]; rfl) (by rw [hz95]; rfl) (mX9_remove l hfl D x0 x3 x5 Mj z95 ez95)) (cwV 2 hts (gdV kw1212 kw1213 kw1214 kw27 kw1215) rfl rfl rfl (by decide +kernel) ⟨Nat.le_of_ble_eq_true rfl, Nat.le_of_ble_eq_true rfl⟩) (v_preV (ci := 10) hSS hR hS g8 (by decide) rfl [.int x3, .int x5]) rfl rfl hl.1 rfl (lv_room (Nat.le_of_ble_eq_true rfl)) dL_changes_475 ⟨by show _ + _ ≤ 128; omega, by show _ + _ ≤ 2600; omega⟩) ?_
      refine w_aload_n hx hb dL_changes_478 rfl (lv_at hl 1 rfl) ?_
      refine w_aload hx hb dL_changes_479 (lv_at hl 3 rfl) ?_
      refine w_iload hx hb dL_changes_481 (lv_at hl 4 rfl) ?_
      obtain ⟨g7, h⟩ := v_ifs h
      refine v_tight hb0 ?_
      obtain ⟨g8, h⟩ := v_ifs h
      obtain ⟨z97, ez97, h⟩ := v_bnd h
      refine v_call1 (v := .int z97.1) (M1 := z97.2) (mc := 1) (ms := 6) (fun H locs hR hS => va_runV (As := [.ref x4, .int x5]) (rest := [.int r96]) ⟨hx, hb, hml, hown, hts⟩ (mX12_remove l hfl D x1 x4 x5 z95.2 z97 ez97) (cwV 2 hts (gdV kw706 kw707 kw708 kw35 kw709) rfl rfl rfl (by decide +kernel) ⟨Nat.le_of_ble_eq_true rfl, Nat.le_of_ble_eq_true rfl⟩) (v_preV (ci := 13) hSS hR hS g8 (by decide) rfl [.ref x4, .int x5]) rfl rfl hl.1 rfl (lv_room (Nat.le_of_ble_eq_true rfl)) dL_changes_483 ⟨by show _ + _ ≤ 128; omega, by show _ + _ ≤ 2600; omega⟩) ?_
      refine w_icmp_ne (tgt := 493) hx hb dL_changes_486 (by decide) (fun c98 => ?_) (fun c98 => ?_)
      · rw [if_pos c98] at h
        refine w_iconst (v := 1) hx hb dL_changes_489 (by decide) ?_
        refine w_goto (tgt := 494) hx hb dL_changes_490 (by decide) ?_
        obtain ⟨g9, h⟩ := v_ifs h
        refine v_tight hb0 (vV.widen (n' := 128) (k' := 2600) (by omega) (by omega) ?_)
        obtain rfl := Option.some.inj h
        rw [hQ]
        exact v_zret (x := 1) hx hb hr hlk rfl dL_changes_494
      · rw [if_neg c98] at h
        refine w_iconst (v := 0) hx hb dL_changes_493 (by decide) ?_
        obtain ⟨g9, h⟩ := v_ifs h
        refine v_tight hb0 (vV.widen (n' := 128) (k' := 2600) (by omega) (by omega) ?_)
        obtain rfl := Option.some.inj h
        rw [hQ]
        exact v_zret (x := 0) hx hb hr hlk rfl dL_changes_494
    · exact nomatch (v_inr hz95 h)
  have L_changes_J653p : ∀ (x0 : Nat) (x3 : Int32) (x4 : Nat) (x7 : Int32) (x8 : Int32) (Mj : vMe) (ls : Array Slot), lv_has ls 10 [(0, .ref x0), (3, .int x3), (4, .ref x4), (7, .int x7), (8, .int x8)] → tL_changes_J653 D.2.2.2.2 M.2.1 M.2.2.1 x0 x3 x4 x7 x8 Mj = some z → vV D p l e rmL_changes s m args below meth c (Mj.2.1 - s.heap.size) (Mj.2.2.1 - vSum D.2.2.2.1 s.heap) Q Mj (F0 m 653 ls []) := by
    intro x0 x3 x4 x7 x8 Mj ls hl h
    unfold tL_changes_J653 at h
    refine w_aload_n hx hb dL_changes_653 rfl (lv_at hl 0 rfl) ?_
    refine w_iload_n hx hb dL_changes_654 rfl (lv_at hl 1 rfl) ?_
    refine w_iload hx hb dL_changes_655 (lv_at hl 3 rfl) ?_
    obtain ⟨g7, h⟩ := v_ifs h
    refine v_tight hb0 ?_
    obtain ⟨g8, h⟩ := v_ifs h
    obtain ⟨z152, ez152, h⟩ := v_bnd h
    rcases hz152 : z152.1 with r153 | jz152
    · replace h := v_inl hz152 h
      refine v_call1 (v := .int r153) (M1 := z152.2) (mc := 50) (ms := 2001) (fun H locs hR hS => va_runV (As := [.int x3, .int x7]) (rest := []) ⟨hx, hb, hml, hown, hts⟩ (v_noX (by rw [hz152]; rfl) (by rw [hz152]; rfl) (mX9_unite l hfl D x0 x3 x7 Mj z152 ez152)) (cwV 2 hts (gdV kw1234 kw1235 kw1236 kw27 kw1237) rfl rfl rfl (by decide +kernel) ⟨Nat.le_of_ble_eq_true rfl, Nat.le_of_ble_eq_true rfl⟩) (v_preV (ci := 10) hSS hR hS g8 (by decide) rfl [.int x3, .int x7]) rfl rfl hl.1 rfl (lv_room (Nat.le_of_ble_eq_true rfl)) dL_changes_657 ⟨by show _ + _ ≤ 128; omega, by show _ + _ ≤ 2600; omega⟩) ?_
      refine w_aload hx hb dL_changes_660 (lv_at hl 2 rfl) ?_
      obtain ⟨v154, ev154, h⟩ := v_bnd h
      refine v_gI (ci := 11) hx hb hts iwX10 hown hK 0 ev154 rfl (by decide) (Or.inr ⟨_, kn49 hSS _⟩) (fun _ h9 => h9) dL_changes_662 ?_
      refine w_iload hx hb dL_changes_665 (lv_at hl 4 rfl) ?_
      refine w_isub hx hb dL_changes_667 ?_
      refine w_icmp_ne (tgt := 675) hx hb dL_changes_668 (by decide) (fun c155 => ?_) (fun c155 => ?_)
      · rw [if_pos c155] at h
        refine w_iconst (v := 1) hx hb dL_changes_671 (by decide) ?_
        refine w_goto (tgt := 676) hx hb dL_changes_672 (by decide) ?_
        obtain ⟨g9, h⟩ := v_ifs h
        refine v_tight hb0 (vV.widen (n' := 128) (k' := 2600) (by omega) (by omega) ?_)
        obtain rfl := Option.some.inj h
        rw [hQ]
        exact v_zret (x := 1) hx hb hr hlk rfl dL_changes_676
      · rw [if_neg c155] at h
        refine w_iconst (v := 0) hx hb dL_changes_675 (by decide) ?_
        obtain ⟨g9, h⟩ := v_ifs h
        refine v_tight hb0 (vV.widen (n' := 128) (k' := 2600) (by omega) (by omega) ?_)
        obtain rfl := Option.some.inj h
        rw [hQ]
        exact v_zret (x := 0) hx hb hr hlk rfl dL_changes_676
    · exact nomatch (v_inr hz152 h)
  refine w_aload_n hx hb dL_changes_0 rfl (lv_at hl 2 rfl) ?_
  refine w_aload_n hx hb dL_changes_1 rfl (lv_at hl 1 rfl) ?_
  obtain ⟨v1, ev1, h⟩ := v_bnd h
  refine v_gI (ci := 13) hx hb hts iwX12 hown hK 0 ev1 rfl (by decide) (Or.inr ⟨_, kn64 hSS _⟩) (fun _ h9 => h9) dL_changes_2 ?_
  obtain ⟨g7, h⟩ := v_ifs h
  refine v_tight hb0 ?_
  obtain ⟨z2, ez2, h⟩ := v_bnd h
  refine v_call1 (v := .int z2.1) (M1 := z2.2) (mc := 0) (ms := 0) (fun H locs hR hS => va_runS (As := [.ref x2, .int v1]) (rest := []) ⟨hx, hb, hml, hown, hts⟩ (mL_draw l hfl D x2 v1 M z2 ez2) (va_cwS 2 hts (gdS kw406 kw407 kw26 kw408) rfl rfl rfl (by decide +kernel) ⟨Nat.le_of_ble_eq_true rfl, Nat.le_of_ble_eq_true rfl⟩) (v_preS hSS hR hS [.ref x2, .int v1]) rfl rfl hl.1 rfl (lv_room (Nat.le_of_ble_eq_true rfl)) dL_changes_5 ⟨by show _ + _ ≤ 128; omega, by show _ + _ ≤ 2600; omega⟩) ?_
  refine w_istore_n (lv' := [(3, .int z2.1), (0, .ref x0), (1, .ref x1), (2, .ref x2)]) hx hb dL_changes_8 rfl hl (by decide) rfl (fun ls hl => ?_)
  have hl : lv_has ls 10 [(0, .ref x0), (1, .ref x1), (2, .ref x2), (3, .int z2.1)] := lv_sub hl [1, 2, 3, 0] rfl
  refine w_aload_n hx hb dL_changes_9 rfl (lv_at hl 1 rfl) ?_
  obtain ⟨a3, ea3, h⟩ := v_bnd h
  refine v_gA (ci := 13) hx hb hts iwX12 hown hK 6 ea3 rfl (by decide) (Or.inr ⟨_, kn70 hSS _⟩) (fun _ h9 => h9) dL_changes_10 ?_
  refine w_iload_n hx hb dL_changes_13 rfl (lv_at hl 3 rfl) ?_
  obtain ⟨a4, ea4, h⟩ := v_bnd h
  refine v_aaldA hx hb hK ea4 (by decide) dL_changes_14 ?_
  refine w_astore (lv' := [(4, .ref a4), (0, .ref x0), (1, .ref x1), (2, .ref x2), (3, .int z2.1)]) hx hb dL_changes_15 hl (by decide) rfl (fun ls hl => ?_)
  have hl : lv_has ls 10 [(0, .ref x0), (1, .ref x1), (2, .ref x2), (3, .int z2.1), (4, .ref a4)] := lv_sub hl [1, 2, 3, 4, 0] rfl
  refine w_aload_n hx hb dL_changes_17 rfl (lv_at hl 2 rfl) ?_
  refine w_aload_n hx hb dL_changes_18 rfl (lv_at hl 1 rfl) ?_
  obtain ⟨v5, ev5, h⟩ := v_bnd h
  refine v_gI (ci := 13) hx hb hts iwX12 hown hK 1 ev5 rfl (by decide) (Or.inr ⟨_, kn65 hSS _⟩) (fun _ h9 => h9) dL_changes_19 ?_
  obtain ⟨g7, h⟩ := v_ifs h
  refine v_tight hb0 ?_
  obtain ⟨z6, ez6, h⟩ := v_bnd h
  refine v_call1 (v := .int z6.1) (M1 := z6.2) (mc := 0) (ms := 0) (fun H locs hR hS => va_runS (As := [.ref x2, .int v5]) (rest := []) ⟨hx, hb, hml, hown, hts⟩ (mL_draw l hfl D x2 v5 z2.2 z6 ez6) (va_cwS 2 hts (gdS kw406 kw407 kw26 kw408) rfl rfl rfl (by decide +kernel) ⟨Nat.le_of_ble_eq_true rfl, Nat.le_of_ble_eq_true rfl⟩) (v_preS hSS hR hS [.ref x2, .int v5]) rfl rfl hl.1 rfl (lv_room (Nat.le_of_ble_eq_true rfl)) dL_changes_22 ⟨by show _ + _ ≤ 128; omega, by show _ + _ ≤ 2600; omega⟩) ?_
  refine w_istore (lv' := [(5, .int z6.1), (0, .ref x0), (1, .ref x1), (2, .ref x2), (3, .int z2.1), (4, .ref a4)]) hx hb dL_changes_25 hl (by decide) rfl (fun ls hl => ?_)
  have hl : lv_has ls 10 [(0, .ref x0), (1, .ref x1), (2, .ref x2), (3, .int z2.1), (4, .ref a4), (5, .int z6.1)] := lv_sub hl [1, 2, 3, 4, 5, 0] rfl
  refine w_aload_n hx hb dL_changes_27 rfl (lv_at hl 2 rfl) ?_
  refine w_bipush (v := 6) hx hb dL_changes_28 (by decide) ?_
  obtain ⟨g7, h⟩ := v_ifs h
  refine v_tight hb0 ?_
  obtain ⟨z7, ez7, h⟩ := v_bnd h
  refine v_call1 (v := .int z7.1) (M1 := z7.2) (mc := 0) (ms := 0) (fun H locs hR hS => va_runS (As := [.ref x2, .int 6]) (rest := []) ⟨hx, hb, hml, hown, hts⟩ (mL_draw l hfl D x2 6 z6.2 z7 ez7) (va_cwS 2 hts (gdS kw406 kw407 kw26 kw408) rfl rfl rfl (by decide +kernel) ⟨Nat.le_of_ble_eq_true rfl, Nat.le_of_ble_eq_true rfl⟩) (v_preS hSS hR hS [.ref x2, .int 6]) rfl rfl hl.1 rfl (lv_room (Nat.le_of_ble_eq_true rfl)) dL_changes_30 ⟨by show _ + _ ≤ 128; omega, by show _ + _ ≤ 2600; omega⟩) ?_
  refine w_istore (lv' := [(6, .int z7.1), (0, .ref x0), (1, .ref x1), (2, .ref x2), (3, .int z2.1), (4, .ref a4), (5, .int z6.1)]) hx hb dL_changes_33 hl (by decide) rfl (fun ls hl => ?_)
  have hl : lv_has ls 10 [(0, .ref x0), (1, .ref x1), (2, .ref x2), (3, .int z2.1), (4, .ref a4), (5, .int z6.1), (6, .int z7.1)] := lv_sub hl [1, 2, 3, 4, 5, 6, 0] rfl
  refine w_aload_n hx hb dL_changes_35 rfl (lv_at hl 2 rfl) ?_
  refine w_bipush (v := 14) hx hb dL_changes_36 (by decide) ?_
  obtain ⟨g7, h⟩ := v_ifs h
  refine v_tight hb0 ?_
  obtain ⟨z8, ez8, h⟩ := v_bnd h
  refine v_call1 (v := .int z8.1) (M1 := z8.2) (mc := 0) (ms := 0) (fun H locs hR hS => va_runS (As := [.ref x2, .int 14]) (rest := []) ⟨hx, hb, hml, hown, hts⟩ (mL_draw l hfl D x2 14 z7.2 z8 ez8) (va_cwS 2 hts (gdS kw406 kw407 kw26 kw408) rfl rfl rfl (by decide +kernel) ⟨Nat.le_of_ble_eq_true rfl, Nat.le_of_ble_eq_true rfl⟩) (v_preS hSS hR hS [.ref x2, .int 14]) rfl rfl hl.1 rfl (lv_room (Nat.le_of_ble_eq_true rfl)) dL_changes_38 ⟨by show _ + _ ≤ 128; omega, by show _ + _ ≤ 2600; omega⟩) ?_
  by_cases c162 : z8.1 = 0
  · rw [if_pos c162] at h
    refine w_tabIn (tgt := 108) (off := 67) hx hb dL_changes_41 (by rw [c162]; decide) (by rw [c162]; decide) (by rw [c162]; rfl) (by decide) ?_
    refine w_aload_n hx hb dL_changes_108 rfl (lv_at hl 2 rfl) ?_
    refine w_iconst (v := 2) hx hb dL_changes_109 (by decide) ?_
    obtain ⟨g7, h⟩ := v_ifs h
    refine v_tight hb0 ?_
    obtain ⟨z9, ez9, h⟩ := v_bnd h
    refine v_call1 (v := .int z9.1) (M1 := z9.2) (mc := 0) (ms := 0) (fun H locs hR hS => va_runS (As := [.ref x2, .int 2]) (rest := []) ⟨hx, hb, hml, hown, hts⟩ (mL_draw l hfl D x2 2 z8.2 z9 ez9) (va_cwS 2 hts (gdS kw406 kw407 kw26 kw408) rfl rfl rfl (by decide +kernel) ⟨Nat.le_of_ble_eq_true rfl, Nat.le_of_ble_eq_true rfl⟩) (v_preS hSS hR hS [.ref x2, .int 2]) rfl rfl hl.1 rfl (lv_room (Nat.le_of_ble_eq_true rfl)) dL_changes_110 ⟨by show _ + _ ≤ 128; omega, by show _ + _ ≤ 2600; omega⟩) ?_
    refine w_if_le (tgt := 118) hx hb dL_changes_113 (by decide) (fun c10 => ?_) (fun c10 => ?_)
    · rw [if_pos c10] at h
      refine w_aload_n hx hb dL_changes_118 rfl (lv_at hl 0 rfl) ?_
      refine w_iload_n hx hb dL_changes_119 rfl (lv_at hl 3 rfl) ?_
      obtain ⟨g7, h⟩ := v_ifs h
      refine v_tight hb0 ?_
      obtain ⟨g8, h⟩ := v_ifs h
      obtain ⟨z11, ez11, h⟩ := v_bnd h
      rcases hz11 : z11.1 with r12 | jz11
      · replace h := v_inl hz11 h
        refine v_call1 (v := .int r12) (M1 := z11.2) (mc := 50) (ms := 2001) (fun H locs hR hS => va_runV (As := [.int z2.1]) (rest := []) ⟨hx, hb, hml, hown, hts⟩ (v_noX (by rw [hz11]; rfl) (by rw [hz11]; rfl) (mX9_clear l hfl D x0 z2.1 z9.2 z11 ez11)) (cwV 1 hts (gdV kw1035 kw1036 kw1037 kw27 kw1038) rfl rfl rfl (by decide +kernel) ⟨Nat.le_of_ble_eq_true rfl, Nat.le_of_ble_eq_true rfl⟩) (v_preV (ci := 10) hSS hR hS g8 (by decide) rfl [.int z2.1]) rfl rfl hl.1 rfl (lv_room (Nat.le_of_ble_eq_true rfl)) dL_changes_120 ⟨by show _ + _ ≤ 128; omega, by show _ + _ ≤ 2600; omega⟩) ?_
        refine w_aload_n hx hb dL_changes_123 rfl (lv_at hl 1 rfl) ?_
        refine w_aload hx hb dL_changes_124 (lv_at hl 4 rfl) ?_
        obtain ⟨g7, h⟩ := v_ifs h
        refine v_tight hb0 ?_
        obtain ⟨g8, h⟩ := v_ifs h
        obtain ⟨z13, ez13, h⟩ := v_bnd h
        refine v_call1 (v := .int z13.1) (M1 := z13.2) (mc := 0) (ms := 0) (fun H locs hR hS => va_runV (As := [.ref a4]) (rest := [.int r12]) ⟨hx, hb, hml, hown, hts⟩ (mX12_clear l hfl D x1 a4 z11.2 z13 ez13) (cwV 1 hts (gdV kw1088 kw1089 kw1090 kw35 kw1091) rfl rfl rfl (by decide +kernel) ⟨Nat.le_of_ble_eq_true rfl, Nat.le_of_ble_eq_true rfl⟩) (v_preV (ci := 13) hSS hR hS g8 (by decide) rfl [.ref a4]) rfl rfl hl.1 rfl (lv_room (Nat.le_of_ble_eq_true rfl)) dL_changes_126 ⟨by show _ + _ ≤ 128; omega, by show _ + _ ≤ 2600; omega⟩) ?_
        refine w_icmp_ne (tgt := 136) hx hb dL_changes_129 (by decide) (fun c14 => ?_) (fun c14 => ?_)
        · rw [if_pos c14] at h
          refine w_iconst (v := 1) hx hb dL_changes_132 (by decide) ?_
          refine w_goto (tgt := 137) hx hb dL_changes_133 (by decide) ?_
          obtain ⟨g9, h⟩ := v_ifs h
          refine v_tight hb0 (vV.widen (n' := 128) (k' := 2600) (by omega) (by omega) ?_)
          obtain rfl := Option.some.inj h
          rw [hQ]
          exact v_zret (x := 1) hx hb hr hlk rfl dL_changes_137
        · rw [if_neg c14] at h
          refine w_iconst (v := 0) hx hb dL_changes_136 (by decide) ?_
          obtain ⟨g9, h⟩ := v_ifs h
          refine v_tight hb0 (vV.widen (n' := 128) (k' := 2600) (by omega) (by omega) ?_)
          obtain rfl := Option.some.inj h
          rw [hQ]
          exact v_zret (x := 0) hx hb hr hlk rfl dL_changes_137
      · exact nomatch (v_inr hz11 h)
    · rw [if_neg c10] at h
      refine w_iconst (v := 1) hx hb dL_changes_116 (by decide) ?_
      obtain ⟨g9, h⟩ := v_ifs h
      refine v_tight hb0 (vV.widen (n' := 128) (k' := 2600) (by omega) (by omega) ?_)
      obtain rfl := Option.some.inj h
      rw [hQ]
      exact v_zret (x := 1) hx hb hr hlk rfl dL_changes_117
  rw [if_neg c162] at h
  by_cases c163 : z8.1 = 1
  · rw [if_pos c163] at h
    refine w_tabIn (tgt := 138) (off := 97) hx hb dL_changes_41 (by rw [c163]; decide) (by rw [c163]; decide) (by rw [c163]; rfl) (by decide) ?_
    refine w_aload_n hx hb dL_changes_138 rfl (lv_at hl 1 rfl) ?_
    obtain ⟨v15, ev15, h⟩ := v_bnd h
    refine v_gI (ci := 13) hx hb hts iwX12 hown hK 5 ev15 rfl (by decide) (Or.inr ⟨_, kn69 hSS _⟩) (fun _ h9 => h9) dL_changes_139 ?_
    refine w_bipush (v := 8) hx hb dL_changes_142 (by decide) ?_
    refine w_icmp_ne (tgt := 149) hx hb dL_changes_144 (by decide) (fun c16 => ?_) (fun c16 => ?_)
    · rw [if_pos c16] at h
      refine w_iconst (v := 1) hx hb dL_changes_147 (by decide) ?_
      obtain ⟨g9, h⟩ := v_ifs h
      refine v_tight hb0 (vV.widen (n' := 128) (k' := 2600) (by omega) (by omega) ?_)
      obtain rfl := Option.some.inj h
      rw [hQ]
      exact v_zret (x := 1) hx hb hr hlk rfl dL_changes_148
    · rw [if_neg c16] at h
      refine w_aload_n hx hb dL_changes_149 rfl (lv_at hl 1 rfl) ?_
      obtain ⟨a17, ea17, h⟩ := v_bnd h
      refine v_gA (ci := 13) hx hb hts iwX12 hown hK 8 ea17 rfl (by decide) (Or.inr ⟨_, kn72 hSS _⟩) (fun _ h9 => h9) dL_changes_150 ?_
      refine w_aload_n hx hb dL_changes_153 rfl (lv_at hl 1 rfl) ?_
      obtain ⟨v18, ev18, h⟩ := v_bnd h
      refine v_gI (ci := 13) hx hb hts iwX12 hown hK 5 ev18 rfl (by decide) (Or.inr ⟨_, kn69 hSS _⟩) (fun _ h9 => h9) dL_changes_154 ?_
      refine w_aload_n hx hb dL_changes_157 rfl (lv_at hl 1 rfl) ?_
      obtain ⟨v19, ev19, h⟩ := v_bnd h
      refine v_gI (ci := 13) hx hb hts iwX12 hown hK 3 ev19 rfl (by decide) (Or.inr ⟨_, kn67 hSS _⟩) (fun _ h9 => h9) dL_changes_158 ?_
      obtain ⟨M20, eM20, h⟩ := v_bnd h
      refine v_iast hx hb hK eM20 dL_changes_161 ?_
      refine w_aload_n hx hb dL_changes_162 rfl (lv_at hl 0 rfl) ?_
      obtain ⟨g7, h⟩ := v_ifs h
      refine v_tight hb0 ?_
      obtain ⟨g8, h⟩ := v_ifs h
      obtain ⟨z21, ez21, h⟩ := v_bnd h
      rcases hz21 : z21.1 with r22 | jz21
      · replace h := v_inl hz21 h
        refine v_call1 (v := .int r22) (M1 := z21.2) (mc := 50) (ms := 2001) (fun H locs hR hS => va_runV (As := []) (rest := []) ⟨hx, hb, hml, hown, hts⟩ (v_noX (by rw [hz21]; rfl) (by rw [hz21]; rfl) (mX9_mark l hfl D x0 M20 z21 ez21)) (cwV 0 hts (gdV kw1092 kw1093 kw1094 kw27 kw1095) rfl rfl rfl (by decide +kernel) ⟨Nat.le_of_ble_eq_true rfl, Nat.le_of_ble_eq_true rfl⟩) (v_preV (ci := 10) hSS hR hS g8 (by decide) rfl []) rfl rfl hl.1 rfl (lv_room (Nat.le_of_ble_eq_true rfl)) dL_changes_163 ⟨by show _ + _ ≤ 128; omega, by show _ + _ ≤ 2600; omega⟩) ?_
        refine w_aload_n hx hb dL_changes_166 rfl (lv_at hl 1 rfl) ?_
        refine w_dup hx hb dL_changes_167 rfl ?_
        obtain ⟨v23, ev23, h⟩ := v_bnd h
        refine v_gI (ci := 13) hx hb hts iwX12 hown hK 5 ev23 rfl (by decide) (Or.inr ⟨_, kn69 hSS _⟩) (fun _ h9 => h9) dL_changes_168 ?_
        refine w_dup_x1 hx hb dL_changes_171 rfl rfl ?_
        refine w_iconst (v := 1) hx hb dL_changes_172 (by decide) ?_
        refine w_iadd hx hb dL_changes_173 ?_
        obtain ⟨M24, eM24, h⟩ := v_bnd h
        refine v_putf (ci := 13) hx hb hts iwX12 hown hK tyX12_ok nmX12 5 eM24 rfl (by decide) (Or.inr ⟨_, kn69 hSS _⟩) (fun _ h9 => h9) (Or.inl rfl) rfl rfl dL_changes_174 ?_
        refine w_icmp_ne (tgt := 184) hx hb dL_changes_177 (by decide) (fun c25 => ?_) (fun c25 => ?_)
        · rw [if_pos c25] at h
          refine w_iconst (v := 1) hx hb dL_changes_180 (by decide) ?_
          refine w_goto (tgt := 185) hx hb dL_changes_181 (by decide) ?_
          obtain ⟨g9, h⟩ := v_ifs h
          refine v_tight hb0 (vV.widen (n' := 128) (k' := 2600) (by omega) (by omega) ?_)
          obtain rfl := Option.some.inj h
          rw [hQ]
          exact v_zret (x := 1) hx hb hr hlk rfl dL_changes_185
        · rw [if_neg c25] at h
          refine w_iconst (v := 0) hx hb dL_changes_184 (by decide) ?_
          obtain ⟨g9, h⟩ := v_ifs h
          refine v_tight hb0 (vV.widen (n' := 128) (k' := 2600) (by omega) (by omega) ?_)
          obtain rfl := Option.some.inj h
          rw [hQ]
          exact v_zret (x := 0) hx hb hr hlk rfl dL_changes_185
      · exact nomatch (v_inr hz21 h)
  rw [if_neg c163] at h
  by_cases c164 : z8.1 = 2
  · rw [if_pos c164] at h
    refine w_tabIn (tgt := 186) (off := 145) hx hb dL_changes_41 (by rw [c164]; decide) (by rw [c164]; decide) (by rw [c164]; rfl) (by decide) ?_
    refine v_tight hb0 ?_
    exact L_changes_J186p x0 x1 x2 z2.1 a4 z8.2 ls (lv_sub hl [0, 1, 2, 3, 4] rfl) h
  rw [if_neg c164] at h
  by_cases c165 : z8.1 = 3
  · rw [if_pos c165] at h
    refine w_tabIn (tgt := 186) (off := 145) hx hb dL_changes_41 (by rw [c165]; decide) (by rw [c165]; decide) (by rw [c165]; rfl) (by decide) ?_
    refine v_tight hb0 ?_
    exact L_changes_J186p x0 x1 x2 z2.1 a4 z8.2 ls (lv_sub hl [0, 1, 2, 3, 4] rfl) h
  rw [if_neg c165] at h
  by_cases c166 : z8.1 = 4
  · rw [if_pos c166] at h
    refine w_tabIn (tgt := 295) (off := 254) hx hb dL_changes_41 (by rw [c166]; decide) (by rw [c166]; decide) (by rw [c166]; rfl) (by decide) ?_
    refine w_aload_n hx hb dL_changes_295 rfl (lv_at hl 1 rfl) ?_
    obtain ⟨a52, ea52, h⟩ := v_bnd h
    refine v_gA (ci := 13) hx hb hts iwX12 hown hK 7 ea52 rfl (by decide) (Or.inr ⟨_, kn71 hSS _⟩) (fun _ h9 => h9) dL_changes_296 ?_
    refine w_iload hx hb dL_changes_299 (lv_at hl 6 rfl) ?_
    obtain ⟨a53, ea53, h⟩ := v_bnd h
    refine v_aald hx hb hK ea53 (by decide) dL_changes_301 ?_
    refine w_ifnull (tgt := 313) hx hb dL_changes_302 (by decide) (fun c54 => ?_) (fun c54 => ?_)
    · rw [if_pos c54] at h
      refine w_iconst (v := 1) hx hb dL_changes_313 (by decide) ?_
      obtain ⟨g9, h⟩ := v_ifs h
      refine v_tight hb0 (vV.widen (n' := 128) (k' := 2600) (by omega) (by omega) ?_)
      obtain rfl := Option.some.inj h
      rw [hQ]
      exact v_zret (x := 1) hx hb hr hlk rfl dL_changes_314
    · rw [if_neg c54] at h
      refine w_aload_n hx hb dL_changes_305 rfl (lv_at hl 2 rfl) ?_
      refine w_iconst (v := 2) hx hb dL_changes_306 (by decide) ?_
      obtain ⟨g7, h⟩ := v_ifs h
      refine v_tight hb0 ?_
      obtain ⟨z56, ez56, h⟩ := v_bnd h
      refine v_call1 (v := .int z56.1) (M1 := z56.2) (mc := 0) (ms := 0) (fun H locs hR hS => va_runS (As := [.ref x2, .int 2]) (rest := []) ⟨hx, hb, hml, hown, hts⟩ (mL_draw l hfl D x2 2 z8.2 z56 ez56) (va_cwS 2 hts (gdS kw406 kw407 kw26 kw408) rfl rfl rfl (by decide +kernel) ⟨Nat.le_of_ble_eq_true rfl, Nat.le_of_ble_eq_true rfl⟩) (v_preS hSS hR hS [.ref x2, .int 2]) rfl rfl hl.1 rfl (lv_room (Nat.le_of_ble_eq_true rfl)) dL_changes_307 ⟨by show _ + _ ≤ 128; omega, by show _ + _ ≤ 2600; omega⟩) ?_
      refine w_if_le (tgt := 315) hx hb dL_changes_310 (by decide) (fun c57 => ?_) (fun c57 => ?_)
      · rw [if_pos c57] at h
        refine w_aload_n hx hb dL_changes_315 rfl (lv_at hl 1 rfl) ?_
        obtain ⟨a58, ea58, h⟩ := v_bnd h
        refine v_gA (ci := 13) hx hb hts iwX12 hown hK 7 ea58 rfl (by decide) (Or.inr ⟨_, kn71 hSS _⟩) (fun _ h9 => h9) dL_changes_316 ?_
        refine w_iload hx hb dL_changes_319 (lv_at hl 6 rfl) ?_
        obtain ⟨a59, ea59, h⟩ := v_bnd h
        refine v_aaldA hx hb hK ea59 (by decide) dL_changes_321 ?_
        obtain ⟨v60, ev60, h⟩ := v_bnd h
        refine v_gI (ci := 12) hx hb hts iwX11 hown hK 4 ev60 rfl (by decide) (Or.inr ⟨_, kn82 hSS _⟩) (fun _ h9 => h9) dL_changes_322 ?_
        refine w_istore (lv' := [(7, .int v60), (0, .ref x0), (1, .ref x1), (2, .ref x2), (3, .int z2.1), (4, .ref a4), (5, .int z6.1), (6, .int z7.1)]) hx hb dL_changes_325 hl (by decide) rfl (fun ls hl => ?_)
        have hl : lv_has ls 10 [(0, .ref x0), (1, .ref x1), (2, .ref x2), (3, .int z2.1), (4, .ref a4), (5, .int z6.1), (6, .int z7.1), (7, .int v60)] := lv_sub hl [1, 2, 3, 4, 5, 6, 7, 0] rfl
        refine w_aload_n hx hb dL_changes_327 rfl (lv_at hl 1 rfl) ?_
        obtain ⟨a61, ea61, h⟩ := v_bnd h
        refine v_gA (ci := 13) hx hb hts iwX12 hown hK 7 ea61 rfl (by decide) (Or.inr ⟨_, kn71 hSS _⟩) (fun _ h9 => h9) dL_changes_328 ?_
        refine w_iload hx hb dL_changes_331 (lv_at hl 6 rfl) ?_
        refine w_null hx hb dL_changes_333 ?_
        obtain ⟨M62, eM62, h⟩ := v_bnd h
        refine v_aastN hx hb hK eM62 (by decide) rfl dL_changes_334 ?_
        refine w_aload_n hx hb dL_changes_335 rfl (lv_at hl 0 rfl) ?_
        refine w_iload hx hb dL_changes_336 (lv_at hl 6 rfl) ?_
        obtain ⟨g7, h⟩ := v_ifs h
        refine v_tight hb0 ?_
        obtain ⟨g8, h⟩ := v_ifs h
        obtain ⟨z63, ez63, h⟩ := v_bnd h
        rcases hz63 : z63.1 with r64 | jz63
        · replace h := v_inl hz63 h
          refine v_call1 (v := .int r64) (M1 := z63.2) (mc := 50) (ms := 2001) (fun H locs hR hS => va_runV (As := [.int z7.1]) (rest := []) ⟨hx, hb, hml, hown, hts⟩ (v_noX (by rw [hz63]; rfl) (by rw [hz63]; rfl) (mX9_close l hfl D x0 z7.1 M62 z63 ez63)) (cwV 1 hts (gdV kw1171 kw1172 kw1173 kw27 kw1174) rfl rfl rfl (by decide +kernel) ⟨Nat.le_of_ble_eq_true rfl, Nat.le_of_ble_eq_true rfl⟩) (v_preV (ci := 10) hSS hR hS g8 (by decide) rfl [.int z7.1]) rfl rfl hl.1 rfl (lv_room (Nat.le_of_ble_eq_true rfl)) dL_changes_338 ⟨by show _ + _ ≤ 128; omega, by show _ + _ ≤ 2600; omega⟩) ?_
          refine w_iload hx hb dL_changes_341 (lv_at hl 7 rfl) ?_
          refine w_icmp_ne (tgt := 350) hx hb dL_changes_343 (by decide) (fun c65 => ?_) (fun c65 => ?_)
          · rw [if_pos c65] at h
            refine w_iconst (v := 1) hx hb dL_changes_346 (by decide) ?_
            refine w_goto (tgt := 351) hx hb dL_changes_347 (by decide) ?_
            obtain ⟨g9, h⟩ := v_ifs h
            refine v_tight hb0 (vV.widen (n' := 128) (k' := 2600) (by omega) (by omega) ?_)
            obtain rfl := Option.some.inj h
            rw [hQ]
            exact v_zret (x := 1) hx hb hr hlk rfl dL_changes_351
          · rw [if_neg c65] at h
            refine w_iconst (v := 0) hx hb dL_changes_350 (by decide) ?_
            obtain ⟨g9, h⟩ := v_ifs h
            refine v_tight hb0 (vV.widen (n' := 128) (k' := 2600) (by omega) (by omega) ?_)
            obtain rfl := Option.some.inj h
            rw [hQ]
            exact v_zret (x := 0) hx hb hr hlk rfl dL_changes_351
        · exact nomatch (v_inr hz63 h)
      · rw [if_neg c57] at h
        refine w_iconst (v := 1) hx hb dL_changes_313 (by decide) ?_
        obtain ⟨g9, h⟩ := v_ifs h
        refine v_tight hb0 (vV.widen (n' := 128) (k' := 2600) (by omega) (by omega) ?_)
        obtain rfl := Option.some.inj h
        rw [hQ]
        exact v_zret (x := 1) hx hb hr hlk rfl dL_changes_314
  rw [if_neg c166] at h
  by_cases c167 : z8.1 = 5
  · rw [if_pos c167] at h
    refine w_tabIn (tgt := 352) (off := 311) hx hb dL_changes_41 (by rw [c167]; decide) (by rw [c167]; decide) (by rw [c167]; rfl) (by decide) ?_
    refine v_tight hb0 ?_
    exact L_changes_J352p x0 x1 z7.1 z8.2 ls (lv_sub hl [0, 1, 6] rfl) h
  rw [if_neg c167] at h
  by_cases c168 : z8.1 = 6
  · rw [if_pos c168] at h
    refine w_tabIn (tgt := 352) (off := 311) hx hb dL_changes_41 (by rw [c168]; decide) (by rw [c168]; decide) (by rw [c168]; rfl) (by decide) ?_
    refine v_tight hb0 ?_
    exact L_changes_J352p x0 x1 z7.1 z8.2 ls (lv_sub hl [0, 1, 6] rfl) h
  rw [if_neg c168] at h
  by_cases c169 : z8.1 = 7
  · rw [if_pos c169] at h
    refine w_tabIn (tgt := 352) (off := 311) hx hb dL_changes_41 (by rw [c169]; decide) (by rw [c169]; decide) (by rw [c169]; rfl) (by decide) ?_
    refine v_tight hb0 ?_
    exact L_changes_J352p x0 x1 z7.1 z8.2 ls (lv_sub hl [0, 1, 6] rfl) h
  rw [if_neg c169] at h
  by_cases c170 : z8.1 = 8
  · rw [if_pos c170] at h
    refine w_tabIn (tgt := 388) (off := 347) hx hb dL_changes_41 (by rw [c170]; decide) (by rw [c170]; decide) (by rw [c170]; rfl) (by decide) ?_
    refine w_aload_n hx hb dL_changes_388 rfl (lv_at hl 1 rfl) ?_
    obtain ⟨a76, ea76, h⟩ := v_bnd h
    refine v_gA (ci := 13) hx hb hts iwX12 hown hK 7 ea76 rfl (by decide) (Or.inr ⟨_, kn71 hSS _⟩) (fun _ h9 => h9) dL_changes_389 ?_
    refine w_iload hx hb dL_changes_392 (lv_at hl 6 rfl) ?_
    obtain ⟨a77, ea77, h⟩ := v_bnd h
    refine v_aald hx hb hK ea77 (by decide) dL_changes_394 ?_
    refine w_astoreq (lv' := [(7, va_rf a77), (0, .ref x0), (1, .ref x1), (2, .ref x2), (3, .int z2.1), (4, .ref a4), (5, .int z6.1), (6, .int z7.1)]) hx hb dL_changes_395 hl (by decide) rfl (fun ls hl => ?_)
    have hl : lv_has ls 10 [(0, .ref x0), (1, .ref x1), (2, .ref x2), (3, .int z2.1), (4, .ref a4), (5, .int z6.1), (6, .int z7.1), (7, va_rf a77)] := lv_sub hl [1, 2, 3, 4, 5, 6, 7, 0] rfl
    refine w_aloadq hx hb dL_changes_397 (lv_at hl 7 rfl) ?_
    refine w_ifnull (tgt := 434) hx hb dL_changes_399 (by decide) (fun c78 => ?_) (fun c78 => ?_)
    · rw [if_pos c78] at h
      refine w_iconst (v := 1) hx hb dL_changes_434 (by decide) ?_
      obtain ⟨g9, h⟩ := v_ifs h
      refine v_tight hb0 (vV.widen (n' := 128) (k' := 2600) (by omega) (by omega) ?_)
      obtain rfl := Option.some.inj h
      rw [hQ]
      exact v_zret (x := 1) hx hb hr hlk rfl dL_changes_435
    · rw [if_neg c78] at h
      obtain ⟨a79, ea79, hq⟩ := v_bnd h
      clear h
      subst ea79
      have h := hq
      clear hq
      refine w_aload hx hb dL_changes_402 (lv_at hl 7 rfl) ?_
      obtain ⟨v80, ev80, h⟩ := v_bnd h
      refine v_gI (ci := 12) hx hb hts iwX11 hown hK 6 ev80 rfl (by decide) (Or.inr ⟨_, kn86 hSS _⟩) (fun _ h9 => h9) dL_changes_404 ?_
      refine w_if_eq (tgt := 434) hx hb dL_changes_407 (by decide) (fun c81 => ?_) (fun c81 => ?_)
      · rw [if_pos c81] at h
        refine w_iconst (v := 1) hx hb dL_changes_434 (by decide) ?_
        obtain ⟨g9, h⟩ := v_ifs h
        refine v_tight hb0 (vV.widen (n' := 128) (k' := 2600) (by omega) (by omega) ?_)
        obtain rfl := Option.some.inj h
        rw [hQ]
        exact v_zret (x := 1) hx hb hr hlk rfl dL_changes_435
      · rw [if_neg c81] at h
        refine w_aload hx hb dL_changes_410 (lv_at hl 7 rfl) ?_
        obtain ⟨v82, ev82, h⟩ := v_bnd h
        refine v_gI (ci := 12) hx hb hts iwX11 hown hK 5 ev82 rfl (by decide) (Or.inr ⟨_, kn84 hSS _⟩) (fun _ h9 => h9) dL_changes_412 ?_
        refine w_if_lt (tgt := 434) hx hb dL_changes_415 (by decide) (fun c83 => ?_) (fun c83 => ?_)
        · rw [if_pos c83] at h
          refine w_iconst (v := 1) hx hb dL_changes_434 (by decide) ?_
          obtain ⟨g9, h⟩ := v_ifs h
          refine v_tight hb0 (vV.widen (n' := 128) (k' := 2600) (by omega) (by omega) ?_)
          obtain rfl := Option.some.inj h
          rw [hQ]
          exact v_zret (x := 1) hx hb hr hlk rfl dL_changes_435
        · rw [if_neg c83] at h
          refine w_aload hx hb dL_changes_418 (lv_at hl 7 rfl) ?_
          obtain ⟨a84, ea84, h⟩ := v_bnd h
          refine v_gA (ci := 12) hx hb hts iwX11 hown hK 0 ea84 rfl (by decide) (Or.inr ⟨_, kn76 hSS _⟩) (fun _ h9 => h9) dL_changes_420 ?_
          refine w_aload hx hb dL_changes_423 (lv_at hl 7 rfl) ?_
          obtain ⟨v85, ev85, h⟩ := v_bnd h
          refine v_gI (ci := 12) hx hb hts iwX11 hown hK 5 ev85 rfl (by decide) (Or.inr ⟨_, kn84 hSS _⟩) (fun _ h9 => h9) dL_changes_425 ?_
          obtain ⟨g7, h⟩ := v_ifs h
          refine v_tight hb0 ?_
          obtain ⟨g8, h⟩ := v_ifs h
          obtain ⟨z86, ez86, h⟩ := v_bnd h
          refine v_call1 (v := .int z86) (M1 := z8.2) (mc := 0) (ms := 0) (fun H locs hR hS => va_runV (As := [.int v85]) (rest := []) ⟨hx, hb, hml, hown, hts⟩ (mX10_has l hfl D a84 v85 z8.2 z86 ez86) (cwV 1 hts (gdV kw1204 kw691 kw692 kw36 kw693) rfl rfl rfl (by decide +kernel) ⟨Nat.le_of_ble_eq_true rfl, Nat.le_of_ble_eq_true rfl⟩) (v_preV (ci := 11) hSS hR hS g8 (by decide) rfl [.int v85]) rfl rfl hl.1 rfl (lv_room (Nat.le_of_ble_eq_true rfl)) dL_changes_428 ⟨by show _ + _ ≤ 128; omega, by show _ + _ ≤ 2600; omega⟩) ?_
          refine w_if_ne (tgt := 436) hx hb dL_changes_431 (by decide) (fun c87 => ?_) (fun c87 => ?_)
          · rw [if_pos c87] at h
            refine w_iconst (v := 1) hx hb dL_changes_434 (by decide) ?_
            obtain ⟨g9, h⟩ := v_ifs h
            refine v_tight hb0 (vV.widen (n' := 128) (k' := 2600) (by omega) (by omega) ?_)
            obtain rfl := Option.some.inj h
            rw [hQ]
            exact v_zret (x := 1) hx hb hr hlk rfl dL_changes_435
          · rw [if_neg c87] at h
            refine w_aload_n hx hb dL_changes_436 rfl (lv_at hl 1 rfl) ?_
            refine w_aload hx hb dL_changes_437 (lv_at hl 7 rfl) ?_
            obtain ⟨a88, ea88, h⟩ := v_bnd h
            refine v_gA (ci := 12) hx hb hts iwX11 hown hK 0 ea88 rfl (by decide) (Or.inr ⟨_, kn76 hSS _⟩) (fun _ h9 => h9) dL_changes_439 ?_
            refine w_aload hx hb dL_changes_442 (lv_at hl 7 rfl) ?_
            obtain ⟨v89, ev89, h⟩ := v_bnd h
            refine v_gI (ci := 12) hx hb hts iwX11 hown hK 5 ev89 rfl (by decide) (Or.inr ⟨_, kn84 hSS _⟩) (fun _ h9 => h9) dL_changes_444 ?_
            obtain ⟨g7, h⟩ := v_ifs h
            refine v_tight hb0 ?_
            obtain ⟨g8, h⟩ := v_ifs h
            obtain ⟨z90, ez90, h⟩ := v_bnd h
            refine v_call1 (v := .int z90.1) (M1 := z90.2) (mc := 1) (ms := 6) (fun H locs hR hS => va_runV (As := [.ref a88, .int v89]) (rest := []) ⟨hx, hb, hml, hown, hts⟩ (mX12_remove l hfl D x1 a88 v89 z8.2 z90 ez90) (cwV 2 hts (gdV kw706 kw707 kw708 kw35 kw709) rfl rfl rfl (by decide +kernel) ⟨Nat.le_of_ble_eq_true rfl, Nat.le_of_ble_eq_true rfl⟩) (v_preV (ci := 13) hSS hR hS g8 (by decide) rfl [.ref a88, .int v89]) rfl rfl hl.1 rfl (lv_room (Nat.le_of_ble_eq_true rfl)) dL_changes_447 ⟨by show _ + _ ≤ 128; omega, by show _ + _ ≤ 2600; omega⟩) ?_
            refine w_pop hx hb dL_changes_450 rfl ?_
            refine w_aload_n hx hb dL_changes_451 rfl (lv_at hl 0 rfl) ?_
            refine w_iload hx hb dL_changes_452 (lv_at hl 6 rfl) ?_
            obtain ⟨g7, h⟩ := v_ifs h
            refine v_tight hb0 ?_
            obtain ⟨g8, h⟩ := v_ifs h
            obtain ⟨z91, ez91, h⟩ := v_bnd h
            rcases hz91 : z91.1 with r92 | jz91
            · replace h := v_inl hz91 h
              refine v_call1 (v := .int r92) (M1 := z91.2) (mc := 50) (ms := 2001) (fun H locs hR hS => va_runV (As := [.int z7.1]) (rest := []) ⟨hx, hb, hml, hown, hts⟩ (v_noX (by rw [hz91]; rfl) (by rw [hz91]; rfl) (mX9_removeMet l hfl D x0 z7.1 z90.2 z91 ez91)) (cwV 1 hts (gdV kw1205 kw1206 kw1207 kw27 kw1208) rfl rfl rfl (by decide +kernel) ⟨Nat.le_of_ble_eq_true rfl, Nat.le_of_ble_eq_true rfl⟩) (v_preV (ci := 10) hSS hR hS g8 (by decide) rfl [.int z7.1]) rfl rfl hl.1 rfl (lv_room (Nat.le_of_ble_eq_true rfl)) dL_changes_454 ⟨by show _ + _ ≤ 128; omega, by show _ + _ ≤ 2600; omega⟩) ?_
              refine w_aload hx hb dL_changes_457 (lv_at hl 7 rfl) ?_
              obtain ⟨v93, ev93, h⟩ := v_bnd h
              refine v_gI (ci := 12) hx hb hts iwX11 hown hK 5 ev93 rfl (by decide) (Or.inr ⟨_, kn84 hSS _⟩) (fun _ h9 => h9) dL_changes_459 ?_
              refine w_icmp_ne (tgt := 469) hx hb dL_changes_462 (by decide) (fun c94 => ?_) (fun c94 => ?_)
              · rw [if_pos c94] at h
                refine w_iconst (v := 1) hx hb dL_changes_465 (by decide) ?_
                refine w_goto (tgt := 470) hx hb dL_changes_466 (by decide) ?_
                obtain ⟨g9, h⟩ := v_ifs h
                refine v_tight hb0 (vV.widen (n' := 128) (k' := 2600) (by omega) (by omega) ?_)
                obtain rfl := Option.some.inj h
                rw [hQ]
                exact v_zret (x := 1) hx hb hr hlk rfl dL_changes_470
              · rw [if_neg c94] at h
                refine w_iconst (v := 0) hx hb dL_changes_469 (by decide) ?_
                obtain ⟨g9, h⟩ := v_ifs h
                refine v_tight hb0 (vV.widen (n' := 128) (k' := 2600) (by omega) (by omega) ?_)
                obtain rfl := Option.some.inj h
                rw [hQ]
                exact v_zret (x := 0) hx hb hr hlk rfl dL_changes_470
            · exact nomatch (v_inr hz91 h)
  rw [if_neg c170] at h
  by_cases c171 : z8.1 = 9
  · rw [if_pos c171] at h
    refine w_tabIn (tgt := 471) (off := 430) hx hb dL_changes_41 (by rw [c171]; decide) (by rw [c171]; decide) (by rw [c171]; rfl) (by decide) ?_
    refine v_tight hb0 ?_
    exact L_changes_J471p x0 x1 z2.1 a4 z6.1 z8.2 ls (lv_sub hl [0, 1, 3, 4, 5] rfl) h
  rw [if_neg c171] at h
  by_cases c172 : z8.1 = 10
  · rw [if_pos c172] at h
    refine w_tabIn (tgt := 471) (off := 430) hx hb dL_changes_41 (by rw [c172]; decide) (by rw [c172]; decide) (by rw [c172]; rfl) (by decide) ?_
    refine v_tight hb0 ?_
    exact L_changes_J471p x0 x1 z2.1 a4 z6.1 z8.2 ls (lv_sub hl [0, 1, 3, 4, 5] rfl) h
  rw [if_neg c172] at h
  by_cases c173 : z8.1 = 11
  · rw [if_pos c173] at h
    refine w_tabIn (tgt := 495) (off := 454) hx hb dL_changes_41 (by rw [c173]; decide) (by rw [c173]; decide) (by rw [c173]; rfl) (by decide) ?_
    refine w_aload_n hx hb dL_changes_495 rfl (lv_at hl 2 rfl) ?_
    refine w_aload_n hx hb dL_changes_496 rfl (lv_at hl 1 rfl) ?_
    obtain ⟨v99, ev99, h⟩ := v_bnd h
    refine v_gI (ci := 13) hx hb hts iwX12 hown hK 0 ev99 rfl (by decide) (Or.inr ⟨_, kn64 hSS _⟩) (fun _ h9 => h9) dL_changes_497 ?_
    obtain ⟨g7, h⟩ := v_ifs h
    refine v_tight hb0 ?_
    obtain ⟨z100, ez100, h⟩ := v_bnd h
    refine v_call1 (v := .int z100.1) (M1 := z100.2) (mc := 0) (ms := 0) (fun H locs hR hS => va_runS (As := [.ref x2, .int v99]) (rest := []) ⟨hx, hb, hml, hown, hts⟩ (mL_draw l hfl D x2 v99 z8.2 z100 ez100) (va_cwS 2 hts (gdS kw406 kw407 kw26 kw408) rfl rfl rfl (by decide +kernel) ⟨Nat.le_of_ble_eq_true rfl, Nat.le_of_ble_eq_true rfl⟩) (v_preS hSS hR hS [.ref x2, .int v99]) rfl rfl hl.1 rfl (lv_room (Nat.le_of_ble_eq_true rfl)) dL_changes_500 ⟨by show _ + _ ≤ 128; omega, by show _ + _ ≤ 2600; omega⟩) ?_
    refine w_istore (lv' := [(7, .int z100.1), (0, .ref x0), (1, .ref x1), (2, .ref x2), (3, .int z2.1), (4, .ref a4), (5, .int z6.1), (6, .int z7.1)]) hx hb dL_changes_503 hl (by decide) rfl (fun ls hl => ?_)
    have hl : lv_has ls 10 [(0, .ref x0), (1, .ref x1), (2, .ref x2), (3, .int z2.1), (4, .ref a4), (5, .int z6.1), (6, .int z7.1), (7, .int z100.1)] := lv_sub hl [1, 2, 3, 4, 5, 6, 7, 0] rfl
    refine w_iconst (v := 0) hx hb dL_changes_505 (by decide) ?_
    refine w_istore (lv' := [(8, .int 0), (0, .ref x0), (1, .ref x1), (2, .ref x2), (3, .int z2.1), (4, .ref a4), (5, .int z6.1), (6, .int z7.1), (7, .int z100.1)]) hx hb dL_changes_506 hl (by decide) rfl (fun ls hl => ?_)
    have hl : lv_has ls 10 [(0, .ref x0), (1, .ref x1), (2, .ref x2), (3, .int z2.1), (4, .ref a4), (5, .int z6.1), (6, .int z7.1), (7, .int z100.1), (8, .int 0)] := lv_sub hl [1, 2, 3, 4, 5, 6, 7, 8, 0] rfl
    refine w_aload hx hb dL_changes_508 (lv_at hl 4 rfl) ?_
    obtain ⟨v101, ev101, h⟩ := v_bnd h
    refine v_gI (ci := 11) hx hb hts iwX10 hown hK 0 ev101 rfl (by decide) (Or.inr ⟨_, kn49 hSS _⟩) (fun _ h9 => h9) dL_changes_510 ?_
    refine w_iconst (v := 1) hx hb dL_changes_513 (by decide) ?_
    refine w_isub hx hb dL_changes_514 ?_
    refine w_istore (lv' := [(9, .int (v101 - 1)), (0, .ref x0), (1, .ref x1), (2, .ref x2), (3, .int z2.1), (4, .ref a4), (5, .int z6.1), (6, .int z7.1), (7, .int z100.1), (8, .int 0)]) hx hb dL_changes_515 hl (by decide) rfl (fun ls hl => ?_)
    have hl : lv_has ls 10 [(0, .ref x0), (1, .ref x1), (2, .ref x2), (3, .int z2.1), (4, .ref a4), (5, .int z6.1), (6, .int z7.1), (7, .int z100.1), (8, .int 0), (9, .int (v101 - 1))] := lv_sub hl [1, 2, 3, 4, 5, 6, 7, 8, 9, 0] rfl
    obtain ⟨z124, ez124, h⟩ := v_bnd h
    refine v_tight hb0 ?_
    refine L_changes_L517p x0 x1 z2.1 a4 z100.1 vF 0 (v101 - 1) z100.2 ls z124 (lv_sub hl [0, 1, 3, 4, 7, 8, 9] rfl) ez124 (fun ls hl => ?_)
    refine w_aload_n hx hb dL_changes_569 rfl (lv_at hl 0 rfl) ?_
    refine w_iload_n hx hb dL_changes_570 rfl (lv_at hl 1 rfl) ?_
    refine w_iload hx hb dL_changes_571 (lv_at hl 2 rfl) ?_
    obtain ⟨g7, h⟩ := v_ifs h
    refine v_tight hb0 ?_
    obtain ⟨g8, h⟩ := v_ifs h
    obtain ⟨z125, ez125, h⟩ := v_bnd h
    rcases hz125 : z125.1 with r126 | jz125
    · replace h := v_inl hz125 h
      refine v_call1 (v := .int r126) (M1 := z125.2) (mc := 50) (ms := 2001) (fun H locs hR hS => va_runV (As := [.int z2.1, .int z100.1]) (rest := []) ⟨hx, hb, hml, hown, hts⟩ (v_noX (by rw [hz125]; rfl) (by rw [hz125]; rfl) (mX9_keep l hfl D x0 z2.1 z100.1 z124.2 z125 ez125)) (cwV 2 hts (gdV kw1225 kw1226 kw1227 kw27 kw1228) rfl rfl rfl (by decide +kernel) ⟨Nat.le_of_ble_eq_true rfl, Nat.le_of_ble_eq_true rfl⟩) (v_preV (ci := 10) hSS hR hS g8 (by decide) rfl [.int z2.1, .int z100.1]) rfl rfl hl.1 rfl (lv_room (Nat.le_of_ble_eq_true rfl)) dL_changes_573 ⟨by show _ + _ ≤ 128; omega, by show _ + _ ≤ 2600; omega⟩) ?_
      refine w_iload hx hb dL_changes_576 (lv_at hl 3 rfl) ?_
      refine w_icmp_ne (tgt := 585) hx hb dL_changes_578 (by decide) (fun c127 => ?_) (fun c127 => ?_)
      · rw [if_pos c127] at h
        refine w_iconst (v := 1) hx hb dL_changes_581 (by decide) ?_
        refine w_goto (tgt := 586) hx hb dL_changes_582 (by decide) ?_
        obtain ⟨g9, h⟩ := v_ifs h
        refine v_tight hb0 (vV.widen (n' := 128) (k' := 2600) (by omega) (by omega) ?_)
        obtain rfl := Option.some.inj h
        rw [hQ]
        exact v_zret (x := 1) hx hb hr hlk rfl dL_changes_586
      · rw [if_neg c127] at h
        refine w_iconst (v := 0) hx hb dL_changes_585 (by decide) ?_
        obtain ⟨g9, h⟩ := v_ifs h
        refine v_tight hb0 (vV.widen (n' := 128) (k' := 2600) (by omega) (by omega) ?_)
        obtain rfl := Option.some.inj h
        rw [hQ]
        exact v_zret (x := 0) hx hb hr hlk rfl dL_changes_586
    · exact nomatch (v_inr hz125 h)
  rw [if_neg c173] at h
  by_cases c174 : z8.1 = 12
  · rw [if_pos c174] at h
    refine w_tabIn (tgt := 587) (off := 546) hx hb dL_changes_41 (by rw [c174]; decide) (by rw [c174]; decide) (by rw [c174]; rfl) (by decide) ?_
    refine w_aload_n hx hb dL_changes_587 rfl (lv_at hl 2 rfl) ?_
    refine w_aload_n hx hb dL_changes_588 rfl (lv_at hl 1 rfl) ?_
    obtain ⟨v128, ev128, h⟩ := v_bnd h
    refine v_gI (ci := 13) hx hb hts iwX12 hown hK 0 ev128 rfl (by decide) (Or.inr ⟨_, kn64 hSS _⟩) (fun _ h9 => h9) dL_changes_589 ?_
    obtain ⟨g7, h⟩ := v_ifs h
    refine v_tight hb0 ?_
    obtain ⟨z129, ez129, h⟩ := v_bnd h
    refine v_call1 (v := .int z129.1) (M1 := z129.2) (mc := 0) (ms := 0) (fun H locs hR hS => va_runS (As := [.ref x2, .int v128]) (rest := []) ⟨hx, hb, hml, hown, hts⟩ (mL_draw l hfl D x2 v128 z8.2 z129 ez129) (va_cwS 2 hts (gdS kw406 kw407 kw26 kw408) rfl rfl rfl (by decide +kernel) ⟨Nat.le_of_ble_eq_true rfl, Nat.le_of_ble_eq_true rfl⟩) (v_preS hSS hR hS [.ref x2, .int v128]) rfl rfl hl.1 rfl (lv_room (Nat.le_of_ble_eq_true rfl)) dL_changes_592 ⟨by show _ + _ ≤ 128; omega, by show _ + _ ≤ 2600; omega⟩) ?_
    refine w_istore (lv' := [(7, .int z129.1), (0, .ref x0), (1, .ref x1), (2, .ref x2), (3, .int z2.1), (4, .ref a4), (5, .int z6.1), (6, .int z7.1)]) hx hb dL_changes_595 hl (by decide) rfl (fun ls hl => ?_)
    have hl : lv_has ls 10 [(0, .ref x0), (1, .ref x1), (2, .ref x2), (3, .int z2.1), (4, .ref a4), (5, .int z6.1), (6, .int z7.1), (7, .int z129.1)] := lv_sub hl [1, 2, 3, 4, 5, 6, 7, 0] rfl
    refine w_aload hx hb dL_changes_597 (lv_at hl 4 rfl) ?_
    obtain ⟨v130, ev130, h⟩ := v_bnd h
    refine v_gI (ci := 11) hx hb hts iwX10 hown hK 0 ev130 rfl (by decide) (Or.inr ⟨_, kn49 hSS _⟩) (fun _ h9 => h9) dL_changes_599 ?_
    refine w_istore (lv' := [(8, .int v130), (0, .ref x0), (1, .ref x1), (2, .ref x2), (3, .int z2.1), (4, .ref a4), (5, .int z6.1), (6, .int z7.1), (7, .int z129.1)]) hx hb dL_changes_602 hl (by decide) rfl (fun ls hl => ?_)
    have hl : lv_has ls 10 [(0, .ref x0), (1, .ref x1), (2, .ref x2), (3, .int z2.1), (4, .ref a4), (5, .int z6.1), (6, .int z7.1), (7, .int z129.1), (8, .int v130)] := lv_sub hl [1, 2, 3, 4, 5, 6, 7, 8, 0] rfl
    refine w_iconst (v := 0) hx hb dL_changes_604 (by decide) ?_
    refine w_istore (lv' := [(9, .int 0), (0, .ref x0), (1, .ref x1), (2, .ref x2), (3, .int z2.1), (4, .ref a4), (5, .int z6.1), (6, .int z7.1), (7, .int z129.1), (8, .int v130)]) hx hb dL_changes_605 hl (by decide) rfl (fun ls hl => ?_)
    have hl : lv_has ls 10 [(0, .ref x0), (1, .ref x1), (2, .ref x2), (3, .int z2.1), (4, .ref a4), (5, .int z6.1), (6, .int z7.1), (7, .int z129.1), (8, .int v130), (9, .int 0)] := lv_sub hl [1, 2, 3, 4, 5, 6, 7, 8, 9, 0] rfl
    obtain ⟨z151, ez151, h⟩ := v_bnd h
    refine v_tight hb0 ?_
    refine L_changes_L607p x0 x1 z2.1 a4 z129.1 v130 vF 0 z129.2 ls z151 (lv_sub hl [0, 1, 3, 4, 7, 8, 9] rfl) ez151 (fun ls hl => ?_)
    refine v_tight hb0 ?_
    exact L_changes_J653p x0 z2.1 a4 z129.1 v130 z151.2 ls (lv_sub hl [0, 1, 2, 3, 4] rfl) h
  rw [if_neg c174] at h
  refine w_tabOut (tgt := 677) hx hb dL_changes_41 (by exact v_sw z8.1 (fun v h1 h2 => (fun e => e.elim (fun e q => c162 (Int32.toInt_inj.mp (q.trans (e.trans (by decide))))) (fun e => e.elim (fun e q => c163 (Int32.toInt_inj.mp (q.trans (e.trans (by decide))))) (fun e => e.elim (fun e q => c164 (Int32.toInt_inj.mp (q.trans (e.trans (by decide))))) (fun e => e.elim (fun e q => c165 (Int32.toInt_inj.mp (q.trans (e.trans (by decide))))) (fun e => e.elim (fun e q => c166 (Int32.toInt_inj.mp (q.trans (e.trans (by decide))))) (fun e => e.elim (fun e q => c167 (Int32.toInt_inj.mp (q.trans (e.trans (by decide))))) (fun e => e.elim (fun e q => c168 (Int32.toInt_inj.mp (q.trans (e.trans (by decide))))) (fun e => e.elim (fun e q => c169 (Int32.toInt_inj.mp (q.trans (e.trans (by decide))))) (fun e => e.elim (fun e q => c170 (Int32.toInt_inj.mp (q.trans (e.trans (by decide))))) (fun e => e.elim (fun e q => c171 (Int32.toInt_inj.mp (q.trans (e.trans (by decide))))) (fun e => e.elim (fun e q => c172 (Int32.toInt_inj.mp (q.trans (e.trans (by decide))))) (fun e => e.elim (fun e q => c173 (Int32.toInt_inj.mp (q.trans (e.trans (by decide))))) (fun e q => c174 (Int32.toInt_inj.mp (q.trans (e.trans (by decide))))))))))))))))) (show v = 0 ∨ v = 1 ∨ v = 2 ∨ v = 3 ∨ v = 4 ∨ v = 5 ∨ v = 6 ∨ v = 7 ∨ v = 8 ∨ v = 9 ∨ v = 10 ∨ v = 11 ∨ v = 12 by omega))) (by decide) ?_
  refine w_aload_n hx hb dL_changes_677 rfl (lv_at hl 1 rfl) ?_
  refine w_aload hx hb dL_changes_678 (lv_at hl 4 rfl) ?_
  refine w_iload hx hb dL_changes_680 (lv_at hl 5 rfl) ?_
  obtain ⟨g7, h⟩ := v_ifs h
  refine v_tight hb0 ?_
  obtain ⟨g8, h⟩ := v_ifs h
  obtain ⟨z156, ez156, h⟩ := v_bnd h
  refine v_call0 (M1 := z156.2) (mc := 0) (ms := 0) (fun H locs hR hS => va_runV (As := [.ref a4, .int z6.1]) (rest := []) ⟨hx, hb, hml, hown, hts⟩ (mX12_add l hfl D x1 a4 z6.1 z8.2 z156 ez156) (cwV 2 hts (gdV kw686 kw687 kw688 kw35 kw689) rfl rfl rfl (by decide +kernel) ⟨Nat.le_of_ble_eq_true rfl, Nat.le_of_ble_eq_true rfl⟩) (v_preV (ci := 13) hSS hR hS g8 (by decide) rfl [.ref a4, .int z6.1]) rfl rfl hl.1 rfl (lv_room (Nat.le_of_ble_eq_true rfl)) dL_changes_682 ⟨by show _ + _ ≤ 128; omega, by show _ + _ ≤ 2600; omega⟩) ?_
  refine w_aload_n hx hb dL_changes_685 rfl (lv_at hl 0 rfl) ?_
  refine w_iload_n hx hb dL_changes_686 rfl (lv_at hl 3 rfl) ?_
  refine w_iload hx hb dL_changes_687 (lv_at hl 5 rfl) ?_
  obtain ⟨g7, h⟩ := v_ifs h
  refine v_tight hb0 ?_
  obtain ⟨g8, h⟩ := v_ifs h
  obtain ⟨z157, ez157, h⟩ := v_bnd h
  rcases hz157 : z157.1 with r158 | jz157
  · replace h := v_inl hz157 h
    refine v_call1 (v := .int r158) (M1 := z157.2) (mc := 50) (ms := 2001) (fun H locs hR hS => va_runV (As := [.int z2.1, .int z6.1]) (rest := []) ⟨hx, hb, hml, hown, hts⟩ (v_noX (by rw [hz157]; rfl) (by rw [hz157]; rfl) (mX9_add l hfl D x0 z2.1 z6.1 z156.2 z157 ez157)) (cwV 2 hts (gdV kw1243 kw1244 kw1245 kw27 kw1246) rfl rfl rfl (by decide +kernel) ⟨Nat.le_of_ble_eq_true rfl, Nat.le_of_ble_eq_true rfl⟩) (v_preV (ci := 10) hSS hR hS g8 (by decide) rfl [.int z2.1, .int z6.1]) rfl rfl hl.1 rfl (lv_room (Nat.le_of_ble_eq_true rfl)) dL_changes_689 ⟨by show _ + _ ≤ 128; omega, by show _ + _ ≤ 2600; omega⟩) ?_
    refine w_aload hx hb dL_changes_692 (lv_at hl 4 rfl) ?_
    obtain ⟨a159, ea159, h⟩ := v_bnd h
    refine v_gA (ci := 11) hx hb hts iwX10 hown hK 4 ea159 rfl (by decide) (Or.inr ⟨_, kn56 hSS _⟩) (fun _ h9 => h9) dL_changes_694 ?_
    refine w_iload hx hb dL_changes_697 (lv_at hl 5 rfl) ?_
    obtain ⟨v160, ev160, h⟩ := v_bnd h
    refine v_iald hx hb hK ev160 dL_changes_699 ?_
    refine w_icmp_ne (tgt := 707) hx hb dL_changes_700 (by decide) (fun c161 => ?_) (fun c161 => ?_)
    · rw [if_pos c161] at h
      refine w_iconst (v := 1) hx hb dL_changes_703 (by decide) ?_
      refine w_goto (tgt := 708) hx hb dL_changes_704 (by decide) ?_
      obtain ⟨g9, h⟩ := v_ifs h
      refine v_tight hb0 (vV.widen (n' := 128) (k' := 2600) (by omega) (by omega) ?_)
      obtain rfl := Option.some.inj h
      rw [hQ]
      exact v_zret (x := 1) hx hb hr hlk rfl dL_changes_708
    · rw [if_neg c161] at h
      refine w_iconst (v := 0) hx hb dL_changes_707 (by decide) ?_
      obtain ⟨g9, h⟩ := v_ifs h
      refine v_tight hb0 (vV.widen (n' := 128) (k' := 2600) (by omega) (by omega) ?_)
      obtain rfl := Option.some.inj h
      rw [hQ]
      exact v_zret (x := 0) hx hb hr hlk rfl dL_changes_708
  · exact nomatch (v_inr hz157 h)

def tL_state_J74_23 (rec : Int32 → Int32 → vMe → Option (Int32 × vMe)) (n0 s0 : Nat) (x0 : Nat) (x1 : Nat) (x2 : Int32) (x3 : Nat) (x5 : Int32) (y0 : Int32) (y1 : Int32) (Mj : vMe) : Option (Int32 × vMe) :=
  rec (y0 + y1) (x5 + 1) Mj
def tL_state_J73_23 (rec : Int32 → Int32 → vMe → Option (Int32 × vMe)) (n0 s0 : Nat) (x0 : Nat) (x1 : Nat) (x2 : Int32) (x3 : Nat) (x5 : Int32) (y0 : Int32) (Mj : vMe) : Option (Int32 × vMe) :=
  tL_state_J74_23 (rec) n0 s0 x0 x1 x2 x3 x5 y0 0 Mj
def tL_state_L23 (n0 s0 : Nat) (x0 : Nat) (x1 : Nat) (x2 : Int32) (x3 : Nat) : Nat → Int32 → Int32 → vMe → Option (Int32 × vMe)
  | 0, _, _, _ => none
  | f + 1, x4, x5, Mi =>
  if (6 : Int32) ≤ x5 then
  (some (x4, Mi))
else
  ((gA Mi x1 14 7).bind fun a175 =>
  (aR Mi a175 110 x5).bind fun a176 =>
  if a176 = none then
  (tL_state_J73_23 (tL_state_L23 n0 s0 x0 x1 x2 x3 f) n0 s0 x0 x1 x2 x3 x5 x4 Mi)
else
  ((gA Mi x1 14 7).bind fun a179 =>
  (aA Mi a179 110 x5).bind fun a180 =>
  (gA Mi a180 13 0).bind fun a181 =>
  if a181 = x3 then
  ((gA Mi x1 14 7).bind fun a183 =>
  (aA Mi a183 110 x5).bind fun a184 =>
  (gI Mi a184 13 6).bind fun v185 =>
  if v185 = 0 then
  (tL_state_J73_23 (tL_state_L23 n0 s0 x0 x1 x2 x3 f) n0 s0 x0 x1 x2 x3 x5 x4 Mi)
else
  (tL_state_J74_23 (tL_state_L23 n0 s0 x0 x1 x2 x3 f) n0 s0 x0 x1 x2 x3 x5 x4 1 Mi))
else
  (tL_state_J73_23 (tL_state_L23 n0 s0 x0 x1 x2 x3 f) n0 s0 x0 x1 x2 x3 x5 x4 Mi)))
def tL_state_L136 (n0 s0 : Nat) (x0 : Nat) (x1 : Nat) (x2 : Int32) (x3 : Nat) (x5 : Int32) (x6 : Nat) : Nat → Int32 → vMe → Option ((Int32 ⊕ Unit) × vMe)
  | 0, _, _ => none
  | f + 1, x7, Mi =>
  if (5 : Int32) ≤ x7 then
  (some (Sum.inr (()), Mi))
else
  (if Mi.2.1 + 1 ≤ n0 + 16 ∧ Mi.2.2.1 + 6 ≤ s0 + 100 then
  (if (Mi.1 x0).1 = 11 then
  ((tX9_set x0 x2 x7 Mi).bind fun z206 =>
  Sum.elim (fun r207 =>
  (aI z206.2 x6 101 x7).bind fun v208 =>
  if r207 = v208 then
  (tL_state_L136 n0 s0 x0 x1 x2 x3 x5 x6 f (x7 + 1) z206.2)
else
  (if z206.2.2.1 ≤ n0 + 16 ∧ z206.2.2.2.1 ≤ s0 + 100 then some (Sum.inl 0, z206.2) else none)) (fun _ => none) z206.1)
else none)
else none)
def tL_state_J270_168 (rec : Int32 → vMe → Option ((Int32 ⊕ Unit) × vMe)) (n0 s0 : Nat) (x0 : Nat) (x1 : Nat) (x2 : Int32) (x3 : Nat) (x5 : Int32) (x7 : Int32) (y0 : Int32) (y1 : Int32) (Mj : vMe) : Option ((Int32 ⊕ Unit) × vMe) :=
  if y0 = y1 then
  (rec (x7 + 1) Mj)
else
  (if Mj.2.1 ≤ n0 + 16 ∧ Mj.2.2.1 ≤ s0 + 100 then some (Sum.inl 0, Mj) else none)
def tL_state_J240_168 (rec : Int32 → vMe → Option ((Int32 ⊕ Unit) × vMe)) (n0 s0 : Nat) (x0 : Nat) (x1 : Nat) (x2 : Int32) (x3 : Nat) (x5 : Int32) (x7 : Int32) (y0 : Int32) (y1 : Int32) (Mj : vMe) : Option ((Int32 ⊕ Unit) × vMe) :=
  if y0 = y1 then
  (if Mj.2.1 + 1 ≤ n0 + 16 ∧ Mj.2.2.1 + 6 ≤ s0 + 100 then
  (if (Mj.1 x0).1 = 11 then
  ((tX9_stampOf x0 x2 x7 Mj).bind fun z255 =>
  Sum.elim (fun r256 =>
  if z255.2.2.1 + 0 ≤ n0 + 16 ∧ z255.2.2.2.1 + 0 ≤ s0 + 100 then
  (if (z255.2.1 x3).1 = 12 then
  ((tX10_has x3 x7 z255.2).bind fun z257 =>
  if z257 = 0 then
  (tL_state_J270_168 (rec) n0 s0 x0 x1 x2 x3 x5 x7 r256 ((-1)) z255.2)
else
  ((gA z255.2 x3 12 5).bind fun a260 =>
  (aI z255.2 a260 101 x7).bind fun v261 =>
  tL_state_J270_168 (rec) n0 s0 x0 x1 x2 x3 x5 x7 r256 v261 z255.2))
else none)
else none) (fun _ => none) z255.1)
else none)
else none)
else
  (if Mj.2.1 ≤ n0 + 16 ∧ Mj.2.2.1 ≤ s0 + 100 then some (Sum.inl 0, Mj) else none)
def tL_state_L168 (n0 s0 : Nat) (x0 : Nat) (x1 : Nat) (x2 : Int32) (x3 : Nat) (x5 : Int32) : Nat → Int32 → vMe → Option ((Int32 ⊕ Unit) × vMe)
  | 0, _, _ => none
  | f + 1, x7, Mi =>
  (gI Mi x1 14 1).bind fun v238 =>
  if v238 ≤ x7 then
  (some (Sum.inr (()), Mi))
else
  (if Mi.2.1 + 1 ≤ n0 + 16 ∧ Mi.2.2.1 + 6 ≤ s0 + 100 then
  (if (Mi.1 x0).1 = 11 then
  ((tX9_cell x0 x2 x7 0 Mi).bind fun z240 =>
  Sum.elim (fun r241 =>
  (gA z240.2 x3 12 3).bind fun a242 =>
  (aI z240.2 a242 101 x7).bind fun v243 =>
  if r241 = v243 then
  (if z240.2.2.1 + 1 ≤ n0 + 16 ∧ z240.2.2.2.1 + 6 ≤ s0 + 100 then
  (if (z240.2.1 x0).1 = 11 then
  ((tX9_cell x0 x2 x7 1 z240.2).bind fun z245 =>
  Sum.elim (fun r246 =>
  (gA z245.2 x3 12 4).bind fun a247 =>
  (aI z245.2 a247 101 x7).bind fun v248 =>
  if r246 = v248 then
  (if z245.2.2.1 + 1 ≤ n0 + 16 ∧ z245.2.2.2.1 + 6 ≤ s0 + 100 then
  (if (z245.2.1 x0).1 = 11 then
  ((tX9_place x0 x2 x7 z245.2).bind fun z250 =>
  Sum.elim (fun r251 =>
  if z250.2.2.1 + 0 ≤ n0 + 16 ∧ z250.2.2.2.1 + 0 ≤ s0 + 100 then
  (if (z250.2.1 x3).1 = 12 then
  ((tX10_has x3 x7 z250.2).bind fun z252 =>
  if z252 = 0 then
  (tL_state_J240_168 (tL_state_L168 n0 s0 x0 x1 x2 x3 x5 f) n0 s0 x0 x1 x2 x3 x5 x7 r251 ((-1)) z250.2)
else
  ((gA z250.2 x3 12 4).bind fun a262 =>
  (aI z250.2 a262 101 x7).bind fun v263 =>
  tL_state_J240_168 (tL_state_L168 n0 s0 x0 x1 x2 x3 x5 f) n0 s0 x0 x1 x2 x3 x5 x7 r251 v263 z250.2))
else none)
else none) (fun _ => none) z250.1)
else none)
else none)
else
  (if z245.2.2.1 ≤ n0 + 16 ∧ z245.2.2.2.1 ≤ s0 + 100 then some (Sum.inl 0, z245.2) else none)) (fun _ => none) z245.1)
else none)
else none)
else
  (if z240.2.2.1 ≤ n0 + 16 ∧ z240.2.2.2.1 ≤ s0 + 100 then some (Sum.inl 0, z240.2) else none)) (fun _ => none) z240.1)
else none)
else none)
def tL_state_J395_284 (rec : Int32 → vMe → Option ((Int32 ⊕ Unit) × vMe)) (n0 s0 : Nat) (x0 : Nat) (x1 : Nat) (x2 : Int32) (x3 : Nat) (x5 : Int32) (x7 : Int32) (y0 : Int32) (y1 : Int32) (Mj : vMe) : Option ((Int32 ⊕ Unit) × vMe) :=
  if y0 = y1 then
  (rec (x7 + 1) Mj)
else
  (if Mj.2.1 ≤ n0 + 16 ∧ Mj.2.2.1 ≤ s0 + 100 then some (Sum.inl 0, Mj) else none)
def tL_state_J368_284 (rec : Int32 → vMe → Option ((Int32 ⊕ Unit) × vMe)) (n0 s0 : Nat) (x0 : Nat) (x1 : Nat) (x2 : Int32) (x3 : Nat) (x5 : Int32) (x7 : Int32) (x8 : Int32) (x9 : Int32) (y0 : Int32) (y1 : Int32) (Mj : vMe) : Option ((Int32 ⊕ Unit) × vMe) :=
  if y0 = y1 then
  (if Mj.2.1 + 1 ≤ n0 + 16 ∧ Mj.2.2.1 + 6 ≤ s0 + 100 then
  (if (Mj.1 x0).1 = 11 then
  ((tX9_event x0 x2 x7 2 Mj).bind fun z298 =>
  Sum.elim (fun r299 =>
  if x9 = 0 then
  (tL_state_J395_284 (rec) n0 s0 x0 x1 x2 x3 x5 x7 r299 ((-1)) z298.2)
else
  ((gA z298.2 x3 12 8).bind fun a302 =>
  (aI z298.2 a302 101 x8).bind fun v303 =>
  tL_state_J395_284 (rec) n0 s0 x0 x1 x2 x3 x5 x7 r299 v303 z298.2)) (fun _ => none) z298.1)
else none)
else none)
else
  (if Mj.2.1 ≤ n0 + 16 ∧ Mj.2.2.1 ≤ s0 + 100 then some (Sum.inl 0, Mj) else none)
def tL_state_J341_284 (rec : Int32 → vMe → Option ((Int32 ⊕ Unit) × vMe)) (n0 s0 : Nat) (x0 : Nat) (x1 : Nat) (x2 : Int32) (x3 : Nat) (x5 : Int32) (x7 : Int32) (x8 : Int32) (x9 : Int32) (y0 : Int32) (y1 : Int32) (Mj : vMe) : Option ((Int32 ⊕ Unit) × vMe) :=
  if y0 = y1 then
  (if Mj.2.1 + 1 ≤ n0 + 16 ∧ Mj.2.2.1 + 6 ≤ s0 + 100 then
  (if (Mj.1 x0).1 = 11 then
  ((tX9_event x0 x2 x7 1 Mj).bind fun z294 =>
  Sum.elim (fun r295 =>
  if x9 = 0 then
  (tL_state_J368_284 (rec) n0 s0 x0 x1 x2 x3 x5 x7 x8 x9 r295 ((-1)) z294.2)
else
  ((gA z294.2 x3 12 7).bind fun a304 =>
  (aI z294.2 a304 101 x8).bind fun v305 =>
  tL_state_J368_284 (rec) n0 s0 x0 x1 x2 x3 x5 x7 x8 x9 r295 v305 z294.2)) (fun _ => none) z294.1)
else none)
else none)
else
  (if Mj.2.1 ≤ n0 + 16 ∧ Mj.2.2.1 ≤ s0 + 100 then some (Sum.inl 0, Mj) else none)
def tL_state_J315_284 (rec : Int32 → vMe → Option ((Int32 ⊕ Unit) × vMe)) (n0 s0 : Nat) (x0 : Nat) (x1 : Nat) (x2 : Int32) (x3 : Nat) (x5 : Int32) (x7 : Int32) (x8 : Int32) (y0 : Int32) (Mj : vMe) : Option ((Int32 ⊕ Unit) × vMe) :=
  if Mj.2.1 + 1 ≤ n0 + 16 ∧ Mj.2.2.1 + 6 ≤ s0 + 100 then
  (if (Mj.1 x0).1 = 11 then
  ((tX9_event x0 x2 x7 0 Mj).bind fun z290 =>
  Sum.elim (fun r291 =>
  if y0 = 0 then
  (tL_state_J341_284 (rec) n0 s0 x0 x1 x2 x3 x5 x7 x8 y0 r291 ((-1)) z290.2)
else
  ((gA z290.2 x3 12 6).bind fun a306 =>
  (aI z290.2 a306 101 x8).bind fun v307 =>
  tL_state_J341_284 (rec) n0 s0 x0 x1 x2 x3 x5 x7 x8 y0 r291 v307 z290.2)) (fun _ => none) z290.1)
else none)
else none
def tL_state_L284 (n0 s0 : Nat) (x0 : Nat) (x1 : Nat) (x2 : Int32) (x3 : Nat) (x5 : Int32) : Nat → Int32 → vMe → Option ((Int32 ⊕ Unit) × vMe)
  | 0, _, _ => none
  | f + 1, x7, Mi =>
  if x5 < x7 then
  (some (Sum.inr (()), Mi))
else
  ((gI Mi x3 12 2).bind fun v288 =>
  if x5 ≤ x7 then
  (tL_state_J315_284 (tL_state_L284 n0 s0 x0 x1 x2 x3 x5 f) n0 s0 x0 x1 x2 x3 x5 x7 ((v288 - x5) + x7) 0 Mi)
else
  (tL_state_J315_284 (tL_state_L284 n0 s0 x0 x1 x2 x3 x5 f) n0 s0 x0 x1 x2 x3 x5 x7 ((v288 - x5) + x7) 1 Mi))
def tL_state_L2 (n0 s0 : Nat) (x0 : Nat) (x1 : Nat) : Nat → Int32 → vMe → Option ((Int32 ⊕ Unit) × vMe)
  | 0, _, _ => none
  | f + 1, x2, Mi =>
  (gI Mi x1 14 0).bind fun v157 =>
  if v157 ≤ x2 then
  (some (Sum.inr (()), Mi))
else
  ((gA Mi x1 14 6).bind fun a159 =>
  (aA Mi a159 109 x2).bind fun a160 =>
  (tL_state_L23 n0 s0 x0 x1 x2 a160 vF 0 0 Mi).bind fun z187 =>
  (gI z187.2 x1 14 2).bind fun v188 =>
  if z187.2.2.1 + 0 ≤ n0 + 16 ∧ z187.2.2.2.1 + 0 ≤ s0 + 100 then
  (if (z187.2.1 a160).1 = 12 then
  ((tX10_kept a160 v188 z187.2).bind fun z189 =>
  (nwO z187.2 101 5 5 (fun _ => .int 0) n0 s0 16 100).bind fun M190 =>
  (gI M190 a160 12 0).bind fun v191 =>
  (sA M190 z187.2.2.1 101 0 (.int v191)).bind fun M192 =>
  (gI M192 a160 12 1).bind fun v193 =>
  (sA M192 z187.2.2.1 101 1 (.int v193)).bind fun M194 =>
  (gI M194 x1 14 2).bind fun v195 =>
  if M194.2.1 + 0 ≤ n0 + 16 ∧ M194.2.2.1 + 0 ≤ s0 + 100 then
  (if (M194.1 a160).1 = 12 then
  ((tX10_first a160 v195 M194).bind fun z196 =>
  (sA M194 z187.2.2.1 101 2 (.int z196)).bind fun M197 =>
  (sA M197 z187.2.2.1 101 3 (.int z189)).bind fun M198 =>
  (sA M198 z187.2.2.1 101 4 (.int z187.1)).bind fun M199 =>
  (tL_state_L136 n0 s0 x0 x1 x2 a160 z189 z187.2.2.1 vF 0 M199).bind fun z210 =>
  Sum.elim (fun r312 => some (Sum.inl r312, z210.2)) (fun w211 =>
  (tL_state_L168 n0 s0 x0 x1 x2 a160 z189 vF 0 z210.2).bind fun z264 =>
  Sum.elim (fun r311 => some (Sum.inl r311, z264.2)) (fun w265 =>
  (tL_state_L284 n0 s0 x0 x1 x2 a160 z189 vF 0 z264.2).bind fun z308 =>
  Sum.elim (fun r310 => some (Sum.inl r310, z308.2)) (fun w309 =>
  tL_state_L2 n0 s0 x0 x1 f (x2 + 1) z308.2) z308.1) z264.1) z210.1)
else none)
else none)
else none)
else none)
def tL_state_J612_414 (rec : Int32 → vMe → Option ((Int32 ⊕ Unit) × vMe)) (n0 s0 : Nat) (x0 : Nat) (x1 : Nat) (x2 : Int32) (Mj : vMe) : Option ((Int32 ⊕ Unit) × vMe) :=
  rec (x2 + 1) Mj
def tL_state_L509 (n0 s0 : Nat) (x0 : Nat) (x1 : Nat) (x2 : Int32) (x3 : Nat) (x4 : Nat) : Nat → Int32 → vMe → Option ((Int32 ⊕ Unit) × vMe)
  | 0, _, _ => none
  | f + 1, x5, Mi =>
  if (7 : Int32) ≤ x5 then
  (some (Sum.inr (()), Mi))
else
  (if Mi.2.1 + 1 ≤ n0 + 16 ∧ Mi.2.2.1 + 6 ≤ s0 + 100 then
  (if (Mi.1 x0).1 = 11 then
  ((tX9_cursor x0 x2 x5 Mi).bind fun z403 =>
  Sum.elim (fun r404 =>
  (aI z403.2 x4 101 x5).bind fun v405 =>
  if r404 = v405 then
  (tL_state_L509 n0 s0 x0 x1 x2 x3 x4 f (x5 + 1) z403.2)
else
  (if z403.2.2.1 ≤ n0 + 16 ∧ z403.2.2.2.1 ≤ s0 + 100 then some (Sum.inl 0, z403.2) else none)) (fun _ => none) z403.1)
else none)
else none)
def tL_state_J591_548 (rec : Int32 → Int32 → vMe → Option (Int32 × vMe)) (n0 s0 : Nat) (x0 : Nat) (x1 : Nat) (x2 : Int32) (x3 : Nat) (x6 : Int32) (y0 : Int32) (y1 : Int32) (Mj : vMe) : Option (Int32 × vMe) :=
  rec (y0 + y1) (x6 + 1) Mj
def tL_state_L548 (n0 s0 : Nat) (x0 : Nat) (x1 : Nat) (x2 : Int32) (x3 : Nat) : Nat → Int32 → Int32 → vMe → Option (Int32 × vMe)
  | 0, _, _, _ => none
  | f + 1, x5, x6, Mi =>
  (gI Mi x3 13 6).bind fun v420 =>
  if v420 = 0 then
  (some (x5, Mi))
else
  ((gA Mi x3 13 0).bind fun a422 =>
  (gI Mi a422 12 0).bind fun v423 =>
  if v423 ≤ x6 then
  (some (x5, Mi))
else
  ((gA Mi x3 13 0).bind fun a425 =>
  (gA Mi a425 12 3).bind fun a426 =>
  (aI Mi a426 101 x6).bind fun v427 =>
  if Mi.2.1 + 0 ≤ n0 + 16 ∧ Mi.2.2.1 + 0 ≤ s0 + 100 then
  (if (Mi.1 x3).1 = 13 then
  ((tX11_meets x3 v427 Mi).bind fun z428 =>
  if z428 = 0 then
  (tL_state_J591_548 (tL_state_L548 n0 s0 x0 x1 x2 x3 f) n0 s0 x0 x1 x2 x3 x6 x5 0 Mi)
else
  (tL_state_J591_548 (tL_state_L548 n0 s0 x0 x1 x2 x3 f) n0 s0 x0 x1 x2 x3 x6 x5 1 Mi))
else none)
else none))
def tL_state_J600_414 (rec : Int32 → vMe → Option ((Int32 ⊕ Unit) × vMe)) (n0 s0 : Nat) (x0 : Nat) (x1 : Nat) (x2 : Int32) (x5 : Int32) (Mj : vMe) : Option ((Int32 ⊕ Unit) × vMe) :=
  if Mj.2.1 + 1 ≤ n0 + 16 ∧ Mj.2.2.1 + 6 ≤ s0 + 100 then
  (if (Mj.1 x0).1 = 11 then
  ((tX9_ahead x0 x2 Mj).bind fun z431 =>
  Sum.elim (fun r432 =>
  if r432 = x5 then
  (tL_state_J612_414 (rec) n0 s0 x0 x1 x2 z431.2)
else
  (if z431.2.2.1 ≤ n0 + 16 ∧ z431.2.2.2.1 ≤ s0 + 100 then some (Sum.inl 0, z431.2) else none)) (fun _ => none) z431.1)
else none)
else none
def tL_state_J481_414 (rec : Int32 → vMe → Option ((Int32 ⊕ Unit) × vMe)) (n0 s0 : Nat) (x0 : Nat) (x1 : Nat) (x2 : Int32) (x3 : Nat) (y0 : Nat) (y1 : Nat) (y2 : Int32) (y3 : Int32) (Mj : vMe) : Option ((Int32 ⊕ Unit) × vMe) :=
  (sA Mj y1 101 y2 (.int y3)).bind fun M390 =>
  (gI M390 x3 13 3).bind fun v391 =>
  (sA M390 y0 101 4 (.int v391)).bind fun M392 =>
  (gI M392 x3 13 4).bind fun v393 =>
  (sA M392 y0 101 5 (.int v393)).bind fun M394 =>
  (gI M394 x3 13 5).bind fun v395 =>
  (sA M394 y0 101 6 (.int v395)).bind fun M396 =>
  (tL_state_L509 n0 s0 x0 x1 x2 x3 y0 vF 0 M396).bind fun z407 =>
  Sum.elim (fun r434 => some (Sum.inl r434, z407.2)) (fun w408 =>
  (gI z407.2 x3 13 2).bind fun v409 =>
  (tL_state_L548 n0 s0 x0 x1 x2 x3 vF 0 v409 z407.2).bind fun z430 =>
  tL_state_J600_414 (rec) n0 s0 x0 x1 x2 z430.1 z430.2) z407.1
def tL_state_J466_414 (rec : Int32 → vMe → Option ((Int32 ⊕ Unit) × vMe)) (n0 s0 : Nat) (x0 : Nat) (x1 : Nat) (x2 : Int32) (x3 : Nat) (y0 : Nat) (y1 : Nat) (y2 : Int32) (y3 : Int32) (Mj : vMe) : Option ((Int32 ⊕ Unit) × vMe) :=
  (sA Mj y1 101 y2 (.int y3)).bind fun M387 =>
  (gI M387 x3 13 7).bind fun v388 =>
  if v388 = 0 then
  (tL_state_J481_414 (rec) n0 s0 x0 x1 x2 x3 y0 y0 3 0 M387)
else
  (tL_state_J481_414 (rec) n0 s0 x0 x1 x2 x3 y0 y0 3 1 M387)
def tL_state_L414 (n0 s0 : Nat) (x0 : Nat) (x1 : Nat) : Nat → Int32 → vMe → Option ((Int32 ⊕ Unit) × vMe)
  | 0, _, _ => none
  | f + 1, x2, Mi =>
  if (6 : Int32) ≤ x2 then
  (some (Sum.inr (()), Mi))
else
  ((gA Mi x1 14 7).bind fun a376 =>
  (aR Mi a376 110 x2).bind fun a377 =>
  if a377 = none then
  (tL_state_J612_414 (tL_state_L414 n0 s0 x0 x1 f) n0 s0 x0 x1 x2 Mi)
else
  (a377.bind fun a379 =>
  (nwO Mi 101 7 7 (fun _ => .int 0) n0 s0 16 100).bind fun M380 =>
  (gI M380 a379 13 1).bind fun v381 =>
  (sA M380 Mi.2.1 101 0 (.int v381)).bind fun M382 =>
  (gI M382 a379 13 2).bind fun v383 =>
  (sA M382 Mi.2.1 101 1 (.int v383)).bind fun M384 =>
  (gI M384 a379 13 6).bind fun v385 =>
  if v385 = 0 then
  (tL_state_J466_414 (tL_state_L414 n0 s0 x0 x1 f) n0 s0 x0 x1 x2 a379 Mi.2.1 Mi.2.1 2 0 M384)
else
  (tL_state_J466_414 (tL_state_L414 n0 s0 x0 x1 f) n0 s0 x0 x1 x2 a379 Mi.2.1 Mi.2.1 2 1 M384)))
def tL_state_L675 (n0 s0 : Nat) (x0 : Nat) (x1 : Nat) (x2 : Nat) : Nat → Int32 → vMe → Option ((Int32 ⊕ Unit) × vMe)
  | 0, _, _ => none
  | f + 1, x3, Mi =>
  if (7 : Int32) ≤ x3 then
  (some (Sum.inr (()), Mi))
else
  (if Mi.2.1 + 1 ≤ n0 + 16 ∧ Mi.2.2.1 + 6 ≤ s0 + 100 then
  (if (Mi.1 x0).1 = 11 then
  ((tX9_size x0 x3 Mi).bind fun z458 =>
  Sum.elim (fun r459 =>
  (aI z458.2 x2 101 x3).bind fun v460 =>
  if r459 = v460 then
  (tL_state_L675 n0 s0 x0 x1 x2 f (x3 + 1) z458.2)
else
  (if z458.2.2.1 ≤ n0 + 16 ∧ z458.2.2.2.1 ≤ s0 + 100 then some (Sum.inl 0, z458.2) else none)) (fun _ => none) z458.1)
else none)
else none)
def tL_state_J731_702 (rec : Int32 → vMe → Option ((Int32 ⊕ Unit) × vMe)) (n0 s0 : Nat) (x0 : Nat) (x1 : Nat) (x3 : Int32) (y0 : Int32) (y1 : Int32) (Mj : vMe) : Option ((Int32 ⊕ Unit) × vMe) :=
  if y0 = y1 then
  (rec (x3 + 1) Mj)
else
  (if Mj.2.1 ≤ n0 + 16 ∧ Mj.2.2.1 ≤ s0 + 100 then some (Sum.inl 0, Mj) else none)
def tL_state_L702 (n0 s0 : Nat) (x0 : Nat) (x1 : Nat) : Nat → Int32 → vMe → Option ((Int32 ⊕ Unit) × vMe)
  | 0, _, _ => none
  | f + 1, x3, Mi =>
  if (9 : Int32) ≤ x3 then
  (some (Sum.inr (()), Mi))
else
  (if Mi.2.1 + 0 ≤ n0 + 16 ∧ Mi.2.2.1 + 0 ≤ s0 + 100 then
  (if (Mi.1 x0).1 = 11 then
  ((tX9_marked x0 x3 Mi).bind fun z472 =>
  (gI Mi x1 14 5).bind fun v473 =>
  if v473 ≤ x3 then
  (tL_state_J731_702 (tL_state_L702 n0 s0 x0 x1 f) n0 s0 x0 x1 x3 z472 ((-1)) Mi)
else
  ((gA Mi x1 14 8).bind fun a476 =>
  (aI Mi a476 101 x3).bind fun v477 =>
  tL_state_J731_702 (tL_state_L702 n0 s0 x0 x1 f) n0 s0 x0 x1 x3 z472 v477 Mi))
else none)
else none)
def tL_state (x0 : Nat) (x1 : Nat) (M : vMe) : Option (Int32 × vMe) :=
  (tL_state_L2 M.2.1 M.2.2.1 x0 x1 vF 0 M).bind fun z313 =>
  Sum.elim (fun r483 => some (r483, z313.2)) (fun w314 =>
  (tL_state_L414 M.2.1 M.2.2.1 x0 x1 vF 0 z313.2).bind fun z435 =>
  Sum.elim (fun r482 => some (r482, z435.2)) (fun w436 =>
  (nwO z435.2 101 7 7 (fun _ => .int 0) M.2.1 M.2.2.1 16 100).bind fun M437 =>
  (gI M437 x1 14 0).bind fun v438 =>
  (sA M437 z435.2.2.1 101 0 (.int v438)).bind fun M439 =>
  (gI M439 x1 14 1).bind fun v440 =>
  (sA M439 z435.2.2.1 101 1 (.int v440)).bind fun M441 =>
  (gI M441 x1 14 2).bind fun v442 =>
  (sA M441 z435.2.2.1 101 2 (.int v442)).bind fun M443 =>
  (gI M443 x1 14 3).bind fun v444 =>
  (sA M443 z435.2.2.1 101 3 (.int v444)).bind fun M445 =>
  (gI M445 x1 14 5).bind fun v446 =>
  (sA M445 z435.2.2.1 101 4 (.int v446)).bind fun M447 =>
  if M447.2.1 + 0 ≤ M.2.1 + 16 ∧ M447.2.2.1 + 0 ≤ M.2.2.1 + 100 then
  (if (M447.1 x1).1 = 14 then
  ((tX12_cursors x1 M447).bind fun z448 =>
  (sA M447 z435.2.2.1 101 5 (.int z448)).bind fun M449 =>
  (gI M449 x1 14 4).bind fun v450 =>
  (sA M449 z435.2.2.1 101 6 (.int v450)).bind fun M451 =>
  (tL_state_L675 M.2.1 M.2.2.1 x0 x1 z435.2.2.1 vF 0 M451).bind fun z462 =>
  Sum.elim (fun r481 => some (r481, z462.2)) (fun w463 =>
  (tL_state_L702 M.2.1 M.2.2.1 x0 x1 vF 0 z462.2).bind fun z478 =>
  Sum.elim (fun r480 => some (r480, z478.2)) (fun w479 =>
  if z478.2.2.1 ≤ M.2.1 + 16 ∧ z478.2.2.2.1 ≤ M.2.2.1 + 100 then some (1, z478.2) else none) z478.1) z462.1)
else none)
else none) z435.1) z313.1
def rmL_state : Room := { frames := 9, cells := 16, slots := 100, locals := 166 }
set_option maxHeartbeats 4000000 in
set_option maxRecDepth 100000 in
theorem mL_state (l : Launch) (hfl : l.stackTraces = false) (D : vD) (x0 : Nat) (x1 : Nat) (M : vMe) (z : (Int32 × vMe)) (h : tL_state x0 x1 M = some z) : Met l yL_state (Cond.code yL_state cL_state 10 (some .boolean) :: TB) rmL_state (va_Pc [.ref x0, .ref x1] (vPre D M)) (qW D (some (.int z.1)) z.2) 16 100 (vA D) := by
  refine v_ofW (cc := cL_state) (maxL := 10) (ret := (some .boolean)) (by decide) (Nat.le_of_ble_eq_true rfl) ?_
  intro p e s m args below meth c Q hx hb hr hml hown hts hlk hnm hSS hR0 hQ ls hl
  have hz0 := hR0.2.1
  have hs0 := hR0.2.2.1
  have hb0 : D.2.2.2.1 ≤ s.heap.size := hR0.2.2.2.2.1
  refine v_tight hb0 ?_
  have hK := hSS.1
  have hl : lv_has ls 10 [(0, .ref x0), (1, .ref x1)] := hl
  unfold tL_state at h
  have L_state_L23p : ∀ (x0 : Nat) (x1 : Nat) (x2 : Int32) (x3 : Nat), ∀ (f : Nat) (x4 : Int32) (x5 : Int32) (Mi : vMe) (ls : Array Slot) (z : (Int32 × vMe)), lv_has ls 10 [(0, .ref x0), (1, .ref x1), (2, .int x2), (3, .ref x3), (4, .int x4), (5, .int x5)] → tL_state_L23 M.2.1 M.2.2.1 x0 x1 x2 x3 f x4 x5 Mi = some z → (∀ ls : Array Slot, lv_has ls 10 [(0, .ref x0), (1, .ref x1), (2, .int x2), (3, .ref x3), (4, .int z.1)] → vV D p l e rmL_state s m args below meth c (z.2.2.1 - s.heap.size) (z.2.2.2.1 - vSum D.2.2.2.1 s.heap) Q z.2 (F0 m 83 ls [])) → vV D p l e rmL_state s m args below meth c (Mi.2.1 - s.heap.size) (Mi.2.2.1 - vSum D.2.2.2.1 s.heap) Q Mi (F0 m 23 ls []) := by
    intro x0 x1 x2 x3 f
    induction f with
    | zero =>
      intro x4 x5 Mi ls z hl h
      exact absurd h (by simp [tL_state_L23])
    | succ f ih =>
      intro x4 x5 Mi ls z hl h KX
      rw [tL_state_L23] at h
      have L_state_J74_23p : ∀ (x5 : Int32) (y0 : Int32) (y1 : Int32) (Mj : vMe) (ls : Array Slot), lv_has ls 10 [(0, .ref x0), (1, .ref x1), (2, .int x2), (3, .ref x3), (5, .int x5)] → tL_state_J74_23 (tL_state_L23 M.2.1 M.2.2.1 x0 x1 x2 x3 f) M.2.1 M.2.2.1 x0 x1 x2 x3 x5 y0 y1 Mj = some z → vV D p l e rmL_state s m args below meth c (Mj.2.1 - s.heap.size) (Mj.2.2.1 - vSum D.2.2.2.1 s.heap) Q Mj (F0 m 74 ls [.int y1, .int y0]) := by
        intro x5 y0 y1 Mj ls hl h
        unfold tL_state_J74_23 at h
        refine w_iadd hx hb dL_state_74 ?_
        refine w_istore (lv' := [(4, .int (y0 + y1)), (0, .ref x0), (1, .ref x1), (2, .int x2), (3, .ref x3), (5, .int x5)]) hx hb dL_state_75 hl (by decide) rfl (fun ls hl => ?_)
        have hl : lv_has ls 10 [(0, .ref x0), (1, .ref x1), (2, .int x2), (3, .ref x3), (4, .int (y0 + y1)), (5, .int x5)] := lv_sub hl [1, 2, 3, 4, 0, 5] rfl
        refine w_iinc (v := x5 + 1) (lv' := [(5, .int (x5 + 1)), (0, .ref x0), (1, .ref x1), (2, .int x2), (3, .ref x3), (4, .int (y0 + y1))]) hx hb dL_state_77 hl (j := 5) rfl rfl (by decide) rfl (fun ls hl => ?_)
        have hl : lv_has ls 10 [(0, .ref x0), (1, .ref x1), (2, .int x2), (3, .ref x3), (4, .int (y0 + y1)), (5, .int (x5 + 1))] := lv_sub hl [1, 2, 3, 4, 5, 0] rfl
        refine w_goto (tgt := 23) hx hb dL_state_80 (by decide) ?_
        refine v_tight hb0 ?_
        exact ih (y0 + y1) (x5 + 1) Mj ls z (lv_sub hl [0, 1, 2, 3, 4, 5] rfl) h KX
      have L_state_J73_23p : ∀ (x5 : Int32) (y0 : Int32) (Mj : vMe) (ls : Array Slot), lv_has ls 10 [(0, .ref x0), (1, .ref x1), (2, .int x2), (3, .ref x3), (5, .int x5)] → tL_state_J73_23 (tL_state_L23 M.2.1 M.2.2.1 x0 x1 x2 x3 f) M.2.1 M.2.2.1 x0 x1 x2 x3 x5 y0 Mj = some z → vV D p l e rmL_state s m args below meth c (Mj.2.1 - s.heap.size) (Mj.2.2.1 - vSum D.2.2.2.1 s.heap) Q Mj (F0 m 73 ls [.int y0]) := by
        intro x5 y0 Mj ls hl h
        unfold tL_state_J73_23 at h
        refine w_iconst (v := 0) hx hb dL_state_73 (by decide) ?_
        refine v_tight hb0 ?_
        exact L_state_J74_23p x5 y0 0 Mj ls (lv_sub hl [0, 1, 2, 3, 4] rfl) h
      refine w_iload hx hb dL_state_23 (lv_at hl 5 rfl) ?_
      refine w_bipush (v := 6) hx hb dL_state_25 (by decide) ?_
      refine w_icmp_ge (tgt := 83) hx hb dL_state_27 (by decide) (fun c174 => ?_) (fun c174 => ?_)
      · rw [if_pos c174] at h
        obtain rfl := Option.some.inj h
        refine v_tight hb0 ?_
        exact KX ls (lv_sub hl [0, 1, 2, 3, 4] rfl)
      · rw [if_neg c174] at h
        refine w_iload hx hb dL_state_30 (lv_at hl 4 rfl) ?_
        refine w_aload_n hx hb dL_state_32 rfl (lv_at hl 1 rfl) ?_
        obtain ⟨a175, ea175, h⟩ := v_bnd h
        refine v_gA (ci := 13) hx hb hts iwX12 hown hK 7 ea175 rfl (by decide) (Or.inr ⟨_, kn71 hSS _⟩) (fun _ h9 => h9) dL_state_33 ?_
        refine w_iload hx hb dL_state_36 (lv_at hl 5 rfl) ?_
        obtain ⟨a176, ea176, h⟩ := v_bnd h
        refine v_aald hx hb hK ea176 (by decide) dL_state_38 ?_
        refine w_ifnull (tgt := 73) hx hb dL_state_39 (by decide) (fun c177 => ?_) (fun c177 => ?_)
        · rw [if_pos c177] at h
          refine v_tight hb0 ?_
          exact L_state_J73_23p x5 x4 Mi ls (lv_sub hl [0, 1, 2, 3, 5] rfl) h
        · rw [if_neg c177] at h
          refine w_aload_n hx hb dL_state_42 rfl (lv_at hl 1 rfl) ?_
          obtain ⟨a179, ea179, h⟩ := v_bnd h
          refine v_gA (ci := 13) hx hb hts iwX12 hown hK 7 ea179 rfl (by decide) (Or.inr ⟨_, kn71 hSS _⟩) (fun _ h9 => h9) dL_state_43 ?_
          refine w_iload hx hb dL_state_46 (lv_at hl 5 rfl) ?_
          obtain ⟨a180, ea180, h⟩ := v_bnd h
          refine v_aaldA hx hb hK ea180 (by decide) dL_state_48 ?_
          obtain ⟨a181, ea181, h⟩ := v_bnd h
          refine v_gA (ci := 12) hx hb hts iwX11 hown hK 0 ea181 rfl (by decide) (Or.inr ⟨_, kn76 hSS _⟩) (fun _ h9 => h9) dL_state_49 ?_
          refine w_aload_n hx hb dL_state_52 rfl (lv_at hl 3 rfl) ?_
          refine w_acmp_ne (tgt := 73) hx hb dL_state_53 (by decide) (fun c182 => ?_) (fun c182 => ?_)
          · rw [if_pos c182] at h
            refine w_aload_n hx hb dL_state_56 rfl (lv_at hl 1 rfl) ?_
            obtain ⟨a183, ea183, h⟩ := v_bnd h
            refine v_gA (ci := 13) hx hb hts iwX12 hown hK 7 ea183 rfl (by decide) (Or.inr ⟨_, kn71 hSS _⟩) (fun _ h9 => h9) dL_state_57 ?_
            refine w_iload hx hb dL_state_60 (lv_at hl 5 rfl) ?_
            obtain ⟨a184, ea184, h⟩ := v_bnd h
            refine v_aaldA hx hb hK ea184 (by decide) dL_state_62 ?_
            obtain ⟨v185, ev185, h⟩ := v_bnd h
            refine v_gI (ci := 12) hx hb hts iwX11 hown hK 6 ev185 rfl (by decide) (Or.inr ⟨_, kn86 hSS _⟩) (fun _ h9 => h9) dL_state_63 ?_
            refine w_if_eq (tgt := 73) hx hb dL_state_66 (by decide) (fun c186 => ?_) (fun c186 => ?_)
            · rw [if_pos c186] at h
              refine v_tight hb0 ?_
              exact L_state_J73_23p x5 x4 Mi ls (lv_sub hl [0, 1, 2, 3, 5] rfl) h
            · rw [if_neg c186] at h
              refine w_iconst (v := 1) hx hb dL_state_69 (by decide) ?_
              refine w_goto (tgt := 74) hx hb dL_state_70 (by decide) ?_
              refine v_tight hb0 ?_
              exact L_state_J74_23p x5 x4 1 Mi ls (lv_sub hl [0, 1, 2, 3, 5] rfl) h
          · rw [if_neg c182] at h
            refine v_tight hb0 ?_
            exact L_state_J73_23p x5 x4 Mi ls (lv_sub hl [0, 1, 2, 3, 5] rfl) h
  have L_state_L136p : ∀ (x0 : Nat) (x1 : Nat) (x2 : Int32) (x3 : Nat) (x5 : Int32) (x6 : Nat), ∀ (f : Nat) (x7 : Int32) (Mi : vMe) (ls : Array Slot) (z : ((Int32 ⊕ Unit) × vMe)), lv_has ls 10 [(0, .ref x0), (1, .ref x1), (2, .int x2), (3, .ref x3), (5, .int x5), (6, .ref x6), (7, .int x7)] → tL_state_L136 M.2.1 M.2.2.1 x0 x1 x2 x3 x5 x6 f x7 Mi = some z → (∀ w, z.1 = Sum.inr w → ∀ ls : Array Slot, lv_has ls 10 [(0, .ref x0), (1, .ref x1), (2, .int x2), (3, .ref x3), (5, .int x5)] → vV D p l e rmL_state s m args below meth c (z.2.2.1 - s.heap.size) (z.2.2.2.1 - vSum D.2.2.2.1 s.heap) Q z.2 (F0 m 165 ls [])) → (∀ r9, z.1 = Sum.inl r9 → Q = MQ below (qW D (some (.int r9)) z.2) args s 16 100 (vA D)) → vV D p l e rmL_state s m args below meth c (Mi.2.1 - s.heap.size) (Mi.2.2.1 - vSum D.2.2.2.1 s.heap) Q Mi (F0 m 136 ls []) := by
    intro x0 x1 x2 x3 x5 x6 f
    induction f with
    | zero =>
      intro x7 Mi ls z hl h
      exact absurd h (by simp [tL_state_L136])
    | succ f ih =>
      intro x7 Mi ls z hl h KX KR
      rw [tL_state_L136] at h
      refine w_iload hx hb dL_state_136 (lv_at hl 6 rfl) ?_
      refine w_iconst (v := 5) hx hb dL_state_138 (by decide) ?_
      refine w_icmp_ge (tgt := 165) hx hb dL_state_139 (by decide) (fun c205 => ?_) (fun c205 => ?_)
      · rw [if_pos c205] at h
        obtain rfl := Option.some.inj h
        refine v_tight hb0 ?_
        exact KX _ rfl ls (lv_sub hl [0, 1, 2, 3, 4] rfl)
      · rw [if_neg c205] at h
        refine w_aload_n hx hb dL_state_142 rfl (lv_at hl 0 rfl) ?_
        refine w_iload_n hx hb dL_state_143 rfl (lv_at hl 2 rfl) ?_
        refine w_iload hx hb dL_state_144 (lv_at hl 6 rfl) ?_
        obtain ⟨g7, h⟩ := v_ifs h
        refine v_tight hb0 ?_
        obtain ⟨g8, h⟩ := v_ifs h
        obtain ⟨z206, ez206, h⟩ := v_bnd h
        rcases hz206 : z206.1 with r207 | jz206
        · replace h := v_inl hz206 h
          refine v_call1 (v := .int r207) (M1 := z206.2) (mc := 1) (ms := 6) (fun H locs hR hS => va_runV (As := [.int x2, .int x7]) (rest := []) ⟨hx, hb, hml, hown, hts⟩ (v_noX (by rw [hz206]; rfl) (by rw [hz206]; rfl) (mX9_set l hfl D x0 x2 x7 Mi z206 ez206)) (cwV 2 hts (gdV kw1261 kw1262 kw1263 kw27 kw1264) rfl rfl rfl (by decide +kernel) ⟨Nat.le_of_ble_eq_true rfl, Nat.le_of_ble_eq_true rfl⟩) (v_preV (ci := 10) hSS hR hS g8 (by decide) rfl [.int x2, .int x7]) rfl rfl hl.1 rfl (lv_room (Nat.le_of_ble_eq_true rfl)) dL_state_146 ⟨by show _ + _ ≤ 16; omega, by show _ + _ ≤ 100; omega⟩) ?_
          refine w_aload hx hb dL_state_149 (lv_at hl 5 rfl) ?_
          refine w_iload hx hb dL_state_151 (lv_at hl 6 rfl) ?_
          obtain ⟨v208, ev208, h⟩ := v_bnd h
          refine v_iald hx hb hK ev208 dL_state_153 ?_
          refine w_icmp_eq (tgt := 159) hx hb dL_state_154 (by decide) (fun c209 => ?_) (fun c209 => ?_)
          · rw [if_pos c209] at h
            refine w_iinc (v := x7 + 1) (lv' := [(7, .int (x7 + 1)), (0, .ref x0), (1, .ref x1), (2, .int x2), (3, .ref x3), (5, .int x5), (6, .ref x6)]) hx hb dL_state_159 hl (j := 6) rfl rfl (by decide) rfl (fun ls hl => ?_)
            have hl : lv_has ls 10 [(0, .ref x0), (1, .ref x1), (2, .int x2), (3, .ref x3), (5, .int x5), (6, .ref x6), (7, .int (x7 + 1))] := lv_sub hl [1, 2, 3, 4, 5, 6, 0] rfl
            refine w_goto (tgt := 136) hx hb dL_state_162 (by decide) ?_
            refine v_tight hb0 ?_
            exact ih (x7 + 1) z206.2 ls z (lv_sub hl [0, 1, 2, 3, 4, 5, 6] rfl) h KX KR
          · rw [if_neg c209] at h
            refine w_iconst (v := 0) hx hb dL_state_157 (by decide) ?_
            obtain ⟨g9, h⟩ := v_ifs h
            refine v_tight hb0 (vV.widen (n' := 16) (k' := 100) (by omega) (by omega) ?_)
            obtain rfl := Option.some.inj h
            rw [KR _ rfl]
            exact v_zret (x := 0) hx hb hr hlk rfl dL_state_158
        · exact nomatch (v_inr hz206 h)
  have L_state_L168p : ∀ (x0 : Nat) (x1 : Nat) (x2 : Int32) (x3 : Nat) (x5 : Int32), ∀ (f : Nat) (x7 : Int32) (Mi : vMe) (ls : Array Slot) (z : ((Int32 ⊕ Unit) × vMe)), lv_has ls 10 [(0, .ref x0), (1, .ref x1), (2, .int x2), (3, .ref x3), (5, .int x5), (7, .int x7)] → tL_state_L168 M.2.1 M.2.2.1 x0 x1 x2 x3 x5 f x7 Mi = some z → (∀ w, z.1 = Sum.inr w → ∀ ls : Array Slot, lv_has ls 10 [(0, .ref x0), (1, .ref x1), (2, .int x2), (3, .ref x3), (5, .int x5)] → vV D p l e rmL_state s m args below meth c (z.2.2.1 - s.heap.size) (z.2.2.2.1 - vSum D.2.2.2.1 s.heap) Q z.2 (F0 m 281 ls [])) → (∀ r9, z.1 = Sum.inl r9 → Q = MQ below (qW D (some (.int r9)) z.2) args s 16 100 (vA D)) → vV D p l e rmL_state s m args below meth c (Mi.2.1 - s.heap.size) (Mi.2.2.1 - vSum D.2.2.2.1 s.heap) Q Mi (F0 m 168 ls []) := by
    intro x0 x1 x2 x3 x5 f
    induction f with
    | zero =>
      intro x7 Mi ls z hl h
      exact absurd h (by simp [tL_state_L168])
    | succ f ih =>
      intro x7 Mi ls z hl h KX KR
      rw [tL_state_L168] at h
      have L_state_J270_168p : ∀ (x7 : Int32) (y0 : Int32) (y1 : Int32) (Mj : vMe) (ls : Array Slot), lv_has ls 10 [(0, .ref x0), (1, .ref x1), (2, .int x2), (3, .ref x3), (5, .int x5), (7, .int x7)] → tL_state_J270_168 (tL_state_L168 M.2.1 M.2.2.1 x0 x1 x2 x3 x5 f) M.2.1 M.2.2.1 x0 x1 x2 x3 x5 x7 y0 y1 Mj = some z → vV D p l e rmL_state s m args below meth c (Mj.2.1 - s.heap.size) (Mj.2.2.1 - vSum D.2.2.2.1 s.heap) Q Mj (F0 m 270 ls [.int y1, .int y0]) := by
        intro x7 y0 y1 Mj ls hl h
        unfold tL_state_J270_168 at h
        refine w_icmp_eq (tgt := 275) hx hb dL_state_270 (by decide) (fun c259 => ?_) (fun c259 => ?_)
        · rw [if_pos c259] at h
          refine w_iinc (v := x7 + 1) (lv' := [(7, .int (x7 + 1)), (0, .ref x0), (1, .ref x1), (2, .int x2), (3, .ref x3), (5, .int x5)]) hx hb dL_state_275 hl (j := 5) rfl rfl (by decide) rfl (fun ls hl => ?_)
          have hl : lv_has ls 10 [(0, .ref x0), (1, .ref x1), (2, .int x2), (3, .ref x3), (5, .int x5), (7, .int (x7 + 1))] := lv_sub hl [1, 2, 3, 4, 5, 0] rfl
          refine w_goto (tgt := 168) hx hb dL_state_278 (by decide) ?_
          refine v_tight hb0 ?_
          exact ih (x7 + 1) Mj ls z (lv_sub hl [0, 1, 2, 3, 4, 5] rfl) h KX KR
        · rw [if_neg c259] at h
          refine w_iconst (v := 0) hx hb dL_state_273 (by decide) ?_
          obtain ⟨g9, h⟩ := v_ifs h
          refine v_tight hb0 (vV.widen (n' := 16) (k' := 100) (by omega) (by omega) ?_)
          obtain rfl := Option.some.inj h
          rw [KR _ rfl]
          exact v_zret (x := 0) hx hb hr hlk rfl dL_state_274
      have L_state_J240_168p : ∀ (x7 : Int32) (y0 : Int32) (y1 : Int32) (Mj : vMe) (ls : Array Slot), lv_has ls 10 [(0, .ref x0), (1, .ref x1), (2, .int x2), (3, .ref x3), (5, .int x5), (7, .int x7)] → tL_state_J240_168 (tL_state_L168 M.2.1 M.2.2.1 x0 x1 x2 x3 x5 f) M.2.1 M.2.2.1 x0 x1 x2 x3 x5 x7 y0 y1 Mj = some z → vV D p l e rmL_state s m args below meth c (Mj.2.1 - s.heap.size) (Mj.2.2.1 - vSum D.2.2.2.1 s.heap) Q Mj (F0 m 240 ls [.int y1, .int y0]) := by
        intro x7 y0 y1 Mj ls hl h
        unfold tL_state_J240_168 at h
        refine w_icmp_ne (tgt := 273) hx hb dL_state_240 (by decide) (fun c254 => ?_) (fun c254 => ?_)
        · rw [if_pos c254] at h
          refine w_aload_n hx hb dL_state_243 rfl (lv_at hl 0 rfl) ?_
          refine w_iload_n hx hb dL_state_244 rfl (lv_at hl 2 rfl) ?_
          refine w_iload hx hb dL_state_245 (lv_at hl 5 rfl) ?_
          obtain ⟨g7, h⟩ := v_ifs h
          refine v_tight hb0 ?_
          obtain ⟨g8, h⟩ := v_ifs h
          obtain ⟨z255, ez255, h⟩ := v_bnd h
          rcases hz255 : z255.1 with r256 | jz255
          · replace h := v_inl hz255 h
            refine v_call1 (v := .int r256) (M1 := z255.2) (mc := 1) (ms := 6) (fun H locs hR hS => va_runV (As := [.int x2, .int x7]) (rest := []) ⟨hx, hb, hml, hown, hts⟩ (v_noX (by rw [hz255]; rfl) (by rw [hz255]; rfl) (mX9_stampOf l hfl D x0 x2 x7 Mj z255 ez255)) (cwV 2 hts (gdV kw1279 kw1280 kw1281 kw27 kw1282) rfl rfl rfl (by decide +kernel) ⟨Nat.le_of_ble_eq_true rfl, Nat.le_of_ble_eq_true rfl⟩) (v_preV (ci := 10) hSS hR hS g8 (by decide) rfl [.int x2, .int x7]) rfl rfl hl.1 rfl (lv_room (Nat.le_of_ble_eq_true rfl)) dL_state_247 ⟨by show _ + _ ≤ 16; omega, by show _ + _ ≤ 100; omega⟩) ?_
            refine w_aload_n hx hb dL_state_250 rfl (lv_at hl 3 rfl) ?_
            refine w_iload hx hb dL_state_251 (lv_at hl 5 rfl) ?_
            obtain ⟨g7, h⟩ := v_ifs h
            refine v_tight hb0 ?_
            obtain ⟨g8, h⟩ := v_ifs h
            obtain ⟨z257, ez257, h⟩ := v_bnd h
            refine v_call1 (v := .int z257) (M1 := z255.2) (mc := 0) (ms := 0) (fun H locs hR hS => va_runV (As := [.int x7]) (rest := [.int r256]) ⟨hx, hb, hml, hown, hts⟩ (mX10_has l hfl D x3 x7 z255.2 z257 ez257) (cwV 1 hts (gdV kw1204 kw691 kw692 kw36 kw693) rfl rfl rfl (by decide +kernel) ⟨Nat.le_of_ble_eq_true rfl, Nat.le_of_ble_eq_true rfl⟩) (v_preV (ci := 11) hSS hR hS g8 (by decide) rfl [.int x7]) rfl rfl hl.1 rfl (lv_room (Nat.le_of_ble_eq_true rfl)) dL_state_253 ⟨by show _ + _ ≤ 16; omega, by show _ + _ ≤ 100; omega⟩) ?_
            refine w_if_eq (tgt := 269) hx hb dL_state_256 (by decide) (fun c258 => ?_) (fun c258 => ?_)
            · rw [if_pos c258] at h
              refine w_iconst (v := (-1)) hx hb dL_state_269 (by decide) ?_
              refine v_tight hb0 ?_
              exact L_state_J270_168p x7 r256 ((-1)) z255.2 ls (lv_sub hl [0, 1, 2, 3, 4, 5] rfl) h
            · rw [if_neg c258] at h
              refine w_aload_n hx hb dL_state_259 rfl (lv_at hl 3 rfl) ?_
              obtain ⟨a260, ea260, h⟩ := v_bnd h
              refine v_gA (ci := 11) hx hb hts iwX10 hown hK 5 ea260 rfl (by decide) (Or.inr ⟨_, kn59 hSS _⟩) (fun _ h9 => h9) dL_state_260 ?_
              refine w_iload hx hb dL_state_263 (lv_at hl 5 rfl) ?_
              obtain ⟨v261, ev261, h⟩ := v_bnd h
              refine v_iald hx hb hK ev261 dL_state_265 ?_
              refine w_goto (tgt := 270) hx hb dL_state_266 (by decide) ?_
              refine v_tight hb0 ?_
              exact L_state_J270_168p x7 r256 v261 z255.2 ls (lv_sub hl [0, 1, 2, 3, 4, 5] rfl) h
          · exact nomatch (v_inr hz255 h)
        · rw [if_neg c254] at h
          refine w_iconst (v := 0) hx hb dL_state_273 (by decide) ?_
          obtain ⟨g9, h⟩ := v_ifs h
          refine v_tight hb0 (vV.widen (n' := 16) (k' := 100) (by omega) (by omega) ?_)
          obtain rfl := Option.some.inj h
          rw [KR _ rfl]
          exact v_zret (x := 0) hx hb hr hlk rfl dL_state_274
      refine w_iload hx hb dL_state_168 (lv_at hl 5 rfl) ?_
      refine w_aload_n hx hb dL_state_170 rfl (lv_at hl 1 rfl) ?_
      obtain ⟨v238, ev238, h⟩ := v_bnd h
      refine v_gI (ci := 13) hx hb hts iwX12 hown hK 1 ev238 rfl (by decide) (Or.inr ⟨_, kn65 hSS _⟩) (fun _ h9 => h9) dL_state_171 ?_
      refine w_icmp_ge (tgt := 281) hx hb dL_state_174 (by decide) (fun c239 => ?_) (fun c239 => ?_)
      · rw [if_pos c239] at h
        obtain rfl := Option.some.inj h
        refine v_tight hb0 ?_
        exact KX _ rfl ls (lv_sub hl [0, 1, 2, 3, 4] rfl)
      · rw [if_neg c239] at h
        refine w_aload_n hx hb dL_state_177 rfl (lv_at hl 0 rfl) ?_
        refine w_iload_n hx hb dL_state_178 rfl (lv_at hl 2 rfl) ?_
        refine w_iload hx hb dL_state_179 (lv_at hl 5 rfl) ?_
        refine w_iconst (v := 0) hx hb dL_state_181 (by decide) ?_
        obtain ⟨g7, h⟩ := v_ifs h
        refine v_tight hb0 ?_
        obtain ⟨g8, h⟩ := v_ifs h
        obtain ⟨z240, ez240, h⟩ := v_bnd h
        rcases hz240 : z240.1 with r241 | jz240
        · replace h := v_inl hz240 h
          refine v_call1 (v := .int r241) (M1 := z240.2) (mc := 1) (ms := 6) (fun H locs hR hS => va_runV (As := [.int x2, .int x7, .int 0]) (rest := []) ⟨hx, hb, hml, hown, hts⟩ (v_noX (by rw [hz240]; rfl) (by rw [hz240]; rfl) (mX9_cell l hfl D x0 x2 x7 0 Mi z240 ez240)) (cwV 3 hts (gdV kw1270 kw1271 kw1272 kw27 kw1273) rfl rfl rfl (by decide +kernel) ⟨Nat.le_of_ble_eq_true rfl, Nat.le_of_ble_eq_true rfl⟩) (v_preV (ci := 10) hSS hR hS g8 (by decide) rfl [.int x2, .int x7, .int 0]) rfl rfl hl.1 rfl (lv_room (Nat.le_of_ble_eq_true rfl)) dL_state_182 ⟨by show _ + _ ≤ 16; omega, by show _ + _ ≤ 100; omega⟩) ?_
          refine w_aload_n hx hb dL_state_185 rfl (lv_at hl 3 rfl) ?_
          obtain ⟨a242, ea242, h⟩ := v_bnd h
          refine v_gA (ci := 11) hx hb hts iwX10 hown hK 3 ea242 rfl (by decide) (Or.inr ⟨_, kn54 hSS _⟩) (fun _ h9 => h9) dL_state_186 ?_
          refine w_iload hx hb dL_state_189 (lv_at hl 5 rfl) ?_
          obtain ⟨v243, ev243, h⟩ := v_bnd h
          refine v_iald hx hb hK ev243 dL_state_191 ?_
          refine w_icmp_ne (tgt := 273) hx hb dL_state_192 (by decide) (fun c244 => ?_) (fun c244 => ?_)
          · rw [if_pos c244] at h
            refine w_aload_n hx hb dL_state_195 rfl (lv_at hl 0 rfl) ?_
            refine w_iload_n hx hb dL_state_196 rfl (lv_at hl 2 rfl) ?_
            refine w_iload hx hb dL_state_197 (lv_at hl 5 rfl) ?_
            refine w_iconst (v := 1) hx hb dL_state_199 (by decide) ?_
            obtain ⟨g7, h⟩ := v_ifs h
            refine v_tight hb0 ?_
            obtain ⟨g8, h⟩ := v_ifs h
            obtain ⟨z245, ez245, h⟩ := v_bnd h
            rcases hz245 : z245.1 with r246 | jz245
            · replace h := v_inl hz245 h
              refine v_call1 (v := .int r246) (M1 := z245.2) (mc := 1) (ms := 6) (fun H locs hR hS => va_runV (As := [.int x2, .int x7, .int 1]) (rest := []) ⟨hx, hb, hml, hown, hts⟩ (v_noX (by rw [hz245]; rfl) (by rw [hz245]; rfl) (mX9_cell l hfl D x0 x2 x7 1 z240.2 z245 ez245)) (cwV 3 hts (gdV kw1270 kw1271 kw1272 kw27 kw1273) rfl rfl rfl (by decide +kernel) ⟨Nat.le_of_ble_eq_true rfl, Nat.le_of_ble_eq_true rfl⟩) (v_preV (ci := 10) hSS hR hS g8 (by decide) rfl [.int x2, .int x7, .int 1]) rfl rfl hl.1 rfl (lv_room (Nat.le_of_ble_eq_true rfl)) dL_state_200 ⟨by show _ + _ ≤ 16; omega, by show _ + _ ≤ 100; omega⟩) ?_
              refine w_aload_n hx hb dL_state_203 rfl (lv_at hl 3 rfl) ?_
              obtain ⟨a247, ea247, h⟩ := v_bnd h
              refine v_gA (ci := 11) hx hb hts iwX10 hown hK 4 ea247 rfl (by decide) (Or.inr ⟨_, kn56 hSS _⟩) (fun _ h9 => h9) dL_state_204 ?_
              refine w_iload hx hb dL_state_207 (lv_at hl 5 rfl) ?_
              obtain ⟨v248, ev248, h⟩ := v_bnd h
              refine v_iald hx hb hK ev248 dL_state_209 ?_
              refine w_icmp_ne (tgt := 273) hx hb dL_state_210 (by decide) (fun c249 => ?_) (fun c249 => ?_)
              · rw [if_pos c249] at h
                refine w_aload_n hx hb dL_state_213 rfl (lv_at hl 0 rfl) ?_
                refine w_iload_n hx hb dL_state_214 rfl (lv_at hl 2 rfl) ?_
                refine w_iload hx hb dL_state_215 (lv_at hl 5 rfl) ?_
                obtain ⟨g7, h⟩ := v_ifs h
                refine v_tight hb0 ?_
                obtain ⟨g8, h⟩ := v_ifs h
                obtain ⟨z250, ez250, h⟩ := v_bnd h
                rcases hz250 : z250.1 with r251 | jz250
                · replace h := v_inl hz250 h
                  refine v_call1 (v := .int r251) (M1 := z250.2) (mc := 1) (ms := 6) (fun H locs hR hS => va_runV (As := [.int x2, .int x7]) (rest := []) ⟨hx, hb, hml, hown, hts⟩ (v_noX (by rw [hz250]; rfl) (by rw [hz250]; rfl) (mX9_place l hfl D x0 x2 x7 z245.2 z250 ez250)) (cwV 2 hts (gdV kw1275 kw1276 kw1277 kw27 kw1278) rfl rfl rfl (by decide +kernel) ⟨Nat.le_of_ble_eq_true rfl, Nat.le_of_ble_eq_true rfl⟩) (v_preV (ci := 10) hSS hR hS g8 (by decide) rfl [.int x2, .int x7]) rfl rfl hl.1 rfl (lv_room (Nat.le_of_ble_eq_true rfl)) dL_state_217 ⟨by show _ + _ ≤ 16; omega, by show _ + _ ≤ 100; omega⟩) ?_
                  refine w_aload_n hx hb dL_state_220 rfl (lv_at hl 3 rfl) ?_
                  refine w_iload hx hb dL_state_221 (lv_at hl 5 rfl) ?_
                  obtain ⟨g7, h⟩ := v_ifs h
                  refine v_tight hb0 ?_
                  obtain ⟨g8, h⟩ := v_ifs h
                  obtain ⟨z252, ez252, h⟩ := v_bnd h
                  refine v_call1 (v := .int z252) (M1 := z250.2) (mc := 0) (ms := 0) (fun H locs hR hS => va_runV (As := [.int x7]) (rest := [.int r251]) ⟨hx, hb, hml, hown, hts⟩ (mX10_has l hfl D x3 x7 z250.2 z252 ez252) (cwV 1 hts (gdV kw1204 kw691 kw692 kw36 kw693) rfl rfl rfl (by decide +kernel) ⟨Nat.le_of_ble_eq_true rfl, Nat.le_of_ble_eq_true rfl⟩) (v_preV (ci := 11) hSS hR hS g8 (by decide) rfl [.int x7]) rfl rfl hl.1 rfl (lv_room (Nat.le_of_ble_eq_true rfl)) dL_state_223 ⟨by show _ + _ ≤ 16; omega, by show _ + _ ≤ 100; omega⟩) ?_
                  refine w_if_eq (tgt := 239) hx hb dL_state_226 (by decide) (fun c253 => ?_) (fun c253 => ?_)
                  · rw [if_pos c253] at h
                    refine w_iconst (v := (-1)) hx hb dL_state_239 (by decide) ?_
                    refine v_tight hb0 ?_
                    exact L_state_J240_168p x7 r251 ((-1)) z250.2 ls (lv_sub hl [0, 1, 2, 3, 4, 5] rfl) h
                  · rw [if_neg c253] at h
                    refine w_aload_n hx hb dL_state_229 rfl (lv_at hl 3 rfl) ?_
                    obtain ⟨a262, ea262, h⟩ := v_bnd h
                    refine v_gA (ci := 11) hx hb hts iwX10 hown hK 4 ea262 rfl (by decide) (Or.inr ⟨_, kn56 hSS _⟩) (fun _ h9 => h9) dL_state_230 ?_
                    refine w_iload hx hb dL_state_233 (lv_at hl 5 rfl) ?_
                    obtain ⟨v263, ev263, h⟩ := v_bnd h
                    refine v_iald hx hb hK ev263 dL_state_235 ?_
                    refine w_goto (tgt := 240) hx hb dL_state_236 (by decide) ?_
                    refine v_tight hb0 ?_
                    exact L_state_J240_168p x7 r251 v263 z250.2 ls (lv_sub hl [0, 1, 2, 3, 4, 5] rfl) h
                · exact nomatch (v_inr hz250 h)
              · rw [if_neg c249] at h
                refine w_iconst (v := 0) hx hb dL_state_273 (by decide) ?_
                obtain ⟨g9, h⟩ := v_ifs h
                refine v_tight hb0 (vV.widen (n' := 16) (k' := 100) (by omega) (by omega) ?_)
                obtain rfl := Option.some.inj h
                rw [KR _ rfl]
                exact v_zret (x := 0) hx hb hr hlk rfl dL_state_274
            · exact nomatch (v_inr hz245 h)
          · rw [if_neg c244] at h
            refine w_iconst (v := 0) hx hb dL_state_273 (by decide) ?_
            obtain ⟨g9, h⟩ := v_ifs h
            refine v_tight hb0 (vV.widen (n' := 16) (k' := 100) (by omega) (by omega) ?_)
            obtain rfl := Option.some.inj h
            rw [KR _ rfl]
            exact v_zret (x := 0) hx hb hr hlk rfl dL_state_274
        · exact nomatch (v_inr hz240 h)
  have L_state_L284p : ∀ (x0 : Nat) (x1 : Nat) (x2 : Int32) (x3 : Nat) (x5 : Int32), ∀ (f : Nat) (x7 : Int32) (Mi : vMe) (ls : Array Slot) (z : ((Int32 ⊕ Unit) × vMe)), lv_has ls 10 [(0, .ref x0), (1, .ref x1), (2, .int x2), (3, .ref x3), (5, .int x5), (7, .int x7)] → tL_state_L284 M.2.1 M.2.2.1 x0 x1 x2 x3 x5 f x7 Mi = some z → (∀ w, z.1 = Sum.inr w → ∀ ls : Array Slot, lv_has ls 10 [(0, .ref x0), (1, .ref x1), (2, .int x2)] → vV D p l e rmL_state s m args below meth c (z.2.2.1 - s.heap.size) (z.2.2.2.1 - vSum D.2.2.2.1 s.heap) Q z.2 (F0 m 406 ls [])) → (∀ r9, z.1 = Sum.inl r9 → Q = MQ below (qW D (some (.int r9)) z.2) args s 16 100 (vA D)) → vV D p l e rmL_state s m args below meth c (Mi.2.1 - s.heap.size) (Mi.2.2.1 - vSum D.2.2.2.1 s.heap) Q Mi (F0 m 284 ls []) := by
    intro x0 x1 x2 x3 x5 f
    induction f with
    | zero =>
      intro x7 Mi ls z hl h
      exact absurd h (by simp [tL_state_L284])
    | succ f ih =>
      intro x7 Mi ls z hl h KX KR
      rw [tL_state_L284] at h
      have L_state_J395_284p : ∀ (x7 : Int32) (y0 : Int32) (y1 : Int32) (Mj : vMe) (ls : Array Slot), lv_has ls 10 [(0, .ref x0), (1, .ref x1), (2, .int x2), (3, .ref x3), (5, .int x5), (7, .int x7)] → tL_state_J395_284 (tL_state_L284 M.2.1 M.2.2.1 x0 x1 x2 x3 x5 f) M.2.1 M.2.2.1 x0 x1 x2 x3 x5 x7 y0 y1 Mj = some z → vV D p l e rmL_state s m args below meth c (Mj.2.1 - s.heap.size) (Mj.2.2.1 - vSum D.2.2.2.1 s.heap) Q Mj (F0 m 395 ls [.int y1, .int y0]) := by
        intro x7 y0 y1 Mj ls hl h
        unfold tL_state_J395_284 at h
        refine w_icmp_eq (tgt := 400) hx hb dL_state_395 (by decide) (fun c301 => ?_) (fun c301 => ?_)
        · rw [if_pos c301] at h
          refine w_iinc (v := x7 + 1) (lv' := [(7, .int (x7 + 1)), (0, .ref x0), (1, .ref x1), (2, .int x2), (3, .ref x3), (5, .int x5)]) hx hb dL_state_400 hl (j := 5) rfl rfl (by decide) rfl (fun ls hl => ?_)
          have hl : lv_has ls 10 [(0, .ref x0), (1, .ref x1), (2, .int x2), (3, .ref x3), (5, .int x5), (7, .int (x7 + 1))] := lv_sub hl [1, 2, 3, 4, 5, 0] rfl
          refine w_goto (tgt := 284) hx hb dL_state_403 (by decide) ?_
          refine v_tight hb0 ?_
          exact ih (x7 + 1) Mj ls z (lv_sub hl [0, 1, 2, 3, 4, 5] rfl) h KX KR
        · rw [if_neg c301] at h
          refine w_iconst (v := 0) hx hb dL_state_398 (by decide) ?_
          obtain ⟨g9, h⟩ := v_ifs h
          refine v_tight hb0 (vV.widen (n' := 16) (k' := 100) (by omega) (by omega) ?_)
          obtain rfl := Option.some.inj h
          rw [KR _ rfl]
          exact v_zret (x := 0) hx hb hr hlk rfl dL_state_399
      have L_state_J368_284p : ∀ (x7 : Int32) (x8 : Int32) (x9 : Int32) (y0 : Int32) (y1 : Int32) (Mj : vMe) (ls : Array Slot), lv_has ls 10 [(0, .ref x0), (1, .ref x1), (2, .int x2), (3, .ref x3), (5, .int x5), (7, .int x7), (8, .int x8), (9, .int x9)] → tL_state_J368_284 (tL_state_L284 M.2.1 M.2.2.1 x0 x1 x2 x3 x5 f) M.2.1 M.2.2.1 x0 x1 x2 x3 x5 x7 x8 x9 y0 y1 Mj = some z → vV D p l e rmL_state s m args below meth c (Mj.2.1 - s.heap.size) (Mj.2.2.1 - vSum D.2.2.2.1 s.heap) Q Mj (F0 m 368 ls [.int y1, .int y0]) := by
        intro x7 x8 x9 y0 y1 Mj ls hl h
        unfold tL_state_J368_284 at h
        refine w_icmp_ne (tgt := 398) hx hb dL_state_368 (by decide) (fun c297 => ?_) (fun c297 => ?_)
        · rw [if_pos c297] at h
          refine w_aload_n hx hb dL_state_371 rfl (lv_at hl 0 rfl) ?_
          refine w_iload_n hx hb dL_state_372 rfl (lv_at hl 2 rfl) ?_
          refine w_iload hx hb dL_state_373 (lv_at hl 5 rfl) ?_
          refine w_iconst (v := 2) hx hb dL_state_375 (by decide) ?_
          obtain ⟨g7, h⟩ := v_ifs h
          refine v_tight hb0 ?_
          obtain ⟨g8, h⟩ := v_ifs h
          obtain ⟨z298, ez298, h⟩ := v_bnd h
          rcases hz298 : z298.1 with r299 | jz298
          · replace h := v_inl hz298 h
            refine v_call1 (v := .int r299) (M1 := z298.2) (mc := 1) (ms := 6) (fun H locs hR hS => va_runV (As := [.int x2, .int x7, .int 2]) (rest := []) ⟨hx, hb, hml, hown, hts⟩ (v_noX (by rw [hz298]; rfl) (by rw [hz298]; rfl) (mX9_event l hfl D x0 x2 x7 2 Mj z298 ez298)) (cwV 3 hts (gdV kw1283 kw1284 kw1285 kw27 kw1286) rfl rfl rfl (by decide +kernel) ⟨Nat.le_of_ble_eq_true rfl, Nat.le_of_ble_eq_true rfl⟩) (v_preV (ci := 10) hSS hR hS g8 (by decide) rfl [.int x2, .int x7, .int 2]) rfl rfl hl.1 rfl (lv_room (Nat.le_of_ble_eq_true rfl)) dL_state_376 ⟨by show _ + _ ≤ 16; omega, by show _ + _ ≤ 100; omega⟩) ?_
            refine w_iload hx hb dL_state_379 (lv_at hl 7 rfl) ?_
            refine w_if_eq (tgt := 394) hx hb dL_state_381 (by decide) (fun c300 => ?_) (fun c300 => ?_)
            · rw [if_pos c300] at h
              refine w_iconst (v := (-1)) hx hb dL_state_394 (by decide) ?_
              refine v_tight hb0 ?_
              exact L_state_J395_284p x7 r299 ((-1)) z298.2 ls (lv_sub hl [0, 1, 2, 3, 4, 5] rfl) h
            · rw [if_neg c300] at h
              refine w_aload_n hx hb dL_state_384 rfl (lv_at hl 3 rfl) ?_
              obtain ⟨a302, ea302, h⟩ := v_bnd h
              refine v_gA (ci := 11) hx hb hts iwX10 hown hK 8 ea302 rfl (by decide) (Or.inr ⟨_, kn62 hSS _⟩) (fun _ h9 => h9) dL_state_385 ?_
              refine w_iload hx hb dL_state_388 (lv_at hl 6 rfl) ?_
              obtain ⟨v303, ev303, h⟩ := v_bnd h
              refine v_iald hx hb hK ev303 dL_state_390 ?_
              refine w_goto (tgt := 395) hx hb dL_state_391 (by decide) ?_
              refine v_tight hb0 ?_
              exact L_state_J395_284p x7 r299 v303 z298.2 ls (lv_sub hl [0, 1, 2, 3, 4, 5] rfl) h
          · exact nomatch (v_inr hz298 h)
        · rw [if_neg c297] at h
          refine w_iconst (v := 0) hx hb dL_state_398 (by decide) ?_
          obtain ⟨g9, h⟩ := v_ifs h
          refine v_tight hb0 (vV.widen (n' := 16) (k' := 100) (by omega) (by omega) ?_)
          obtain rfl := Option.some.inj h
          rw [KR _ rfl]
          exact v_zret (x := 0) hx hb hr hlk rfl dL_state_399
      have L_state_J341_284p : ∀ (x7 : Int32) (x8 : Int32) (x9 : Int32) (y0 : Int32) (y1 : Int32) (Mj : vMe) (ls : Array Slot), lv_has ls 10 [(0, .ref x0), (1, .ref x1), (2, .int x2), (3, .ref x3), (5, .int x5), (7, .int x7), (8, .int x8), (9, .int x9)] → tL_state_J341_284 (tL_state_L284 M.2.1 M.2.2.1 x0 x1 x2 x3 x5 f) M.2.1 M.2.2.1 x0 x1 x2 x3 x5 x7 x8 x9 y0 y1 Mj = some z → vV D p l e rmL_state s m args below meth c (Mj.2.1 - s.heap.size) (Mj.2.2.1 - vSum D.2.2.2.1 s.heap) Q Mj (F0 m 341 ls [.int y1, .int y0]) := by
        intro x7 x8 x9 y0 y1 Mj ls hl h
        unfold tL_state_J341_284 at h
        refine w_icmp_ne (tgt := 398) hx hb dL_state_341 (by decide) (fun c293 => ?_) (fun c293 => ?_)
        · rw [if_pos c293] at h
          refine w_aload_n hx hb dL_state_344 rfl (lv_at hl 0 rfl) ?_
          refine w_iload_n hx hb dL_state_345 rfl (lv_at hl 2 rfl) ?_
          refine w_iload hx hb dL_state_346 (lv_at hl 5 rfl) ?_
          refine w_iconst (v := 1) hx hb dL_state_348 (by decide) ?_
          obtain ⟨g7, h⟩ := v_ifs h
          refine v_tight hb0 ?_
          obtain ⟨g8, h⟩ := v_ifs h
          obtain ⟨z294, ez294, h⟩ := v_bnd h
          rcases hz294 : z294.1 with r295 | jz294
          · replace h := v_inl hz294 h
            refine v_call1 (v := .int r295) (M1 := z294.2) (mc := 1) (ms := 6) (fun H locs hR hS => va_runV (As := [.int x2, .int x7, .int 1]) (rest := []) ⟨hx, hb, hml, hown, hts⟩ (v_noX (by rw [hz294]; rfl) (by rw [hz294]; rfl) (mX9_event l hfl D x0 x2 x7 1 Mj z294 ez294)) (cwV 3 hts (gdV kw1283 kw1284 kw1285 kw27 kw1286) rfl rfl rfl (by decide +kernel) ⟨Nat.le_of_ble_eq_true rfl, Nat.le_of_ble_eq_true rfl⟩) (v_preV (ci := 10) hSS hR hS g8 (by decide) rfl [.int x2, .int x7, .int 1]) rfl rfl hl.1 rfl (lv_room (Nat.le_of_ble_eq_true rfl)) dL_state_349 ⟨by show _ + _ ≤ 16; omega, by show _ + _ ≤ 100; omega⟩) ?_
            refine w_iload hx hb dL_state_352 (lv_at hl 7 rfl) ?_
            refine w_if_eq (tgt := 367) hx hb dL_state_354 (by decide) (fun c296 => ?_) (fun c296 => ?_)
            · rw [if_pos c296] at h
              refine w_iconst (v := (-1)) hx hb dL_state_367 (by decide) ?_
              refine v_tight hb0 ?_
              exact L_state_J368_284p x7 x8 x9 r295 ((-1)) z294.2 ls (lv_sub hl [0, 1, 2, 3, 4, 5, 6, 7] rfl) h
            · rw [if_neg c296] at h
              refine w_aload_n hx hb dL_state_357 rfl (lv_at hl 3 rfl) ?_
              obtain ⟨a304, ea304, h⟩ := v_bnd h
              refine v_gA (ci := 11) hx hb hts iwX10 hown hK 7 ea304 rfl (by decide) (Or.inr ⟨_, kn61 hSS _⟩) (fun _ h9 => h9) dL_state_358 ?_
              refine w_iload hx hb dL_state_361 (lv_at hl 6 rfl) ?_
              obtain ⟨v305, ev305, h⟩ := v_bnd h
              refine v_iald hx hb hK ev305 dL_state_363 ?_
              refine w_goto (tgt := 368) hx hb dL_state_364 (by decide) ?_
              refine v_tight hb0 ?_
              exact L_state_J368_284p x7 x8 x9 r295 v305 z294.2 ls (lv_sub hl [0, 1, 2, 3, 4, 5, 6, 7] rfl) h
          · exact nomatch (v_inr hz294 h)
        · rw [if_neg c293] at h
          refine w_iconst (v := 0) hx hb dL_state_398 (by decide) ?_
          obtain ⟨g9, h⟩ := v_ifs h
          refine v_tight hb0 (vV.widen (n' := 16) (k' := 100) (by omega) (by omega) ?_)
          obtain rfl := Option.some.inj h
          rw [KR _ rfl]
          exact v_zret (x := 0) hx hb hr hlk rfl dL_state_399
      have L_state_J315_284p : ∀ (x7 : Int32) (x8 : Int32) (y0 : Int32) (Mj : vMe) (ls : Array Slot), lv_has ls 10 [(0, .ref x0), (1, .ref x1), (2, .int x2), (3, .ref x3), (5, .int x5), (7, .int x7), (8, .int x8)] → tL_state_J315_284 (tL_state_L284 M.2.1 M.2.2.1 x0 x1 x2 x3 x5 f) M.2.1 M.2.2.1 x0 x1 x2 x3 x5 x7 x8 y0 Mj = some z → vV D p l e rmL_state s m args below meth c (Mj.2.1 - s.heap.size) (Mj.2.2.1 - vSum D.2.2.2.1 s.heap) Q Mj (F0 m 315 ls [.int y0]) := by
        intro x7 x8 y0 Mj ls hl h
        unfold tL_state_J315_284 at h
        refine w_istore (lv' := [(9, .int y0), (0, .ref x0), (1, .ref x1), (2, .int x2), (3, .ref x3), (5, .int x5), (7, .int x7), (8, .int x8)]) hx hb dL_state_315 hl (by decide) rfl (fun ls hl => ?_)
        have hl : lv_has ls 10 [(0, .ref x0), (1, .ref x1), (2, .int x2), (3, .ref x3), (5, .int x5), (7, .int x7), (8, .int x8), (9, .int y0)] := lv_sub hl [1, 2, 3, 4, 5, 6, 7, 0] rfl
        refine w_aload_n hx hb dL_state_317 rfl (lv_at hl 0 rfl) ?_
        refine w_iload_n hx hb dL_state_318 rfl (lv_at hl 2 rfl) ?_
        refine w_iload hx hb dL_state_319 (lv_at hl 5 rfl) ?_
        refine w_iconst (v := 0) hx hb dL_state_321 (by decide) ?_
        obtain ⟨g7, h⟩ := v_ifs h
        refine v_tight hb0 ?_
        obtain ⟨g8, h⟩ := v_ifs h
        obtain ⟨z290, ez290, h⟩ := v_bnd h
        rcases hz290 : z290.1 with r291 | jz290
        · replace h := v_inl hz290 h
          refine v_call1 (v := .int r291) (M1 := z290.2) (mc := 1) (ms := 6) (fun H locs hR hS => va_runV (As := [.int x2, .int x7, .int 0]) (rest := []) ⟨hx, hb, hml, hown, hts⟩ (v_noX (by rw [hz290]; rfl) (by rw [hz290]; rfl) (mX9_event l hfl D x0 x2 x7 0 Mj z290 ez290)) (cwV 3 hts (gdV kw1283 kw1284 kw1285 kw27 kw1286) rfl rfl rfl (by decide +kernel) ⟨Nat.le_of_ble_eq_true rfl, Nat.le_of_ble_eq_true rfl⟩) (v_preV (ci := 10) hSS hR hS g8 (by decide) rfl [.int x2, .int x7, .int 0]) rfl rfl hl.1 rfl (lv_room (Nat.le_of_ble_eq_true rfl)) dL_state_322 ⟨by show _ + _ ≤ 16; omega, by show _ + _ ≤ 100; omega⟩) ?_
          refine w_iload hx hb dL_state_325 (lv_at hl 7 rfl) ?_
          refine w_if_eq (tgt := 340) hx hb dL_state_327 (by decide) (fun c292 => ?_) (fun c292 => ?_)
          · rw [if_pos c292] at h
            refine w_iconst (v := (-1)) hx hb dL_state_340 (by decide) ?_
            refine v_tight hb0 ?_
            exact L_state_J341_284p x7 x8 y0 r291 ((-1)) z290.2 ls (lv_sub hl [0, 1, 2, 3, 4, 5, 6, 7] rfl) h
          · rw [if_neg c292] at h
            refine w_aload_n hx hb dL_state_330 rfl (lv_at hl 3 rfl) ?_
            obtain ⟨a306, ea306, h⟩ := v_bnd h
            refine v_gA (ci := 11) hx hb hts iwX10 hown hK 6 ea306 rfl (by decide) (Or.inr ⟨_, kn60 hSS _⟩) (fun _ h9 => h9) dL_state_331 ?_
            refine w_iload hx hb dL_state_334 (lv_at hl 6 rfl) ?_
            obtain ⟨v307, ev307, h⟩ := v_bnd h
            refine v_iald hx hb hK ev307 dL_state_336 ?_
            refine w_goto (tgt := 341) hx hb dL_state_337 (by decide) ?_
            refine v_tight hb0 ?_
            exact L_state_J341_284p x7 x8 y0 r291 v307 z290.2 ls (lv_sub hl [0, 1, 2, 3, 4, 5, 6, 7] rfl) h
        · exact nomatch (v_inr hz290 h)
      refine w_iload hx hb dL_state_284 (lv_at hl 5 rfl) ?_
      refine w_iload hx hb dL_state_286 (lv_at hl 4 rfl) ?_
      refine w_icmp_gt (tgt := 406) hx hb dL_state_288 (by decide) (fun c287 => ?_) (fun c287 => ?_)
      · rw [if_pos c287] at h
        obtain rfl := Option.some.inj h
        refine v_tight hb0 ?_
        exact KX _ rfl ls (lv_sub hl [0, 1, 2] rfl)
      · rw [if_neg c287] at h
        refine w_aload_n hx hb dL_state_291 rfl (lv_at hl 3 rfl) ?_
        obtain ⟨v288, ev288, h⟩ := v_bnd h
        refine v_gI (ci := 11) hx hb hts iwX10 hown hK 2 ev288 rfl (by decide) (Or.inr ⟨_, kn52 hSS _⟩) (fun _ h9 => h9) dL_state_292 ?_
        refine w_iload hx hb dL_state_295 (lv_at hl 4 rfl) ?_
        refine w_isub hx hb dL_state_297 ?_
        refine w_iload hx hb dL_state_298 (lv_at hl 5 rfl) ?_
        refine w_iadd hx hb dL_state_300 ?_
        refine w_istore (lv' := [(8, .int ((v288 - x5) + x7)), (0, .ref x0), (1, .ref x1), (2, .int x2), (3, .ref x3), (5, .int x5), (7, .int x7)]) hx hb dL_state_301 hl (by decide) rfl (fun ls hl => ?_)
        have hl : lv_has ls 10 [(0, .ref x0), (1, .ref x1), (2, .int x2), (3, .ref x3), (5, .int x5), (7, .int x7), (8, .int ((v288 - x5) + x7))] := lv_sub hl [1, 2, 3, 4, 5, 6, 0] rfl
        refine w_iload hx hb dL_state_303 (lv_at hl 5 rfl) ?_
        refine w_iload hx hb dL_state_305 (lv_at hl 4 rfl) ?_
        refine w_icmp_ge (tgt := 314) hx hb dL_state_307 (by decide) (fun c289 => ?_) (fun c289 => ?_)
        · rw [if_pos c289] at h
          refine w_iconst (v := 0) hx hb dL_state_314 (by decide) ?_
          refine v_tight hb0 ?_
          exact L_state_J315_284p x7 ((v288 - x5) + x7) 0 Mi ls (lv_sub hl [0, 1, 2, 3, 4, 5, 6] rfl) h
        · rw [if_neg c289] at h
          refine w_iconst (v := 1) hx hb dL_state_310 (by decide) ?_
          refine w_goto (tgt := 315) hx hb dL_state_311 (by decide) ?_
          refine v_tight hb0 ?_
          exact L_state_J315_284p x7 ((v288 - x5) + x7) 1 Mi ls (lv_sub hl [0, 1, 2, 3, 4, 5, 6] rfl) h
  have L_state_L2p : ∀ (x0 : Nat) (x1 : Nat), ∀ (f : Nat) (x2 : Int32) (Mi : vMe) (ls : Array Slot) (z : ((Int32 ⊕ Unit) × vMe)), lv_has ls 10 [(0, .ref x0), (1, .ref x1), (2, .int x2)] → tL_state_L2 M.2.1 M.2.2.1 x0 x1 f x2 Mi = some z → (∀ w, z.1 = Sum.inr w → ∀ ls : Array Slot, lv_has ls 10 [(0, .ref x0), (1, .ref x1)] → vV D p l e rmL_state s m args below meth c (z.2.2.1 - s.heap.size) (z.2.2.2.1 - vSum D.2.2.2.1 s.heap) Q z.2 (F0 m 412 ls [])) → (∀ r9, z.1 = Sum.inl r9 → Q = MQ below (qW D (some (.int r9)) z.2) args s 16 100 (vA D)) → vV D p l e rmL_state s m args below meth c (Mi.2.1 - s.heap.size) (Mi.2.2.1 - vSum D.2.2.2.1 s.heap) Q Mi (F0 m 2 ls []) := by
    intro x0 x1 f
    induction f with
    | zero =>
      intro x2 Mi ls z hl h
      exact absurd h (by simp [tL_state_L2])
    | succ f ih =>
      intro x2 Mi ls z hl h KX KR
      rw [tL_state_L2] at h
      refine w_iload_n hx hb dL_state_2 rfl (lv_at hl 2 rfl) ?_
      refine w_aload_n hx hb dL_state_3 rfl (lv_at hl 1 rfl) ?_
      obtain ⟨v157, ev157, h⟩ := v_bnd h
      refine v_gI (ci := 13) hx hb hts iwX12 hown hK 0 ev157 rfl (by decide) (Or.inr ⟨_, kn64 hSS _⟩) (fun _ h9 => h9) dL_state_4 ?_
      refine w_icmp_ge (tgt := 412) hx hb dL_state_7 (by decide) (fun c158 => ?_) (fun c158 => ?_)
      · rw [if_pos c158] at h
        obtain rfl := Option.some.inj h
        refine v_tight hb0 ?_
        exact KX _ rfl ls (lv_sub hl [0, 1] rfl)
      · rw [if_neg c158] at h
        refine w_aload_n hx hb dL_state_10 rfl (lv_at hl 1 rfl) ?_
        obtain ⟨a159, ea159, h⟩ := v_bnd h
        refine v_gA (ci := 13) hx hb hts iwX12 hown hK 6 ea159 rfl (by decide) (Or.inr ⟨_, kn70 hSS _⟩) (fun _ h9 => h9) dL_state_11 ?_
        refine w_iload_n hx hb dL_state_14 rfl (lv_at hl 2 rfl) ?_
        obtain ⟨a160, ea160, h⟩ := v_bnd h
        refine v_aaldA hx hb hK ea160 (by decide) dL_state_15 ?_
        refine w_astore_n (lv' := [(3, .ref a160), (0, .ref x0), (1, .ref x1), (2, .int x2)]) hx hb dL_state_16 rfl hl (by decide) rfl (fun ls hl => ?_)
        have hl : lv_has ls 10 [(0, .ref x0), (1, .ref x1), (2, .int x2), (3, .ref a160)] := lv_sub hl [1, 2, 3, 0] rfl
        refine w_iconst (v := 0) hx hb dL_state_17 (by decide) ?_
        refine w_istore (lv' := [(4, .int 0), (0, .ref x0), (1, .ref x1), (2, .int x2), (3, .ref a160)]) hx hb dL_state_18 hl (by decide) rfl (fun ls hl => ?_)
        have hl : lv_has ls 10 [(0, .ref x0), (1, .ref x1), (2, .int x2), (3, .ref a160), (4, .int 0)] := lv_sub hl [1, 2, 3, 4, 0] rfl
        refine w_iconst (v := 0) hx hb dL_state_20 (by decide) ?_
        refine w_istore (lv' := [(5, .int 0), (0, .ref x0), (1, .ref x1), (2, .int x2), (3, .ref a160), (4, .int 0)]) hx hb dL_state_21 hl (by decide) rfl (fun ls hl => ?_)
        have hl : lv_has ls 10 [(0, .ref x0), (1, .ref x1), (2, .int x2), (3, .ref a160), (4, .int 0), (5, .int 0)] := lv_sub hl [1, 2, 3, 4, 5, 0] rfl
        obtain ⟨z187, ez187, h⟩ := v_bnd h
        refine v_tight hb0 ?_
        refine L_state_L23p x0 x1 x2 a160 vF 0 0 Mi ls z187 (lv_sub hl [0, 1, 2, 3, 4, 5] rfl) ez187 (fun ls hl => ?_)
        refine w_aload_n hx hb dL_state_83 rfl (lv_at hl 3 rfl) ?_
        refine w_aload_n hx hb dL_state_84 rfl (lv_at hl 1 rfl) ?_
        obtain ⟨v188, ev188, h⟩ := v_bnd h
        refine v_gI (ci := 13) hx hb hts iwX12 hown hK 2 ev188 rfl (by decide) (Or.inr ⟨_, kn66 hSS _⟩) (fun _ h9 => h9) dL_state_85 ?_
        obtain ⟨g7, h⟩ := v_ifs h
        refine v_tight hb0 ?_
        obtain ⟨g8, h⟩ := v_ifs h
        obtain ⟨z189, ez189, h⟩ := v_bnd h
        refine v_call1 (v := .int z189) (M1 := z187.2) (mc := 0) (ms := 0) (fun H locs hR hS => va_runV (As := [.int v188]) (rest := []) ⟨hx, hb, hml, hown, hts⟩ (mX10_kept l hfl D a160 v188 z187.2 z189 ez189) (cwV 1 hts (gdV kw1252 kw1253 kw1254 kw36 kw1255) rfl rfl rfl (by decide +kernel) ⟨Nat.le_of_ble_eq_true rfl, Nat.le_of_ble_eq_true rfl⟩) (v_preV (ci := 11) hSS hR hS g8 (by decide) rfl [.int v188]) rfl rfl hl.1 rfl (lv_room (Nat.le_of_ble_eq_true rfl)) dL_state_88 ⟨by show _ + _ ≤ 16; omega, by show _ + _ ≤ 100; omega⟩) ?_
        refine w_istore (lv' := [(5, .int z189), (0, .ref x0), (1, .ref x1), (2, .int x2), (3, .ref a160), (4, .int z187.1)]) hx hb dL_state_91 hl (by decide) rfl (fun ls hl => ?_)
        have hl : lv_has ls 10 [(0, .ref x0), (1, .ref x1), (2, .int x2), (3, .ref a160), (4, .int z187.1), (5, .int z189)] := lv_sub hl [1, 2, 3, 4, 5, 0] rfl
        refine w_iconst (v := 5) hx hb dL_state_93 (by decide) ?_
        obtain ⟨M190, eM190, h⟩ := v_bnd h
        refine u_newa (x := 5) (atype := .int) hx hb hK (hts _ kw163) (by decide) (by decide) rfl (by decide) (by decide) (by decide) hb0 hz0 hs0 rfl rfl eM190 dL_state_94 ?_
        refine w_dup hx hb dL_state_96 rfl ?_
        refine w_iconst (v := 0) hx hb dL_state_97 (by decide) ?_
        refine w_aload_n hx hb dL_state_98 rfl (lv_at hl 3 rfl) ?_
        obtain ⟨v191, ev191, h⟩ := v_bnd h
        refine v_gI (ci := 11) hx hb hts iwX10 hown hK 0 ev191 rfl (by decide) (Or.inr ⟨_, kn49 hSS _⟩) (fun _ h9 => h9) dL_state_99 ?_
        obtain ⟨M192, eM192, h⟩ := v_bnd h
        refine v_iast hx hb hK eM192 dL_state_102 ?_
        refine w_dup hx hb dL_state_103 rfl ?_
        refine w_iconst (v := 1) hx hb dL_state_104 (by decide) ?_
        refine w_aload_n hx hb dL_state_105 rfl (lv_at hl 3 rfl) ?_
        obtain ⟨v193, ev193, h⟩ := v_bnd h
        refine v_gI (ci := 11) hx hb hts iwX10 hown hK 1 ev193 rfl (by decide) (Or.inr ⟨_, kn51 hSS _⟩) (fun _ h9 => h9) dL_state_106 ?_
        obtain ⟨M194, eM194, h⟩ := v_bnd h
        refine v_iast hx hb hK eM194 dL_state_109 ?_
        refine w_dup hx hb dL_state_110 rfl ?_
        refine w_iconst (v := 2) hx hb dL_state_111 (by decide) ?_
        refine w_aload_n hx hb dL_state_112 rfl (lv_at hl 3 rfl) ?_
        refine w_aload_n hx hb dL_state_113 rfl (lv_at hl 1 rfl) ?_
        obtain ⟨v195, ev195, h⟩ := v_bnd h
        refine v_gI (ci := 13) hx hb hts iwX12 hown hK 2 ev195 rfl (by decide) (Or.inr ⟨_, kn66 hSS _⟩) (fun _ h9 => h9) dL_state_114 ?_
        obtain ⟨g7, h⟩ := v_ifs h
        refine v_tight hb0 ?_
        obtain ⟨g8, h⟩ := v_ifs h
        obtain ⟨z196, ez196, h⟩ := v_bnd h
        refine v_call1 (v := .int z196) (M1 := M194) (mc := 0) (ms := 0) (fun H locs hR hS => va_runV (As := [.int v195]) (rest := [.int 2, .ref z187.2.2.1, .ref z187.2.2.1]) ⟨hx, hb, hml, hown, hts⟩ (mX10_first l hfl D a160 v195 M194 z196 ez196) (cwV 1 hts (gdV kw1257 kw1258 kw1259 kw36 kw1260) rfl rfl rfl (by decide +kernel) ⟨Nat.le_of_ble_eq_true rfl, Nat.le_of_ble_eq_true rfl⟩) (v_preV (ci := 11) hSS hR hS g8 (by decide) rfl [.int v195]) rfl rfl hl.1 rfl (lv_room (Nat.le_of_ble_eq_true rfl)) dL_state_117 ⟨by show _ + _ ≤ 16; omega, by show _ + _ ≤ 100; omega⟩) ?_
        obtain ⟨M197, eM197, h⟩ := v_bnd h
        refine v_iast hx hb hK eM197 dL_state_120 ?_
        refine w_dup hx hb dL_state_121 rfl ?_
        refine w_iconst (v := 3) hx hb dL_state_122 (by decide) ?_
        refine w_iload hx hb dL_state_123 (lv_at hl 5 rfl) ?_
        obtain ⟨M198, eM198, h⟩ := v_bnd h
        refine v_iast hx hb hK eM198 dL_state_125 ?_
        refine w_dup hx hb dL_state_126 rfl ?_
        refine w_iconst (v := 4) hx hb dL_state_127 (by decide) ?_
        refine w_iload hx hb dL_state_128 (lv_at hl 4 rfl) ?_
        obtain ⟨M199, eM199, h⟩ := v_bnd h
        refine v_iast hx hb hK eM199 dL_state_130 ?_
        refine w_astore (lv' := [(6, .ref z187.2.2.1), (0, .ref x0), (1, .ref x1), (2, .int x2), (3, .ref a160), (4, .int z187.1), (5, .int z189)]) hx hb dL_state_131 hl (by decide) rfl (fun ls hl => ?_)
        have hl : lv_has ls 10 [(0, .ref x0), (1, .ref x1), (2, .int x2), (3, .ref a160), (4, .int z187.1), (5, .int z189), (6, .ref z187.2.2.1)] := lv_sub hl [1, 2, 3, 4, 5, 6, 0] rfl
        refine w_iconst (v := 0) hx hb dL_state_133 (by decide) ?_
        refine w_istore (lv' := [(7, .int 0), (0, .ref x0), (1, .ref x1), (2, .int x2), (3, .ref a160), (4, .int z187.1), (5, .int z189), (6, .ref z187.2.2.1)]) hx hb dL_state_134 hl (by decide) rfl (fun ls hl => ?_)
        have hl : lv_has ls 10 [(0, .ref x0), (1, .ref x1), (2, .int x2), (3, .ref a160), (4, .int z187.1), (5, .int z189), (6, .ref z187.2.2.1), (7, .int 0)] := lv_sub hl [1, 2, 3, 4, 5, 6, 7, 0] rfl
        obtain ⟨z210, ez210, h⟩ := v_bnd h
        refine v_tight hb0 ?_
        refine L_state_L136p x0 x1 x2 a160 z189 z187.2.2.1 vF 0 M199 ls z210 (lv_sub hl [0, 1, 2, 3, 5, 6, 7] rfl) ez210 (fun w211 qw211 ls hl => ?_) (fun r312 qr312 => ?_)
        · replace h := v_inr qw211 h
          refine w_iconst (v := 0) hx hb dL_state_165 (by decide) ?_
          refine w_istore (lv' := [(7, .int 0), (0, .ref x0), (1, .ref x1), (2, .int x2), (3, .ref a160), (5, .int z189)]) hx hb dL_state_166 hl (by decide) rfl (fun ls hl => ?_)
          have hl : lv_has ls 10 [(0, .ref x0), (1, .ref x1), (2, .int x2), (3, .ref a160), (5, .int z189), (7, .int 0)] := lv_sub hl [1, 2, 3, 4, 5, 0] rfl
          obtain ⟨z264, ez264, h⟩ := v_bnd h
          refine v_tight hb0 ?_
          refine L_state_L168p x0 x1 x2 a160 z189 vF 0 z210.2 ls z264 (lv_sub hl [0, 1, 2, 3, 4, 5] rfl) ez264 (fun w265 qw265 ls hl => ?_) (fun r311 qr311 => ?_)
          · replace h := v_inr qw265 h
            refine w_iconst (v := 0) hx hb dL_state_281 (by decide) ?_
            refine w_istore (lv' := [(7, .int 0), (0, .ref x0), (1, .ref x1), (2, .int x2), (3, .ref a160), (5, .int z189)]) hx hb dL_state_282 hl (by decide) rfl (fun ls hl => ?_)
            have hl : lv_has ls 10 [(0, .ref x0), (1, .ref x1), (2, .int x2), (3, .ref a160), (5, .int z189), (7, .int 0)] := lv_sub hl [1, 2, 3, 4, 5, 0] rfl
            obtain ⟨z308, ez308, h⟩ := v_bnd h
            refine v_tight hb0 ?_
            refine L_state_L284p x0 x1 x2 a160 z189 vF 0 z264.2 ls z308 (lv_sub hl [0, 1, 2, 3, 4, 5] rfl) ez308 (fun w309 qw309 ls hl => ?_) (fun r310 qr310 => ?_)
            · replace h := v_inr qw309 h
              refine w_iinc (v := x2 + 1) (lv' := [(2, .int (x2 + 1)), (0, .ref x0), (1, .ref x1)]) hx hb dL_state_406 hl (j := 2) rfl rfl (by decide) rfl (fun ls hl => ?_)
              have hl : lv_has ls 10 [(0, .ref x0), (1, .ref x1), (2, .int (x2 + 1))] := lv_sub hl [1, 2, 0] rfl
              refine w_goto (tgt := 2) hx hb dL_state_409 (by decide) ?_
              refine v_tight hb0 ?_
              exact ih (x2 + 1) z308.2 ls z (lv_sub hl [0, 1, 2] rfl) h KX KR
            · replace h := v_inl qr310 h
              obtain rfl := Option.some.inj h
              exact KR _ rfl
          · replace h := v_inl qr311 h
            obtain rfl := Option.some.inj h
            exact KR _ rfl
        · replace h := v_inl qr312 h
          obtain rfl := Option.some.inj h
          exact KR _ rfl
  have L_state_L509p : ∀ (x0 : Nat) (x1 : Nat) (x2 : Int32) (x3 : Nat) (x4 : Nat), ∀ (f : Nat) (x5 : Int32) (Mi : vMe) (ls : Array Slot) (z : ((Int32 ⊕ Unit) × vMe)), lv_has ls 10 [(0, .ref x0), (1, .ref x1), (2, .int x2), (3, .ref x3), (4, .ref x4), (5, .int x5)] → tL_state_L509 M.2.1 M.2.2.1 x0 x1 x2 x3 x4 f x5 Mi = some z → (∀ w, z.1 = Sum.inr w → ∀ ls : Array Slot, lv_has ls 10 [(0, .ref x0), (1, .ref x1), (2, .int x2), (3, .ref x3)] → vV D p l e rmL_state s m args below meth c (z.2.2.1 - s.heap.size) (z.2.2.2.1 - vSum D.2.2.2.1 s.heap) Q z.2 (F0 m 539 ls [])) → (∀ r9, z.1 = Sum.inl r9 → Q = MQ below (qW D (some (.int r9)) z.2) args s 16 100 (vA D)) → vV D p l e rmL_state s m args below meth c (Mi.2.1 - s.heap.size) (Mi.2.2.1 - vSum D.2.2.2.1 s.heap) Q Mi (F0 m 509 ls []) := by
    intro x0 x1 x2 x3 x4 f
    induction f with
    | zero =>
      intro x5 Mi ls z hl h
      exact absurd h (by simp [tL_state_L509])
    | succ f ih =>
      intro x5 Mi ls z hl h KX KR
      rw [tL_state_L509] at h
      refine w_iload hx hb dL_state_509 (lv_at hl 5 rfl) ?_
      refine w_bipush (v := 7) hx hb dL_state_511 (by decide) ?_
      refine w_icmp_ge (tgt := 539) hx hb dL_state_513 (by decide) (fun c402 => ?_) (fun c402 => ?_)
      · rw [if_pos c402] at h
        obtain rfl := Option.some.inj h
        refine v_tight hb0 ?_
        exact KX _ rfl ls (lv_sub hl [0, 1, 2, 3] rfl)
      · rw [if_neg c402] at h
        refine w_aload_n hx hb dL_state_516 rfl (lv_at hl 0 rfl) ?_
        refine w_iload_n hx hb dL_state_517 rfl (lv_at hl 2 rfl) ?_
        refine w_iload hx hb dL_state_518 (lv_at hl 5 rfl) ?_
        obtain ⟨g7, h⟩ := v_ifs h
        refine v_tight hb0 ?_
        obtain ⟨g8, h⟩ := v_ifs h
        obtain ⟨z403, ez403, h⟩ := v_bnd h
        rcases hz403 : z403.1 with r404 | jz403
        · replace h := v_inl hz403 h
          refine v_call1 (v := .int r404) (M1 := z403.2) (mc := 1) (ms := 6) (fun H locs hR hS => va_runV (As := [.int x2, .int x5]) (rest := []) ⟨hx, hb, hml, hown, hts⟩ (v_noX (by rw [hz403]; rfl) (by rw [hz403]; rfl) (mX9_cursor l hfl D x0 x2 x5 Mi z403 ez403)) (cwV 2 hts (gdV kw1288 kw1289 kw1290 kw27 kw1291) rfl rfl rfl (by decide +kernel) ⟨Nat.le_of_ble_eq_true rfl, Nat.le_of_ble_eq_true rfl⟩) (v_preV (ci := 10) hSS hR hS g8 (by decide) rfl [.int x2, .int x5]) rfl rfl hl.1 rfl (lv_room (Nat.le_of_ble_eq_true rfl)) dL_state_520 ⟨by show _ + _ ≤ 16; omega, by show _ + _ ≤ 100; omega⟩) ?_
          refine w_aload hx hb dL_state_523 (lv_at hl 4 rfl) ?_
          refine w_iload hx hb dL_state_525 (lv_at hl 5 rfl) ?_
          obtain ⟨v405, ev405, h⟩ := v_bnd h
          refine v_iald hx hb hK ev405 dL_state_527 ?_
          refine w_icmp_eq (tgt := 533) hx hb dL_state_528 (by decide) (fun c406 => ?_) (fun c406 => ?_)
          · rw [if_pos c406] at h
            refine w_iinc (v := x5 + 1) (lv' := [(5, .int (x5 + 1)), (0, .ref x0), (1, .ref x1), (2, .int x2), (3, .ref x3), (4, .ref x4)]) hx hb dL_state_533 hl (j := 5) rfl rfl (by decide) rfl (fun ls hl => ?_)
            have hl : lv_has ls 10 [(0, .ref x0), (1, .ref x1), (2, .int x2), (3, .ref x3), (4, .ref x4), (5, .int (x5 + 1))] := lv_sub hl [1, 2, 3, 4, 5, 0] rfl
            refine w_goto (tgt := 509) hx hb dL_state_536 (by decide) ?_
            refine v_tight hb0 ?_
            exact ih (x5 + 1) z403.2 ls z (lv_sub hl [0, 1, 2, 3, 4, 5] rfl) h KX KR
          · rw [if_neg c406] at h
            refine w_iconst (v := 0) hx hb dL_state_531 (by decide) ?_
            obtain ⟨g9, h⟩ := v_ifs h
            refine v_tight hb0 (vV.widen (n' := 16) (k' := 100) (by omega) (by omega) ?_)
            obtain rfl := Option.some.inj h
            rw [KR _ rfl]
            exact v_zret (x := 0) hx hb hr hlk rfl dL_state_532
        · exact nomatch (v_inr hz403 h)
  have L_state_L548p : ∀ (x0 : Nat) (x1 : Nat) (x2 : Int32) (x3 : Nat), ∀ (f : Nat) (x5 : Int32) (x6 : Int32) (Mi : vMe) (ls : Array Slot) (z : (Int32 × vMe)), lv_has ls 10 [(0, .ref x0), (1, .ref x1), (2, .int x2), (3, .ref x3), (5, .int x5), (6, .int x6)] → tL_state_L548 M.2.1 M.2.2.1 x0 x1 x2 x3 f x5 x6 Mi = some z → (∀ ls : Array Slot, lv_has ls 10 [(0, .ref x0), (1, .ref x1), (2, .int x2), (5, .int z.1)] → vV D p l e rmL_state s m args below meth c (z.2.2.1 - s.heap.size) (z.2.2.2.1 - vSum D.2.2.2.1 s.heap) Q z.2 (F0 m 600 ls [])) → vV D p l e rmL_state s m args below meth c (Mi.2.1 - s.heap.size) (Mi.2.2.1 - vSum D.2.2.2.1 s.heap) Q Mi (F0 m 548 ls []) := by
    intro x0 x1 x2 x3 f
    induction f with
    | zero =>
      intro x5 x6 Mi ls z hl h
      exact absurd h (by simp [tL_state_L548])
    | succ f ih =>
      intro x5 x6 Mi ls z hl h KX
      rw [tL_state_L548] at h
      have L_state_J591_548p : ∀ (x6 : Int32) (y0 : Int32) (y1 : Int32) (Mj : vMe) (ls : Array Slot), lv_has ls 10 [(0, .ref x0), (1, .ref x1), (2, .int x2), (3, .ref x3), (6, .int x6)] → tL_state_J591_548 (tL_state_L548 M.2.1 M.2.2.1 x0 x1 x2 x3 f) M.2.1 M.2.2.1 x0 x1 x2 x3 x6 y0 y1 Mj = some z → vV D p l e rmL_state s m args below meth c (Mj.2.1 - s.heap.size) (Mj.2.2.1 - vSum D.2.2.2.1 s.heap) Q Mj (F0 m 591 ls [.int y1, .int y0]) := by
        intro x6 y0 y1 Mj ls hl h
        unfold tL_state_J591_548 at h
        refine w_iadd hx hb dL_state_591 ?_
        refine w_istore (lv' := [(5, .int (y0 + y1)), (0, .ref x0), (1, .ref x1), (2, .int x2), (3, .ref x3), (6, .int x6)]) hx hb dL_state_592 hl (by decide) rfl (fun ls hl => ?_)
        have hl : lv_has ls 10 [(0, .ref x0), (1, .ref x1), (2, .int x2), (3, .ref x3), (5, .int (y0 + y1)), (6, .int x6)] := lv_sub hl [1, 2, 3, 4, 0, 5] rfl
        refine w_iinc (v := x6 + 1) (lv' := [(6, .int (x6 + 1)), (0, .ref x0), (1, .ref x1), (2, .int x2), (3, .ref x3), (5, .int (y0 + y1))]) hx hb dL_state_594 hl (j := 5) rfl rfl (by decide) rfl (fun ls hl => ?_)
        have hl : lv_has ls 10 [(0, .ref x0), (1, .ref x1), (2, .int x2), (3, .ref x3), (5, .int (y0 + y1)), (6, .int (x6 + 1))] := lv_sub hl [1, 2, 3, 4, 5, 0] rfl
        refine w_goto (tgt := 548) hx hb dL_state_597 (by decide) ?_
        refine v_tight hb0 ?_
        exact ih (y0 + y1) (x6 + 1) Mj ls z (lv_sub hl [0, 1, 2, 3, 4, 5] rfl) h KX
      refine w_aload_n hx hb dL_state_548 rfl (lv_at hl 3 rfl) ?_
      obtain ⟨v420, ev420, h⟩ := v_bnd h
      refine v_gI (ci := 12) hx hb hts iwX11 hown hK 6 ev420 rfl (by decide) (Or.inr ⟨_, kn86 hSS _⟩) (fun _ h9 => h9) dL_state_549 ?_
      refine w_if_eq (tgt := 600) hx hb dL_state_552 (by decide) (fun c421 => ?_) (fun c421 => ?_)
      · rw [if_pos c421] at h
        obtain rfl := Option.some.inj h
        refine v_tight hb0 ?_
        exact KX ls (lv_sub hl [0, 1, 2, 4] rfl)
      · rw [if_neg c421] at h
        refine w_iload hx hb dL_state_555 (lv_at hl 5 rfl) ?_
        refine w_aload_n hx hb dL_state_557 rfl (lv_at hl 3 rfl) ?_
        obtain ⟨a422, ea422, h⟩ := v_bnd h
        refine v_gA (ci := 12) hx hb hts iwX11 hown hK 0 ea422 rfl (by decide) (Or.inr ⟨_, kn76 hSS _⟩) (fun _ h9 => h9) dL_state_558 ?_
        obtain ⟨v423, ev423, h⟩ := v_bnd h
        refine v_gI (ci := 11) hx hb hts iwX10 hown hK 0 ev423 rfl (by decide) (Or.inr ⟨_, kn49 hSS _⟩) (fun _ h9 => h9) dL_state_561 ?_
        refine w_icmp_ge (tgt := 600) hx hb dL_state_564 (by decide) (fun c424 => ?_) (fun c424 => ?_)
        · rw [if_pos c424] at h
          obtain rfl := Option.some.inj h
          refine v_tight hb0 ?_
          exact KX ls (lv_sub hl [0, 1, 2, 4] rfl)
        · rw [if_neg c424] at h
          refine w_iload hx hb dL_state_567 (lv_at hl 4 rfl) ?_
          refine w_aload_n hx hb dL_state_569 rfl (lv_at hl 3 rfl) ?_
          refine w_aload_n hx hb dL_state_570 rfl (lv_at hl 3 rfl) ?_
          obtain ⟨a425, ea425, h⟩ := v_bnd h
          refine v_gA (ci := 12) hx hb hts iwX11 hown hK 0 ea425 rfl (by decide) (Or.inr ⟨_, kn76 hSS _⟩) (fun _ h9 => h9) dL_state_571 ?_
          obtain ⟨a426, ea426, h⟩ := v_bnd h
          refine v_gA (ci := 11) hx hb hts iwX10 hown hK 3 ea426 rfl (by decide) (Or.inr ⟨_, kn54 hSS _⟩) (fun _ h9 => h9) dL_state_574 ?_
          refine w_iload hx hb dL_state_577 (lv_at hl 5 rfl) ?_
          obtain ⟨v427, ev427, h⟩ := v_bnd h
          refine v_iald hx hb hK ev427 dL_state_579 ?_
          obtain ⟨g7, h⟩ := v_ifs h
          refine v_tight hb0 ?_
          obtain ⟨g8, h⟩ := v_ifs h
          obtain ⟨z428, ez428, h⟩ := v_bnd h
          refine v_call1 (v := .int z428) (M1 := Mi) (mc := 0) (ms := 0) (fun H locs hR hS => va_runV (As := [.int v427]) (rest := [.int x5]) ⟨hx, hb, hml, hown, hts⟩ (mX11_meets l hfl D x3 v427 Mi z428 ez428) (cwV 1 hts (gdV kw1292 kw1201 kw1202 kw58 kw1203) rfl rfl rfl (by decide +kernel) ⟨Nat.le_of_ble_eq_true rfl, Nat.le_of_ble_eq_true rfl⟩) (v_preV (ci := 12) hSS hR hS g8 (by decide) rfl [.int v427]) rfl rfl hl.1 rfl (lv_room (Nat.le_of_ble_eq_true rfl)) dL_state_580 ⟨by show _ + _ ≤ 16; omega, by show _ + _ ≤ 100; omega⟩) ?_
          refine w_if_eq (tgt := 590) hx hb dL_state_583 (by decide) (fun c429 => ?_) (fun c429 => ?_)
          · rw [if_pos c429] at h
            refine w_iconst (v := 0) hx hb dL_state_590 (by decide) ?_
            refine v_tight hb0 ?_
            exact L_state_J591_548p x6 x5 0 Mi ls (lv_sub hl [0, 1, 2, 3, 5] rfl) h
          · rw [if_neg c429] at h
            refine w_iconst (v := 1) hx hb dL_state_586 (by decide) ?_
            refine w_goto (tgt := 591) hx hb dL_state_587 (by decide) ?_
            refine v_tight hb0 ?_
            exact L_state_J591_548p x6 x5 1 Mi ls (lv_sub hl [0, 1, 2, 3, 5] rfl) h
  have L_state_L414p : ∀ (x0 : Nat) (x1 : Nat), ∀ (f : Nat) (x2 : Int32) (Mi : vMe) (ls : Array Slot) (z : ((Int32 ⊕ Unit) × vMe)), lv_has ls 10 [(0, .ref x0), (1, .ref x1), (2, .int x2)] → tL_state_L414 M.2.1 M.2.2.1 x0 x1 f x2 Mi = some z → (∀ w, z.1 = Sum.inr w → ∀ ls : Array Slot, lv_has ls 10 [(0, .ref x0), (1, .ref x1)] → vV D p l e rmL_state s m args below meth c (z.2.2.1 - s.heap.size) (z.2.2.2.1 - vSum D.2.2.2.1 s.heap) Q z.2 (F0 m 618 ls [])) → (∀ r9, z.1 = Sum.inl r9 → Q = MQ below (qW D (some (.int r9)) z.2) args s 16 100 (vA D)) → vV D p l e rmL_state s m args below meth c (Mi.2.1 - s.heap.size) (Mi.2.2.1 - vSum D.2.2.2.1 s.heap) Q Mi (F0 m 414 ls []) := by
    intro x0 x1 f
    induction f with
    | zero =>
      intro x2 Mi ls z hl h
      exact absurd h (by simp [tL_state_L414])
    | succ f ih =>
      intro x2 Mi ls z hl h KX KR
      rw [tL_state_L414] at h
      have L_state_J612_414p : ∀ (x2 : Int32) (Mj : vMe) (ls : Array Slot), lv_has ls 10 [(0, .ref x0), (1, .ref x1), (2, .int x2)] → tL_state_J612_414 (tL_state_L414 M.2.1 M.2.2.1 x0 x1 f) M.2.1 M.2.2.1 x0 x1 x2 Mj = some z → vV D p l e rmL_state s m args below meth c (Mj.2.1 - s.heap.size) (Mj.2.2.1 - vSum D.2.2.2.1 s.heap) Q Mj (F0 m 612 ls []) := by
        intro x2 Mj ls hl h
        unfold tL_state_J612_414 at h
        refine w_iinc (v := x2 + 1) (lv' := [(2, .int (x2 + 1)), (0, .ref x0), (1, .ref x1)]) hx hb dL_state_612 hl (j := 2) rfl rfl (by decide) rfl (fun ls hl => ?_)
        have hl : lv_has ls 10 [(0, .ref x0), (1, .ref x1), (2, .int (x2 + 1))] := lv_sub hl [1, 2, 0] rfl
        refine w_goto (tgt := 414) hx hb dL_state_615 (by decide) ?_
        refine v_tight hb0 ?_
        exact ih (x2 + 1) Mj ls z (lv_sub hl [0, 1, 2] rfl) h KX KR
      have L_state_J600_414p : ∀ (x2 : Int32) (x5 : Int32) (Mj : vMe) (ls : Array Slot), lv_has ls 10 [(0, .ref x0), (1, .ref x1), (2, .int x2), (5, .int x5)] → tL_state_J600_414 (tL_state_L414 M.2.1 M.2.2.1 x0 x1 f) M.2.1 M.2.2.1 x0 x1 x2 x5 Mj = some z → vV D p l e rmL_state s m args below meth c (Mj.2.1 - s.heap.size) (Mj.2.2.1 - vSum D.2.2.2.1 s.heap) Q Mj (F0 m 600 ls []) := by
        intro x2 x5 Mj ls hl h
        unfold tL_state_J600_414 at h
        refine w_aload_n hx hb dL_state_600 rfl (lv_at hl 0 rfl) ?_
        refine w_iload_n hx hb dL_state_601 rfl (lv_at hl 2 rfl) ?_
        obtain ⟨g7, h⟩ := v_ifs h
        refine v_tight hb0 ?_
        obtain ⟨g8, h⟩ := v_ifs h
        obtain ⟨z431, ez431, h⟩ := v_bnd h
        rcases hz431 : z431.1 with r432 | jz431
        · replace h := v_inl hz431 h
          refine v_call1 (v := .int r432) (M1 := z431.2) (mc := 1) (ms := 6) (fun H locs hR hS => va_runV (As := [.int x2]) (rest := []) ⟨hx, hb, hml, hown, hts⟩ (v_noX (by rw [hz431]; rfl) (by rw [hz431]; rfl) (mX9_ahead l hfl D x0 x2 Mj z431 ez431)) (cwV 1 hts (gdV kw1293 kw1294 kw1295 kw27 kw1296) rfl rfl rfl (by decide +kernel) ⟨Nat.le_of_ble_eq_true rfl, Nat.le_of_ble_eq_true rfl⟩) (v_preV (ci := 10) hSS hR hS g8 (by decide) rfl [.int x2]) rfl rfl hl.1 rfl (lv_room (Nat.le_of_ble_eq_true rfl)) dL_state_602 ⟨by show _ + _ ≤ 16; omega, by show _ + _ ≤ 100; omega⟩) ?_
          refine w_iload hx hb dL_state_605 (lv_at hl 3 rfl) ?_
          refine w_icmp_eq (tgt := 612) hx hb dL_state_607 (by decide) (fun c433 => ?_) (fun c433 => ?_)
          · rw [if_pos c433] at h
            refine v_tight hb0 ?_
            exact L_state_J612_414p x2 z431.2 ls (lv_sub hl [0, 1, 2] rfl) h
          · rw [if_neg c433] at h
            refine w_iconst (v := 0) hx hb dL_state_610 (by decide) ?_
            obtain ⟨g9, h⟩ := v_ifs h
            refine v_tight hb0 (vV.widen (n' := 16) (k' := 100) (by omega) (by omega) ?_)
            obtain rfl := Option.some.inj h
            rw [KR _ rfl]
            exact v_zret (x := 0) hx hb hr hlk rfl dL_state_611
        · exact nomatch (v_inr hz431 h)
      have L_state_J481_414p : ∀ (x2 : Int32) (x3 : Nat) (y0 : Nat) (y1 : Nat) (y2 : Int32) (y3 : Int32) (Mj : vMe) (ls : Array Slot), lv_has ls 10 [(0, .ref x0), (1, .ref x1), (2, .int x2), (3, .ref x3)] → tL_state_J481_414 (tL_state_L414 M.2.1 M.2.2.1 x0 x1 f) M.2.1 M.2.2.1 x0 x1 x2 x3 y0 y1 y2 y3 Mj = some z → vV D p l e rmL_state s m args below meth c (Mj.2.1 - s.heap.size) (Mj.2.2.1 - vSum D.2.2.2.1 s.heap) Q Mj (F0 m 481 ls [.int y3, .int y2, .ref y1, .ref y0]) := by
        intro x2 x3 y0 y1 y2 y3 Mj ls hl h
        unfold tL_state_J481_414 at h
        obtain ⟨M390, eM390, h⟩ := v_bnd h
        refine v_iast hx hb hK eM390 dL_state_481 ?_
        refine w_dup hx hb dL_state_482 rfl ?_
        refine w_iconst (v := 4) hx hb dL_state_483 (by decide) ?_
        refine w_aload_n hx hb dL_state_484 rfl (lv_at hl 3 rfl) ?_
        obtain ⟨v391, ev391, h⟩ := v_bnd h
        refine v_gI (ci := 12) hx hb hts iwX11 hown hK 3 ev391 rfl (by decide) (Or.inr ⟨_, kn80 hSS _⟩) (fun _ h9 => h9) dL_state_485 ?_
        obtain ⟨M392, eM392, h⟩ := v_bnd h
        refine v_iast hx hb hK eM392 dL_state_488 ?_
        refine w_dup hx hb dL_state_489 rfl ?_
        refine w_iconst (v := 5) hx hb dL_state_490 (by decide) ?_
        refine w_aload_n hx hb dL_state_491 rfl (lv_at hl 3 rfl) ?_
        obtain ⟨v393, ev393, h⟩ := v_bnd h
        refine v_gI (ci := 12) hx hb hts iwX11 hown hK 4 ev393 rfl (by decide) (Or.inr ⟨_, kn82 hSS _⟩) (fun _ h9 => h9) dL_state_492 ?_
        obtain ⟨M394, eM394, h⟩ := v_bnd h
        refine v_iast hx hb hK eM394 dL_state_495 ?_
        refine w_dup hx hb dL_state_496 rfl ?_
        refine w_bipush (v := 6) hx hb dL_state_497 (by decide) ?_
        refine w_aload_n hx hb dL_state_499 rfl (lv_at hl 3 rfl) ?_
        obtain ⟨v395, ev395, h⟩ := v_bnd h
        refine v_gI (ci := 12) hx hb hts iwX11 hown hK 5 ev395 rfl (by decide) (Or.inr ⟨_, kn84 hSS _⟩) (fun _ h9 => h9) dL_state_500 ?_
        obtain ⟨M396, eM396, h⟩ := v_bnd h
        refine v_iast hx hb hK eM396 dL_state_503 ?_
        refine w_astore (lv' := [(4, .ref y0), (0, .ref x0), (1, .ref x1), (2, .int x2), (3, .ref x3)]) hx hb dL_state_504 hl (by decide) rfl (fun ls hl => ?_)
        have hl : lv_has ls 10 [(0, .ref x0), (1, .ref x1), (2, .int x2), (3, .ref x3), (4, .ref y0)] := lv_sub hl [1, 2, 3, 4, 0] rfl
        refine w_iconst (v := 0) hx hb dL_state_506 (by decide) ?_
        refine w_istore (lv' := [(5, .int 0), (0, .ref x0), (1, .ref x1), (2, .int x2), (3, .ref x3), (4, .ref y0)]) hx hb dL_state_507 hl (by decide) rfl (fun ls hl => ?_)
        have hl : lv_has ls 10 [(0, .ref x0), (1, .ref x1), (2, .int x2), (3, .ref x3), (4, .ref y0), (5, .int 0)] := lv_sub hl [1, 2, 3, 4, 5, 0] rfl
        obtain ⟨z407, ez407, h⟩ := v_bnd h
        refine v_tight hb0 ?_
        refine L_state_L509p x0 x1 x2 x3 y0 vF 0 M396 ls z407 (lv_sub hl [0, 1, 2, 3, 4, 5] rfl) ez407 (fun w408 qw408 ls hl => ?_) (fun r434 qr434 => ?_)
        · replace h := v_inr qw408 h
          refine w_iconst (v := 0) hx hb dL_state_539 (by decide) ?_
          refine w_istore (lv' := [(5, .int 0), (0, .ref x0), (1, .ref x1), (2, .int x2), (3, .ref x3)]) hx hb dL_state_540 hl (by decide) rfl (fun ls hl => ?_)
          have hl : lv_has ls 10 [(0, .ref x0), (1, .ref x1), (2, .int x2), (3, .ref x3), (5, .int 0)] := lv_sub hl [1, 2, 3, 4, 0] rfl
          refine w_aload_n hx hb dL_state_542 rfl (lv_at hl 3 rfl) ?_
          obtain ⟨v409, ev409, h⟩ := v_bnd h
          refine v_gI (ci := 12) hx hb hts iwX11 hown hK 2 ev409 rfl (by decide) (Or.inr ⟨_, kn79 hSS _⟩) (fun _ h9 => h9) dL_state_543 ?_
          refine w_istore (lv' := [(6, .int v409), (0, .ref x0), (1, .ref x1), (2, .int x2), (3, .ref x3), (5, .int 0)]) hx hb dL_state_546 hl (by decide) rfl (fun ls hl => ?_)
          have hl : lv_has ls 10 [(0, .ref x0), (1, .ref x1), (2, .int x2), (3, .ref x3), (5, .int 0), (6, .int v409)] := lv_sub hl [1, 2, 3, 4, 5, 0] rfl
          obtain ⟨z430, ez430, h⟩ := v_bnd h
          refine v_tight hb0 ?_
          refine L_state_L548p x0 x1 x2 x3 vF 0 v409 z407.2 ls z430 (lv_sub hl [0, 1, 2, 3, 4, 5] rfl) ez430 (fun ls hl => ?_)
          refine v_tight hb0 ?_
          exact L_state_J600_414p x2 z430.1 z430.2 ls (lv_sub hl [0, 1, 2, 3] rfl) h
        · replace h := v_inl qr434 h
          obtain rfl := Option.some.inj h
          exact KR _ rfl
      have L_state_J466_414p : ∀ (x2 : Int32) (x3 : Nat) (y0 : Nat) (y1 : Nat) (y2 : Int32) (y3 : Int32) (Mj : vMe) (ls : Array Slot), lv_has ls 10 [(0, .ref x0), (1, .ref x1), (2, .int x2), (3, .ref x3)] → tL_state_J466_414 (tL_state_L414 M.2.1 M.2.2.1 x0 x1 f) M.2.1 M.2.2.1 x0 x1 x2 x3 y0 y1 y2 y3 Mj = some z → vV D p l e rmL_state s m args below meth c (Mj.2.1 - s.heap.size) (Mj.2.2.1 - vSum D.2.2.2.1 s.heap) Q Mj (F0 m 466 ls [.int y3, .int y2, .ref y1, .ref y0]) := by
        intro x2 x3 y0 y1 y2 y3 Mj ls hl h
        unfold tL_state_J466_414 at h
        obtain ⟨M387, eM387, h⟩ := v_bnd h
        refine v_iast hx hb hK eM387 dL_state_466 ?_
        refine w_dup hx hb dL_state_467 rfl ?_
        refine w_iconst (v := 3) hx hb dL_state_468 (by decide) ?_
        refine w_aload_n hx hb dL_state_469 rfl (lv_at hl 3 rfl) ?_
        obtain ⟨v388, ev388, h⟩ := v_bnd h
        refine v_gI (ci := 12) hx hb hts iwX11 hown hK 7 ev388 rfl (by decide) (Or.inr ⟨_, kn87 hSS _⟩) (fun _ h9 => h9) dL_state_470 ?_
        refine w_if_eq (tgt := 480) hx hb dL_state_473 (by decide) (fun c389 => ?_) (fun c389 => ?_)
        · rw [if_pos c389] at h
          refine w_iconst (v := 0) hx hb dL_state_480 (by decide) ?_
          refine v_tight hb0 ?_
          exact L_state_J481_414p x2 x3 y0 y0 3 0 M387 ls (lv_sub hl [0, 1, 2, 3] rfl) h
        · rw [if_neg c389] at h
          refine w_iconst (v := 1) hx hb dL_state_476 (by decide) ?_
          refine w_goto (tgt := 481) hx hb dL_state_477 (by decide) ?_
          refine v_tight hb0 ?_
          exact L_state_J481_414p x2 x3 y0 y0 3 1 M387 ls (lv_sub hl [0, 1, 2, 3] rfl) h
      refine w_iload_n hx hb dL_state_414 rfl (lv_at hl 2 rfl) ?_
      refine w_bipush (v := 6) hx hb dL_state_415 (by decide) ?_
      refine w_icmp_ge (tgt := 618) hx hb dL_state_417 (by decide) (fun c375 => ?_) (fun c375 => ?_)
      · rw [if_pos c375] at h
        obtain rfl := Option.some.inj h
        refine v_tight hb0 ?_
        exact KX _ rfl ls (lv_sub hl [0, 1] rfl)
      · rw [if_neg c375] at h
        refine w_aload_n hx hb dL_state_420 rfl (lv_at hl 1 rfl) ?_
        obtain ⟨a376, ea376, h⟩ := v_bnd h
        refine v_gA (ci := 13) hx hb hts iwX12 hown hK 7 ea376 rfl (by decide) (Or.inr ⟨_, kn71 hSS _⟩) (fun _ h9 => h9) dL_state_421 ?_
        refine w_iload_n hx hb dL_state_424 rfl (lv_at hl 2 rfl) ?_
        obtain ⟨a377, ea377, h⟩ := v_bnd h
        refine v_aald hx hb hK ea377 (by decide) dL_state_425 ?_
        refine w_astoreq_n (lv' := [(3, va_rf a377), (0, .ref x0), (1, .ref x1), (2, .int x2)]) hx hb dL_state_426 rfl hl (by decide) rfl (fun ls hl => ?_)
        have hl : lv_has ls 10 [(0, .ref x0), (1, .ref x1), (2, .int x2), (3, va_rf a377)] := lv_sub hl [1, 2, 3, 0] rfl
        refine w_aloadq_n hx hb dL_state_427 rfl (lv_at hl 3 rfl) ?_
        refine w_ifnonnull (tgt := 434) hx hb dL_state_428 (by decide) (fun c378 => ?_) (fun c378 => ?_)
        · rw [if_pos c378] at h
          refine w_goto (tgt := 612) hx hb dL_state_431 (by decide) ?_
          refine v_tight hb0 ?_
          exact L_state_J612_414p x2 Mi ls (lv_sub hl [0, 1, 2] rfl) h
        · rw [if_neg c378] at h
          obtain ⟨a379, ea379, hq⟩ := v_bnd h
          clear h
          subst ea379
          have h := hq
          clear hq
          refine w_bipush (v := 7) hx hb dL_state_434 (by decide) ?_
          obtain ⟨M380, eM380, h⟩ := v_bnd h
          refine u_newa (x := 7) (atype := .int) hx hb hK (hts _ kw163) (by decide) (by decide) rfl (by decide) (by decide) (by decide) hb0 hz0 hs0 rfl rfl eM380 dL_state_436 ?_
          refine w_dup hx hb dL_state_438 rfl ?_
          refine w_iconst (v := 0) hx hb dL_state_439 (by decide) ?_
          refine w_aload_n hx hb dL_state_440 rfl (lv_at hl 3 rfl) ?_
          obtain ⟨v381, ev381, h⟩ := v_bnd h
          refine v_gI (ci := 12) hx hb hts iwX11 hown hK 1 ev381 rfl (by decide) (Or.inr ⟨_, kn77 hSS _⟩) (fun _ h9 => h9) dL_state_441 ?_
          obtain ⟨M382, eM382, h⟩ := v_bnd h
          refine v_iast hx hb hK eM382 dL_state_444 ?_
          refine w_dup hx hb dL_state_445 rfl ?_
          refine w_iconst (v := 1) hx hb dL_state_446 (by decide) ?_
          refine w_aload_n hx hb dL_state_447 rfl (lv_at hl 3 rfl) ?_
          obtain ⟨v383, ev383, h⟩ := v_bnd h
          refine v_gI (ci := 12) hx hb hts iwX11 hown hK 2 ev383 rfl (by decide) (Or.inr ⟨_, kn79 hSS _⟩) (fun _ h9 => h9) dL_state_448 ?_
          obtain ⟨M384, eM384, h⟩ := v_bnd h
          refine v_iast hx hb hK eM384 dL_state_451 ?_
          refine w_dup hx hb dL_state_452 rfl ?_
          refine w_iconst (v := 2) hx hb dL_state_453 (by decide) ?_
          refine w_aload_n hx hb dL_state_454 rfl (lv_at hl 3 rfl) ?_
          obtain ⟨v385, ev385, h⟩ := v_bnd h
          refine v_gI (ci := 12) hx hb hts iwX11 hown hK 6 ev385 rfl (by decide) (Or.inr ⟨_, kn86 hSS _⟩) (fun _ h9 => h9) dL_state_455 ?_
          refine w_if_eq (tgt := 465) hx hb dL_state_458 (by decide) (fun c386 => ?_) (fun c386 => ?_)
          · rw [if_pos c386] at h
            refine w_iconst (v := 0) hx hb dL_state_465 (by decide) ?_
            refine v_tight hb0 ?_
            exact L_state_J466_414p x2 a379 Mi.2.1 Mi.2.1 2 0 M384 ls (lv_sub hl [0, 1, 2, 3] rfl) h
          · rw [if_neg c386] at h
            refine w_iconst (v := 1) hx hb dL_state_461 (by decide) ?_
            refine w_goto (tgt := 466) hx hb dL_state_462 (by decide) ?_
            refine v_tight hb0 ?_
            exact L_state_J466_414p x2 a379 Mi.2.1 Mi.2.1 2 1 M384 ls (lv_sub hl [0, 1, 2, 3] rfl) h
  have L_state_L675p : ∀ (x0 : Nat) (x1 : Nat) (x2 : Nat), ∀ (f : Nat) (x3 : Int32) (Mi : vMe) (ls : Array Slot) (z : ((Int32 ⊕ Unit) × vMe)), lv_has ls 10 [(0, .ref x0), (1, .ref x1), (2, .ref x2), (3, .int x3)] → tL_state_L675 M.2.1 M.2.2.1 x0 x1 x2 f x3 Mi = some z → (∀ w, z.1 = Sum.inr w → ∀ ls : Array Slot, lv_has ls 10 [(0, .ref x0), (1, .ref x1)] → vV D p l e rmL_state s m args below meth c (z.2.2.1 - s.heap.size) (z.2.2.2.1 - vSum D.2.2.2.1 s.heap) Q z.2 (F0 m 700 ls [])) → (∀ r9, z.1 = Sum.inl r9 → Q = MQ below (qW D (some (.int r9)) z.2) args s 16 100 (vA D)) → vV D p l e rmL_state s m args below meth c (Mi.2.1 - s.heap.size) (Mi.2.2.1 - vSum D.2.2.2.1 s.heap) Q Mi (F0 m 675 ls []) := by
    intro x0 x1 x2 f
    induction f with
    | zero =>
      intro x3 Mi ls z hl h
      exact absurd h (by simp [tL_state_L675])
    | succ f ih =>
      intro x3 Mi ls z hl h KX KR
      rw [tL_state_L675] at h
      refine w_iload_n hx hb dL_state_675 rfl (lv_at hl 3 rfl) ?_
      refine w_bipush (v := 7) hx hb dL_state_676 (by decide) ?_
      refine w_icmp_ge (tgt := 700) hx hb dL_state_678 (by decide) (fun c457 => ?_) (fun c457 => ?_)
      · rw [if_pos c457] at h
        obtain rfl := Option.some.inj h
        refine v_tight hb0 ?_
        exact KX _ rfl ls (lv_sub hl [0, 1] rfl)
      · rw [if_neg c457] at h
        refine w_aload_n hx hb dL_state_681 rfl (lv_at hl 0 rfl) ?_
        refine w_iload_n hx hb dL_state_682 rfl (lv_at hl 3 rfl) ?_
        obtain ⟨g7, h⟩ := v_ifs h
        refine v_tight hb0 ?_
        obtain ⟨g8, h⟩ := v_ifs h
        obtain ⟨z458, ez458, h⟩ := v_bnd h
        rcases hz458 : z458.1 with r459 | jz458
        · replace h := v_inl hz458 h
          refine v_call1 (v := .int r459) (M1 := z458.2) (mc := 1) (ms := 6) (fun H locs hR hS => va_runV (As := [.int x3]) (rest := []) ⟨hx, hb, hml, hown, hts⟩ (v_noX (by rw [hz458]; rfl) (by rw [hz458]; rfl) (mX9_size l hfl D x0 x3 Mi z458 ez458)) (cwV 1 hts (gdV kw1301 kw1302 kw1303 kw27 kw1304) rfl rfl rfl (by decide +kernel) ⟨Nat.le_of_ble_eq_true rfl, Nat.le_of_ble_eq_true rfl⟩) (v_preV (ci := 10) hSS hR hS g8 (by decide) rfl [.int x3]) rfl rfl hl.1 rfl (lv_room (Nat.le_of_ble_eq_true rfl)) dL_state_683 ⟨by show _ + _ ≤ 16; omega, by show _ + _ ≤ 100; omega⟩) ?_
          refine w_aload_n hx hb dL_state_686 rfl (lv_at hl 2 rfl) ?_
          refine w_iload_n hx hb dL_state_687 rfl (lv_at hl 3 rfl) ?_
          obtain ⟨v460, ev460, h⟩ := v_bnd h
          refine v_iald hx hb hK ev460 dL_state_688 ?_
          refine w_icmp_eq (tgt := 694) hx hb dL_state_689 (by decide) (fun c461 => ?_) (fun c461 => ?_)
          · rw [if_pos c461] at h
            refine w_iinc (v := x3 + 1) (lv' := [(3, .int (x3 + 1)), (0, .ref x0), (1, .ref x1), (2, .ref x2)]) hx hb dL_state_694 hl (j := 3) rfl rfl (by decide) rfl (fun ls hl => ?_)
            have hl : lv_has ls 10 [(0, .ref x0), (1, .ref x1), (2, .ref x2), (3, .int (x3 + 1))] := lv_sub hl [1, 2, 3, 0] rfl
            refine w_goto (tgt := 675) hx hb dL_state_697 (by decide) ?_
            refine v_tight hb0 ?_
            exact ih (x3 + 1) z458.2 ls z (lv_sub hl [0, 1, 2, 3] rfl) h KX KR
          · rw [if_neg c461] at h
            refine w_iconst (v := 0) hx hb dL_state_692 (by decide) ?_
            obtain ⟨g9, h⟩ := v_ifs h
            refine v_tight hb0 (vV.widen (n' := 16) (k' := 100) (by omega) (by omega) ?_)
            obtain rfl := Option.some.inj h
            rw [KR _ rfl]
            exact v_zret (x := 0) hx hb hr hlk rfl dL_state_693
        · exact nomatch (v_inr hz458 h)
  have L_state_L702p : ∀ (x0 : Nat) (x1 : Nat), ∀ (f : Nat) (x3 : Int32) (Mi : vMe) (ls : Array Slot) (z : ((Int32 ⊕ Unit) × vMe)), lv_has ls 10 [(0, .ref x0), (1, .ref x1), (3, .int x3)] → tL_state_L702 M.2.1 M.2.2.1 x0 x1 f x3 Mi = some z → (∀ w, z.1 = Sum.inr w → ∀ ls : Array Slot, lv_has ls 10 [] → vV D p l e rmL_state s m args below meth c (z.2.2.1 - s.heap.size) (z.2.2.2.1 - vSum D.2.2.2.1 s.heap) Q z.2 (F0 m 742 ls [])) → (∀ r9, z.1 = Sum.inl r9 → Q = MQ below (qW D (some (.int r9)) z.2) args s 16 100 (vA D)) → vV D p l e rmL_state s m args below meth c (Mi.2.1 - s.heap.size) (Mi.2.2.1 - vSum D.2.2.2.1 s.heap) Q Mi (F0 m 702 ls []) := by
    intro x0 x1 f
    induction f with
    | zero =>
      intro x3 Mi ls z hl h
      exact absurd h (by simp [tL_state_L702])
    | succ f ih =>
      intro x3 Mi ls z hl h KX KR
      rw [tL_state_L702] at h
      have L_state_J731_702p : ∀ (x3 : Int32) (y0 : Int32) (y1 : Int32) (Mj : vMe) (ls : Array Slot), lv_has ls 10 [(0, .ref x0), (1, .ref x1), (3, .int x3)] → tL_state_J731_702 (tL_state_L702 M.2.1 M.2.2.1 x0 x1 f) M.2.1 M.2.2.1 x0 x1 x3 y0 y1 Mj = some z → vV D p l e rmL_state s m args below meth c (Mj.2.1 - s.heap.size) (Mj.2.2.1 - vSum D.2.2.2.1 s.heap) Q Mj (F0 m 731 ls [.int y1, .int y0]) := by
        intro x3 y0 y1 Mj ls hl h
        unfold tL_state_J731_702 at h
        refine w_icmp_eq (tgt := 736) hx hb dL_state_731 (by decide) (fun c475 => ?_) (fun c475 => ?_)
        · rw [if_pos c475] at h
          refine w_iinc (v := x3 + 1) (lv' := [(3, .int (x3 + 1)), (0, .ref x0), (1, .ref x1)]) hx hb dL_state_736 hl (j := 2) rfl rfl (by decide) rfl (fun ls hl => ?_)
          have hl : lv_has ls 10 [(0, .ref x0), (1, .ref x1), (3, .int (x3 + 1))] := lv_sub hl [1, 2, 0] rfl
          refine w_goto (tgt := 702) hx hb dL_state_739 (by decide) ?_
          refine v_tight hb0 ?_
          exact ih (x3 + 1) Mj ls z (lv_sub hl [0, 1, 2] rfl) h KX KR
        · rw [if_neg c475] at h
          refine w_iconst (v := 0) hx hb dL_state_734 (by decide) ?_
          obtain ⟨g9, h⟩ := v_ifs h
          refine v_tight hb0 (vV.widen (n' := 16) (k' := 100) (by omega) (by omega) ?_)
          obtain rfl := Option.some.inj h
          rw [KR _ rfl]
          exact v_zret (x := 0) hx hb hr hlk rfl dL_state_735
      refine w_iload_n hx hb dL_state_702 rfl (lv_at hl 2 rfl) ?_
      refine w_bipush (v := 9) hx hb dL_state_703 (by decide) ?_
      refine w_icmp_ge (tgt := 742) hx hb dL_state_705 (by decide) (fun c471 => ?_) (fun c471 => ?_)
      · rw [if_pos c471] at h
        obtain rfl := Option.some.inj h
        refine v_tight hb0 ?_
        exact KX _ rfl ls (lv_sub hl [] rfl)
      · rw [if_neg c471] at h
        refine w_aload_n hx hb dL_state_708 rfl (lv_at hl 0 rfl) ?_
        refine w_iload_n hx hb dL_state_709 rfl (lv_at hl 2 rfl) ?_
        obtain ⟨g7, h⟩ := v_ifs h
        refine v_tight hb0 ?_
        obtain ⟨g8, h⟩ := v_ifs h
        obtain ⟨z472, ez472, h⟩ := v_bnd h
        refine v_call1 (v := .int z472) (M1 := Mi) (mc := 0) (ms := 0) (fun H locs hR hS => va_runV (As := [.int x3]) (rest := []) ⟨hx, hb, hml, hown, hts⟩ (mX9_marked l hfl D x0 x3 Mi z472 ez472) (cwV 1 hts (gdV kw1309 kw1310 kw1311 kw27 kw1312) rfl rfl rfl (by decide +kernel) ⟨Nat.le_of_ble_eq_true rfl, Nat.le_of_ble_eq_true rfl⟩) (v_preV (ci := 10) hSS hR hS g8 (by decide) rfl [.int x3]) rfl rfl hl.1 rfl (lv_room (Nat.le_of_ble_eq_true rfl)) dL_state_710 ⟨by show _ + _ ≤ 16; omega, by show _ + _ ≤ 100; omega⟩) ?_
        refine w_iload_n hx hb dL_state_713 rfl (lv_at hl 2 rfl) ?_
        refine w_aload_n hx hb dL_state_714 rfl (lv_at hl 1 rfl) ?_
        obtain ⟨v473, ev473, h⟩ := v_bnd h
        refine v_gI (ci := 13) hx hb hts iwX12 hown hK 5 ev473 rfl (by decide) (Or.inr ⟨_, kn69 hSS _⟩) (fun _ h9 => h9) dL_state_715 ?_
        refine w_icmp_ge (tgt := 730) hx hb dL_state_718 (by decide) (fun c474 => ?_) (fun c474 => ?_)
        · rw [if_pos c474] at h
          refine w_iconst (v := (-1)) hx hb dL_state_730 (by decide) ?_
          refine v_tight hb0 ?_
          exact L_state_J731_702p x3 z472 ((-1)) Mi ls (lv_sub hl [0, 1, 2] rfl) h
        · rw [if_neg c474] at h
          refine w_aload_n hx hb dL_state_721 rfl (lv_at hl 1 rfl) ?_
          obtain ⟨a476, ea476, h⟩ := v_bnd h
          refine v_gA (ci := 13) hx hb hts iwX12 hown hK 8 ea476 rfl (by decide) (Or.inr ⟨_, kn72 hSS _⟩) (fun _ h9 => h9) dL_state_722 ?_
          refine w_iload_n hx hb dL_state_725 rfl (lv_at hl 2 rfl) ?_
          obtain ⟨v477, ev477, h⟩ := v_bnd h
          refine v_iald hx hb hK ev477 dL_state_726 ?_
          refine w_goto (tgt := 731) hx hb dL_state_727 (by decide) ?_
          refine v_tight hb0 ?_
          exact L_state_J731_702p x3 z472 v477 Mi ls (lv_sub hl [0, 1, 2] rfl) h
  refine w_iconst (v := 0) hx hb dL_state_0 (by decide) ?_
  refine w_istore_n (lv' := [(2, .int 0), (0, .ref x0), (1, .ref x1)]) hx hb dL_state_1 rfl hl (by decide) rfl (fun ls hl => ?_)
  have hl : lv_has ls 10 [(0, .ref x0), (1, .ref x1), (2, .int 0)] := lv_sub hl [1, 2, 0] rfl
  obtain ⟨z313, ez313, h⟩ := v_bnd h
  refine v_tight hb0 ?_
  refine L_state_L2p x0 x1 vF 0 M ls z313 (lv_sub hl [0, 1, 2] rfl) ez313 (fun w314 qw314 ls hl => ?_) (fun r483 qr483 => ?_)
  · replace h := v_inr qw314 h
    refine w_iconst (v := 0) hx hb dL_state_412 (by decide) ?_
    refine w_istore_n (lv' := [(2, .int 0), (0, .ref x0), (1, .ref x1)]) hx hb dL_state_413 rfl hl (by decide) rfl (fun ls hl => ?_)
    have hl : lv_has ls 10 [(0, .ref x0), (1, .ref x1), (2, .int 0)] := lv_sub hl [1, 2, 0] rfl
    obtain ⟨z435, ez435, h⟩ := v_bnd h
    refine v_tight hb0 ?_
    refine L_state_L414p x0 x1 vF 0 z313.2 ls z435 (lv_sub hl [0, 1, 2] rfl) ez435 (fun w436 qw436 ls hl => ?_) (fun r482 qr482 => ?_)
    · replace h := v_inr qw436 h
      refine w_bipush (v := 7) hx hb dL_state_618 (by decide) ?_
      obtain ⟨M437, eM437, h⟩ := v_bnd h
      refine u_newa (x := 7) (atype := .int) hx hb hK (hts _ kw163) (by decide) (by decide) rfl (by decide) (by decide) (by decide) hb0 hz0 hs0 rfl rfl eM437 dL_state_620 ?_
      refine w_dup hx hb dL_state_622 rfl ?_
      refine w_iconst (v := 0) hx hb dL_state_623 (by decide) ?_
      refine w_aload_n hx hb dL_state_624 rfl (lv_at hl 1 rfl) ?_
      obtain ⟨v438, ev438, h⟩ := v_bnd h
      refine v_gI (ci := 13) hx hb hts iwX12 hown hK 0 ev438 rfl (by decide) (Or.inr ⟨_, kn64 hSS _⟩) (fun _ h9 => h9) dL_state_625 ?_
      obtain ⟨M439, eM439, h⟩ := v_bnd h
      refine v_iast hx hb hK eM439 dL_state_628 ?_
      refine w_dup hx hb dL_state_629 rfl ?_
      refine w_iconst (v := 1) hx hb dL_state_630 (by decide) ?_
      refine w_aload_n hx hb dL_state_631 rfl (lv_at hl 1 rfl) ?_
      obtain ⟨v440, ev440, h⟩ := v_bnd h
      refine v_gI (ci := 13) hx hb hts iwX12 hown hK 1 ev440 rfl (by decide) (Or.inr ⟨_, kn65 hSS _⟩) (fun _ h9 => h9) dL_state_632 ?_
      obtain ⟨M441, eM441, h⟩ := v_bnd h
      refine v_iast hx hb hK eM441 dL_state_635 ?_
      refine w_dup hx hb dL_state_636 rfl ?_
      refine w_iconst (v := 2) hx hb dL_state_637 (by decide) ?_
      refine w_aload_n hx hb dL_state_638 rfl (lv_at hl 1 rfl) ?_
      obtain ⟨v442, ev442, h⟩ := v_bnd h
      refine v_gI (ci := 13) hx hb hts iwX12 hown hK 2 ev442 rfl (by decide) (Or.inr ⟨_, kn66 hSS _⟩) (fun _ h9 => h9) dL_state_639 ?_
      obtain ⟨M443, eM443, h⟩ := v_bnd h
      refine v_iast hx hb hK eM443 dL_state_642 ?_
      refine w_dup hx hb dL_state_643 rfl ?_
      refine w_iconst (v := 3) hx hb dL_state_644 (by decide) ?_
      refine w_aload_n hx hb dL_state_645 rfl (lv_at hl 1 rfl) ?_
      obtain ⟨v444, ev444, h⟩ := v_bnd h
      refine v_gI (ci := 13) hx hb hts iwX12 hown hK 3 ev444 rfl (by decide) (Or.inr ⟨_, kn67 hSS _⟩) (fun _ h9 => h9) dL_state_646 ?_
      obtain ⟨M445, eM445, h⟩ := v_bnd h
      refine v_iast hx hb hK eM445 dL_state_649 ?_
      refine w_dup hx hb dL_state_650 rfl ?_
      refine w_iconst (v := 4) hx hb dL_state_651 (by decide) ?_
      refine w_aload_n hx hb dL_state_652 rfl (lv_at hl 1 rfl) ?_
      obtain ⟨v446, ev446, h⟩ := v_bnd h
      refine v_gI (ci := 13) hx hb hts iwX12 hown hK 5 ev446 rfl (by decide) (Or.inr ⟨_, kn69 hSS _⟩) (fun _ h9 => h9) dL_state_653 ?_
      obtain ⟨M447, eM447, h⟩ := v_bnd h
      refine v_iast hx hb hK eM447 dL_state_656 ?_
      refine w_dup hx hb dL_state_657 rfl ?_
      refine w_iconst (v := 5) hx hb dL_state_658 (by decide) ?_
      refine w_aload_n hx hb dL_state_659 rfl (lv_at hl 1 rfl) ?_
      obtain ⟨g7, h⟩ := v_ifs h
      refine v_tight hb0 ?_
      obtain ⟨g8, h⟩ := v_ifs h
      obtain ⟨z448, ez448, h⟩ := v_bnd h
      refine v_call1 (v := .int z448) (M1 := M447) (mc := 0) (ms := 0) (fun H locs hR hS => va_runV (As := []) (rest := [.int 5, .ref z435.2.2.1, .ref z435.2.2.1]) ⟨hx, hb, hml, hown, hts⟩ (mX12_cursors l hfl D x1 M447 z448 ez448) (cwV 0 hts (gdV kw1113 kw1114 kw1115 kw35 kw1116) rfl rfl rfl (by decide +kernel) ⟨Nat.le_of_ble_eq_true rfl, Nat.le_of_ble_eq_true rfl⟩) (v_preV (ci := 13) hSS hR hS g8 (by decide) rfl []) rfl rfl hl.1 rfl (lv_room (Nat.le_of_ble_eq_true rfl)) dL_state_660 ⟨by show _ + _ ≤ 16; omega, by show _ + _ ≤ 100; omega⟩) ?_
      obtain ⟨M449, eM449, h⟩ := v_bnd h
      refine v_iast hx hb hK eM449 dL_state_663 ?_
      refine w_dup hx hb dL_state_664 rfl ?_
      refine w_bipush (v := 6) hx hb dL_state_665 (by decide) ?_
      refine w_aload_n hx hb dL_state_667 rfl (lv_at hl 1 rfl) ?_
      obtain ⟨v450, ev450, h⟩ := v_bnd h
      refine v_gI (ci := 13) hx hb hts iwX12 hown hK 4 ev450 rfl (by decide) (Or.inr ⟨_, kn68 hSS _⟩) (fun _ h9 => h9) dL_state_668 ?_
      obtain ⟨M451, eM451, h⟩ := v_bnd h
      refine v_iast hx hb hK eM451 dL_state_671 ?_
      refine w_astore_n (lv' := [(2, .ref z435.2.2.1), (0, .ref x0), (1, .ref x1)]) hx hb dL_state_672 rfl hl (by decide) rfl (fun ls hl => ?_)
      have hl : lv_has ls 10 [(0, .ref x0), (1, .ref x1), (2, .ref z435.2.2.1)] := lv_sub hl [1, 2, 0] rfl
      refine w_iconst (v := 0) hx hb dL_state_673 (by decide) ?_
      refine w_istore_n (lv' := [(3, .int 0), (0, .ref x0), (1, .ref x1), (2, .ref z435.2.2.1)]) hx hb dL_state_674 rfl hl (by decide) rfl (fun ls hl => ?_)
      have hl : lv_has ls 10 [(0, .ref x0), (1, .ref x1), (2, .ref z435.2.2.1), (3, .int 0)] := lv_sub hl [1, 2, 3, 0] rfl
      obtain ⟨z462, ez462, h⟩ := v_bnd h
      refine v_tight hb0 ?_
      refine L_state_L675p x0 x1 z435.2.2.1 vF 0 M451 ls z462 (lv_sub hl [0, 1, 2, 3] rfl) ez462 (fun w463 qw463 ls hl => ?_) (fun r481 qr481 => ?_)
      · replace h := v_inr qw463 h
        refine w_iconst (v := 0) hx hb dL_state_700 (by decide) ?_
        refine w_istore_n (lv' := [(3, .int 0), (0, .ref x0), (1, .ref x1)]) hx hb dL_state_701 rfl hl (by decide) rfl (fun ls hl => ?_)
        have hl : lv_has ls 10 [(0, .ref x0), (1, .ref x1), (3, .int 0)] := lv_sub hl [1, 2, 0] rfl
        obtain ⟨z478, ez478, h⟩ := v_bnd h
        refine v_tight hb0 ?_
        refine L_state_L702p x0 x1 vF 0 z462.2 ls z478 (lv_sub hl [0, 1, 2] rfl) ez478 (fun w479 qw479 ls hl => ?_) (fun r480 qr480 => ?_)
        · replace h := v_inr qw479 h
          refine w_iconst (v := 1) hx hb dL_state_742 (by decide) ?_
          obtain ⟨g9, h⟩ := v_ifs h
          refine v_tight hb0 (vV.widen (n' := 16) (k' := 100) (by omega) (by omega) ?_)
          obtain rfl := Option.some.inj h
          rw [hQ]
          exact v_zret (x := 1) hx hb hr hlk rfl dL_state_743
        · replace h := v_inl qr480 h
          obtain rfl := Option.some.inj h
          exact hQ
      · replace h := v_inl qr481 h
        obtain rfl := Option.some.inj h
        exact hQ
    · replace h := v_inl qr482 h
      obtain rfl := Option.some.inj h
      exact hQ
  · replace h := v_inl qr483 h
    obtain rfl := Option.some.inj h
    exact hQ

def tL_asks_J234_185 (rec : Int32 → Int32 → vMe → Option (Int32 × vMe)) (n0 s0 : Nat) (x0 : Nat) (x1 : Nat) (x2 : Nat) (x3 : Int32) (x4 : Int32) (x5 : Nat) (x9 : Int32) (x10 : Int32) (Mj : vMe) : Option (Int32 × vMe) :=
  rec x9 (x10 + 1) Mj
def tL_asks_L185 (n0 s0 : Nat) (x0 : Nat) (x1 : Nat) (x2 : Nat) (x3 : Int32) (x4 : Int32) (x5 : Nat) : Nat → Int32 → Int32 → vMe → Option (Int32 × vMe)
  | 0, _, _, _ => none
  | f + 1, x9, x10, Mi =>
  (gI Mi x5 12 2).bind fun v43 =>
  if v43 ≤ x10 then
  (some (x9, Mi))
else
  ((gA Mi x5 12 6).bind fun a45 =>
  (aI Mi a45 101 x10).bind fun v46 =>
  if Mi.2.1 + 0 ≤ n0 + 1 ∧ Mi.2.2.1 + 0 ≤ s0 + 6 then
  (if (Mi.1 x5).1 = 12 then
  ((tX10_at x5 v46 Mi).bind fun z47 =>
  if Mi.2.1 + 0 ≤ n0 + 1 ∧ Mi.2.2.1 + 0 ≤ s0 + 6 then
  ((tJ13_bitCount_95d88 z47 Mi).bind fun z48 =>
  if Mi.2.1 + 0 ≤ n0 + 1 ∧ Mi.2.2.1 + 0 ≤ s0 + 6 then
  (if (Mi.1 x5).1 = 12 then
  ((tX10_at x5 x9 Mi).bind fun z49 =>
  if Mi.2.1 + 0 ≤ n0 + 1 ∧ Mi.2.2.1 + 0 ≤ s0 + 6 then
  ((tJ13_bitCount_95d88 z49 Mi).bind fun z50 =>
  if z48 ≤ z50 then
  (tL_asks_J234_185 (tL_asks_L185 n0 s0 x0 x1 x2 x3 x4 x5 f) n0 s0 x0 x1 x2 x3 x4 x5 x9 x10 Mi)
else
  ((gA Mi x5 12 6).bind fun a52 =>
  (aI Mi a52 101 x10).bind fun v53 =>
  tL_asks_J234_185 (tL_asks_L185 n0 s0 x0 x1 x2 x3 x4 x5 f) n0 s0 x0 x1 x2 x3 x4 x5 v53 x10 Mi))
else none)
else none)
else none)
else none)
else none)
else none)
def tL_asks_J340_291 (rec : Int32 → Int32 → vMe → Option (Int32 × vMe)) (n0 s0 : Nat) (x0 : Nat) (x1 : Nat) (x2 : Nat) (x3 : Int32) (x4 : Int32) (x5 : Nat) (x10 : Int32) (x11 : Int32) (x12 : Int32) (x13 : Int32) (Mj : vMe) : Option (Int32 × vMe) :=
  rec x12 (x13 + 1) Mj
def tL_asks_L291 (n0 s0 : Nat) (x0 : Nat) (x1 : Nat) (x2 : Nat) (x3 : Int32) (x4 : Int32) (x5 : Nat) (x10 : Int32) (x11 : Int32) : Nat → Int32 → Int32 → vMe → Option (Int32 × vMe)
  | 0, _, _, _ => none
  | f + 1, x12, x13, Mi =>
  (gI Mi x5 12 2).bind fun v101 =>
  if v101 ≤ x13 then
  (some (x12, Mi))
else
  ((gA Mi x5 12 9).bind fun a103 =>
  (aJ Mi a103 104 x13).bind fun v104 =>
  (gA Mi x5 12 9).bind fun a105 =>
  (aJ Mi a105 104 (x13 + 1)).bind fun v106 =>
  if (lg_cmp (((v104 ^^^ v106) >>> (x11.toInt64 &&& 63)) &&& 1) 1) = 0 then
  ((gA Mi x5 12 6).bind fun a108 =>
  (aI Mi a108 101 x13).bind fun v109 =>
  tL_asks_J340_291 (tL_asks_L291 n0 s0 x0 x1 x2 x3 x4 x5 x10 x11 f) n0 s0 x0 x1 x2 x3 x4 x5 x10 x11 v109 x13 Mi)
else
  (tL_asks_J340_291 (tL_asks_L291 n0 s0 x0 x1 x2 x3 x4 x5 x10 x11 f) n0 s0 x0 x1 x2 x3 x4 x5 x10 x11 x12 x13 Mi))
def tL_asks_L255 (n0 s0 : Nat) (x0 : Nat) (x1 : Nat) (x2 : Nat) (x3 : Int32) (x4 : Int32) (x5 : Nat) : Nat → Int32 → vMe → Option ((Int32 ⊕ Unit) × vMe)
  | 0, _, _ => none
  | f + 1, x10, Mi =>
  if (3 : Int32) ≤ x10 then
  (some (Sum.inr (()), Mi))
else
  ((gI Mi x1 14 1).bind fun v87 =>
  if Mi.2.1 + 0 ≤ n0 + 1 ∧ Mi.2.2.1 + 0 ≤ s0 + 6 then
  ((tL_draw x2 v87 Mi).bind fun z88 =>
  (gI z88.2 x5 12 2).bind fun v89 =>
  (gI z88.2 x1 14 2).bind fun v90 =>
  if z88.2.2.1 + 0 ≤ n0 + 1 ∧ z88.2.2.2.1 + 0 ≤ s0 + 6 then
  (if (z88.2.1 x5).1 = 12 then
  ((tX10_kept x5 v90 z88.2).bind fun z91 =>
  (tL_asks_L291 n0 s0 x0 x1 x2 x3 x4 x5 x10 z88.1 vF ((-1)) (v89 - z91) z88.2).bind fun z110 =>
  if z110.2.2.1 + 1 ≤ n0 + 1 ∧ z110.2.2.2.1 + 6 ≤ s0 + 6 then
  (if (z110.2.1 x0).1 = 11 then
  ((tX9_since x0 x3 z88.1 z110.2).bind fun z111 =>
  Sum.elim (fun r112 =>
  if r112 = z110.1 then
  (tL_asks_L255 n0 s0 x0 x1 x2 x3 x4 x5 f (x10 + 1) z111.2)
else
  (if z111.2.2.1 ≤ n0 + 1 ∧ z111.2.2.2.1 ≤ s0 + 6 then some (Sum.inl 0, z111.2) else none)) (fun _ => none) z111.1)
else none)
else none)
else none)
else none)
else none)
def tL_asks_J469 (n0 s0 : Nat) (y0 : UInt64) (y1 : UInt64) (Mj : vMe) : Option (Int32 × vMe) :=
  if (Op.cmpValue (FP.dcmp y0 y1) .l) = 0 then
  (if Mj.2.1 ≤ n0 + 1 ∧ Mj.2.2.1 ≤ s0 + 6 then some (1, Mj) else none)
else
  (if Mj.2.1 ≤ n0 + 1 ∧ Mj.2.2.1 ≤ s0 + 6 then some (0, Mj) else none)
def tL_asks_J443 (n0 s0 : Nat) (x0 : Nat) (x3 : Int32) (x4 : Int32) (x14 : Int32) (x15 : Int32) (y0 : Int32) (y1 : Int32) (Mj : vMe) : Option (Int32 × vMe) :=
  if y0 = y1 then
  (if Mj.2.1 + 1 ≤ n0 + 1 ∧ Mj.2.2.1 + 6 ≤ s0 + 6 then
  (if (Mj.1 x0).1 = 11 then
  ((tX9_likeness x0 x3 x4 Mj).bind fun z129 =>
  Sum.elim (fun r130 =>
  if x15 = 0 then
  (tL_asks_J469 n0 s0 r130 0x3FF0000000000000 z129.2)
else
  (if (FP.ddiv (FP.i2d x14) (FP.i2d x15)) &&& 0x7fffffffffffffff ≤ 0x7ff0000000000000 then
  (tL_asks_J469 n0 s0 r130 (FP.ddiv (FP.i2d x14) (FP.i2d x15)) z129.2)
else none)) (fun _ => none) z129.1)
else none)
else none)
else
  (if Mj.2.1 ≤ n0 + 1 ∧ Mj.2.2.1 ≤ s0 + 6 then some (0, Mj) else none)
def tL_asks (x0 : Nat) (x1 : Nat) (x2 : Nat) (M : vMe) : Option (Int32 × vMe) :=
  (gI M x1 14 0).bind fun v1 =>
  if M.2.1 + 0 ≤ M.2.1 + 1 ∧ M.2.2.1 + 0 ≤ M.2.2.1 + 6 then
  ((tL_draw x2 v1 M).bind fun z2 =>
  (gI z2.2 x1 14 0).bind fun v3 =>
  if z2.2.2.1 + 0 ≤ M.2.1 + 1 ∧ z2.2.2.2.1 + 0 ≤ M.2.2.1 + 6 then
  ((tL_draw x2 v3 z2.2).bind fun z4 =>
  (gA z4.2 x1 14 6).bind fun a5 =>
  (aA z4.2 a5 109 z2.1).bind fun a6 =>
  (gI z4.2 x1 14 2).bind fun v7 =>
  if z4.2.2.1 + 0 ≤ M.2.1 + 1 ∧ z4.2.2.2.1 + 0 ≤ M.2.2.1 + 6 then
  (if (z4.2.1 a6).1 = 12 then
  ((tX10_first a6 v7 z4.2).bind fun z8 =>
  (gI z4.2 x1 14 3).bind fun v9 =>
  if z4.2.2.1 + 0 ≤ M.2.1 + 1 ∧ z4.2.2.2.1 + 0 ≤ M.2.2.1 + 6 then
  ((tL_draw x2 ((v9 - z8) + 1) z4.2).bind fun z10 =>
  (gI z10.2 x1 14 3).bind fun v11 =>
  if z10.2.2.1 + 0 ≤ M.2.1 + 1 ∧ z10.2.2.2.1 + 0 ≤ M.2.2.1 + 6 then
  ((tL_draw x2 ((v11 - z8) + 1) z10.2).bind fun z12 =>
  if z12.2.2.1 + 1 ≤ M.2.1 + 1 ∧ z12.2.2.2.1 + 6 ≤ M.2.2.1 + 6 then
  (if (z12.2.1 x0).1 = 11 then
  ((tX9_at x0 z2.1 (z8 + z10.1) z12.2).bind fun z13 =>
  Sum.elim (fun r14 =>
  if z13.2.2.1 + 0 ≤ M.2.1 + 1 ∧ z13.2.2.2.1 + 0 ≤ M.2.2.1 + 6 then
  (if (z13.2.1 a6).1 = 12 then
  ((tX10_at a6 (z8 + z10.1) z13.2).bind fun z15 =>
  if (lg_cmp r14 z15) = 0 then
  (if z13.2.2.1 + 1 ≤ M.2.1 + 1 ∧ z13.2.2.2.1 + 6 ≤ M.2.2.1 + 6 then
  (if (z13.2.1 x0).1 = 11 then
  ((tX9_differs x0 z2.1 (z8 + z10.1) (z8 + z12.1) 1 z13.2).bind fun z17 =>
  Sum.elim (fun r18 =>
  if z17.2.2.1 + 0 ≤ M.2.1 + 1 ∧ z17.2.2.2.1 + 0 ≤ M.2.2.1 + 6 then
  (if (z17.2.1 a6).1 = 12 then
  ((tX10_at a6 (z8 + z12.1) z17.2).bind fun z19 =>
  if z17.2.2.1 + 0 ≤ M.2.1 + 1 ∧ z17.2.2.2.1 + 0 ≤ M.2.2.1 + 6 then
  (if (z17.2.1 a6).1 = 12 then
  ((tX10_at a6 (z8 + z10.1) z17.2).bind fun z20 =>
  if z17.2.2.1 + 0 ≤ M.2.1 + 1 ∧ z17.2.2.2.1 + 0 ≤ M.2.2.1 + 6 then
  ((tJ13_bitCount_95d88 (z19 &&& (z20 ^^^ ((-1)))) z17.2).bind fun z21 =>
  if r18 = z21 then
  (if z17.2.2.1 + 1 ≤ M.2.1 + 1 ∧ z17.2.2.2.1 + 6 ≤ M.2.2.1 + 6 then
  (if (z17.2.1 x0).1 = 11 then
  ((tX9_differs x0 z2.1 (z8 + z10.1) (z8 + z12.1) 0 z17.2).bind fun z23 =>
  Sum.elim (fun r24 =>
  if z23.2.2.1 + 0 ≤ M.2.1 + 1 ∧ z23.2.2.2.1 + 0 ≤ M.2.2.1 + 6 then
  (if (z23.2.1 a6).1 = 12 then
  ((tX10_at a6 (z8 + z10.1) z23.2).bind fun z25 =>
  if z23.2.2.1 + 0 ≤ M.2.1 + 1 ∧ z23.2.2.2.1 + 0 ≤ M.2.2.1 + 6 then
  (if (z23.2.1 a6).1 = 12 then
  ((tX10_at a6 (z8 + z12.1) z23.2).bind fun z26 =>
  if z23.2.2.1 + 0 ≤ M.2.1 + 1 ∧ z23.2.2.2.1 + 0 ≤ M.2.2.1 + 6 then
  ((tJ13_bitCount_95d88 (z25 &&& (z26 ^^^ ((-1)))) z23.2).bind fun z27 =>
  if r24 = z27 then
  ((gI z23.2 a6 12 2).bind fun v29 =>
  (gI z23.2 x1 14 2).bind fun v30 =>
  if z23.2.2.1 + 0 ≤ M.2.1 + 1 ∧ z23.2.2.2.1 + 0 ≤ M.2.2.1 + 6 then
  (if (z23.2.1 a6).1 = 12 then
  ((tX10_kept a6 v30 z23.2).bind fun z31 =>
  (tL_asks_L185 M.2.1 M.2.2.1 x0 x1 x2 z2.1 z4.1 a6 vF z8 (v29 - z31) z23.2).bind fun z54 =>
  if z54.2.2.1 + 1 ≤ M.2.1 + 1 ∧ z54.2.2.2.1 + 6 ≤ M.2.2.1 + 6 then
  (if (z54.2.1 x0).1 = 11 then
  ((tX9_fullest x0 z2.1 z54.2).bind fun z55 =>
  Sum.elim (fun r56 =>
  if r56 = z54.1 then
  ((tL_asks_L255 M.2.1 M.2.2.1 x0 x1 x2 z2.1 z4.1 a6 vF 0 z55.2).bind fun z114 =>
  Sum.elim (fun r133 => some (r133, z114.2)) (fun w115 =>
  if z114.2.2.1 + 0 ≤ M.2.1 + 1 ∧ z114.2.2.2.1 + 0 ≤ M.2.2.1 + 6 then
  (if (z114.2.1 a6).1 = 12 then
  ((tX10_bits a6 z114.2).bind fun z116 =>
  (gA z114.2 x1 14 6).bind fun a117 =>
  (aA z114.2 a117 109 z4.1).bind fun a118 =>
  if z114.2.2.1 + 0 ≤ M.2.1 + 1 ∧ z114.2.2.2.1 + 0 ≤ M.2.2.1 + 6 then
  (if (z114.2.1 a118).1 = 12 then
  ((tX10_bits a118 z114.2).bind fun z119 =>
  if z114.2.2.1 + 0 ≤ M.2.1 + 1 ∧ z114.2.2.2.1 + 0 ≤ M.2.2.1 + 6 then
  ((tJ13_bitCount_95d88 (z116 &&& z119) z114.2).bind fun z120 =>
  if z114.2.2.1 + 0 ≤ M.2.1 + 1 ∧ z114.2.2.2.1 + 0 ≤ M.2.2.1 + 6 then
  ((tJ13_bitCount_95d88 (z116 ||| z119) z114.2).bind fun z121 =>
  if z114.2.2.1 + 1 ≤ M.2.1 + 1 ∧ z114.2.2.2.1 + 6 ≤ M.2.2.1 + 6 then
  (if (z114.2.1 x0).1 = 11 then
  ((tX9_common x0 z2.1 z4.1 z114.2).bind fun z122 =>
  Sum.elim (fun r123 =>
  if r123 = z120 then
  (if z122.2.2.1 + 1 ≤ M.2.1 + 1 ∧ z122.2.2.2.1 + 6 ≤ M.2.2.1 + 6 then
  (if (z122.2.1 x0).1 = 11 then
  ((tX9_isWithin x0 z2.1 z4.1 z122.2).bind fun z125 =>
  Sum.elim (fun r126 =>
  if (lg_cmp (z116 &&& (z119 ^^^ ((-1)))) 0) = 0 then
  (tL_asks_J443 M.2.1 M.2.2.1 x0 z2.1 z4.1 z120 z121 r126 1 z125.2)
else
  (tL_asks_J443 M.2.1 M.2.2.1 x0 z2.1 z4.1 z120 z121 r126 0 z125.2)) (fun _ => none) z125.1)
else none)
else none)
else
  (if z122.2.2.1 ≤ M.2.1 + 1 ∧ z122.2.2.2.1 ≤ M.2.2.1 + 6 then some (0, z122.2) else none)) (fun _ => none) z122.1)
else none)
else none)
else none)
else none)
else none)
else none)
else none)
else none) z114.1)
else
  (if z55.2.2.1 ≤ M.2.1 + 1 ∧ z55.2.2.2.1 ≤ M.2.2.1 + 6 then some (0, z55.2) else none)) (fun _ => none) z55.1)
else none)
else none)
else none)
else none)
else
  (if z23.2.2.1 ≤ M.2.1 + 1 ∧ z23.2.2.2.1 ≤ M.2.2.1 + 6 then some (0, z23.2) else none))
else none)
else none)
else none)
else none)
else none) (fun _ => none) z23.1)
else none)
else none)
else
  (if z17.2.2.1 ≤ M.2.1 + 1 ∧ z17.2.2.2.1 ≤ M.2.2.1 + 6 then some (0, z17.2) else none))
else none)
else none)
else none)
else none)
else none) (fun _ => none) z17.1)
else none)
else none)
else
  (if z13.2.2.1 ≤ M.2.1 + 1 ∧ z13.2.2.2.1 ≤ M.2.2.1 + 6 then some (0, z13.2) else none))
else none)
else none) (fun _ => none) z13.1)
else none)
else none)
else none)
else none)
else none)
else none)
else none)
else none
def rmL_asks : Room := { frames := 9, cells := 1, slots := 6, locals := 171 }
set_option maxHeartbeats 4000000 in
set_option maxRecDepth 100000 in
theorem mL_asks (l : Launch) (hfl : l.stackTraces = false) (D : vD) (x0 : Nat) (x1 : Nat) (x2 : Nat) (M : vMe) (z : (Int32 × vMe)) (h : tL_asks x0 x1 x2 M = some z) : Met l yL_asks (Cond.code yL_asks cL_asks 16 (some .boolean) :: TB) rmL_asks (va_Pc [.ref x0, .ref x1, .ref x2] (vPre D M)) (qW D (some (.int z.1)) z.2) 1 6 (vA D) := by
  refine v_ofW (cc := cL_asks) (maxL := 16) (ret := (some .boolean)) (by decide) (Nat.le_of_ble_eq_true rfl) ?_
  intro p e s m args below meth c Q hx hb hr hml hown hts hlk hnm hSS hR0 hQ ls hl
  have hz0 := hR0.2.1
  have hs0 := hR0.2.2.1
  have hb0 : D.2.2.2.1 ≤ s.heap.size := hR0.2.2.2.2.1
  refine v_tight hb0 ?_
  have hK := hSS.1
  have hl : lv_has ls 16 [(0, .ref x0), (1, .ref x1), (2, .ref x2)] := hl
  unfold tL_asks at h
  have L_asks_L185p : ∀ (x0 : Nat) (x1 : Nat) (x2 : Nat) (x3 : Int32) (x4 : Int32) (x5 : Nat), ∀ (f : Nat) (x9 : Int32) (x10 : Int32) (Mi : vMe) (ls : Array Slot) (z : (Int32 × vMe)), lv_has ls 16 [(0, .ref x0), (1, .ref x1), (2, .ref x2), (3, .int x3), (4, .int x4), (5, .ref x5), (9, .int x9), (10, .int x10)] → tL_asks_L185 M.2.1 M.2.2.1 x0 x1 x2 x3 x4 x5 f x9 x10 Mi = some z → (∀ ls : Array Slot, lv_has ls 16 [(0, .ref x0), (1, .ref x1), (2, .ref x2), (3, .int x3), (4, .int x4), (5, .ref x5), (9, .int z.1)] → vV D p l e rmL_asks s m args below meth c (z.2.2.1 - s.heap.size) (z.2.2.2.1 - vSum D.2.2.2.1 s.heap) Q z.2 (F0 m 240 ls [])) → vV D p l e rmL_asks s m args below meth c (Mi.2.1 - s.heap.size) (Mi.2.2.1 - vSum D.2.2.2.1 s.heap) Q Mi (F0 m 185 ls []) := by
    intro x0 x1 x2 x3 x4 x5 f
    induction f with
    | zero =>
      intro x9 x10 Mi ls z hl h
      exact absurd h (by simp [tL_asks_L185])
    | succ f ih =>
      intro x9 x10 Mi ls z hl h KX
      rw [tL_asks_L185] at h
      have L_asks_J234_185p : ∀ (x9 : Int32) (x10 : Int32) (Mj : vMe) (ls : Array Slot), lv_has ls 16 [(0, .ref x0), (1, .ref x1), (2, .ref x2), (3, .int x3), (4, .int x4), (5, .ref x5), (9, .int x9), (10, .int x10)] → tL_asks_J234_185 (tL_asks_L185 M.2.1 M.2.2.1 x0 x1 x2 x3 x4 x5 f) M.2.1 M.2.2.1 x0 x1 x2 x3 x4 x5 x9 x10 Mj = some z → vV D p l e rmL_asks s m args below meth c (Mj.2.1 - s.heap.size) (Mj.2.2.1 - vSum D.2.2.2.1 s.heap) Q Mj (F0 m 234 ls []) := by
        intro x9 x10 Mj ls hl h
        unfold tL_asks_J234_185 at h
        refine w_iinc (v := x10 + 1) (lv' := [(10, .int (x10 + 1)), (0, .ref x0), (1, .ref x1), (2, .ref x2), (3, .int x3), (4, .int x4), (5, .ref x5), (9, .int x9)]) hx hb dL_asks_234 hl (j := 7) rfl rfl (by decide) rfl (fun ls hl => ?_)
        have hl : lv_has ls 16 [(0, .ref x0), (1, .ref x1), (2, .ref x2), (3, .int x3), (4, .int x4), (5, .ref x5), (9, .int x9), (10, .int (x10 + 1))] := lv_sub hl [1, 2, 3, 4, 5, 6, 7, 0] rfl
        refine w_goto (tgt := 185) hx hb dL_asks_237 (by decide) ?_
        refine v_tight hb0 ?_
        exact ih x9 (x10 + 1) Mj ls z (lv_sub hl [0, 1, 2, 3, 4, 5, 6, 7] rfl) h KX
      refine w_iload hx hb dL_asks_185 (lv_at hl 7 rfl) ?_
      refine w_aload hx hb dL_asks_187 (lv_at hl 5 rfl) ?_
      obtain ⟨v43, ev43, h⟩ := v_bnd h
      refine v_gI (ci := 11) hx hb hts iwX10 hown hK 2 ev43 rfl (by decide) (Or.inr ⟨_, kn52 hSS _⟩) (fun _ h9 => h9) dL_asks_189 ?_
      refine w_icmp_ge (tgt := 240) hx hb dL_asks_192 (by decide) (fun c44 => ?_) (fun c44 => ?_)
      · rw [if_pos c44] at h
        obtain rfl := Option.some.inj h
        refine v_tight hb0 ?_
        exact KX ls (lv_sub hl [0, 1, 2, 3, 4, 5, 6] rfl)
      · rw [if_neg c44] at h
        refine w_aload hx hb dL_asks_195 (lv_at hl 5 rfl) ?_
        refine w_aload hx hb dL_asks_197 (lv_at hl 5 rfl) ?_
        obtain ⟨a45, ea45, h⟩ := v_bnd h
        refine v_gA (ci := 11) hx hb hts iwX10 hown hK 6 ea45 rfl (by decide) (Or.inr ⟨_, kn60 hSS _⟩) (fun _ h9 => h9) dL_asks_199 ?_
        refine w_iload hx hb dL_asks_202 (lv_at hl 7 rfl) ?_
        obtain ⟨v46, ev46, h⟩ := v_bnd h
        refine v_iald hx hb hK ev46 dL_asks_204 ?_
        obtain ⟨g7, h⟩ := v_ifs h
        refine v_tight hb0 ?_
        obtain ⟨g8, h⟩ := v_ifs h
        obtain ⟨z47, ez47, h⟩ := v_bnd h
        refine v_call1 (v := .long z47) (M1 := Mi) (mc := 0) (ms := 0) (fun H locs hR hS => va_runV (As := [.int v46]) (rest := []) ⟨hx, hb, hml, hown, hts⟩ (mX10_at l hfl D x5 v46 Mi z47 ez47) (cwV 1 hts (gdV kw1329 kw1330 kw1331 kw36 kw1332) rfl rfl rfl (by decide +kernel) ⟨Nat.le_of_ble_eq_true rfl, Nat.le_of_ble_eq_true rfl⟩) (v_preV (ci := 11) hSS hR hS g8 (by decide) rfl [.int v46]) rfl rfl hl.1 rfl (lv_room (Nat.le_of_ble_eq_true rfl)) dL_asks_205 ⟨by show _ + _ ≤ 1; omega, by show _ + _ ≤ 6; omega⟩) ?_
        obtain ⟨g7, h⟩ := v_ifs h
        refine v_tight hb0 ?_
        obtain ⟨z48, ez48, h⟩ := v_bnd h
        refine v_call1 (v := .int z48) (M1 := Mi) (mc := 0) (ms := 0) (fun H locs hR hS => va_runS (As := [.long z47]) (rest := []) ⟨hx, hb, hml, hown, hts⟩ (mJ13_bitCount_95d88 l hfl D z47 Mi z48 ez48) (va_cwS 1 hts (gdS kw1345 kw1339 kw59 kw1340) rfl rfl rfl (by decide +kernel) ⟨Nat.le_of_ble_eq_true rfl, Nat.le_of_ble_eq_true rfl⟩) (v_preS hSS hR hS [.long z47]) rfl rfl hl.1 rfl (lv_room (Nat.le_of_ble_eq_true rfl)) dL_asks_208 ⟨by show _ + _ ≤ 1; omega, by show _ + _ ≤ 6; omega⟩) ?_
        refine w_aload hx hb dL_asks_211 (lv_at hl 5 rfl) ?_
        refine w_iload hx hb dL_asks_213 (lv_at hl 6 rfl) ?_
        obtain ⟨g7, h⟩ := v_ifs h
        refine v_tight hb0 ?_
        obtain ⟨g8, h⟩ := v_ifs h
        obtain ⟨z49, ez49, h⟩ := v_bnd h
        refine v_call1 (v := .long z49) (M1 := Mi) (mc := 0) (ms := 0) (fun H locs hR hS => va_runV (As := [.int x9]) (rest := [.int z48]) ⟨hx, hb, hml, hown, hts⟩ (mX10_at l hfl D x5 x9 Mi z49 ez49) (cwV 1 hts (gdV kw1329 kw1330 kw1331 kw36 kw1332) rfl rfl rfl (by decide +kernel) ⟨Nat.le_of_ble_eq_true rfl, Nat.le_of_ble_eq_true rfl⟩) (v_preV (ci := 11) hSS hR hS g8 (by decide) rfl [.int x9]) rfl rfl hl.1 rfl (lv_room (Nat.le_of_ble_eq_true rfl)) dL_asks_215 ⟨by show _ + _ ≤ 1; omega, by show _ + _ ≤ 6; omega⟩) ?_
        obtain ⟨g7, h⟩ := v_ifs h
        refine v_tight hb0 ?_
        obtain ⟨z50, ez50, h⟩ := v_bnd h
        refine v_call1 (v := .int z50) (M1 := Mi) (mc := 0) (ms := 0) (fun H locs hR hS => va_runS (As := [.long z49]) (rest := [.int z48]) ⟨hx, hb, hml, hown, hts⟩ (mJ13_bitCount_95d88 l hfl D z49 Mi z50 ez50) (va_cwS 1 hts (gdS kw1345 kw1339 kw59 kw1340) rfl rfl rfl (by decide +kernel) ⟨Nat.le_of_ble_eq_true rfl, Nat.le_of_ble_eq_true rfl⟩) (v_preS hSS hR hS [.long z49]) rfl rfl hl.1 rfl (lv_room (Nat.le_of_ble_eq_true rfl)) dL_asks_218 ⟨by show _ + _ ≤ 1; omega, by show _ + _ ≤ 6; omega⟩) ?_
        refine w_icmp_le (tgt := 234) hx hb dL_asks_221 (by decide) (fun c51 => ?_) (fun c51 => ?_)
        · rw [if_pos c51] at h
          refine v_tight hb0 ?_
          exact L_asks_J234_185p x9 x10 Mi ls (lv_sub hl [0, 1, 2, 3, 4, 5, 6, 7] rfl) h
        · rw [if_neg c51] at h
          refine w_aload hx hb dL_asks_224 (lv_at hl 5 rfl) ?_
          obtain ⟨a52, ea52, h⟩ := v_bnd h
          refine v_gA (ci := 11) hx hb hts iwX10 hown hK 6 ea52 rfl (by decide) (Or.inr ⟨_, kn60 hSS _⟩) (fun _ h9 => h9) dL_asks_226 ?_
          refine w_iload hx hb dL_asks_229 (lv_at hl 7 rfl) ?_
          obtain ⟨v53, ev53, h⟩ := v_bnd h
          refine v_iald hx hb hK ev53 dL_asks_231 ?_
          refine w_istore (lv' := [(9, .int v53), (0, .ref x0), (1, .ref x1), (2, .ref x2), (3, .int x3), (4, .int x4), (5, .ref x5), (10, .int x10)]) hx hb dL_asks_232 hl (by decide) rfl (fun ls hl => ?_)
          have hl : lv_has ls 16 [(0, .ref x0), (1, .ref x1), (2, .ref x2), (3, .int x3), (4, .int x4), (5, .ref x5), (9, .int v53), (10, .int x10)] := lv_sub hl [1, 2, 3, 4, 5, 6, 0, 7] rfl
          refine v_tight hb0 ?_
          exact L_asks_J234_185p v53 x10 Mi ls (lv_sub hl [0, 1, 2, 3, 4, 5, 6, 7] rfl) h
  have L_asks_L291p : ∀ (x0 : Nat) (x1 : Nat) (x2 : Nat) (x3 : Int32) (x4 : Int32) (x5 : Nat) (x10 : Int32) (x11 : Int32), ∀ (f : Nat) (x12 : Int32) (x13 : Int32) (Mi : vMe) (ls : Array Slot) (z : (Int32 × vMe)), lv_has ls 16 [(0, .ref x0), (1, .ref x1), (2, .ref x2), (3, .int x3), (4, .int x4), (5, .ref x5), (10, .int x10), (11, .int x11), (12, .int x12), (13, .int x13)] → tL_asks_L291 M.2.1 M.2.2.1 x0 x1 x2 x3 x4 x5 x10 x11 f x12 x13 Mi = some z → (∀ ls : Array Slot, lv_has ls 16 [(0, .ref x0), (1, .ref x1), (2, .ref x2), (3, .int x3), (4, .int x4), (5, .ref x5), (10, .int x10), (11, .int x11), (12, .int z.1)] → vV D p l e rmL_asks s m args below meth c (z.2.2.1 - s.heap.size) (z.2.2.2.1 - vSum D.2.2.2.1 s.heap) Q z.2 (F0 m 346 ls [])) → vV D p l e rmL_asks s m args below meth c (Mi.2.1 - s.heap.size) (Mi.2.2.1 - vSum D.2.2.2.1 s.heap) Q Mi (F0 m 291 ls []) := by
    intro x0 x1 x2 x3 x4 x5 x10 x11 f
    induction f with
    | zero =>
      intro x12 x13 Mi ls z hl h
      exact absurd h (by simp [tL_asks_L291])
    | succ f ih =>
      intro x12 x13 Mi ls z hl h KX
      rw [tL_asks_L291] at h
      have L_asks_J340_291p : ∀ (x12 : Int32) (x13 : Int32) (Mj : vMe) (ls : Array Slot), lv_has ls 16 [(0, .ref x0), (1, .ref x1), (2, .ref x2), (3, .int x3), (4, .int x4), (5, .ref x5), (10, .int x10), (11, .int x11), (12, .int x12), (13, .int x13)] → tL_asks_J340_291 (tL_asks_L291 M.2.1 M.2.2.1 x0 x1 x2 x3 x4 x5 x10 x11 f) M.2.1 M.2.2.1 x0 x1 x2 x3 x4 x5 x10 x11 x12 x13 Mj = some z → vV D p l e rmL_asks s m args below meth c (Mj.2.1 - s.heap.size) (Mj.2.2.1 - vSum D.2.2.2.1 s.heap) Q Mj (F0 m 340 ls []) := by
        intro x12 x13 Mj ls hl h
        unfold tL_asks_J340_291 at h
        refine w_iinc (v := x13 + 1) (lv' := [(13, .int (x13 + 1)), (0, .ref x0), (1, .ref x1), (2, .ref x2), (3, .int x3), (4, .int x4), (5, .ref x5), (10, .int x10), (11, .int x11), (12, .int x12)]) hx hb dL_asks_340 hl (j := 9) rfl rfl (by decide) rfl (fun ls hl => ?_)
        have hl : lv_has ls 16 [(0, .ref x0), (1, .ref x1), (2, .ref x2), (3, .int x3), (4, .int x4), (5, .ref x5), (10, .int x10), (11, .int x11), (12, .int x12), (13, .int (x13 + 1))] := lv_sub hl [1, 2, 3, 4, 5, 6, 7, 8, 9, 0] rfl
        refine w_goto (tgt := 291) hx hb dL_asks_343 (by decide) ?_
        refine v_tight hb0 ?_
        exact ih x12 (x13 + 1) Mj ls z (lv_sub hl [0, 1, 2, 3, 4, 5, 6, 7, 8, 9] rfl) h KX
      refine w_iload hx hb dL_asks_291 (lv_at hl 9 rfl) ?_
      refine w_aload hx hb dL_asks_293 (lv_at hl 5 rfl) ?_
      obtain ⟨v101, ev101, h⟩ := v_bnd h
      refine v_gI (ci := 11) hx hb hts iwX10 hown hK 2 ev101 rfl (by decide) (Or.inr ⟨_, kn52 hSS _⟩) (fun _ h9 => h9) dL_asks_295 ?_
      refine w_icmp_ge (tgt := 346) hx hb dL_asks_298 (by decide) (fun c102 => ?_) (fun c102 => ?_)
      · rw [if_pos c102] at h
        obtain rfl := Option.some.inj h
        refine v_tight hb0 ?_
        exact KX ls (lv_sub hl [0, 1, 2, 3, 4, 5, 6, 7, 8] rfl)
      · rw [if_neg c102] at h
        refine w_aload hx hb dL_asks_301 (lv_at hl 5 rfl) ?_
        obtain ⟨a103, ea103, h⟩ := v_bnd h
        refine v_gA (ci := 11) hx hb hts iwX10 hown hK 9 ea103 rfl (by decide) (Or.inr ⟨_, kn63 hSS _⟩) (fun _ h9 => h9) dL_asks_303 ?_
        refine w_iload hx hb dL_asks_306 (lv_at hl 9 rfl) ?_
        obtain ⟨v104, ev104, h⟩ := v_bnd h
        refine v_lald hx hb hK ev104 dL_asks_308 ?_
        refine w_aload hx hb dL_asks_309 (lv_at hl 5 rfl) ?_
        obtain ⟨a105, ea105, h⟩ := v_bnd h
        refine v_gA (ci := 11) hx hb hts iwX10 hown hK 9 ea105 rfl (by decide) (Or.inr ⟨_, kn63 hSS _⟩) (fun _ h9 => h9) dL_asks_311 ?_
        refine w_iload hx hb dL_asks_314 (lv_at hl 9 rfl) ?_
        refine w_iconst (v := 1) hx hb dL_asks_316 (by decide) ?_
        refine w_iadd hx hb dL_asks_317 ?_
        obtain ⟨v106, ev106, h⟩ := v_bnd h
        refine v_lald hx hb hK ev106 dL_asks_318 ?_
        refine w_lxor hx hb dL_asks_319 ?_
        refine w_iload hx hb dL_asks_320 (lv_at hl 7 rfl) ?_
        refine w_lshr hx hb dL_asks_322 ?_
        refine w_lconst (v := 1) hx hb dL_asks_323 (by decide) ?_
        refine w_land hx hb dL_asks_324 ?_
        refine w_lconst (v := 1) hx hb dL_asks_325 (by decide) ?_
        refine w_lcmp hx hb dL_asks_326 ?_
        refine w_if_ne (tgt := 340) hx hb dL_asks_327 (by decide) (fun c107 => ?_) (fun c107 => ?_)
        · rw [if_pos c107] at h
          refine w_aload hx hb dL_asks_330 (lv_at hl 5 rfl) ?_
          obtain ⟨a108, ea108, h⟩ := v_bnd h
          refine v_gA (ci := 11) hx hb hts iwX10 hown hK 6 ea108 rfl (by decide) (Or.inr ⟨_, kn60 hSS _⟩) (fun _ h9 => h9) dL_asks_332 ?_
          refine w_iload hx hb dL_asks_335 (lv_at hl 9 rfl) ?_
          obtain ⟨v109, ev109, h⟩ := v_bnd h
          refine v_iald hx hb hK ev109 dL_asks_337 ?_
          refine w_istore (lv' := [(12, .int v109), (0, .ref x0), (1, .ref x1), (2, .ref x2), (3, .int x3), (4, .int x4), (5, .ref x5), (10, .int x10), (11, .int x11), (13, .int x13)]) hx hb dL_asks_338 hl (by decide) rfl (fun ls hl => ?_)
          have hl : lv_has ls 16 [(0, .ref x0), (1, .ref x1), (2, .ref x2), (3, .int x3), (4, .int x4), (5, .ref x5), (10, .int x10), (11, .int x11), (12, .int v109), (13, .int x13)] := lv_sub hl [1, 2, 3, 4, 5, 6, 7, 8, 0, 9] rfl
          refine v_tight hb0 ?_
          exact L_asks_J340_291p v109 x13 Mi ls (lv_sub hl [0, 1, 2, 3, 4, 5, 6, 7, 8, 9] rfl) h
        · rw [if_neg c107] at h
          refine v_tight hb0 ?_
          exact L_asks_J340_291p x12 x13 Mi ls (lv_sub hl [0, 1, 2, 3, 4, 5, 6, 7, 8, 9] rfl) h
  have L_asks_L255p : ∀ (x0 : Nat) (x1 : Nat) (x2 : Nat) (x3 : Int32) (x4 : Int32) (x5 : Nat), ∀ (f : Nat) (x10 : Int32) (Mi : vMe) (ls : Array Slot) (z : ((Int32 ⊕ Unit) × vMe)), lv_has ls 16 [(0, .ref x0), (1, .ref x1), (2, .ref x2), (3, .int x3), (4, .int x4), (5, .ref x5), (10, .int x10)] → tL_asks_L255 M.2.1 M.2.2.1 x0 x1 x2 x3 x4 x5 f x10 Mi = some z → (∀ w, z.1 = Sum.inr w → ∀ ls : Array Slot, lv_has ls 16 [(0, .ref x0), (1, .ref x1), (3, .int x3), (4, .int x4), (5, .ref x5)] → vV D p l e rmL_asks s m args below meth c (z.2.2.1 - s.heap.size) (z.2.2.2.1 - vSum D.2.2.2.1 s.heap) Q z.2 (F0 m 366 ls [])) → (∀ r9, z.1 = Sum.inl r9 → Q = MQ below (qW D (some (.int r9)) z.2) args s 1 6 (vA D)) → vV D p l e rmL_asks s m args below meth c (Mi.2.1 - s.heap.size) (Mi.2.2.1 - vSum D.2.2.2.1 s.heap) Q Mi (F0 m 255 ls []) := by
    intro x0 x1 x2 x3 x4 x5 f
    induction f with
    | zero =>
      intro x10 Mi ls z hl h
      exact absurd h (by simp [tL_asks_L255])
    | succ f ih =>
      intro x10 Mi ls z hl h KX KR
      rw [tL_asks_L255] at h
      refine w_iload hx hb dL_asks_255 (lv_at hl 6 rfl) ?_
      refine w_iconst (v := 3) hx hb dL_asks_257 (by decide) ?_
      refine w_icmp_ge (tgt := 366) hx hb dL_asks_258 (by decide) (fun c86 => ?_) (fun c86 => ?_)
      · rw [if_pos c86] at h
        obtain rfl := Option.some.inj h
        refine v_tight hb0 ?_
        exact KX _ rfl ls (lv_sub hl [0, 1, 3, 4, 5] rfl)
      · rw [if_neg c86] at h
        refine w_aload_n hx hb dL_asks_261 rfl (lv_at hl 2 rfl) ?_
        refine w_aload_n hx hb dL_asks_262 rfl (lv_at hl 1 rfl) ?_
        obtain ⟨v87, ev87, h⟩ := v_bnd h
        refine v_gI (ci := 13) hx hb hts iwX12 hown hK 1 ev87 rfl (by decide) (Or.inr ⟨_, kn65 hSS _⟩) (fun _ h9 => h9) dL_asks_263 ?_
        obtain ⟨g7, h⟩ := v_ifs h
        refine v_tight hb0 ?_
        obtain ⟨z88, ez88, h⟩ := v_bnd h
        refine v_call1 (v := .int z88.1) (M1 := z88.2) (mc := 0) (ms := 0) (fun H locs hR hS => va_runS (As := [.ref x2, .int v87]) (rest := []) ⟨hx, hb, hml, hown, hts⟩ (mL_draw l hfl D x2 v87 Mi z88 ez88) (va_cwS 2 hts (gdS kw406 kw407 kw26 kw408) rfl rfl rfl (by decide +kernel) ⟨Nat.le_of_ble_eq_true rfl, Nat.le_of_ble_eq_true rfl⟩) (v_preS hSS hR hS [.ref x2, .int v87]) rfl rfl hl.1 rfl (lv_room (Nat.le_of_ble_eq_true rfl)) dL_asks_266 ⟨by show _ + _ ≤ 1; omega, by show _ + _ ≤ 6; omega⟩) ?_
        refine w_istore (lv' := [(11, .int z88.1), (0, .ref x0), (1, .ref x1), (2, .ref x2), (3, .int x3), (4, .int x4), (5, .ref x5), (10, .int x10)]) hx hb dL_asks_269 hl (by decide) rfl (fun ls hl => ?_)
        have hl : lv_has ls 16 [(0, .ref x0), (1, .ref x1), (2, .ref x2), (3, .int x3), (4, .int x4), (5, .ref x5), (10, .int x10), (11, .int z88.1)] := lv_sub hl [1, 2, 3, 4, 5, 6, 7, 0] rfl
        refine w_iconst (v := (-1)) hx hb dL_asks_271 (by decide) ?_
        refine w_istore (lv' := [(12, .int ((-1))), (0, .ref x0), (1, .ref x1), (2, .ref x2), (3, .int x3), (4, .int x4), (5, .ref x5), (10, .int x10), (11, .int z88.1)]) hx hb dL_asks_272 hl (by decide) rfl (fun ls hl => ?_)
        have hl : lv_has ls 16 [(0, .ref x0), (1, .ref x1), (2, .ref x2), (3, .int x3), (4, .int x4), (5, .ref x5), (10, .int x10), (11, .int z88.1), (12, .int ((-1)))] := lv_sub hl [1, 2, 3, 4, 5, 6, 7, 8, 0] rfl
        refine w_aload hx hb dL_asks_274 (lv_at hl 5 rfl) ?_
        obtain ⟨v89, ev89, h⟩ := v_bnd h
        refine v_gI (ci := 11) hx hb hts iwX10 hown hK 2 ev89 rfl (by decide) (Or.inr ⟨_, kn52 hSS _⟩) (fun _ h9 => h9) dL_asks_276 ?_
        refine w_aload hx hb dL_asks_279 (lv_at hl 5 rfl) ?_
        refine w_aload_n hx hb dL_asks_281 rfl (lv_at hl 1 rfl) ?_
        obtain ⟨v90, ev90, h⟩ := v_bnd h
        refine v_gI (ci := 13) hx hb hts iwX12 hown hK 2 ev90 rfl (by decide) (Or.inr ⟨_, kn66 hSS _⟩) (fun _ h9 => h9) dL_asks_282 ?_
        obtain ⟨g7, h⟩ := v_ifs h
        refine v_tight hb0 ?_
        obtain ⟨g8, h⟩ := v_ifs h
        obtain ⟨z91, ez91, h⟩ := v_bnd h
        refine v_call1 (v := .int z91) (M1 := z88.2) (mc := 0) (ms := 0) (fun H locs hR hS => va_runV (As := [.int v90]) (rest := [.int v89]) ⟨hx, hb, hml, hown, hts⟩ (mX10_kept l hfl D x5 v90 z88.2 z91 ez91) (cwV 1 hts (gdV kw1252 kw1253 kw1254 kw36 kw1255) rfl rfl rfl (by decide +kernel) ⟨Nat.le_of_ble_eq_true rfl, Nat.le_of_ble_eq_true rfl⟩) (v_preV (ci := 11) hSS hR hS g8 (by decide) rfl [.int v90]) rfl rfl hl.1 rfl (lv_room (Nat.le_of_ble_eq_true rfl)) dL_asks_285 ⟨by show _ + _ ≤ 1; omega, by show _ + _ ≤ 6; omega⟩) ?_
        refine w_isub hx hb dL_asks_288 ?_
        refine w_istore (lv' := [(13, .int (v89 - z91)), (0, .ref x0), (1, .ref x1), (2, .ref x2), (3, .int x3), (4, .int x4), (5, .ref x5), (10, .int x10), (11, .int z88.1), (12, .int ((-1)))]) hx hb dL_asks_289 hl (by decide) rfl (fun ls hl => ?_)
        have hl : lv_has ls 16 [(0, .ref x0), (1, .ref x1), (2, .ref x2), (3, .int x3), (4, .int x4), (5, .ref x5), (10, .int x10), (11, .int z88.1), (12, .int ((-1))), (13, .int (v89 - z91))] := lv_sub hl [1, 2, 3, 4, 5, 6, 7, 8, 9, 0] rfl
        obtain ⟨z110, ez110, h⟩ := v_bnd h
        refine v_tight hb0 ?_
        refine L_asks_L291p x0 x1 x2 x3 x4 x5 x10 z88.1 vF ((-1)) (v89 - z91) z88.2 ls z110 (lv_sub hl [0, 1, 2, 3, 4, 5, 6, 7, 8, 9] rfl) ez110 (fun ls hl => ?_)
        refine w_aload_n hx hb dL_asks_346 rfl (lv_at hl 0 rfl) ?_
        refine w_iload_n hx hb dL_asks_347 rfl (lv_at hl 3 rfl) ?_
        refine w_iload hx hb dL_asks_348 (lv_at hl 7 rfl) ?_
        obtain ⟨g7, h⟩ := v_ifs h
        refine v_tight hb0 ?_
        obtain ⟨g8, h⟩ := v_ifs h
        obtain ⟨z111, ez111, h⟩ := v_bnd h
        rcases hz111 : z111.1 with r112 | jz111
        · replace h := v_inl hz111 h
          refine v_call1 (v := .int r112) (M1 := z111.2) (mc := 1) (ms := 6) (fun H locs hR hS => va_runV (As := [.int x3, .int z88.1]) (rest := []) ⟨hx, hb, hml, hown, hts⟩ (v_noX (by rw [hz111]; rfl) (by rw [hz111]; rfl) (mX9_since l hfl D x0 x3 z88.1 z110.2 z111 ez111)) (cwV 2 hts (gdV kw1355 kw1356 kw1357 kw27 kw1358) rfl rfl rfl (by decide +kernel) ⟨Nat.le_of_ble_eq_true rfl, Nat.le_of_ble_eq_true rfl⟩) (v_preV (ci := 10) hSS hR hS g8 (by decide) rfl [.int x3, .int z88.1]) rfl rfl hl.1 rfl (lv_room (Nat.le_of_ble_eq_true rfl)) dL_asks_350 ⟨by show _ + _ ≤ 1; omega, by show _ + _ ≤ 6; omega⟩) ?_
          refine w_iload hx hb dL_asks_353 (lv_at hl 8 rfl) ?_
          refine w_icmp_eq (tgt := 360) hx hb dL_asks_355 (by decide) (fun c113 => ?_) (fun c113 => ?_)
          · rw [if_pos c113] at h
            refine w_iinc (v := x10 + 1) (lv' := [(10, .int (x10 + 1)), (0, .ref x0), (1, .ref x1), (2, .ref x2), (3, .int x3), (4, .int x4), (5, .ref x5), (11, .int z88.1), (12, .int z110.1)]) hx hb dL_asks_360 hl (j := 6) rfl rfl (by decide) rfl (fun ls hl => ?_)
            have hl : lv_has ls 16 [(0, .ref x0), (1, .ref x1), (2, .ref x2), (3, .int x3), (4, .int x4), (5, .ref x5), (10, .int (x10 + 1)), (11, .int z88.1), (12, .int z110.1)] := lv_sub hl [1, 2, 3, 4, 5, 6, 0, 7, 8] rfl
            refine w_goto (tgt := 255) hx hb dL_asks_363 (by decide) ?_
            refine v_tight hb0 ?_
            exact ih (x10 + 1) z111.2 ls z (lv_sub hl [0, 1, 2, 3, 4, 5, 6] rfl) h KX KR
          · rw [if_neg c113] at h
            refine w_iconst (v := 0) hx hb dL_asks_358 (by decide) ?_
            obtain ⟨g9, h⟩ := v_ifs h
            refine v_tight hb0 (vV.widen (n' := 1) (k' := 6) (by omega) (by omega) ?_)
            obtain rfl := Option.some.inj h
            rw [KR _ rfl]
            exact v_zret (x := 0) hx hb hr hlk rfl dL_asks_359
        · exact nomatch (v_inr hz111 h)
  have L_asks_J469p : ∀ (y0 : UInt64) (y1 : UInt64) (Mj : vMe) (ls : Array Slot), lv_has ls 16 [] → tL_asks_J469 M.2.1 M.2.2.1 y0 y1 Mj = some z → vV D p l e rmL_asks s m args below meth c (Mj.2.1 - s.heap.size) (Mj.2.2.1 - vSum D.2.2.2.1 s.heap) Q Mj (F0 m 469 ls [.double y1, .double y0]) := by
    intro y0 y1 Mj ls hl h
    unfold tL_asks_J469 at h
    refine w_dcmp hx hb dL_asks_469 ?_
    refine w_if_ne (tgt := 477) hx hb dL_asks_470 (by decide) (fun c132 => ?_) (fun c132 => ?_)
    · rw [if_pos c132] at h
      refine w_iconst (v := 1) hx hb dL_asks_473 (by decide) ?_
      refine w_goto (tgt := 478) hx hb dL_asks_474 (by decide) ?_
      obtain ⟨g9, h⟩ := v_ifs h
      refine v_tight hb0 (vV.widen (n' := 1) (k' := 6) (by omega) (by omega) ?_)
      obtain rfl := Option.some.inj h
      rw [hQ]
      exact v_zret (x := 1) hx hb hr hlk rfl dL_asks_478
    · rw [if_neg c132] at h
      refine w_iconst (v := 0) hx hb dL_asks_477 (by decide) ?_
      obtain ⟨g9, h⟩ := v_ifs h
      refine v_tight hb0 (vV.widen (n' := 1) (k' := 6) (by omega) (by omega) ?_)
      obtain rfl := Option.some.inj h
      rw [hQ]
      exact v_zret (x := 0) hx hb hr hlk rfl dL_asks_478
  have L_asks_J443p : ∀ (x0 : Nat) (x3 : Int32) (x4 : Int32) (x14 : Int32) (x15 : Int32) (y0 : Int32) (y1 : Int32) (Mj : vMe) (ls : Array Slot), lv_has ls 16 [(0, .ref x0), (3, .int x3), (4, .int x4), (14, .int x14), (15, .int x15)] → tL_asks_J443 M.2.1 M.2.2.1 x0 x3 x4 x14 x15 y0 y1 Mj = some z → vV D p l e rmL_asks s m args below meth c (Mj.2.1 - s.heap.size) (Mj.2.2.1 - vSum D.2.2.2.1 s.heap) Q Mj (F0 m 443 ls [.int y1, .int y0]) := by
    intro x0 x3 x4 x14 x15 y0 y1 Mj ls hl h
    unfold tL_asks_J443 at h
    refine w_icmp_ne (tgt := 477) hx hb dL_asks_443 (by decide) (fun c128 => ?_) (fun c128 => ?_)
    · rw [if_pos c128] at h
      refine w_aload_n hx hb dL_asks_446 rfl (lv_at hl 0 rfl) ?_
      refine w_iload_n hx hb dL_asks_447 rfl (lv_at hl 1 rfl) ?_
      refine w_iload hx hb dL_asks_448 (lv_at hl 2 rfl) ?_
      obtain ⟨g7, h⟩ := v_ifs h
      refine v_tight hb0 ?_
      obtain ⟨g8, h⟩ := v_ifs h
      obtain ⟨z129, ez129, h⟩ := v_bnd h
      rcases hz129 : z129.1 with r130 | jz129
      · replace h := v_inl hz129 h
        refine v_call1 (v := .double r130) (M1 := z129.2) (mc := 1) (ms := 6) (fun H locs hR hS => va_runV (As := [.int x3, .int x4]) (rest := []) ⟨hx, hb, hml, hown, hts⟩ (v_noX (by rw [hz129]; rfl) (by rw [hz129]; rfl) (mX9_likeness l hfl D x0 x3 x4 Mj z129 ez129)) (cwV 2 hts (gdV kw1376 kw1377 kw1378 kw27 kw1379) rfl rfl rfl (by decide +kernel) ⟨Nat.le_of_ble_eq_true rfl, Nat.le_of_ble_eq_true rfl⟩) (v_preV (ci := 10) hSS hR hS g8 (by decide) rfl [.int x3, .int x4]) rfl rfl hl.1 rfl (lv_room (Nat.le_of_ble_eq_true rfl)) dL_asks_450 ⟨by show _ + _ ≤ 1; omega, by show _ + _ ≤ 6; omega⟩) ?_
        refine w_iload hx hb dL_asks_453 (lv_at hl 4 rfl) ?_
        refine w_if_ne (tgt := 462) hx hb dL_asks_455 (by decide) (fun c131 => ?_) (fun c131 => ?_)
        · rw [if_pos c131] at h
          refine w_dconst1 hx hb dL_asks_458 ?_
          refine w_goto (tgt := 469) hx hb dL_asks_459 (by decide) ?_
          refine v_tight hb0 ?_
          exact L_asks_J469p r130 0x3FF0000000000000 z129.2 ls (lv_sub hl [] rfl) h
        · rw [if_neg c131] at h
          refine w_iload hx hb dL_asks_462 (lv_at hl 3 rfl) ?_
          refine w_i2d hx hb dL_asks_464 ?_
          refine w_iload hx hb dL_asks_465 (lv_at hl 4 rfl) ?_
          refine w_i2d hx hb dL_asks_467 ?_
          obtain ⟨g9, h⟩ := v_ifs h
          refine w_ddiv hx hb dL_asks_468 g9 ?_
          refine v_tight hb0 ?_
          exact L_asks_J469p r130 (FP.ddiv (FP.i2d x14) (FP.i2d x15)) z129.2 ls (lv_sub hl [] rfl) h
      · exact nomatch (v_inr hz129 h)
    · rw [if_neg c128] at h
      refine w_iconst (v := 0) hx hb dL_asks_477 (by decide) ?_
      obtain ⟨g9, h⟩ := v_ifs h
      refine v_tight hb0 (vV.widen (n' := 1) (k' := 6) (by omega) (by omega) ?_)
      obtain rfl := Option.some.inj h
      rw [hQ]
      exact v_zret (x := 0) hx hb hr hlk rfl dL_asks_478
  refine w_aload_n hx hb dL_asks_0 rfl (lv_at hl 2 rfl) ?_
  refine w_aload_n hx hb dL_asks_1 rfl (lv_at hl 1 rfl) ?_
  obtain ⟨v1, ev1, h⟩ := v_bnd h
  refine v_gI (ci := 13) hx hb hts iwX12 hown hK 0 ev1 rfl (by decide) (Or.inr ⟨_, kn64 hSS _⟩) (fun _ h9 => h9) dL_asks_2 ?_
  obtain ⟨g7, h⟩ := v_ifs h
  refine v_tight hb0 ?_
  obtain ⟨z2, ez2, h⟩ := v_bnd h
  refine v_call1 (v := .int z2.1) (M1 := z2.2) (mc := 0) (ms := 0) (fun H locs hR hS => va_runS (As := [.ref x2, .int v1]) (rest := []) ⟨hx, hb, hml, hown, hts⟩ (mL_draw l hfl D x2 v1 M z2 ez2) (va_cwS 2 hts (gdS kw406 kw407 kw26 kw408) rfl rfl rfl (by decide +kernel) ⟨Nat.le_of_ble_eq_true rfl, Nat.le_of_ble_eq_true rfl⟩) (v_preS hSS hR hS [.ref x2, .int v1]) rfl rfl hl.1 rfl (lv_room (Nat.le_of_ble_eq_true rfl)) dL_asks_5 ⟨by show _ + _ ≤ 1; omega, by show _ + _ ≤ 6; omega⟩) ?_
  refine w_istore_n (lv' := [(3, .int z2.1), (0, .ref x0), (1, .ref x1), (2, .ref x2)]) hx hb dL_asks_8 rfl hl (by decide) rfl (fun ls hl => ?_)
  have hl : lv_has ls 16 [(0, .ref x0), (1, .ref x1), (2, .ref x2), (3, .int z2.1)] := lv_sub hl [1, 2, 3, 0] rfl
  refine w_aload_n hx hb dL_asks_9 rfl (lv_at hl 2 rfl) ?_
  refine w_aload_n hx hb dL_asks_10 rfl (lv_at hl 1 rfl) ?_
  obtain ⟨v3, ev3, h⟩ := v_bnd h
  refine v_gI (ci := 13) hx hb hts iwX12 hown hK 0 ev3 rfl (by decide) (Or.inr ⟨_, kn64 hSS _⟩) (fun _ h9 => h9) dL_asks_11 ?_
  obtain ⟨g7, h⟩ := v_ifs h
  refine v_tight hb0 ?_
  obtain ⟨z4, ez4, h⟩ := v_bnd h
  refine v_call1 (v := .int z4.1) (M1 := z4.2) (mc := 0) (ms := 0) (fun H locs hR hS => va_runS (As := [.ref x2, .int v3]) (rest := []) ⟨hx, hb, hml, hown, hts⟩ (mL_draw l hfl D x2 v3 z2.2 z4 ez4) (va_cwS 2 hts (gdS kw406 kw407 kw26 kw408) rfl rfl rfl (by decide +kernel) ⟨Nat.le_of_ble_eq_true rfl, Nat.le_of_ble_eq_true rfl⟩) (v_preS hSS hR hS [.ref x2, .int v3]) rfl rfl hl.1 rfl (lv_room (Nat.le_of_ble_eq_true rfl)) dL_asks_14 ⟨by show _ + _ ≤ 1; omega, by show _ + _ ≤ 6; omega⟩) ?_
  refine w_istore (lv' := [(4, .int z4.1), (0, .ref x0), (1, .ref x1), (2, .ref x2), (3, .int z2.1)]) hx hb dL_asks_17 hl (by decide) rfl (fun ls hl => ?_)
  have hl : lv_has ls 16 [(0, .ref x0), (1, .ref x1), (2, .ref x2), (3, .int z2.1), (4, .int z4.1)] := lv_sub hl [1, 2, 3, 4, 0] rfl
  refine w_aload_n hx hb dL_asks_19 rfl (lv_at hl 1 rfl) ?_
  obtain ⟨a5, ea5, h⟩ := v_bnd h
  refine v_gA (ci := 13) hx hb hts iwX12 hown hK 6 ea5 rfl (by decide) (Or.inr ⟨_, kn70 hSS _⟩) (fun _ h9 => h9) dL_asks_20 ?_
  refine w_iload_n hx hb dL_asks_23 rfl (lv_at hl 3 rfl) ?_
  obtain ⟨a6, ea6, h⟩ := v_bnd h
  refine v_aaldA hx hb hK ea6 (by decide) dL_asks_24 ?_
  refine w_astore (lv' := [(5, .ref a6), (0, .ref x0), (1, .ref x1), (2, .ref x2), (3, .int z2.1), (4, .int z4.1)]) hx hb dL_asks_25 hl (by decide) rfl (fun ls hl => ?_)
  have hl : lv_has ls 16 [(0, .ref x0), (1, .ref x1), (2, .ref x2), (3, .int z2.1), (4, .int z4.1), (5, .ref a6)] := lv_sub hl [1, 2, 3, 4, 5, 0] rfl
  refine w_aload hx hb dL_asks_27 (lv_at hl 5 rfl) ?_
  refine w_aload_n hx hb dL_asks_29 rfl (lv_at hl 1 rfl) ?_
  obtain ⟨v7, ev7, h⟩ := v_bnd h
  refine v_gI (ci := 13) hx hb hts iwX12 hown hK 2 ev7 rfl (by decide) (Or.inr ⟨_, kn66 hSS _⟩) (fun _ h9 => h9) dL_asks_30 ?_
  obtain ⟨g7, h⟩ := v_ifs h
  refine v_tight hb0 ?_
  obtain ⟨g8, h⟩ := v_ifs h
  obtain ⟨z8, ez8, h⟩ := v_bnd h
  refine v_call1 (v := .int z8) (M1 := z4.2) (mc := 0) (ms := 0) (fun H locs hR hS => va_runV (As := [.int v7]) (rest := []) ⟨hx, hb, hml, hown, hts⟩ (mX10_first l hfl D a6 v7 z4.2 z8 ez8) (cwV 1 hts (gdV kw1257 kw1258 kw1259 kw36 kw1260) rfl rfl rfl (by decide +kernel) ⟨Nat.le_of_ble_eq_true rfl, Nat.le_of_ble_eq_true rfl⟩) (v_preV (ci := 11) hSS hR hS g8 (by decide) rfl [.int v7]) rfl rfl hl.1 rfl (lv_room (Nat.le_of_ble_eq_true rfl)) dL_asks_33 ⟨by show _ + _ ≤ 1; omega, by show _ + _ ≤ 6; omega⟩) ?_
  refine w_istore (lv' := [(6, .int z8), (0, .ref x0), (1, .ref x1), (2, .ref x2), (3, .int z2.1), (4, .int z4.1), (5, .ref a6)]) hx hb dL_asks_36 hl (by decide) rfl (fun ls hl => ?_)
  have hl : lv_has ls 16 [(0, .ref x0), (1, .ref x1), (2, .ref x2), (3, .int z2.1), (4, .int z4.1), (5, .ref a6), (6, .int z8)] := lv_sub hl [1, 2, 3, 4, 5, 6, 0] rfl
  refine w_iload hx hb dL_asks_38 (lv_at hl 6 rfl) ?_
  refine w_aload_n hx hb dL_asks_40 rfl (lv_at hl 2 rfl) ?_
  refine w_aload_n hx hb dL_asks_41 rfl (lv_at hl 1 rfl) ?_
  obtain ⟨v9, ev9, h⟩ := v_bnd h
  refine v_gI (ci := 13) hx hb hts iwX12 hown hK 3 ev9 rfl (by decide) (Or.inr ⟨_, kn67 hSS _⟩) (fun _ h9 => h9) dL_asks_42 ?_
  refine w_iload hx hb dL_asks_45 (lv_at hl 6 rfl) ?_
  refine w_isub hx hb dL_asks_47 ?_
  refine w_iconst (v := 1) hx hb dL_asks_48 (by decide) ?_
  refine w_iadd hx hb dL_asks_49 ?_
  obtain ⟨g7, h⟩ := v_ifs h
  refine v_tight hb0 ?_
  obtain ⟨z10, ez10, h⟩ := v_bnd h
  refine v_call1 (v := .int z10.1) (M1 := z10.2) (mc := 0) (ms := 0) (fun H locs hR hS => va_runS (As := [.ref x2, .int ((v9 - z8) + 1)]) (rest := [.int z8]) ⟨hx, hb, hml, hown, hts⟩ (mL_draw l hfl D x2 ((v9 - z8) + 1) z4.2 z10 ez10) (va_cwS 2 hts (gdS kw406 kw407 kw26 kw408) rfl rfl rfl (by decide +kernel) ⟨Nat.le_of_ble_eq_true rfl, Nat.le_of_ble_eq_true rfl⟩) (v_preS hSS hR hS [.ref x2, .int ((v9 - z8) + 1)]) rfl rfl hl.1 rfl (lv_room (Nat.le_of_ble_eq_true rfl)) dL_asks_50 ⟨by show _ + _ ≤ 1; omega, by show _ + _ ≤ 6; omega⟩) ?_
  refine w_iadd hx hb dL_asks_53 ?_
  refine w_istore (lv' := [(7, .int (z8 + z10.1)), (0, .ref x0), (1, .ref x1), (2, .ref x2), (3, .int z2.1), (4, .int z4.1), (5, .ref a6), (6, .int z8)]) hx hb dL_asks_54 hl (by decide) rfl (fun ls hl => ?_)
  have hl : lv_has ls 16 [(0, .ref x0), (1, .ref x1), (2, .ref x2), (3, .int z2.1), (4, .int z4.1), (5, .ref a6), (6, .int z8), (7, .int (z8 + z10.1))] := lv_sub hl [1, 2, 3, 4, 5, 6, 7, 0] rfl
  refine w_iload hx hb dL_asks_56 (lv_at hl 6 rfl) ?_
  refine w_aload_n hx hb dL_asks_58 rfl (lv_at hl 2 rfl) ?_
  refine w_aload_n hx hb dL_asks_59 rfl (lv_at hl 1 rfl) ?_
  obtain ⟨v11, ev11, h⟩ := v_bnd h
  refine v_gI (ci := 13) hx hb hts iwX12 hown hK 3 ev11 rfl (by decide) (Or.inr ⟨_, kn67 hSS _⟩) (fun _ h9 => h9) dL_asks_60 ?_
  refine w_iload hx hb dL_asks_63 (lv_at hl 6 rfl) ?_
  refine w_isub hx hb dL_asks_65 ?_
  refine w_iconst (v := 1) hx hb dL_asks_66 (by decide) ?_
  refine w_iadd hx hb dL_asks_67 ?_
  obtain ⟨g7, h⟩ := v_ifs h
  refine v_tight hb0 ?_
  obtain ⟨z12, ez12, h⟩ := v_bnd h
  refine v_call1 (v := .int z12.1) (M1 := z12.2) (mc := 0) (ms := 0) (fun H locs hR hS => va_runS (As := [.ref x2, .int ((v11 - z8) + 1)]) (rest := [.int z8]) ⟨hx, hb, hml, hown, hts⟩ (mL_draw l hfl D x2 ((v11 - z8) + 1) z10.2 z12 ez12) (va_cwS 2 hts (gdS kw406 kw407 kw26 kw408) rfl rfl rfl (by decide +kernel) ⟨Nat.le_of_ble_eq_true rfl, Nat.le_of_ble_eq_true rfl⟩) (v_preS hSS hR hS [.ref x2, .int ((v11 - z8) + 1)]) rfl rfl hl.1 rfl (lv_room (Nat.le_of_ble_eq_true rfl)) dL_asks_68 ⟨by show _ + _ ≤ 1; omega, by show _ + _ ≤ 6; omega⟩) ?_
  refine w_iadd hx hb dL_asks_71 ?_
  refine w_istore (lv' := [(8, .int (z8 + z12.1)), (0, .ref x0), (1, .ref x1), (2, .ref x2), (3, .int z2.1), (4, .int z4.1), (5, .ref a6), (6, .int z8), (7, .int (z8 + z10.1))]) hx hb dL_asks_72 hl (by decide) rfl (fun ls hl => ?_)
  have hl : lv_has ls 16 [(0, .ref x0), (1, .ref x1), (2, .ref x2), (3, .int z2.1), (4, .int z4.1), (5, .ref a6), (6, .int z8), (7, .int (z8 + z10.1)), (8, .int (z8 + z12.1))] := lv_sub hl [1, 2, 3, 4, 5, 6, 7, 8, 0] rfl
  refine w_aload_n hx hb dL_asks_74 rfl (lv_at hl 0 rfl) ?_
  refine w_iload_n hx hb dL_asks_75 rfl (lv_at hl 3 rfl) ?_
  refine w_iload hx hb dL_asks_76 (lv_at hl 7 rfl) ?_
  obtain ⟨g7, h⟩ := v_ifs h
  refine v_tight hb0 ?_
  obtain ⟨g8, h⟩ := v_ifs h
  obtain ⟨z13, ez13, h⟩ := v_bnd h
  rcases hz13 : z13.1 with r14 | jz13
  · replace h := v_inl hz13 h
    refine v_call1 (v := .long r14) (M1 := z13.2) (mc := 1) (ms := 6) (fun H locs hR hS => va_runV (As := [.int z2.1, .int (z8 + z10.1)]) (rest := []) ⟨hx, hb, hml, hown, hts⟩ (v_noX (by rw [hz13]; rfl) (by rw [hz13]; rfl) (mX9_at l hfl D x0 z2.1 (z8 + z10.1) z12.2 z13 ez13)) (cwV 2 hts (gdV kw1316 kw1317 kw1318 kw27 kw1319) rfl rfl rfl (by decide +kernel) ⟨Nat.le_of_ble_eq_true rfl, Nat.le_of_ble_eq_true rfl⟩) (v_preV (ci := 10) hSS hR hS g8 (by decide) rfl [.int z2.1, .int (z8 + z10.1)]) rfl rfl hl.1 rfl (lv_room (Nat.le_of_ble_eq_true rfl)) dL_asks_78 ⟨by show _ + _ ≤ 1; omega, by show _ + _ ≤ 6; omega⟩) ?_
    refine w_aload hx hb dL_asks_81 (lv_at hl 5 rfl) ?_
    refine w_iload hx hb dL_asks_83 (lv_at hl 7 rfl) ?_
    obtain ⟨g7, h⟩ := v_ifs h
    refine v_tight hb0 ?_
    obtain ⟨g8, h⟩ := v_ifs h
    obtain ⟨z15, ez15, h⟩ := v_bnd h
    refine v_call1 (v := .long z15) (M1 := z13.2) (mc := 0) (ms := 0) (fun H locs hR hS => va_runV (As := [.int (z8 + z10.1)]) (rest := [.long r14]) ⟨hx, hb, hml, hown, hts⟩ (mX10_at l hfl D a6 (z8 + z10.1) z13.2 z15 ez15) (cwV 1 hts (gdV kw1329 kw1330 kw1331 kw36 kw1332) rfl rfl rfl (by decide +kernel) ⟨Nat.le_of_ble_eq_true rfl, Nat.le_of_ble_eq_true rfl⟩) (v_preV (ci := 11) hSS hR hS g8 (by decide) rfl [.int (z8 + z10.1)]) rfl rfl hl.1 rfl (lv_room (Nat.le_of_ble_eq_true rfl)) dL_asks_85 ⟨by show _ + _ ≤ 1; omega, by show _ + _ ≤ 6; omega⟩) ?_
    refine w_lcmp hx hb dL_asks_88 ?_
    refine w_if_ne (tgt := 162) hx hb dL_asks_89 (by decide) (fun c16 => ?_) (fun c16 => ?_)
    · rw [if_pos c16] at h
      refine w_aload_n hx hb dL_asks_92 rfl (lv_at hl 0 rfl) ?_
      refine w_iload_n hx hb dL_asks_93 rfl (lv_at hl 3 rfl) ?_
      refine w_iload hx hb dL_asks_94 (lv_at hl 7 rfl) ?_
      refine w_iload hx hb dL_asks_96 (lv_at hl 8 rfl) ?_
      refine w_iconst (v := 1) hx hb dL_asks_98 (by decide) ?_
      obtain ⟨g7, h⟩ := v_ifs h
      refine v_tight hb0 ?_
      obtain ⟨g8, h⟩ := v_ifs h
      obtain ⟨z17, ez17, h⟩ := v_bnd h
      rcases hz17 : z17.1 with r18 | jz17
      · replace h := v_inl hz17 h
        refine v_call1 (v := .int r18) (M1 := z17.2) (mc := 1) (ms := 6) (fun H locs hR hS => va_runV (As := [.int z2.1, .int (z8 + z10.1), .int (z8 + z12.1), .int 1]) (rest := []) ⟨hx, hb, hml, hown, hts⟩ (v_noX (by rw [hz17]; rfl) (by rw [hz17]; rfl) (mX9_differs l hfl D x0 z2.1 (z8 + z10.1) (z8 + z12.1) 1 z13.2 z17 ez17)) (cwV 4 hts (gdV kw1333 kw1334 kw1335 kw27 kw1336) rfl rfl rfl (by decide +kernel) ⟨Nat.le_of_ble_eq_true rfl, Nat.le_of_ble_eq_true rfl⟩) (v_preV (ci := 10) hSS hR hS g8 (by decide) rfl [.int z2.1, .int (z8 + z10.1), .int (z8 + z12.1), .int 1]) rfl rfl hl.1 rfl (lv_room (Nat.le_of_ble_eq_true rfl)) dL_asks_99 ⟨by show _ + _ ≤ 1; omega, by show _ + _ ≤ 6; omega⟩) ?_
        refine w_aload hx hb dL_asks_102 (lv_at hl 5 rfl) ?_
        refine w_iload hx hb dL_asks_104 (lv_at hl 8 rfl) ?_
        obtain ⟨g7, h⟩ := v_ifs h
        refine v_tight hb0 ?_
        obtain ⟨g8, h⟩ := v_ifs h
        obtain ⟨z19, ez19, h⟩ := v_bnd h
        refine v_call1 (v := .long z19) (M1 := z17.2) (mc := 0) (ms := 0) (fun H locs hR hS => va_runV (As := [.int (z8 + z12.1)]) (rest := [.int r18]) ⟨hx, hb, hml, hown, hts⟩ (mX10_at l hfl D a6 (z8 + z12.1) z17.2 z19 ez19) (cwV 1 hts (gdV kw1329 kw1330 kw1331 kw36 kw1332) rfl rfl rfl (by decide +kernel) ⟨Nat.le_of_ble_eq_true rfl, Nat.le_of_ble_eq_true rfl⟩) (v_preV (ci := 11) hSS hR hS g8 (by decide) rfl [.int (z8 + z12.1)]) rfl rfl hl.1 rfl (lv_room (Nat.le_of_ble_eq_true rfl)) dL_asks_106 ⟨by show _ + _ ≤ 1; omega, by show _ + _ ≤ 6; omega⟩) ?_
        refine w_aload hx hb dL_asks_109 (lv_at hl 5 rfl) ?_
        refine w_iload hx hb dL_asks_111 (lv_at hl 7 rfl) ?_
        obtain ⟨g7, h⟩ := v_ifs h
        refine v_tight hb0 ?_
        obtain ⟨g8, h⟩ := v_ifs h
        obtain ⟨z20, ez20, h⟩ := v_bnd h
        refine v_call1 (v := .long z20) (M1 := z17.2) (mc := 0) (ms := 0) (fun H locs hR hS => va_runV (As := [.int (z8 + z10.1)]) (rest := [.long z19, .int r18]) ⟨hx, hb, hml, hown, hts⟩ (mX10_at l hfl D a6 (z8 + z10.1) z17.2 z20 ez20) (cwV 1 hts (gdV kw1329 kw1330 kw1331 kw36 kw1332) rfl rfl rfl (by decide +kernel) ⟨Nat.le_of_ble_eq_true rfl, Nat.le_of_ble_eq_true rfl⟩) (v_preV (ci := 11) hSS hR hS g8 (by decide) rfl [.int (z8 + z10.1)]) rfl rfl hl.1 rfl (lv_room (Nat.le_of_ble_eq_true rfl)) dL_asks_113 ⟨by show _ + _ ≤ 1; omega, by show _ + _ ≤ 6; omega⟩) ?_
        refine w_ldcL hx hb hown (hts _ kw1344) dL_asks_116 ?_
        refine w_lxor hx hb dL_asks_119 ?_
        refine w_land hx hb dL_asks_120 ?_
        obtain ⟨g7, h⟩ := v_ifs h
        refine v_tight hb0 ?_
        obtain ⟨z21, ez21, h⟩ := v_bnd h
        refine v_call1 (v := .int z21) (M1 := z17.2) (mc := 0) (ms := 0) (fun H locs hR hS => va_runS (As := [.long (z19 &&& (z20 ^^^ ((-1))))]) (rest := [.int r18]) ⟨hx, hb, hml, hown, hts⟩ (mJ13_bitCount_95d88 l hfl D (z19 &&& (z20 ^^^ ((-1)))) z17.2 z21 ez21) (va_cwS 1 hts (gdS kw1345 kw1339 kw59 kw1340) rfl rfl rfl (by decide +kernel) ⟨Nat.le_of_ble_eq_true rfl, Nat.le_of_ble_eq_true rfl⟩) (v_preS hSS hR hS [.long (z19 &&& (z20 ^^^ ((-1))))]) rfl rfl hl.1 rfl (lv_room (Nat.le_of_ble_eq_true rfl)) dL_asks_121 ⟨by show _ + _ ≤ 1; omega, by show _ + _ ≤ 6; omega⟩) ?_
        refine w_icmp_ne (tgt := 162) hx hb dL_asks_124 (by decide) (fun c22 => ?_) (fun c22 => ?_)
        · rw [if_pos c22] at h
          refine w_aload_n hx hb dL_asks_127 rfl (lv_at hl 0 rfl) ?_
          refine w_iload_n hx hb dL_asks_128 rfl (lv_at hl 3 rfl) ?_
          refine w_iload hx hb dL_asks_129 (lv_at hl 7 rfl) ?_
          refine w_iload hx hb dL_asks_131 (lv_at hl 8 rfl) ?_
          refine w_iconst (v := 0) hx hb dL_asks_133 (by decide) ?_
          obtain ⟨g7, h⟩ := v_ifs h
          refine v_tight hb0 ?_
          obtain ⟨g8, h⟩ := v_ifs h
          obtain ⟨z23, ez23, h⟩ := v_bnd h
          rcases hz23 : z23.1 with r24 | jz23
          · replace h := v_inl hz23 h
            refine v_call1 (v := .int r24) (M1 := z23.2) (mc := 1) (ms := 6) (fun H locs hR hS => va_runV (As := [.int z2.1, .int (z8 + z10.1), .int (z8 + z12.1), .int 0]) (rest := []) ⟨hx, hb, hml, hown, hts⟩ (v_noX (by rw [hz23]; rfl) (by rw [hz23]; rfl) (mX9_differs l hfl D x0 z2.1 (z8 + z10.1) (z8 + z12.1) 0 z17.2 z23 ez23)) (cwV 4 hts (gdV kw1333 kw1334 kw1335 kw27 kw1336) rfl rfl rfl (by decide +kernel) ⟨Nat.le_of_ble_eq_true rfl, Nat.le_of_ble_eq_true rfl⟩) (v_preV (ci := 10) hSS hR hS g8 (by decide) rfl [.int z2.1, .int (z8 + z10.1), .int (z8 + z12.1), .int 0]) rfl rfl hl.1 rfl (lv_room (Nat.le_of_ble_eq_true rfl)) dL_asks_134 ⟨by show _ + _ ≤ 1; omega, by show _ + _ ≤ 6; omega⟩) ?_
            refine w_aload hx hb dL_asks_137 (lv_at hl 5 rfl) ?_
            refine w_iload hx hb dL_asks_139 (lv_at hl 7 rfl) ?_
            obtain ⟨g7, h⟩ := v_ifs h
            refine v_tight hb0 ?_
            obtain ⟨g8, h⟩ := v_ifs h
            obtain ⟨z25, ez25, h⟩ := v_bnd h
            refine v_call1 (v := .long z25) (M1 := z23.2) (mc := 0) (ms := 0) (fun H locs hR hS => va_runV (As := [.int (z8 + z10.1)]) (rest := [.int r24]) ⟨hx, hb, hml, hown, hts⟩ (mX10_at l hfl D a6 (z8 + z10.1) z23.2 z25 ez25) (cwV 1 hts (gdV kw1329 kw1330 kw1331 kw36 kw1332) rfl rfl rfl (by decide +kernel) ⟨Nat.le_of_ble_eq_true rfl, Nat.le_of_ble_eq_true rfl⟩) (v_preV (ci := 11) hSS hR hS g8 (by decide) rfl [.int (z8 + z10.1)]) rfl rfl hl.1 rfl (lv_room (Nat.le_of_ble_eq_true rfl)) dL_asks_141 ⟨by show _ + _ ≤ 1; omega, by show _ + _ ≤ 6; omega⟩) ?_
            refine w_aload hx hb dL_asks_144 (lv_at hl 5 rfl) ?_
            refine w_iload hx hb dL_asks_146 (lv_at hl 8 rfl) ?_
            obtain ⟨g7, h⟩ := v_ifs h
            refine v_tight hb0 ?_
            obtain ⟨g8, h⟩ := v_ifs h
            obtain ⟨z26, ez26, h⟩ := v_bnd h
            refine v_call1 (v := .long z26) (M1 := z23.2) (mc := 0) (ms := 0) (fun H locs hR hS => va_runV (As := [.int (z8 + z12.1)]) (rest := [.long z25, .int r24]) ⟨hx, hb, hml, hown, hts⟩ (mX10_at l hfl D a6 (z8 + z12.1) z23.2 z26 ez26) (cwV 1 hts (gdV kw1329 kw1330 kw1331 kw36 kw1332) rfl rfl rfl (by decide +kernel) ⟨Nat.le_of_ble_eq_true rfl, Nat.le_of_ble_eq_true rfl⟩) (v_preV (ci := 11) hSS hR hS g8 (by decide) rfl [.int (z8 + z12.1)]) rfl rfl hl.1 rfl (lv_room (Nat.le_of_ble_eq_true rfl)) dL_asks_148 ⟨by show _ + _ ≤ 1; omega, by show _ + _ ≤ 6; omega⟩) ?_
            refine w_ldcL hx hb hown (hts _ kw1344) dL_asks_151 ?_
            refine w_lxor hx hb dL_asks_154 ?_
            refine w_land hx hb dL_asks_155 ?_
            obtain ⟨g7, h⟩ := v_ifs h
            refine v_tight hb0 ?_
            obtain ⟨z27, ez27, h⟩ := v_bnd h
            refine v_call1 (v := .int z27) (M1 := z23.2) (mc := 0) (ms := 0) (fun H locs hR hS => va_runS (As := [.long (z25 &&& (z26 ^^^ ((-1))))]) (rest := [.int r24]) ⟨hx, hb, hml, hown, hts⟩ (mJ13_bitCount_95d88 l hfl D (z25 &&& (z26 ^^^ ((-1)))) z23.2 z27 ez27) (va_cwS 1 hts (gdS kw1345 kw1339 kw59 kw1340) rfl rfl rfl (by decide +kernel) ⟨Nat.le_of_ble_eq_true rfl, Nat.le_of_ble_eq_true rfl⟩) (v_preS hSS hR hS [.long (z25 &&& (z26 ^^^ ((-1))))]) rfl rfl hl.1 rfl (lv_room (Nat.le_of_ble_eq_true rfl)) dL_asks_156 ⟨by show _ + _ ≤ 1; omega, by show _ + _ ≤ 6; omega⟩) ?_
            refine w_icmp_eq (tgt := 164) hx hb dL_asks_159 (by decide) (fun c28 => ?_) (fun c28 => ?_)
            · rw [if_pos c28] at h
              refine w_iload hx hb dL_asks_164 (lv_at hl 6 rfl) ?_
              refine w_istore (lv' := [(9, .int z8), (0, .ref x0), (1, .ref x1), (2, .ref x2), (3, .int z2.1), (4, .int z4.1), (5, .ref a6), (6, .int z8), (7, .int (z8 + z10.1)), (8, .int (z8 + z12.1))]) hx hb dL_asks_166 hl (by decide) rfl (fun ls hl => ?_)
              have hl : lv_has ls 16 [(0, .ref x0), (1, .ref x1), (2, .ref x2), (3, .int z2.1), (4, .int z4.1), (5, .ref a6), (6, .int z8), (7, .int (z8 + z10.1)), (8, .int (z8 + z12.1)), (9, .int z8)] := lv_sub hl [1, 2, 3, 4, 5, 6, 7, 8, 9, 0] rfl
              refine w_aload hx hb dL_asks_168 (lv_at hl 5 rfl) ?_
              obtain ⟨v29, ev29, h⟩ := v_bnd h
              refine v_gI (ci := 11) hx hb hts iwX10 hown hK 2 ev29 rfl (by decide) (Or.inr ⟨_, kn52 hSS _⟩) (fun _ h9 => h9) dL_asks_170 ?_
              refine w_aload hx hb dL_asks_173 (lv_at hl 5 rfl) ?_
              refine w_aload_n hx hb dL_asks_175 rfl (lv_at hl 1 rfl) ?_
              obtain ⟨v30, ev30, h⟩ := v_bnd h
              refine v_gI (ci := 13) hx hb hts iwX12 hown hK 2 ev30 rfl (by decide) (Or.inr ⟨_, kn66 hSS _⟩) (fun _ h9 => h9) dL_asks_176 ?_
              obtain ⟨g7, h⟩ := v_ifs h
              refine v_tight hb0 ?_
              obtain ⟨g8, h⟩ := v_ifs h
              obtain ⟨z31, ez31, h⟩ := v_bnd h
              refine v_call1 (v := .int z31) (M1 := z23.2) (mc := 0) (ms := 0) (fun H locs hR hS => va_runV (As := [.int v30]) (rest := [.int v29]) ⟨hx, hb, hml, hown, hts⟩ (mX10_kept l hfl D a6 v30 z23.2 z31 ez31) (cwV 1 hts (gdV kw1252 kw1253 kw1254 kw36 kw1255) rfl rfl rfl (by decide +kernel) ⟨Nat.le_of_ble_eq_true rfl, Nat.le_of_ble_eq_true rfl⟩) (v_preV (ci := 11) hSS hR hS g8 (by decide) rfl [.int v30]) rfl rfl hl.1 rfl (lv_room (Nat.le_of_ble_eq_true rfl)) dL_asks_179 ⟨by show _ + _ ≤ 1; omega, by show _ + _ ≤ 6; omega⟩) ?_
              refine w_isub hx hb dL_asks_182 ?_
              refine w_istore (lv' := [(10, .int (v29 - z31)), (0, .ref x0), (1, .ref x1), (2, .ref x2), (3, .int z2.1), (4, .int z4.1), (5, .ref a6), (6, .int z8), (7, .int (z8 + z10.1)), (8, .int (z8 + z12.1)), (9, .int z8)]) hx hb dL_asks_183 hl (by decide) rfl (fun ls hl => ?_)
              have hl : lv_has ls 16 [(0, .ref x0), (1, .ref x1), (2, .ref x2), (3, .int z2.1), (4, .int z4.1), (5, .ref a6), (6, .int z8), (7, .int (z8 + z10.1)), (8, .int (z8 + z12.1)), (9, .int z8), (10, .int (v29 - z31))] := lv_sub hl [1, 2, 3, 4, 5, 6, 7, 8, 9, 10, 0] rfl
              obtain ⟨z54, ez54, h⟩ := v_bnd h
              refine v_tight hb0 ?_
              refine L_asks_L185p x0 x1 x2 z2.1 z4.1 a6 vF z8 (v29 - z31) z23.2 ls z54 (lv_sub hl [0, 1, 2, 3, 4, 5, 9, 10] rfl) ez54 (fun ls hl => ?_)
              refine w_aload_n hx hb dL_asks_240 rfl (lv_at hl 0 rfl) ?_
              refine w_iload_n hx hb dL_asks_241 rfl (lv_at hl 3 rfl) ?_
              obtain ⟨g7, h⟩ := v_ifs h
              refine v_tight hb0 ?_
              obtain ⟨g8, h⟩ := v_ifs h
              obtain ⟨z55, ez55, h⟩ := v_bnd h
              rcases hz55 : z55.1 with r56 | jz55
              · replace h := v_inl hz55 h
                refine v_call1 (v := .int r56) (M1 := z55.2) (mc := 1) (ms := 6) (fun H locs hR hS => va_runV (As := [.int z2.1]) (rest := []) ⟨hx, hb, hml, hown, hts⟩ (v_noX (by rw [hz55]; rfl) (by rw [hz55]; rfl) (mX9_fullest l hfl D x0 z2.1 z54.2 z55 ez55)) (cwV 1 hts (gdV kw1346 kw1347 kw1348 kw27 kw1349) rfl rfl rfl (by decide +kernel) ⟨Nat.le_of_ble_eq_true rfl, Nat.le_of_ble_eq_true rfl⟩) (v_preV (ci := 10) hSS hR hS g8 (by decide) rfl [.int z2.1]) rfl rfl hl.1 rfl (lv_room (Nat.le_of_ble_eq_true rfl)) dL_asks_242 ⟨by show _ + _ ≤ 1; omega, by show _ + _ ≤ 6; omega⟩) ?_
                refine w_iload hx hb dL_asks_245 (lv_at hl 6 rfl) ?_
                refine w_icmp_eq (tgt := 252) hx hb dL_asks_247 (by decide) (fun c57 => ?_) (fun c57 => ?_)
                · rw [if_pos c57] at h
                  refine w_iconst (v := 0) hx hb dL_asks_252 (by decide) ?_
                  refine w_istore (lv' := [(10, .int 0), (0, .ref x0), (1, .ref x1), (2, .ref x2), (3, .int z2.1), (4, .int z4.1), (5, .ref a6), (9, .int z54.1)]) hx hb dL_asks_253 hl (by decide) rfl (fun ls hl => ?_)
                  have hl : lv_has ls 16 [(0, .ref x0), (1, .ref x1), (2, .ref x2), (3, .int z2.1), (4, .int z4.1), (5, .ref a6), (9, .int z54.1), (10, .int 0)] := lv_sub hl [1, 2, 3, 4, 5, 6, 7, 0] rfl
                  obtain ⟨z114, ez114, h⟩ := v_bnd h
                  refine v_tight hb0 ?_
                  refine L_asks_L255p x0 x1 x2 z2.1 z4.1 a6 vF 0 z55.2 ls z114 (lv_sub hl [0, 1, 2, 3, 4, 5, 7] rfl) ez114 (fun w115 qw115 ls hl => ?_) (fun r133 qr133 => ?_)
                  · replace h := v_inr qw115 h
                    refine w_aload hx hb dL_asks_366 (lv_at hl 4 rfl) ?_
                    obtain ⟨g7, h⟩ := v_ifs h
                    refine v_tight hb0 ?_
                    obtain ⟨g8, h⟩ := v_ifs h
                    obtain ⟨z116, ez116, h⟩ := v_bnd h
                    refine v_call1 (v := .long z116) (M1 := z114.2) (mc := 0) (ms := 0) (fun H locs hR hS => va_runV (As := []) (rest := []) ⟨hx, hb, hml, hown, hts⟩ (mX10_bits l hfl D a6 z114.2 z116 ez116) (cwV 0 hts (gdV kw1363 kw703 kw704 kw36 kw705) rfl rfl rfl (by decide +kernel) ⟨Nat.le_of_ble_eq_true rfl, Nat.le_of_ble_eq_true rfl⟩) (v_preV (ci := 11) hSS hR hS g8 (by decide) rfl []) rfl rfl hl.1 rfl (lv_room (Nat.le_of_ble_eq_true rfl)) dL_asks_368 ⟨by show _ + _ ≤ 1; omega, by show _ + _ ≤ 6; omega⟩) ?_
                    refine w_lstore (lv' := [(10, .long z116), (0, .ref x0), (1, .ref x1), (3, .int z2.1), (4, .int z4.1), (5, .ref a6)]) hx hb dL_asks_371 hl (by decide) rfl (fun ls hl => ?_)
                    have hl : lv_has ls 16 [(0, .ref x0), (1, .ref x1), (3, .int z2.1), (4, .int z4.1), (5, .ref a6), (10, .long z116)] := lv_sub hl [1, 2, 3, 4, 5, 0] rfl
                    refine w_aload_n hx hb dL_asks_373 rfl (lv_at hl 1 rfl) ?_
                    obtain ⟨a117, ea117, h⟩ := v_bnd h
                    refine v_gA (ci := 13) hx hb hts iwX12 hown hK 6 ea117 rfl (by decide) (Or.inr ⟨_, kn70 hSS _⟩) (fun _ h9 => h9) dL_asks_374 ?_
                    refine w_iload hx hb dL_asks_377 (lv_at hl 3 rfl) ?_
                    obtain ⟨a118, ea118, h⟩ := v_bnd h
                    refine v_aaldA hx hb hK ea118 (by decide) dL_asks_379 ?_
                    obtain ⟨g7, h⟩ := v_ifs h
                    refine v_tight hb0 ?_
                    obtain ⟨g8, h⟩ := v_ifs h
                    obtain ⟨z119, ez119, h⟩ := v_bnd h
                    refine v_call1 (v := .long z119) (M1 := z114.2) (mc := 0) (ms := 0) (fun H locs hR hS => va_runV (As := []) (rest := []) ⟨hx, hb, hml, hown, hts⟩ (mX10_bits l hfl D a118 z114.2 z119 ez119) (cwV 0 hts (gdV kw1363 kw703 kw704 kw36 kw705) rfl rfl rfl (by decide +kernel) ⟨Nat.le_of_ble_eq_true rfl, Nat.le_of_ble_eq_true rfl⟩) (v_preV (ci := 11) hSS hR hS g8 (by decide) rfl []) rfl rfl hl.1 rfl (lv_room (Nat.le_of_ble_eq_true rfl)) dL_asks_380 ⟨by show _ + _ ≤ 1; omega, by show _ + _ ≤ 6; omega⟩) ?_
                    refine w_lstore (lv' := [(12, .long z119), (0, .ref x0), (1, .ref x1), (3, .int z2.1), (4, .int z4.1), (5, .ref a6), (10, .long z116)]) hx hb dL_asks_383 hl (by decide) rfl (fun ls hl => ?_)
                    have hl : lv_has ls 16 [(0, .ref x0), (1, .ref x1), (3, .int z2.1), (4, .int z4.1), (5, .ref a6), (10, .long z116), (12, .long z119)] := lv_sub hl [1, 2, 3, 4, 5, 6, 0] rfl
                    refine w_lload hx hb dL_asks_385 (lv_at hl 5 rfl) ?_
                    refine w_lload hx hb dL_asks_387 (lv_at hl 6 rfl) ?_
                    refine w_land hx hb dL_asks_389 ?_
                    obtain ⟨g7, h⟩ := v_ifs h
                    refine v_tight hb0 ?_
                    obtain ⟨z120, ez120, h⟩ := v_bnd h
                    refine v_call1 (v := .int z120) (M1 := z114.2) (mc := 0) (ms := 0) (fun H locs hR hS => va_runS (As := [.long (z116 &&& z119)]) (rest := []) ⟨hx, hb, hml, hown, hts⟩ (mJ13_bitCount_95d88 l hfl D (z116 &&& z119) z114.2 z120 ez120) (va_cwS 1 hts (gdS kw1345 kw1339 kw59 kw1340) rfl rfl rfl (by decide +kernel) ⟨Nat.le_of_ble_eq_true rfl, Nat.le_of_ble_eq_true rfl⟩) (v_preS hSS hR hS [.long (z116 &&& z119)]) rfl rfl hl.1 rfl (lv_room (Nat.le_of_ble_eq_true rfl)) dL_asks_390 ⟨by show _ + _ ≤ 1; omega, by show _ + _ ≤ 6; omega⟩) ?_
                    refine w_istore (lv' := [(14, .int z120), (0, .ref x0), (1, .ref x1), (3, .int z2.1), (4, .int z4.1), (5, .ref a6), (10, .long z116), (12, .long z119)]) hx hb dL_asks_393 hl (by decide) rfl (fun ls hl => ?_)
                    have hl : lv_has ls 16 [(0, .ref x0), (1, .ref x1), (3, .int z2.1), (4, .int z4.1), (5, .ref a6), (10, .long z116), (12, .long z119), (14, .int z120)] := lv_sub hl [1, 2, 3, 4, 5, 6, 7, 0] rfl
                    refine w_lload hx hb dL_asks_395 (lv_at hl 5 rfl) ?_
                    refine w_lload hx hb dL_asks_397 (lv_at hl 6 rfl) ?_
                    refine w_lor hx hb dL_asks_399 ?_
                    obtain ⟨g7, h⟩ := v_ifs h
                    refine v_tight hb0 ?_
                    obtain ⟨z121, ez121, h⟩ := v_bnd h
                    refine v_call1 (v := .int z121) (M1 := z114.2) (mc := 0) (ms := 0) (fun H locs hR hS => va_runS (As := [.long (z116 ||| z119)]) (rest := []) ⟨hx, hb, hml, hown, hts⟩ (mJ13_bitCount_95d88 l hfl D (z116 ||| z119) z114.2 z121 ez121) (va_cwS 1 hts (gdS kw1345 kw1339 kw59 kw1340) rfl rfl rfl (by decide +kernel) ⟨Nat.le_of_ble_eq_true rfl, Nat.le_of_ble_eq_true rfl⟩) (v_preS hSS hR hS [.long (z116 ||| z119)]) rfl rfl hl.1 rfl (lv_room (Nat.le_of_ble_eq_true rfl)) dL_asks_400 ⟨by show _ + _ ≤ 1; omega, by show _ + _ ≤ 6; omega⟩) ?_
                    refine w_istore (lv' := [(15, .int z121), (0, .ref x0), (1, .ref x1), (3, .int z2.1), (4, .int z4.1), (5, .ref a6), (10, .long z116), (12, .long z119), (14, .int z120)]) hx hb dL_asks_403 hl (by decide) rfl (fun ls hl => ?_)
                    have hl : lv_has ls 16 [(0, .ref x0), (1, .ref x1), (3, .int z2.1), (4, .int z4.1), (5, .ref a6), (10, .long z116), (12, .long z119), (14, .int z120), (15, .int z121)] := lv_sub hl [1, 2, 3, 4, 5, 6, 7, 8, 0] rfl
                    refine w_aload_n hx hb dL_asks_405 rfl (lv_at hl 0 rfl) ?_
                    refine w_iload_n hx hb dL_asks_406 rfl (lv_at hl 2 rfl) ?_
                    refine w_iload hx hb dL_asks_407 (lv_at hl 3 rfl) ?_
                    obtain ⟨g7, h⟩ := v_ifs h
                    refine v_tight hb0 ?_
                    obtain ⟨g8, h⟩ := v_ifs h
                    obtain ⟨z122, ez122, h⟩ := v_bnd h
                    rcases hz122 : z122.1 with r123 | jz122
                    · replace h := v_inl hz122 h
                      refine v_call1 (v := .int r123) (M1 := z122.2) (mc := 1) (ms := 6) (fun H locs hR hS => va_runV (As := [.int z2.1, .int z4.1]) (rest := []) ⟨hx, hb, hml, hown, hts⟩ (v_noX (by rw [hz122]; rfl) (by rw [hz122]; rfl) (mX9_common l hfl D x0 z2.1 z4.1 z114.2 z122 ez122)) (cwV 2 hts (gdV kw1364 kw1365 kw1366 kw27 kw1367) rfl rfl rfl (by decide +kernel) ⟨Nat.le_of_ble_eq_true rfl, Nat.le_of_ble_eq_true rfl⟩) (v_preV (ci := 10) hSS hR hS g8 (by decide) rfl [.int z2.1, .int z4.1]) rfl rfl hl.1 rfl (lv_room (Nat.le_of_ble_eq_true rfl)) dL_asks_409 ⟨by show _ + _ ≤ 1; omega, by show _ + _ ≤ 6; omega⟩) ?_
                      refine w_iload hx hb dL_asks_412 (lv_at hl 7 rfl) ?_
                      refine w_icmp_ne (tgt := 477) hx hb dL_asks_414 (by decide) (fun c124 => ?_) (fun c124 => ?_)
                      · rw [if_pos c124] at h
                        refine w_aload_n hx hb dL_asks_417 rfl (lv_at hl 0 rfl) ?_
                        refine w_iload_n hx hb dL_asks_418 rfl (lv_at hl 2 rfl) ?_
                        refine w_iload hx hb dL_asks_419 (lv_at hl 3 rfl) ?_
                        obtain ⟨g7, h⟩ := v_ifs h
                        refine v_tight hb0 ?_
                        obtain ⟨g8, h⟩ := v_ifs h
                        obtain ⟨z125, ez125, h⟩ := v_bnd h
                        rcases hz125 : z125.1 with r126 | jz125
                        · replace h := v_inl hz125 h
                          refine v_call1 (v := .int r126) (M1 := z125.2) (mc := 1) (ms := 6) (fun H locs hR hS => va_runV (As := [.int z2.1, .int z4.1]) (rest := []) ⟨hx, hb, hml, hown, hts⟩ (v_noX (by rw [hz125]; rfl) (by rw [hz125]; rfl) (mX9_isWithin l hfl D x0 z2.1 z4.1 z122.2 z125 ez125)) (cwV 2 hts (gdV kw1372 kw1373 kw1374 kw27 kw1375) rfl rfl rfl (by decide +kernel) ⟨Nat.le_of_ble_eq_true rfl, Nat.le_of_ble_eq_true rfl⟩) (v_preV (ci := 10) hSS hR hS g8 (by decide) rfl [.int z2.1, .int z4.1]) rfl rfl hl.1 rfl (lv_room (Nat.le_of_ble_eq_true rfl)) dL_asks_421 ⟨by show _ + _ ≤ 1; omega, by show _ + _ ≤ 6; omega⟩) ?_
                          refine w_lload hx hb dL_asks_424 (lv_at hl 5 rfl) ?_
                          refine w_lload hx hb dL_asks_426 (lv_at hl 6 rfl) ?_
                          refine w_ldcL hx hb hown (hts _ kw1344) dL_asks_428 ?_
                          refine w_lxor hx hb dL_asks_431 ?_
                          refine w_land hx hb dL_asks_432 ?_
                          refine w_lconst (v := 0) hx hb dL_asks_433 (by decide) ?_
                          refine w_lcmp hx hb dL_asks_434 ?_
                          refine w_if_ne (tgt := 442) hx hb dL_asks_435 (by decide) (fun c127 => ?_) (fun c127 => ?_)
                          · rw [if_pos c127] at h
                            refine w_iconst (v := 1) hx hb dL_asks_438 (by decide) ?_
                            refine w_goto (tgt := 443) hx hb dL_asks_439 (by decide) ?_
                            refine v_tight hb0 ?_
                            exact L_asks_J443p x0 z2.1 z4.1 z120 z121 r126 1 z125.2 ls (lv_sub hl [0, 2, 3, 7, 8] rfl) h
                          · rw [if_neg c127] at h
                            refine w_iconst (v := 0) hx hb dL_asks_442 (by decide) ?_
                            refine v_tight hb0 ?_
                            exact L_asks_J443p x0 z2.1 z4.1 z120 z121 r126 0 z125.2 ls (lv_sub hl [0, 2, 3, 7, 8] rfl) h
                        · exact nomatch (v_inr hz125 h)
                      · rw [if_neg c124] at h
                        refine w_iconst (v := 0) hx hb dL_asks_477 (by decide) ?_
                        obtain ⟨g9, h⟩ := v_ifs h
                        refine v_tight hb0 (vV.widen (n' := 1) (k' := 6) (by omega) (by omega) ?_)
                        obtain rfl := Option.some.inj h
                        rw [hQ]
                        exact v_zret (x := 0) hx hb hr hlk rfl dL_asks_478
                    · exact nomatch (v_inr hz122 h)
                  · replace h := v_inl qr133 h
                    obtain rfl := Option.some.inj h
                    exact hQ
                · rw [if_neg c57] at h
                  refine w_iconst (v := 0) hx hb dL_asks_250 (by decide) ?_
                  obtain ⟨g9, h⟩ := v_ifs h
                  refine v_tight hb0 (vV.widen (n' := 1) (k' := 6) (by omega) (by omega) ?_)
                  obtain rfl := Option.some.inj h
                  rw [hQ]
                  exact v_zret (x := 0) hx hb hr hlk rfl dL_asks_251
              · exact nomatch (v_inr hz55 h)
            · rw [if_neg c28] at h
              refine w_iconst (v := 0) hx hb dL_asks_162 (by decide) ?_
              obtain ⟨g9, h⟩ := v_ifs h
              refine v_tight hb0 (vV.widen (n' := 1) (k' := 6) (by omega) (by omega) ?_)
              obtain rfl := Option.some.inj h
              rw [hQ]
              exact v_zret (x := 0) hx hb hr hlk rfl dL_asks_163
          · exact nomatch (v_inr hz23 h)
        · rw [if_neg c22] at h
          refine w_iconst (v := 0) hx hb dL_asks_162 (by decide) ?_
          obtain ⟨g9, h⟩ := v_ifs h
          refine v_tight hb0 (vV.widen (n' := 1) (k' := 6) (by omega) (by omega) ?_)
          obtain rfl := Option.some.inj h
          rw [hQ]
          exact v_zret (x := 0) hx hb hr hlk rfl dL_asks_163
      · exact nomatch (v_inr hz17 h)
    · rw [if_neg c16] at h
      refine w_iconst (v := 0) hx hb dL_asks_162 (by decide) ?_
      obtain ⟨g9, h⟩ := v_ifs h
      refine v_tight hb0 (vV.widen (n' := 1) (k' := 6) (by omega) (by omega) ?_)
      obtain rfl := Option.some.inj h
      rw [hQ]
      exact v_zret (x := 0) hx hb hr hlk rfl dL_asks_163
  · exact nomatch (v_inr hz13 h)

def tL_plays_L125 (G : Nat → Nat) (n0 s0 : Nat) (x0 : Nat) (x1 : Nat) (x2 : Nat) (x3 : Nat) : Nat → Int32 → vMe → Option (Unit × vMe)
  | 0, _, _ => none
  | f + 1, x4, Mi =>
  (gI Mi x2 14 0).bind fun v25 =>
  if v25 ≤ x4 then
  (some ((), Mi))
else
  (if Mi.2.1 + 1 ≤ n0 + 4000 ∧ Mi.2.2.1 + 250 ≤ s0 + 200000 then
  (if (Mi.1 x3).1 = 2 then
  ((tJ4_append_15ec4 x3 (G 21) Mi).bind fun z27 =>
  if z27.2.2.1 + 1 ≤ n0 + 4000 ∧ z27.2.2.2.1 + 250 ≤ s0 + 200000 then
  (if (z27.2.1 z27.1).1 = 2 then
  ((tJ4_append_cf468 z27.1 (((97 + x4).toUInt32 % 65536).toInt32) z27.2).bind fun z28 =>
  if z28.2.2.1 + 1 ≤ n0 + 4000 ∧ z28.2.2.2.1 + 250 ≤ s0 + 200000 then
  (if (z28.2.1 z28.1).1 = 2 then
  ((tJ4_append_cf468 z28.1 59 z28.2).bind fun z29 =>
  tL_plays_L125 G n0 s0 x0 x1 x2 x3 f (x4 + 1) z29.2)
else none)
else none)
else none)
else none)
else none)
else none)
def tL_plays_J284_234 (G : Nat → Nat) (rec : Int32 → vMe → Option (Unit × vMe)) (n0 s0 : Nat) (x0 : Nat) (x1 : Nat) (x2 : Nat) (x3 : Nat) (x4 : Int32) (x5 : Int32) (x6 : Int32) (x7 : Int32) (x8 : Int32) (Mj : vMe) : Option (Unit × vMe) :=
  if Mj.2.1 + 1 ≤ n0 + 4000 ∧ Mj.2.2.1 + 250 ≤ s0 + 200000 then
  (if (Mj.1 x3).1 = 2 then
  ((tJ4_append_cf468 x3 32 Mj).bind fun z48 =>
  if z48.2.2.1 + 1 ≤ n0 + 4000 ∧ z48.2.2.2.1 + 250 ≤ s0 + 200000 then
  (if (z48.2.1 z48.1).1 = 2 then
  ((tJ4_append_bf812 G z48.1 x8 z48.2).bind fun z49 =>
  rec (x7 + (-1)) z49.2)
else none)
else none)
else none)
else none
def tL_plays_L234 (G : Nat → Nat) (n0 s0 : Nat) (x0 : Nat) (x1 : Nat) (x2 : Nat) (x3 : Nat) (x4 : Int32) (x5 : Int32) (x6 : Int32) : Nat → Int32 → vMe → Option (Unit × vMe)
  | 0, _, _ => none
  | f + 1, x7, Mi =>
  if x7 ≤ 0 then
  (some ((), Mi))
else
  ((gI Mi x2 14 1).bind fun v42 =>
  if Mi.2.1 + 0 ≤ n0 + 4000 ∧ Mi.2.2.1 + 0 ≤ s0 + 200000 then
  ((tL_draw x1 v42 Mi).bind fun z43 =>
  if x6 = 0 then
  ((gA z43.2 x2 14 6).bind fun a45 =>
  (aA z43.2 a45 109 x5).bind fun a46 =>
  if z43.2.2.1 + 1 ≤ n0 + 4000 ∧ z43.2.2.2.1 + 6 ≤ s0 + 200000 then
  (if (z43.2.1 x2).1 = 14 then
  ((tX12_remove x2 a46 z43.1 z43.2).bind fun z47 =>
  tL_plays_J284_234 G (tL_plays_L234 G n0 s0 x0 x1 x2 x3 x4 x5 x6 f) n0 s0 x0 x1 x2 x3 x4 x5 x6 x7 z43.1 z47.2)
else none)
else none)
else
  ((gA z43.2 x2 14 6).bind fun a50 =>
  (aA z43.2 a50 109 x5).bind fun a51 =>
  if z43.2.2.1 + 0 ≤ n0 + 4000 ∧ z43.2.2.2.1 + 0 ≤ s0 + 200000 then
  (if (z43.2.1 x2).1 = 14 then
  ((tX12_add x2 a51 z43.1 z43.2).bind fun z52 =>
  tL_plays_J284_234 G (tL_plays_L234 G n0 s0 x0 x1 x2 x3 x4 x5 x6 f) n0 s0 x0 x1 x2 x3 x4 x5 x6 x7 z43.1 z52.2)
else none)
else none))
else none)
def tL_plays_J347_168 (rec : Int32 → vMe → Option (Unit × vMe)) (n0 s0 : Nat) (x0 : Nat) (x1 : Nat) (x2 : Nat) (x3 : Nat) (x4 : Int32) (Mj : vMe) : Option (Unit × vMe) :=
  rec (x4 + (-1)) Mj
def tL_plays_J211_168 (G : Nat → Nat) (rec : Int32 → vMe → Option (Unit × vMe)) (n0 s0 : Nat) (x0 : Nat) (x1 : Nat) (x2 : Nat) (x3 : Nat) (x4 : Int32) (x5 : Int32) (x6 : Int32) (y0 : Nat) (y1 : Nat) (Mj : vMe) : Option (Unit × vMe) :=
  if Mj.2.1 + 1 ≤ n0 + 4000 ∧ Mj.2.2.1 + 250 ≤ s0 + 200000 then
  (if (Mj.1 y0).1 = 2 then
  ((tJ4_append_15ec4 y0 y1 Mj).bind fun z38 =>
  if z38.2.2.1 + 1 ≤ n0 + 4000 ∧ z38.2.2.2.1 + 250 ≤ s0 + 200000 then
  (if (z38.2.1 z38.1).1 = 2 then
  ((tJ4_append_cf468 z38.1 (((97 + x5).toUInt32 % 65536).toInt32) z38.2).bind fun z39 =>
  if z39.2.2.1 + 0 ≤ n0 + 4000 ∧ z39.2.2.2.1 + 0 ≤ s0 + 200000 then
  ((tL_draw x1 6 z39.2).bind fun z40 =>
  (tL_plays_L234 G n0 s0 x0 x1 x2 x3 x4 x5 x6 vF (1 + z40.1) z40.2).bind fun z53 =>
  if z53.2.2.1 + 1 ≤ n0 + 4000 ∧ z53.2.2.2.1 + 250 ≤ s0 + 200000 then
  (if (z53.2.1 x3).1 = 2 then
  ((tJ4_append_cf468 x3 59 z53.2).bind fun z54 =>
  if z54.2.2.1 + 0 ≤ n0 + 4000 ∧ z54.2.2.2.1 + 0 ≤ s0 + 200000 then
  ((tL_draw x1 3 z54.2).bind fun z55 =>
  if z55.1 ≤ 0 then
  ((gA z55.2 x2 14 8).bind fun a57 =>
  (gI z55.2 x2 14 5).bind fun v58 =>
  (sV z55.2 x2 14 5 (.int (v58 + 1))).bind fun M59 =>
  (gI M59 x2 14 3).bind fun v60 =>
  (sA M59 a57 101 v58 (.int v60)).bind fun M61 =>
  if M61.2.1 + 1 ≤ n0 + 4000 ∧ M61.2.2.1 + 250 ≤ s0 + 200000 then
  (if (M61.1 x3).1 = 2 then
  ((tJ4_append_15ec4 x3 (G 24) M61).bind fun z62 =>
  tL_plays_J347_168 (rec) n0 s0 x0 x1 x2 x3 x4 z62.2)
else none)
else none)
else
  (tL_plays_J347_168 (rec) n0 s0 x0 x1 x2 x3 x4 z55.2))
else none)
else none)
else none)
else none)
else none)
else none)
else none)
else none
def tL_plays_J196_168 (G : Nat → Nat) (rec : Int32 → vMe → Option (Unit × vMe)) (n0 s0 : Nat) (x0 : Nat) (x1 : Nat) (x2 : Nat) (x3 : Nat) (x4 : Int32) (x5 : Int32) (y0 : Int32) (Mj : vMe) : Option (Unit × vMe) :=
  if y0 = 0 then
  (tL_plays_J211_168 G (rec) n0 s0 x0 x1 x2 x3 x4 x5 y0 x3 (G 23) Mj)
else
  (tL_plays_J211_168 G (rec) n0 s0 x0 x1 x2 x3 x4 x5 y0 x3 (G 22) Mj)
def tL_plays_L168 (G : Nat → Nat) (n0 s0 : Nat) (x0 : Nat) (x1 : Nat) (x2 : Nat) (x3 : Nat) : Nat → Int32 → vMe → Option (Unit × vMe)
  | 0, _, _ => none
  | f + 1, x4, Mi =>
  if x4 ≤ 0 then
  (some ((), Mi))
else
  ((gI Mi x2 14 0).bind fun v33 =>
  if Mi.2.1 + 0 ≤ n0 + 4000 ∧ Mi.2.2.1 + 0 ≤ s0 + 200000 then
  ((tL_draw x1 v33 Mi).bind fun z34 =>
  if z34.2.2.1 + 0 ≤ n0 + 4000 ∧ z34.2.2.2.1 + 0 ≤ s0 + 200000 then
  ((tL_draw x1 3 z34.2).bind fun z35 =>
  if z35.1 ≤ 0 then
  (tL_plays_J196_168 G (tL_plays_L168 G n0 s0 x0 x1 x2 x3 f) n0 s0 x0 x1 x2 x3 x4 z34.1 0 z35.2)
else
  (tL_plays_J196_168 G (tL_plays_L168 G n0 s0 x0 x1 x2 x3 f) n0 s0 x0 x1 x2 x3 x4 z34.1 1 z35.2))
else none)
else none)
def tL_plays_L380 (G : Nat → Nat) (n0 s0 : Nat) (x0 : Nat) (x1 : Nat) (x2 : Nat) : Nat → Int32 → vMe → Option ((Int32 ⊕ Unit) × vMe)
  | 0, _, _ => none
  | f + 1, x4, Mi =>
  if (26 : Int32) ≤ x4 then
  (some (Sum.inr (()), Mi))
else
  (if Mi.2.1 + 128 ≤ n0 + 4000 ∧ Mi.2.2.1 + 2600 ≤ s0 + 200000 then
  ((tL_changes G x0 x2 x1 Mi).bind fun z72 =>
  if z72.1 = 0 then
  (if z72.2.2.1 ≤ n0 + 4000 ∧ z72.2.2.2.1 ≤ s0 + 200000 then some (Sum.inl 0, z72.2) else none)
else
  (if z72.2.2.1 + 16 ≤ n0 + 4000 ∧ z72.2.2.2.1 + 100 ≤ s0 + 200000 then
  ((tL_state x0 x2 z72.2).bind fun z74 =>
  if z74.1 = 0 then
  (if z74.2.2.1 ≤ n0 + 4000 ∧ z74.2.2.2.1 ≤ s0 + 200000 then some (Sum.inl 0, z74.2) else none)
else
  (if z74.2.2.1 + 1 ≤ n0 + 4000 ∧ z74.2.2.2.1 + 6 ≤ s0 + 200000 then
  ((tL_asks x0 x2 x1 z74.2).bind fun z76 =>
  if z76.1 = 0 then
  (if z76.2.2.1 ≤ n0 + 4000 ∧ z76.2.2.2.1 ≤ s0 + 200000 then some (Sum.inl 0, z76.2) else none)
else
  (tL_plays_L380 G n0 s0 x0 x1 x2 f (x4 + 1) z76.2))
else none))
else none))
else none)
def tL_plays_J57 (G : Nat → Nat) (n0 s0 : Nat) (x0 : Nat) (x1 : Nat) (x2 : Nat) (y0 : Nat) (y1 : Int32) (y2 : Nat) (y3 : Int32) (Mj : vMe) : Option (Int32 × vMe) :=
  if Mj.2.1 + 0 ≤ n0 + 4000 ∧ Mj.2.2.1 + 0 ≤ s0 + 200000 then
  ((tL_draw y2 y3 Mj).bind fun z9 =>
  (sV z9.2 y0 14 2 (.int (y1 + z9.1))).bind fun M10 =>
  if M10.2.1 + 0 ≤ n0 + 4000 ∧ M10.2.2.1 + 0 ≤ s0 + 200000 then
  ((tL_draw x1 4 M10).bind fun z11 =>
  (sV z11.2 x2 14 0 (.int (1 + z11.1))).bind fun M12 =>
  (nwO M12 2 0 4 (vp_V [.null, .int 0, .int 0, .int 0]) n0 s0 4000 200000).bind fun M13 =>
  (nwO M13 2 0 4 (vp_V [.null, .int 0, .int 0, .int 0]) n0 s0 4000 200000).bind fun M14 =>
  if M14.2.1 + 1 ≤ n0 + 4000 ∧ M14.2.2.1 + 16 ≤ s0 + 200000 then
  ((tJ4_init_da8c8 M13.2.1 M14).bind fun z15 =>
  if z15.2.2.1 + 1 ≤ n0 + 4000 ∧ z15.2.2.2.1 + 250 ≤ s0 + 200000 then
  (if (z15.2.1 M13.2.1).1 = 2 then
  ((tJ4_append_15ec4 M13.2.1 (G 6) z15.2).bind fun z16 =>
  (gI z16.2 x2 14 1).bind fun v17 =>
  if z16.2.2.1 + 1 ≤ n0 + 4000 ∧ z16.2.2.2.1 + 250 ≤ s0 + 200000 then
  (if (z16.2.1 z16.1).1 = 2 then
  ((tJ4_append_bf812 G z16.1 v17 z16.2).bind fun z18 =>
  if z18.2.2.1 + 1 ≤ n0 + 4000 ∧ z18.2.2.2.1 + 250 ≤ s0 + 200000 then
  (if (z18.2.1 z18.1).1 = 2 then
  ((tJ4_append_15ec4 z18.1 (G 11) z18.2).bind fun z19 =>
  (gI z19.2 x2 14 2).bind fun v20 =>
  if z19.2.2.1 + 1 ≤ n0 + 4000 ∧ z19.2.2.2.1 + 250 ≤ s0 + 200000 then
  (if (z19.2.1 z19.1).1 = 2 then
  ((tJ4_append_bf812 G z19.1 v20 z19.2).bind fun z21 =>
  if z21.2.2.1 + 1 ≤ n0 + 4000 ∧ z21.2.2.2.1 + 250 ≤ s0 + 200000 then
  (if (z21.2.1 z21.1).1 = 2 then
  ((tJ4_append_15ec4 z21.1 (G 20) z21.2).bind fun z22 =>
  if z22.2.2.1 + 2 ≤ n0 + 4000 ∧ z22.2.2.2.1 + 254 ≤ s0 + 200000 then
  (if (z22.2.1 z22.1).1 = 2 then
  ((tJ4_toString_0e30d z22.1 z22.2).bind fun z23 =>
  if z23.2.2.1 + 2 ≤ n0 + 4000 ∧ z23.2.2.2.1 + 300 ≤ s0 + 200000 then
  ((tJ4_init_a7421 M12.2.1 z23.1 z23.2).bind fun z24 =>
  (tL_plays_L125 G n0 s0 x0 x1 x2 M12.2.1 vF 0 z24.2).bind fun z30 =>
  if z30.2.2.1 + 0 ≤ n0 + 4000 ∧ z30.2.2.2.1 + 0 ≤ s0 + 200000 then
  ((tL_draw x1 5 z30.2).bind fun z31 =>
  (tL_plays_L168 G n0 s0 x0 x1 x2 M12.2.1 vF z31.1 z31.2).bind fun z63 =>
  if z63.2.2.1 + 2 ≤ n0 + 4000 ∧ z63.2.2.2.1 + 254 ≤ s0 + 200000 then
  (if (z63.2.1 M12.2.1).1 = 2 then
  ((tJ4_toString_0e30d M12.2.1 z63.2).bind fun z64 =>
  if z64.2.2.1 + 20 ≤ n0 + 4000 ∧ z64.2.2.2.1 + 100 ≤ s0 + 200000 then
  ((tL_feeds G x0 z64.1 z64.2).bind fun z65 =>
  if z65.1 = 0 then
  (if z65.2.2.1 ≤ n0 + 4000 ∧ z65.2.2.2.1 ≤ s0 + 200000 then some (0, z65.2) else none)
else
  (if z65.2.2.1 + 0 ≤ n0 + 4000 ∧ z65.2.2.2.1 + 0 ≤ s0 + 200000 then
  (if (z65.2.1 M12.2.1).1 = 2 then
  ((tJ4_length_8abf5 M12.2.1 z65.2).bind fun z67 =>
  if z65.2.2.1 + 26 ≤ n0 + 4000 ∧ z65.2.2.2.1 + 669 ≤ s0 + 200000 then
  (if (z65.2.1 x0).1 = 11 then
  ((tX9_parse G x0 z67 z65.2).bind fun z68 =>
  Sum.elim (fun r69 =>
  if r69 = 0 then
  ((tL_plays_L380 G n0 s0 x0 x1 x2 vF 0 z68.2).bind fun z78 =>
  Sum.elim (fun r80 => some (r80, z78.2)) (fun w79 =>
  if z78.2.2.1 ≤ n0 + 4000 ∧ z78.2.2.2.1 ≤ s0 + 200000 then some (1, z78.2) else none) z78.1)
else
  (if z68.2.2.1 ≤ n0 + 4000 ∧ z68.2.2.2.1 ≤ s0 + 200000 then some (0, z68.2) else none)) (fun _ => none) z68.1)
else none)
else none)
else none)
else none))
else none)
else none)
else none)
else none)
else none)
else none)
else none)
else none)
else none)
else none)
else none)
else none)
else none)
else none)
else none)
else none)
else none)
else none)
else none)
else none
def tL_plays_J36 (G : Nat → Nat) (n0 s0 : Nat) (x0 : Nat) (x1 : Nat) (x2 : Nat) (y0 : Nat) (y1 : Int32) (Mj : vMe) : Option (Int32 × vMe) :=
  (sV Mj y0 14 1 (.int y1)).bind fun M6 =>
  if M6.2.1 + 0 ≤ n0 + 4000 ∧ M6.2.2.1 + 0 ≤ s0 + 200000 then
  ((tL_draw x1 2 M6).bind fun z7 =>
  if z7.1 = 0 then
  (tL_plays_J57 G n0 s0 x0 x1 x2 x2 1 x1 60 z7.2)
else
  (tL_plays_J57 G n0 s0 x0 x1 x2 x2 1 x1 8 z7.2))
else none
def tL_plays (G : Nat → Nat) (x0 : Nat) (x1 : Nat) (M : vMe) : Option (Int32 × vMe) :=
  (nwO M 14 0 9 (vp_V [.int 0, .int 0, .int 0, .int 0, .int 0, .int 0, .null, .null, .null]) M.2.1 M.2.2.1 4000 200000).bind fun M1 =>
  if M1.2.1 + 43 ≤ M.2.1 + 4000 ∧ M1.2.2.1 + 41034 ≤ M.2.2.1 + 200000 then
  ((tX12_init M.2.1 M1).bind fun z2 =>
  if z2.2.2.1 + 0 ≤ M.2.1 + 4000 ∧ z2.2.2.2.1 + 0 ≤ M.2.2.1 + 200000 then
  ((tL_draw x1 3 z2.2).bind fun z3 =>
  if z3.1 = 0 then
  (if z3.2.2.1 + 0 ≤ M.2.1 + 4000 ∧ z3.2.2.2.1 + 0 ≤ M.2.2.1 + 200000 then
  ((tL_draw x1 64 z3.2).bind fun z5 =>
  tL_plays_J36 G M.2.1 M.2.2.1 x0 x1 M.2.1 M.2.1 (1 + z5.1) z5.2)
else none)
else
  (if z3.2.2.1 + 0 ≤ M.2.1 + 4000 ∧ z3.2.2.2.1 + 0 ≤ M.2.2.1 + 200000 then
  ((tL_draw x1 10 z3.2).bind fun z81 =>
  tL_plays_J36 G M.2.1 M.2.2.1 x0 x1 M.2.1 M.2.1 (2 + z81.1) z81.2)
else none))
else none)
else none
def rmL_plays : Room := { frames := 12, cells := 4000, slots := 200000, locals := 280 }
set_option maxHeartbeats 4000000 in
set_option maxRecDepth 100000 in
theorem mL_plays (l : Launch) (hfl : l.stackTraces = false) (D : vD) (x0 : Nat) (x1 : Nat) (M : vMe) (z : (Int32 × vMe)) (h : tL_plays D.2.2.2.2 x0 x1 M = some z) : Met l yL_plays (Cond.code yL_plays cL_plays 9 (some .boolean) :: TB) rmL_plays (va_Pc [.ref x0, .ref x1] (vPre D M)) (qW D (some (.int z.1)) z.2) 4000 200000 (vA D) := by
  refine v_ofW (cc := cL_plays) (maxL := 9) (ret := (some .boolean)) (by decide) (Nat.le_of_ble_eq_true rfl) ?_
  intro p e s m args below meth c Q hx hb hr hml hown hts hlk hnm hSS hR0 hQ ls hl
  have hz0 := hR0.2.1
  have hs0 := hR0.2.2.1
  have hb0 : D.2.2.2.1 ≤ s.heap.size := hR0.2.2.2.2.1
  refine v_tight hb0 ?_
  have hK := hSS.1
  have hl : lv_has ls 9 [(0, .ref x0), (1, .ref x1)] := hl
  unfold tL_plays at h
  have L_plays_L125p : ∀ (x0 : Nat) (x1 : Nat) (x2 : Nat) (x3 : Nat), ∀ (f : Nat) (x4 : Int32) (Mi : vMe) (ls : Array Slot) (z : (Unit × vMe)), lv_has ls 9 [(0, .ref x0), (1, .ref x1), (2, .ref x2), (3, .ref x3), (4, .int x4)] → tL_plays_L125 D.2.2.2.2 M.2.1 M.2.2.1 x0 x1 x2 x3 f x4 Mi = some z → (∀ ls : Array Slot, lv_has ls 9 [(0, .ref x0), (1, .ref x1), (2, .ref x2), (3, .ref x3)] → vV D p l e rmL_plays s m args below meth c (z.2.2.1 - s.heap.size) (z.2.2.2.1 - vSum D.2.2.2.1 s.heap) Q z.2 (F0 m 161 ls [])) → vV D p l e rmL_plays s m args below meth c (Mi.2.1 - s.heap.size) (Mi.2.2.1 - vSum D.2.2.2.1 s.heap) Q Mi (F0 m 125 ls []) := by
    intro x0 x1 x2 x3 f
    induction f with
    | zero =>
      intro x4 Mi ls z hl h
      exact absurd h (by simp [tL_plays_L125])
    | succ f ih =>
      intro x4 Mi ls z hl h KX
      rw [tL_plays_L125] at h
      refine w_iload hx hb dL_plays_125 (lv_at hl 4 rfl) ?_
      refine w_aload_n hx hb dL_plays_127 rfl (lv_at hl 2 rfl) ?_
      obtain ⟨v25, ev25, h⟩ := v_bnd h
      refine v_gI (ci := 13) hx hb hts iwX12 hown hK 0 ev25 rfl (by decide) (Or.inr ⟨_, kn64 hSS _⟩) (fun _ h9 => h9) dL_plays_128 ?_
      refine w_icmp_ge (tgt := 161) hx hb dL_plays_131 (by decide) (fun c26 => ?_) (fun c26 => ?_)
      · rw [if_pos c26] at h
        obtain rfl := Option.some.inj h
        refine v_tight hb0 ?_
        exact KX ls (lv_sub hl [0, 1, 2, 3] rfl)
      · rw [if_neg c26] at h
        refine w_aload_n hx hb dL_plays_134 rfl (lv_at hl 3 rfl) ?_
        refine w_ldcS hx hb hown (hSS.2.2.1 21 _ rfl) dL_plays_135 ?_
        obtain ⟨g7, h⟩ := v_ifs h
        refine v_tight hb0 ?_
        obtain ⟨g8, h⟩ := v_ifs h
        obtain ⟨z27, ez27, h⟩ := v_bnd h
        refine v_call1 (v := .ref z27.1) (M1 := z27.2) (mc := 1) (ms := 250) (fun H locs hR hS => va_runV (As := [.ref (D.2.2.2.2 21)]) (rest := []) ⟨hx, hb, hml, hown, hts⟩ (mJ4_append_15ec4 l hfl D x3 (D.2.2.2.2 21) Mi z27 ez27) (cwV 1 hts (gdV kw443 kw444 kw445 kw38 kw446) rfl rfl rfl (by decide +kernel) ⟨Nat.le_of_ble_eq_true rfl, Nat.le_of_ble_eq_true rfl⟩) (v_preV (ci := 1) hSS hR hS g8 (by decide) rfl [.ref (D.2.2.2.2 21)]) rfl rfl hl.1 rfl (lv_room (Nat.le_of_ble_eq_true rfl)) dL_plays_137 ⟨by show _ + _ ≤ 4000; omega, by show _ + _ ≤ 200000; omega⟩) ?_
        refine w_bipush (v := 97) hx hb dL_plays_140 (by decide) ?_
        refine w_iload hx hb dL_plays_142 (lv_at hl 4 rfl) ?_
        refine w_iadd hx hb dL_plays_144 ?_
        refine w_i2c hx hb dL_plays_145 ?_
        obtain ⟨g7, h⟩ := v_ifs h
        refine v_tight hb0 ?_
        obtain ⟨g8, h⟩ := v_ifs h
        obtain ⟨z28, ez28, h⟩ := v_bnd h
        refine v_call1 (v := .ref z28.1) (M1 := z28.2) (mc := 1) (ms := 250) (fun H locs hR hS => va_runV (As := [.int (((97 + x4).toUInt32 % 65536).toInt32)]) (rest := []) ⟨hx, hb, hml, hown, hts⟩ (mJ4_append_cf468 l hfl D z27.1 (((97 + x4).toUInt32 % 65536).toInt32) z27.2 z28 ez28) (cwV 1 hts (gdV kw662 kw663 kw664 kw38 kw665) rfl rfl rfl (by decide +kernel) ⟨Nat.le_of_ble_eq_true rfl, Nat.le_of_ble_eq_true rfl⟩) (v_preV (ci := 1) hSS hR hS g8 (by decide) rfl [.int (((97 + x4).toUInt32 % 65536).toInt32)]) rfl rfl hl.1 rfl (lv_room (Nat.le_of_ble_eq_true rfl)) dL_plays_146 ⟨by show _ + _ ≤ 4000; omega, by show _ + _ ≤ 200000; omega⟩) ?_
        refine w_bipush (v := 59) hx hb dL_plays_149 (by decide) ?_
        obtain ⟨g7, h⟩ := v_ifs h
        refine v_tight hb0 ?_
        obtain ⟨g8, h⟩ := v_ifs h
        obtain ⟨z29, ez29, h⟩ := v_bnd h
        refine v_call1 (v := .ref z29.1) (M1 := z29.2) (mc := 1) (ms := 250) (fun H locs hR hS => va_runV (As := [.int 59]) (rest := []) ⟨hx, hb, hml, hown, hts⟩ (mJ4_append_cf468 l hfl D z28.1 59 z28.2 z29 ez29) (cwV 1 hts (gdV kw662 kw663 kw664 kw38 kw665) rfl rfl rfl (by decide +kernel) ⟨Nat.le_of_ble_eq_true rfl, Nat.le_of_ble_eq_true rfl⟩) (v_preV (ci := 1) hSS hR hS g8 (by decide) rfl [.int 59]) rfl rfl hl.1 rfl (lv_room (Nat.le_of_ble_eq_true rfl)) dL_plays_151 ⟨by show _ + _ ≤ 4000; omega, by show _ + _ ≤ 200000; omega⟩) ?_
        refine w_pop hx hb dL_plays_154 rfl ?_
        refine w_iinc (v := x4 + 1) (lv' := [(4, .int (x4 + 1)), (0, .ref x0), (1, .ref x1), (2, .ref x2), (3, .ref x3)]) hx hb dL_plays_155 hl (j := 4) rfl rfl (by decide) rfl (fun ls hl => ?_)
        have hl : lv_has ls 9 [(0, .ref x0), (1, .ref x1), (2, .ref x2), (3, .ref x3), (4, .int (x4 + 1))] := lv_sub hl [1, 2, 3, 4, 0] rfl
        refine w_goto (tgt := 125) hx hb dL_plays_158 (by decide) ?_
        refine v_tight hb0 ?_
        exact ih (x4 + 1) z29.2 ls z (lv_sub hl [0, 1, 2, 3, 4] rfl) h KX
  have L_plays_L234p : ∀ (x0 : Nat) (x1 : Nat) (x2 : Nat) (x3 : Nat) (x4 : Int32) (x5 : Int32) (x6 : Int32), ∀ (f : Nat) (x7 : Int32) (Mi : vMe) (ls : Array Slot) (z : (Unit × vMe)), lv_has ls 9 [(0, .ref x0), (1, .ref x1), (2, .ref x2), (3, .ref x3), (4, .int x4), (5, .int x5), (6, .int x6), (7, .int x7)] → tL_plays_L234 D.2.2.2.2 M.2.1 M.2.2.1 x0 x1 x2 x3 x4 x5 x6 f x7 Mi = some z → (∀ ls : Array Slot, lv_has ls 9 [(0, .ref x0), (1, .ref x1), (2, .ref x2), (3, .ref x3), (4, .int x4)] → vV D p l e rmL_plays s m args below meth c (z.2.2.1 - s.heap.size) (z.2.2.2.1 - vSum D.2.2.2.1 s.heap) Q z.2 (F0 m 302 ls [])) → vV D p l e rmL_plays s m args below meth c (Mi.2.1 - s.heap.size) (Mi.2.2.1 - vSum D.2.2.2.1 s.heap) Q Mi (F0 m 234 ls []) := by
    intro x0 x1 x2 x3 x4 x5 x6 f
    induction f with
    | zero =>
      intro x7 Mi ls z hl h
      exact absurd h (by simp [tL_plays_L234])
    | succ f ih =>
      intro x7 Mi ls z hl h KX
      rw [tL_plays_L234] at h
      have L_plays_J284_234p : ∀ (x7 : Int32) (x8 : Int32) (Mj : vMe) (ls : Array Slot), lv_has ls 9 [(0, .ref x0), (1, .ref x1), (2, .ref x2), (3, .ref x3), (4, .int x4), (5, .int x5), (6, .int x6), (7, .int x7), (8, .int x8)] → tL_plays_J284_234 D.2.2.2.2 (tL_plays_L234 D.2.2.2.2 M.2.1 M.2.2.1 x0 x1 x2 x3 x4 x5 x6 f) M.2.1 M.2.2.1 x0 x1 x2 x3 x4 x5 x6 x7 x8 Mj = some z → vV D p l e rmL_plays s m args below meth c (Mj.2.1 - s.heap.size) (Mj.2.2.1 - vSum D.2.2.2.1 s.heap) Q Mj (F0 m 284 ls []) := by
        intro x7 x8 Mj ls hl h
        unfold tL_plays_J284_234 at h
        refine w_aload_n hx hb dL_plays_284 rfl (lv_at hl 3 rfl) ?_
        refine w_bipush (v := 32) hx hb dL_plays_285 (by decide) ?_
        obtain ⟨g7, h⟩ := v_ifs h
        refine v_tight hb0 ?_
        obtain ⟨g8, h⟩ := v_ifs h
        obtain ⟨z48, ez48, h⟩ := v_bnd h
        refine v_call1 (v := .ref z48.1) (M1 := z48.2) (mc := 1) (ms := 250) (fun H locs hR hS => va_runV (As := [.int 32]) (rest := []) ⟨hx, hb, hml, hown, hts⟩ (mJ4_append_cf468 l hfl D x3 32 Mj z48 ez48) (cwV 1 hts (gdV kw662 kw663 kw664 kw38 kw665) rfl rfl rfl (by decide +kernel) ⟨Nat.le_of_ble_eq_true rfl, Nat.le_of_ble_eq_true rfl⟩) (v_preV (ci := 1) hSS hR hS g8 (by decide) rfl [.int 32]) rfl rfl hl.1 rfl (lv_room (Nat.le_of_ble_eq_true rfl)) dL_plays_287 ⟨by show _ + _ ≤ 4000; omega, by show _ + _ ≤ 200000; omega⟩) ?_
        refine w_iload hx hb dL_plays_290 (lv_at hl 8 rfl) ?_
        obtain ⟨g7, h⟩ := v_ifs h
        refine v_tight hb0 ?_
        obtain ⟨g8, h⟩ := v_ifs h
        obtain ⟨z49, ez49, h⟩ := v_bnd h
        refine v_call1 (v := .ref z49.1) (M1 := z49.2) (mc := 1) (ms := 250) (fun H locs hR hS => va_runV (As := [.int x8]) (rest := []) ⟨hx, hb, hml, hown, hts⟩ (mJ4_append_bf812 l hfl D z48.1 x8 z48.2 z49 ez49) (cwV 1 hts (gdV kw563 kw564 kw565 kw38 kw566) rfl rfl rfl (by decide +kernel) ⟨Nat.le_of_ble_eq_true rfl, Nat.le_of_ble_eq_true rfl⟩) (v_preV (ci := 1) hSS hR hS g8 (by decide) rfl [.int x8]) rfl rfl hl.1 rfl (lv_room (Nat.le_of_ble_eq_true rfl)) dL_plays_292 ⟨by show _ + _ ≤ 4000; omega, by show _ + _ ≤ 200000; omega⟩) ?_
        refine w_pop hx hb dL_plays_295 rfl ?_
        refine w_iinc (v := x7 + (-1)) (lv' := [(7, .int (x7 + (-1))), (0, .ref x0), (1, .ref x1), (2, .ref x2), (3, .ref x3), (4, .int x4), (5, .int x5), (6, .int x6), (8, .int x8)]) hx hb dL_plays_296 hl (j := 7) rfl rfl (by decide) rfl (fun ls hl => ?_)
        have hl : lv_has ls 9 [(0, .ref x0), (1, .ref x1), (2, .ref x2), (3, .ref x3), (4, .int x4), (5, .int x5), (6, .int x6), (7, .int (x7 + (-1))), (8, .int x8)] := lv_sub hl [1, 2, 3, 4, 5, 6, 7, 0, 8] rfl
        refine w_goto (tgt := 234) hx hb dL_plays_299 (by decide) ?_
        refine v_tight hb0 ?_
        exact ih (x7 + (-1)) z49.2 ls z (lv_sub hl [0, 1, 2, 3, 4, 5, 6, 7] rfl) h KX
      refine w_iload hx hb dL_plays_234 (lv_at hl 7 rfl) ?_
      refine w_if_le (tgt := 302) hx hb dL_plays_236 (by decide) (fun c41 => ?_) (fun c41 => ?_)
      · rw [if_pos c41] at h
        obtain rfl := Option.some.inj h
        refine v_tight hb0 ?_
        exact KX ls (lv_sub hl [0, 1, 2, 3, 4] rfl)
      · rw [if_neg c41] at h
        refine w_aload_n hx hb dL_plays_239 rfl (lv_at hl 1 rfl) ?_
        refine w_aload_n hx hb dL_plays_240 rfl (lv_at hl 2 rfl) ?_
        obtain ⟨v42, ev42, h⟩ := v_bnd h
        refine v_gI (ci := 13) hx hb hts iwX12 hown hK 1 ev42 rfl (by decide) (Or.inr ⟨_, kn65 hSS _⟩) (fun _ h9 => h9) dL_plays_241 ?_
        obtain ⟨g7, h⟩ := v_ifs h
        refine v_tight hb0 ?_
        obtain ⟨z43, ez43, h⟩ := v_bnd h
        refine v_call1 (v := .int z43.1) (M1 := z43.2) (mc := 0) (ms := 0) (fun H locs hR hS => va_runS (As := [.ref x1, .int v42]) (rest := []) ⟨hx, hb, hml, hown, hts⟩ (mL_draw l hfl D x1 v42 Mi z43 ez43) (va_cwS 2 hts (gdS kw406 kw407 kw26 kw408) rfl rfl rfl (by decide +kernel) ⟨Nat.le_of_ble_eq_true rfl, Nat.le_of_ble_eq_true rfl⟩) (v_preS hSS hR hS [.ref x1, .int v42]) rfl rfl hl.1 rfl (lv_room (Nat.le_of_ble_eq_true rfl)) dL_plays_244 ⟨by show _ + _ ≤ 4000; omega, by show _ + _ ≤ 200000; omega⟩) ?_
        refine w_istore (lv' := [(8, .int z43.1), (0, .ref x0), (1, .ref x1), (2, .ref x2), (3, .ref x3), (4, .int x4), (5, .int x5), (6, .int x6), (7, .int x7)]) hx hb dL_plays_247 hl (by decide) rfl (fun ls hl => ?_)
        have hl : lv_has ls 9 [(0, .ref x0), (1, .ref x1), (2, .ref x2), (3, .ref x3), (4, .int x4), (5, .int x5), (6, .int x6), (7, .int x7), (8, .int z43.1)] := lv_sub hl [1, 2, 3, 4, 5, 6, 7, 8, 0] rfl
        refine w_iload hx hb dL_plays_249 (lv_at hl 6 rfl) ?_
        refine w_if_eq (tgt := 270) hx hb dL_plays_251 (by decide) (fun c44 => ?_) (fun c44 => ?_)
        · rw [if_pos c44] at h
          refine w_aload_n hx hb dL_plays_270 rfl (lv_at hl 2 rfl) ?_
          refine w_aload_n hx hb dL_plays_271 rfl (lv_at hl 2 rfl) ?_
          obtain ⟨a45, ea45, h⟩ := v_bnd h
          refine v_gA (ci := 13) hx hb hts iwX12 hown hK 6 ea45 rfl (by decide) (Or.inr ⟨_, kn70 hSS _⟩) (fun _ h9 => h9) dL_plays_272 ?_
          refine w_iload hx hb dL_plays_275 (lv_at hl 5 rfl) ?_
          obtain ⟨a46, ea46, h⟩ := v_bnd h
          refine v_aaldA hx hb hK ea46 (by decide) dL_plays_277 ?_
          refine w_iload hx hb dL_plays_278 (lv_at hl 8 rfl) ?_
          obtain ⟨g7, h⟩ := v_ifs h
          refine v_tight hb0 ?_
          obtain ⟨g8, h⟩ := v_ifs h
          obtain ⟨z47, ez47, h⟩ := v_bnd h
          refine v_call1 (v := .int z47.1) (M1 := z47.2) (mc := 1) (ms := 6) (fun H locs hR hS => va_runV (As := [.ref a46, .int z43.1]) (rest := []) ⟨hx, hb, hml, hown, hts⟩ (mX12_remove l hfl D x2 a46 z43.1 z43.2 z47 ez47) (cwV 2 hts (gdV kw706 kw707 kw708 kw35 kw709) rfl rfl rfl (by decide +kernel) ⟨Nat.le_of_ble_eq_true rfl, Nat.le_of_ble_eq_true rfl⟩) (v_preV (ci := 13) hSS hR hS g8 (by decide) rfl [.ref a46, .int z43.1]) rfl rfl hl.1 rfl (lv_room (Nat.le_of_ble_eq_true rfl)) dL_plays_280 ⟨by show _ + _ ≤ 4000; omega, by show _ + _ ≤ 200000; omega⟩) ?_
          refine w_pop hx hb dL_plays_283 rfl ?_
          refine v_tight hb0 ?_
          exact L_plays_J284_234p x7 z43.1 z47.2 ls (lv_sub hl [0, 1, 2, 3, 4, 5, 6, 7, 8] rfl) h
        · rw [if_neg c44] at h
          refine w_aload_n hx hb dL_plays_254 rfl (lv_at hl 2 rfl) ?_
          refine w_aload_n hx hb dL_plays_255 rfl (lv_at hl 2 rfl) ?_
          obtain ⟨a50, ea50, h⟩ := v_bnd h
          refine v_gA (ci := 13) hx hb hts iwX12 hown hK 6 ea50 rfl (by decide) (Or.inr ⟨_, kn70 hSS _⟩) (fun _ h9 => h9) dL_plays_256 ?_
          refine w_iload hx hb dL_plays_259 (lv_at hl 5 rfl) ?_
          obtain ⟨a51, ea51, h⟩ := v_bnd h
          refine v_aaldA hx hb hK ea51 (by decide) dL_plays_261 ?_
          refine w_iload hx hb dL_plays_262 (lv_at hl 8 rfl) ?_
          obtain ⟨g7, h⟩ := v_ifs h
          refine v_tight hb0 ?_
          obtain ⟨g8, h⟩ := v_ifs h
          obtain ⟨z52, ez52, h⟩ := v_bnd h
          refine v_call0 (M1 := z52.2) (mc := 0) (ms := 0) (fun H locs hR hS => va_runV (As := [.ref a51, .int z43.1]) (rest := []) ⟨hx, hb, hml, hown, hts⟩ (mX12_add l hfl D x2 a51 z43.1 z43.2 z52 ez52) (cwV 2 hts (gdV kw686 kw687 kw688 kw35 kw689) rfl rfl rfl (by decide +kernel) ⟨Nat.le_of_ble_eq_true rfl, Nat.le_of_ble_eq_true rfl⟩) (v_preV (ci := 13) hSS hR hS g8 (by decide) rfl [.ref a51, .int z43.1]) rfl rfl hl.1 rfl (lv_room (Nat.le_of_ble_eq_true rfl)) dL_plays_264 ⟨by show _ + _ ≤ 4000; omega, by show _ + _ ≤ 200000; omega⟩) ?_
          refine w_goto (tgt := 284) hx hb dL_plays_267 (by decide) ?_
          refine v_tight hb0 ?_
          exact L_plays_J284_234p x7 z43.1 z52.2 ls (lv_sub hl [0, 1, 2, 3, 4, 5, 6, 7, 8] rfl) h
  have L_plays_L168p : ∀ (x0 : Nat) (x1 : Nat) (x2 : Nat) (x3 : Nat), ∀ (f : Nat) (x4 : Int32) (Mi : vMe) (ls : Array Slot) (z : (Unit × vMe)), lv_has ls 9 [(0, .ref x0), (1, .ref x1), (2, .ref x2), (3, .ref x3), (4, .int x4)] → tL_plays_L168 D.2.2.2.2 M.2.1 M.2.2.1 x0 x1 x2 x3 f x4 Mi = some z → (∀ ls : Array Slot, lv_has ls 9 [(0, .ref x0), (1, .ref x1), (2, .ref x2), (3, .ref x3)] → vV D p l e rmL_plays s m args below meth c (z.2.2.1 - s.heap.size) (z.2.2.2.1 - vSum D.2.2.2.1 s.heap) Q z.2 (F0 m 353 ls [])) → vV D p l e rmL_plays s m args below meth c (Mi.2.1 - s.heap.size) (Mi.2.2.1 - vSum D.2.2.2.1 s.heap) Q Mi (F0 m 168 ls []) := by
    intro x0 x1 x2 x3 f
    induction f with
    | zero =>
      intro x4 Mi ls z hl h
      exact absurd h (by simp [tL_plays_L168])
    | succ f ih =>
      intro x4 Mi ls z hl h KX
      rw [tL_plays_L168] at h
      have L_plays_J347_168p : ∀ (x4 : Int32) (Mj : vMe) (ls : Array Slot), lv_has ls 9 [(0, .ref x0), (1, .ref x1), (2, .ref x2), (3, .ref x3), (4, .int x4)] → tL_plays_J347_168 (tL_plays_L168 D.2.2.2.2 M.2.1 M.2.2.1 x0 x1 x2 x3 f) M.2.1 M.2.2.1 x0 x1 x2 x3 x4 Mj = some z → vV D p l e rmL_plays s m args below meth c (Mj.2.1 - s.heap.size) (Mj.2.2.1 - vSum D.2.2.2.1 s.heap) Q Mj (F0 m 347 ls []) := by
        intro x4 Mj ls hl h
        unfold tL_plays_J347_168 at h
        refine w_iinc (v := x4 + (-1)) (lv' := [(4, .int (x4 + (-1))), (0, .ref x0), (1, .ref x1), (2, .ref x2), (3, .ref x3)]) hx hb dL_plays_347 hl (j := 4) rfl rfl (by decide) rfl (fun ls hl => ?_)
        have hl : lv_has ls 9 [(0, .ref x0), (1, .ref x1), (2, .ref x2), (3, .ref x3), (4, .int (x4 + (-1)))] := lv_sub hl [1, 2, 3, 4, 0] rfl
        refine w_goto (tgt := 168) hx hb dL_plays_350 (by decide) ?_
        refine v_tight hb0 ?_
        exact ih (x4 + (-1)) Mj ls z (lv_sub hl [0, 1, 2, 3, 4] rfl) h KX
      have L_plays_J211_168p : ∀ (x4 : Int32) (x5 : Int32) (x6 : Int32) (y0 : Nat) (y1 : Nat) (Mj : vMe) (ls : Array Slot), lv_has ls 9 [(0, .ref x0), (1, .ref x1), (2, .ref x2), (3, .ref x3), (4, .int x4), (5, .int x5), (6, .int x6)] → tL_plays_J211_168 D.2.2.2.2 (tL_plays_L168 D.2.2.2.2 M.2.1 M.2.2.1 x0 x1 x2 x3 f) M.2.1 M.2.2.1 x0 x1 x2 x3 x4 x5 x6 y0 y1 Mj = some z → vV D p l e rmL_plays s m args below meth c (Mj.2.1 - s.heap.size) (Mj.2.2.1 - vSum D.2.2.2.1 s.heap) Q Mj (F0 m 211 ls [.ref y1, .ref y0]) := by
        intro x4 x5 x6 y0 y1 Mj ls hl h
        unfold tL_plays_J211_168 at h
        obtain ⟨g7, h⟩ := v_ifs h
        refine v_tight hb0 ?_
        obtain ⟨g8, h⟩ := v_ifs h
        obtain ⟨z38, ez38, h⟩ := v_bnd h
        refine v_call1 (v := .ref z38.1) (M1 := z38.2) (mc := 1) (ms := 250) (fun H locs hR hS => va_runV (As := [.ref y1]) (rest := []) ⟨hx, hb, hml, hown, hts⟩ (mJ4_append_15ec4 l hfl D y0 y1 Mj z38 ez38) (cwV 1 hts (gdV kw443 kw444 kw445 kw38 kw446) rfl rfl rfl (by decide +kernel) ⟨Nat.le_of_ble_eq_true rfl, Nat.le_of_ble_eq_true rfl⟩) (v_preV (ci := 1) hSS hR hS g8 (by decide) rfl [.ref y1]) rfl rfl hl.1 rfl (lv_room (Nat.le_of_ble_eq_true rfl)) dL_plays_211 ⟨by show _ + _ ≤ 4000; omega, by show _ + _ ≤ 200000; omega⟩) ?_
        refine w_bipush (v := 97) hx hb dL_plays_214 (by decide) ?_
        refine w_iload hx hb dL_plays_216 (lv_at hl 5 rfl) ?_
        refine w_iadd hx hb dL_plays_218 ?_
        refine w_i2c hx hb dL_plays_219 ?_
        obtain ⟨g7, h⟩ := v_ifs h
        refine v_tight hb0 ?_
        obtain ⟨g8, h⟩ := v_ifs h
        obtain ⟨z39, ez39, h⟩ := v_bnd h
        refine v_call1 (v := .ref z39.1) (M1 := z39.2) (mc := 1) (ms := 250) (fun H locs hR hS => va_runV (As := [.int (((97 + x5).toUInt32 % 65536).toInt32)]) (rest := []) ⟨hx, hb, hml, hown, hts⟩ (mJ4_append_cf468 l hfl D z38.1 (((97 + x5).toUInt32 % 65536).toInt32) z38.2 z39 ez39) (cwV 1 hts (gdV kw662 kw663 kw664 kw38 kw665) rfl rfl rfl (by decide +kernel) ⟨Nat.le_of_ble_eq_true rfl, Nat.le_of_ble_eq_true rfl⟩) (v_preV (ci := 1) hSS hR hS g8 (by decide) rfl [.int (((97 + x5).toUInt32 % 65536).toInt32)]) rfl rfl hl.1 rfl (lv_room (Nat.le_of_ble_eq_true rfl)) dL_plays_220 ⟨by show _ + _ ≤ 4000; omega, by show _ + _ ≤ 200000; omega⟩) ?_
        refine w_pop hx hb dL_plays_223 rfl ?_
        refine w_iconst (v := 1) hx hb dL_plays_224 (by decide) ?_
        refine w_aload_n hx hb dL_plays_225 rfl (lv_at hl 1 rfl) ?_
        refine w_bipush (v := 6) hx hb dL_plays_226 (by decide) ?_
        obtain ⟨g7, h⟩ := v_ifs h
        refine v_tight hb0 ?_
        obtain ⟨z40, ez40, h⟩ := v_bnd h
        refine v_call1 (v := .int z40.1) (M1 := z40.2) (mc := 0) (ms := 0) (fun H locs hR hS => va_runS (As := [.ref x1, .int 6]) (rest := [.int 1]) ⟨hx, hb, hml, hown, hts⟩ (mL_draw l hfl D x1 6 z39.2 z40 ez40) (va_cwS 2 hts (gdS kw406 kw407 kw26 kw408) rfl rfl rfl (by decide +kernel) ⟨Nat.le_of_ble_eq_true rfl, Nat.le_of_ble_eq_true rfl⟩) (v_preS hSS hR hS [.ref x1, .int 6]) rfl rfl hl.1 rfl (lv_room (Nat.le_of_ble_eq_true rfl)) dL_plays_228 ⟨by show _ + _ ≤ 4000; omega, by show _ + _ ≤ 200000; omega⟩) ?_
        refine w_iadd hx hb dL_plays_231 ?_
        refine w_istore (lv' := [(7, .int (1 + z40.1)), (0, .ref x0), (1, .ref x1), (2, .ref x2), (3, .ref x3), (4, .int x4), (5, .int x5), (6, .int x6)]) hx hb dL_plays_232 hl (by decide) rfl (fun ls hl => ?_)
        have hl : lv_has ls 9 [(0, .ref x0), (1, .ref x1), (2, .ref x2), (3, .ref x3), (4, .int x4), (5, .int x5), (6, .int x6), (7, .int (1 + z40.1))] := lv_sub hl [1, 2, 3, 4, 5, 6, 7, 0] rfl
        obtain ⟨z53, ez53, h⟩ := v_bnd h
        refine v_tight hb0 ?_
        refine L_plays_L234p x0 x1 x2 x3 x4 x5 x6 vF (1 + z40.1) z40.2 ls z53 (lv_sub hl [0, 1, 2, 3, 4, 5, 6, 7] rfl) ez53 (fun ls hl => ?_)
        refine w_aload_n hx hb dL_plays_302 rfl (lv_at hl 3 rfl) ?_
        refine w_bipush (v := 59) hx hb dL_plays_303 (by decide) ?_
        obtain ⟨g7, h⟩ := v_ifs h
        refine v_tight hb0 ?_
        obtain ⟨g8, h⟩ := v_ifs h
        obtain ⟨z54, ez54, h⟩ := v_bnd h
        refine v_call1 (v := .ref z54.1) (M1 := z54.2) (mc := 1) (ms := 250) (fun H locs hR hS => va_runV (As := [.int 59]) (rest := []) ⟨hx, hb, hml, hown, hts⟩ (mJ4_append_cf468 l hfl D x3 59 z53.2 z54 ez54) (cwV 1 hts (gdV kw662 kw663 kw664 kw38 kw665) rfl rfl rfl (by decide +kernel) ⟨Nat.le_of_ble_eq_true rfl, Nat.le_of_ble_eq_true rfl⟩) (v_preV (ci := 1) hSS hR hS g8 (by decide) rfl [.int 59]) rfl rfl hl.1 rfl (lv_room (Nat.le_of_ble_eq_true rfl)) dL_plays_305 ⟨by show _ + _ ≤ 4000; omega, by show _ + _ ≤ 200000; omega⟩) ?_
        refine w_pop hx hb dL_plays_308 rfl ?_
        refine w_aload_n hx hb dL_plays_309 rfl (lv_at hl 1 rfl) ?_
        refine w_iconst (v := 3) hx hb dL_plays_310 (by decide) ?_
        obtain ⟨g7, h⟩ := v_ifs h
        refine v_tight hb0 ?_
        obtain ⟨z55, ez55, h⟩ := v_bnd h
        refine v_call1 (v := .int z55.1) (M1 := z55.2) (mc := 0) (ms := 0) (fun H locs hR hS => va_runS (As := [.ref x1, .int 3]) (rest := []) ⟨hx, hb, hml, hown, hts⟩ (mL_draw l hfl D x1 3 z54.2 z55 ez55) (va_cwS 2 hts (gdS kw406 kw407 kw26 kw408) rfl rfl rfl (by decide +kernel) ⟨Nat.le_of_ble_eq_true rfl, Nat.le_of_ble_eq_true rfl⟩) (v_preS hSS hR hS [.ref x1, .int 3]) rfl rfl hl.1 rfl (lv_room (Nat.le_of_ble_eq_true rfl)) dL_plays_311 ⟨by show _ + _ ≤ 4000; omega, by show _ + _ ≤ 200000; omega⟩) ?_
        refine w_if_le (tgt := 320) hx hb dL_plays_314 (by decide) (fun c56 => ?_) (fun c56 => ?_)
        · rw [if_pos c56] at h
          refine w_aload_n hx hb dL_plays_320 rfl (lv_at hl 2 rfl) ?_
          obtain ⟨a57, ea57, h⟩ := v_bnd h
          refine v_gA (ci := 13) hx hb hts iwX12 hown hK 8 ea57 rfl (by decide) (Or.inr ⟨_, kn72 hSS _⟩) (fun _ h9 => h9) dL_plays_321 ?_
          refine w_aload_n hx hb dL_plays_324 rfl (lv_at hl 2 rfl) ?_
          refine w_dup hx hb dL_plays_325 rfl ?_
          obtain ⟨v58, ev58, h⟩ := v_bnd h
          refine v_gI (ci := 13) hx hb hts iwX12 hown hK 5 ev58 rfl (by decide) (Or.inr ⟨_, kn69 hSS _⟩) (fun _ h9 => h9) dL_plays_326 ?_
          refine w_dup_x1 hx hb dL_plays_329 rfl rfl ?_
          refine w_iconst (v := 1) hx hb dL_plays_330 (by decide) ?_
          refine w_iadd hx hb dL_plays_331 ?_
          obtain ⟨M59, eM59, h⟩ := v_bnd h
          refine v_putf (ci := 13) hx hb hts iwX12 hown hK tyX12_ok nmX12 5 eM59 rfl (by decide) (Or.inr ⟨_, kn69 hSS _⟩) (fun _ h9 => h9) (Or.inl rfl) rfl rfl dL_plays_332 ?_
          refine w_aload_n hx hb dL_plays_335 rfl (lv_at hl 2 rfl) ?_
          obtain ⟨v60, ev60, h⟩ := v_bnd h
          refine v_gI (ci := 13) hx hb hts iwX12 hown hK 3 ev60 rfl (by decide) (Or.inr ⟨_, kn67 hSS _⟩) (fun _ h9 => h9) dL_plays_336 ?_
          obtain ⟨M61, eM61, h⟩ := v_bnd h
          refine v_iast hx hb hK eM61 dL_plays_339 ?_
          refine w_aload_n hx hb dL_plays_340 rfl (lv_at hl 3 rfl) ?_
          refine w_ldcS hx hb hown (hSS.2.2.1 24 _ rfl) dL_plays_341 ?_
          obtain ⟨g7, h⟩ := v_ifs h
          refine v_tight hb0 ?_
          obtain ⟨g8, h⟩ := v_ifs h
          obtain ⟨z62, ez62, h⟩ := v_bnd h
          refine v_call1 (v := .ref z62.1) (M1 := z62.2) (mc := 1) (ms := 250) (fun H locs hR hS => va_runV (As := [.ref (D.2.2.2.2 24)]) (rest := []) ⟨hx, hb, hml, hown, hts⟩ (mJ4_append_15ec4 l hfl D x3 (D.2.2.2.2 24) M61 z62 ez62) (cwV 1 hts (gdV kw443 kw444 kw445 kw38 kw446) rfl rfl rfl (by decide +kernel) ⟨Nat.le_of_ble_eq_true rfl, Nat.le_of_ble_eq_true rfl⟩) (v_preV (ci := 1) hSS hR hS g8 (by decide) rfl [.ref (D.2.2.2.2 24)]) rfl rfl hl.1 rfl (lv_room (Nat.le_of_ble_eq_true rfl)) dL_plays_343 ⟨by show _ + _ ≤ 4000; omega, by show _ + _ ≤ 200000; omega⟩) ?_
          refine w_pop hx hb dL_plays_346 rfl ?_
          refine v_tight hb0 ?_
          exact L_plays_J347_168p x4 z62.2 ls (lv_sub hl [0, 1, 2, 3, 4] rfl) h
        · rw [if_neg c56] at h
          refine w_goto (tgt := 347) hx hb dL_plays_317 (by decide) ?_
          refine v_tight hb0 ?_
          exact L_plays_J347_168p x4 z55.2 ls (lv_sub hl [0, 1, 2, 3, 4] rfl) h
      have L_plays_J196_168p : ∀ (x4 : Int32) (x5 : Int32) (y0 : Int32) (Mj : vMe) (ls : Array Slot), lv_has ls 9 [(0, .ref x0), (1, .ref x1), (2, .ref x2), (3, .ref x3), (4, .int x4), (5, .int x5)] → tL_plays_J196_168 D.2.2.2.2 (tL_plays_L168 D.2.2.2.2 M.2.1 M.2.2.1 x0 x1 x2 x3 f) M.2.1 M.2.2.1 x0 x1 x2 x3 x4 x5 y0 Mj = some z → vV D p l e rmL_plays s m args below meth c (Mj.2.1 - s.heap.size) (Mj.2.2.1 - vSum D.2.2.2.1 s.heap) Q Mj (F0 m 196 ls [.int y0]) := by
        intro x4 x5 y0 Mj ls hl h
        unfold tL_plays_J196_168 at h
        refine w_istore (lv' := [(6, .int y0), (0, .ref x0), (1, .ref x1), (2, .ref x2), (3, .ref x3), (4, .int x4), (5, .int x5)]) hx hb dL_plays_196 hl (by decide) rfl (fun ls hl => ?_)
        have hl : lv_has ls 9 [(0, .ref x0), (1, .ref x1), (2, .ref x2), (3, .ref x3), (4, .int x4), (5, .int x5), (6, .int y0)] := lv_sub hl [1, 2, 3, 4, 5, 6, 0] rfl
        refine w_aload_n hx hb dL_plays_198 rfl (lv_at hl 3 rfl) ?_
        refine w_iload hx hb dL_plays_199 (lv_at hl 6 rfl) ?_
        refine w_if_eq (tgt := 209) hx hb dL_plays_201 (by decide) (fun c37 => ?_) (fun c37 => ?_)
        · rw [if_pos c37] at h
          refine w_ldcS hx hb hown (hSS.2.2.1 23 _ rfl) dL_plays_209 ?_
          refine v_tight hb0 ?_
          exact L_plays_J211_168p x4 x5 y0 x3 (D.2.2.2.2 23) Mj ls (lv_sub hl [0, 1, 2, 3, 4, 5, 6] rfl) h
        · rw [if_neg c37] at h
          refine w_ldcS hx hb hown (hSS.2.2.1 22 _ rfl) dL_plays_204 ?_
          refine w_goto (tgt := 211) hx hb dL_plays_206 (by decide) ?_
          refine v_tight hb0 ?_
          exact L_plays_J211_168p x4 x5 y0 x3 (D.2.2.2.2 22) Mj ls (lv_sub hl [0, 1, 2, 3, 4, 5, 6] rfl) h
      refine w_iload hx hb dL_plays_168 (lv_at hl 4 rfl) ?_
      refine w_if_le (tgt := 353) hx hb dL_plays_170 (by decide) (fun c32 => ?_) (fun c32 => ?_)
      · rw [if_pos c32] at h
        obtain rfl := Option.some.inj h
        refine v_tight hb0 ?_
        exact KX ls (lv_sub hl [0, 1, 2, 3] rfl)
      · rw [if_neg c32] at h
        refine w_aload_n hx hb dL_plays_173 rfl (lv_at hl 1 rfl) ?_
        refine w_aload_n hx hb dL_plays_174 rfl (lv_at hl 2 rfl) ?_
        obtain ⟨v33, ev33, h⟩ := v_bnd h
        refine v_gI (ci := 13) hx hb hts iwX12 hown hK 0 ev33 rfl (by decide) (Or.inr ⟨_, kn64 hSS _⟩) (fun _ h9 => h9) dL_plays_175 ?_
        obtain ⟨g7, h⟩ := v_ifs h
        refine v_tight hb0 ?_
        obtain ⟨z34, ez34, h⟩ := v_bnd h
        refine v_call1 (v := .int z34.1) (M1 := z34.2) (mc := 0) (ms := 0) (fun H locs hR hS => va_runS (As := [.ref x1, .int v33]) (rest := []) ⟨hx, hb, hml, hown, hts⟩ (mL_draw l hfl D x1 v33 Mi z34 ez34) (va_cwS 2 hts (gdS kw406 kw407 kw26 kw408) rfl rfl rfl (by decide +kernel) ⟨Nat.le_of_ble_eq_true rfl, Nat.le_of_ble_eq_true rfl⟩) (v_preS hSS hR hS [.ref x1, .int v33]) rfl rfl hl.1 rfl (lv_room (Nat.le_of_ble_eq_true rfl)) dL_plays_178 ⟨by show _ + _ ≤ 4000; omega, by show _ + _ ≤ 200000; omega⟩) ?_
        refine w_istore (lv' := [(5, .int z34.1), (0, .ref x0), (1, .ref x1), (2, .ref x2), (3, .ref x3), (4, .int x4)]) hx hb dL_plays_181 hl (by decide) rfl (fun ls hl => ?_)
        have hl : lv_has ls 9 [(0, .ref x0), (1, .ref x1), (2, .ref x2), (3, .ref x3), (4, .int x4), (5, .int z34.1)] := lv_sub hl [1, 2, 3, 4, 5, 0] rfl
        refine w_aload_n hx hb dL_plays_183 rfl (lv_at hl 1 rfl) ?_
        refine w_iconst (v := 3) hx hb dL_plays_184 (by decide) ?_
        obtain ⟨g7, h⟩ := v_ifs h
        refine v_tight hb0 ?_
        obtain ⟨z35, ez35, h⟩ := v_bnd h
        refine v_call1 (v := .int z35.1) (M1 := z35.2) (mc := 0) (ms := 0) (fun H locs hR hS => va_runS (As := [.ref x1, .int 3]) (rest := []) ⟨hx, hb, hml, hown, hts⟩ (mL_draw l hfl D x1 3 z34.2 z35 ez35) (va_cwS 2 hts (gdS kw406 kw407 kw26 kw408) rfl rfl rfl (by decide +kernel) ⟨Nat.le_of_ble_eq_true rfl, Nat.le_of_ble_eq_true rfl⟩) (v_preS hSS hR hS [.ref x1, .int 3]) rfl rfl hl.1 rfl (lv_room (Nat.le_of_ble_eq_true rfl)) dL_plays_185 ⟨by show _ + _ ≤ 4000; omega, by show _ + _ ≤ 200000; omega⟩) ?_
        refine w_if_le (tgt := 195) hx hb dL_plays_188 (by decide) (fun c36 => ?_) (fun c36 => ?_)
        · rw [if_pos c36] at h
          refine w_iconst (v := 0) hx hb dL_plays_195 (by decide) ?_
          refine v_tight hb0 ?_
          exact L_plays_J196_168p x4 z34.1 0 z35.2 ls (lv_sub hl [0, 1, 2, 3, 4, 5] rfl) h
        · rw [if_neg c36] at h
          refine w_iconst (v := 1) hx hb dL_plays_191 (by decide) ?_
          refine w_goto (tgt := 196) hx hb dL_plays_192 (by decide) ?_
          refine v_tight hb0 ?_
          exact L_plays_J196_168p x4 z34.1 1 z35.2 ls (lv_sub hl [0, 1, 2, 3, 4, 5] rfl) h
  have L_plays_L380p : ∀ (x0 : Nat) (x1 : Nat) (x2 : Nat), ∀ (f : Nat) (x4 : Int32) (Mi : vMe) (ls : Array Slot) (z : ((Int32 ⊕ Unit) × vMe)), lv_has ls 9 [(0, .ref x0), (1, .ref x1), (2, .ref x2), (4, .int x4)] → tL_plays_L380 D.2.2.2.2 M.2.1 M.2.2.1 x0 x1 x2 f x4 Mi = some z → (∀ w, z.1 = Sum.inr w → ∀ ls : Array Slot, lv_has ls 9 [] → vV D p l e rmL_plays s m args below meth c (z.2.2.1 - s.heap.size) (z.2.2.2.1 - vSum D.2.2.2.1 s.heap) Q z.2 (F0 m 421 ls [])) → (∀ r9, z.1 = Sum.inl r9 → Q = MQ below (qW D (some (.int r9)) z.2) args s 4000 200000 (vA D)) → vV D p l e rmL_plays s m args below meth c (Mi.2.1 - s.heap.size) (Mi.2.2.1 - vSum D.2.2.2.1 s.heap) Q Mi (F0 m 380 ls []) := by
    intro x0 x1 x2 f
    induction f with
    | zero =>
      intro x4 Mi ls z hl h
      exact absurd h (by simp [tL_plays_L380])
    | succ f ih =>
      intro x4 Mi ls z hl h KX KR
      rw [tL_plays_L380] at h
      refine w_iload hx hb dL_plays_380 (lv_at hl 3 rfl) ?_
      refine w_bipush (v := 26) hx hb dL_plays_382 (by decide) ?_
      refine w_icmp_ge (tgt := 421) hx hb dL_plays_384 (by decide) (fun c71 => ?_) (fun c71 => ?_)
      · rw [if_pos c71] at h
        obtain rfl := Option.some.inj h
        refine v_tight hb0 ?_
        exact KX _ rfl ls (lv_sub hl [] rfl)
      · rw [if_neg c71] at h
        refine w_aload_n hx hb dL_plays_387 rfl (lv_at hl 0 rfl) ?_
        refine w_aload_n hx hb dL_plays_388 rfl (lv_at hl 2 rfl) ?_
        refine w_aload_n hx hb dL_plays_389 rfl (lv_at hl 1 rfl) ?_
        obtain ⟨g7, h⟩ := v_ifs h
        refine v_tight hb0 ?_
        obtain ⟨z72, ez72, h⟩ := v_bnd h
        refine v_call1 (v := .int z72.1) (M1 := z72.2) (mc := 128) (ms := 2600) (fun H locs hR hS => va_runS (As := [.ref x0, .ref x2, .ref x1]) (rest := []) ⟨hx, hb, hml, hown, hts⟩ (mL_changes l hfl D x0 x2 x1 Mi z72 ez72) (va_cwS 3 hts (gdS kw1032 kw1033 kw26 kw1034) rfl rfl rfl (by decide +kernel) ⟨Nat.le_of_ble_eq_true rfl, Nat.le_of_ble_eq_true rfl⟩) (v_preS hSS hR hS [.ref x0, .ref x2, .ref x1]) rfl rfl hl.1 rfl (lv_room (Nat.le_of_ble_eq_true rfl)) dL_plays_390 ⟨by show _ + _ ≤ 4000; omega, by show _ + _ ≤ 200000; omega⟩) ?_
        refine w_if_eq (tgt := 413) hx hb dL_plays_393 (by decide) (fun c73 => ?_) (fun c73 => ?_)
        · rw [if_pos c73] at h
          refine w_iconst (v := 0) hx hb dL_plays_413 (by decide) ?_
          obtain ⟨g9, h⟩ := v_ifs h
          refine v_tight hb0 (vV.widen (n' := 4000) (k' := 200000) (by omega) (by omega) ?_)
          obtain rfl := Option.some.inj h
          rw [KR _ rfl]
          exact v_zret (x := 0) hx hb hr hlk rfl dL_plays_414
        · rw [if_neg c73] at h
          refine w_aload_n hx hb dL_plays_396 rfl (lv_at hl 0 rfl) ?_
          refine w_aload_n hx hb dL_plays_397 rfl (lv_at hl 2 rfl) ?_
          obtain ⟨g7, h⟩ := v_ifs h
          refine v_tight hb0 ?_
          obtain ⟨z74, ez74, h⟩ := v_bnd h
          refine v_call1 (v := .int z74.1) (M1 := z74.2) (mc := 16) (ms := 100) (fun H locs hR hS => va_runS (As := [.ref x0, .ref x2]) (rest := []) ⟨hx, hb, hml, hown, hts⟩ (mL_state l hfl D x0 x2 z72.2 z74 ez74) (va_cwS 2 hts (gdS kw1249 kw1250 kw26 kw1251) rfl rfl rfl (by decide +kernel) ⟨Nat.le_of_ble_eq_true rfl, Nat.le_of_ble_eq_true rfl⟩) (v_preS hSS hR hS [.ref x0, .ref x2]) rfl rfl hl.1 rfl (lv_room (Nat.le_of_ble_eq_true rfl)) dL_plays_398 ⟨by show _ + _ ≤ 4000; omega, by show _ + _ ≤ 200000; omega⟩) ?_
          refine w_if_eq (tgt := 413) hx hb dL_plays_401 (by decide) (fun c75 => ?_) (fun c75 => ?_)
          · rw [if_pos c75] at h
            refine w_iconst (v := 0) hx hb dL_plays_413 (by decide) ?_
            obtain ⟨g9, h⟩ := v_ifs h
            refine v_tight hb0 (vV.widen (n' := 4000) (k' := 200000) (by omega) (by omega) ?_)
            obtain rfl := Option.some.inj h
            rw [KR _ rfl]
            exact v_zret (x := 0) hx hb hr hlk rfl dL_plays_414
          · rw [if_neg c75] at h
            refine w_aload_n hx hb dL_plays_404 rfl (lv_at hl 0 rfl) ?_
            refine w_aload_n hx hb dL_plays_405 rfl (lv_at hl 2 rfl) ?_
            refine w_aload_n hx hb dL_plays_406 rfl (lv_at hl 1 rfl) ?_
            obtain ⟨g7, h⟩ := v_ifs h
            refine v_tight hb0 ?_
            obtain ⟨z76, ez76, h⟩ := v_bnd h
            refine v_call1 (v := .int z76.1) (M1 := z76.2) (mc := 1) (ms := 6) (fun H locs hR hS => va_runS (As := [.ref x0, .ref x2, .ref x1]) (rest := []) ⟨hx, hb, hml, hown, hts⟩ (mL_asks l hfl D x0 x2 x1 z74.2 z76 ez76) (va_cwS 3 hts (gdS kw1313 kw1314 kw26 kw1315) rfl rfl rfl (by decide +kernel) ⟨Nat.le_of_ble_eq_true rfl, Nat.le_of_ble_eq_true rfl⟩) (v_preS hSS hR hS [.ref x0, .ref x2, .ref x1]) rfl rfl hl.1 rfl (lv_room (Nat.le_of_ble_eq_true rfl)) dL_plays_407 ⟨by show _ + _ ≤ 4000; omega, by show _ + _ ≤ 200000; omega⟩) ?_
            refine w_if_ne (tgt := 415) hx hb dL_plays_410 (by decide) (fun c77 => ?_) (fun c77 => ?_)
            · rw [if_pos c77] at h
              refine w_iconst (v := 0) hx hb dL_plays_413 (by decide) ?_
              obtain ⟨g9, h⟩ := v_ifs h
              refine v_tight hb0 (vV.widen (n' := 4000) (k' := 200000) (by omega) (by omega) ?_)
              obtain rfl := Option.some.inj h
              rw [KR _ rfl]
              exact v_zret (x := 0) hx hb hr hlk rfl dL_plays_414
            · rw [if_neg c77] at h
              refine w_iinc (v := x4 + 1) (lv' := [(4, .int (x4 + 1)), (0, .ref x0), (1, .ref x1), (2, .ref x2)]) hx hb dL_plays_415 hl (j := 3) rfl rfl (by decide) rfl (fun ls hl => ?_)
              have hl : lv_has ls 9 [(0, .ref x0), (1, .ref x1), (2, .ref x2), (4, .int (x4 + 1))] := lv_sub hl [1, 2, 3, 0] rfl
              refine w_goto (tgt := 380) hx hb dL_plays_418 (by decide) ?_
              refine v_tight hb0 ?_
              exact ih (x4 + 1) z76.2 ls z (lv_sub hl [0, 1, 2, 3] rfl) h KX KR
  have L_plays_J57p : ∀ (x0 : Nat) (x1 : Nat) (x2 : Nat) (y0 : Nat) (y1 : Int32) (y2 : Nat) (y3 : Int32) (Mj : vMe) (ls : Array Slot), lv_has ls 9 [(0, .ref x0), (1, .ref x1), (2, .ref x2)] → tL_plays_J57 D.2.2.2.2 M.2.1 M.2.2.1 x0 x1 x2 y0 y1 y2 y3 Mj = some z → vV D p l e rmL_plays s m args below meth c (Mj.2.1 - s.heap.size) (Mj.2.2.1 - vSum D.2.2.2.1 s.heap) Q Mj (F0 m 57 ls [.int y3, .ref y2, .int y1, .ref y0]) := by
    intro x0 x1 x2 y0 y1 y2 y3 Mj ls hl h
    unfold tL_plays_J57 at h
    obtain ⟨g7, h⟩ := v_ifs h
    refine v_tight hb0 ?_
    obtain ⟨z9, ez9, h⟩ := v_bnd h
    refine v_call1 (v := .int z9.1) (M1 := z9.2) (mc := 0) (ms := 0) (fun H locs hR hS => va_runS (As := [.ref y2, .int y3]) (rest := [.int y1, .ref y0]) ⟨hx, hb, hml, hown, hts⟩ (mL_draw l hfl D y2 y3 Mj z9 ez9) (va_cwS 2 hts (gdS kw406 kw407 kw26 kw408) rfl rfl rfl (by decide +kernel) ⟨Nat.le_of_ble_eq_true rfl, Nat.le_of_ble_eq_true rfl⟩) (v_preS hSS hR hS [.ref y2, .int y3]) rfl rfl hl.1 rfl (lv_room (Nat.le_of_ble_eq_true rfl)) dL_plays_57 ⟨by show _ + _ ≤ 4000; omega, by show _ + _ ≤ 200000; omega⟩) ?_
    refine w_iadd hx hb dL_plays_60 ?_
    obtain ⟨M10, eM10, h⟩ := v_bnd h
    refine v_putf (ci := 13) hx hb hts iwX12 hown hK tyX12_ok nmX12 2 eM10 rfl (by decide) (Or.inr ⟨_, kn66 hSS _⟩) (fun _ h9 => h9) (Or.inl rfl) rfl rfl dL_plays_61 ?_
    refine w_aload_n hx hb dL_plays_64 rfl (lv_at hl 2 rfl) ?_
    refine w_iconst (v := 1) hx hb dL_plays_65 (by decide) ?_
    refine w_aload_n hx hb dL_plays_66 rfl (lv_at hl 1 rfl) ?_
    refine w_iconst (v := 4) hx hb dL_plays_67 (by decide) ?_
    obtain ⟨g7, h⟩ := v_ifs h
    refine v_tight hb0 ?_
    obtain ⟨z11, ez11, h⟩ := v_bnd h
    refine v_call1 (v := .int z11.1) (M1 := z11.2) (mc := 0) (ms := 0) (fun H locs hR hS => va_runS (As := [.ref x1, .int 4]) (rest := [.int 1, .ref x2]) ⟨hx, hb, hml, hown, hts⟩ (mL_draw l hfl D x1 4 M10 z11 ez11) (va_cwS 2 hts (gdS kw406 kw407 kw26 kw408) rfl rfl rfl (by decide +kernel) ⟨Nat.le_of_ble_eq_true rfl, Nat.le_of_ble_eq_true rfl⟩) (v_preS hSS hR hS [.ref x1, .int 4]) rfl rfl hl.1 rfl (lv_room (Nat.le_of_ble_eq_true rfl)) dL_plays_68 ⟨by show _ + _ ≤ 4000; omega, by show _ + _ ≤ 200000; omega⟩) ?_
    refine w_iadd hx hb dL_plays_71 ?_
    obtain ⟨M12, eM12, h⟩ := v_bnd h
    refine v_putf (ci := 13) hx hb hts iwX12 hown hK tyX12_ok nmX12 0 eM12 rfl (by decide) (Or.inr ⟨_, kn64 hSS _⟩) (fun _ h9 => h9) (Or.inl rfl) rfl rfl dL_plays_72 ?_
    obtain ⟨M13, eM13, h⟩ := v_bnd h
    refine u_new (ci := 1) (N := 4) hx hb hts iwJ4 hown hK tyJ4_ok rfl (hts _ kw411) (hts _ kw412) (hts _ kw38) (by decide) (by decide) (by decide) hb0 hz0 hs0 rfl rfl eM13 dL_plays_75 ?_
    refine w_dup hx hb dL_plays_78 rfl ?_
    obtain ⟨M14, eM14, h⟩ := v_bnd h
    refine u_new (ci := 1) (N := 4) hx hb hts iwJ4 hown hK tyJ4_ok rfl (hts _ kw411) (hts _ kw412) (hts _ kw38) (by decide) (by decide) (by decide) hb0 hz0 hs0 rfl rfl eM14 dL_plays_79 ?_
    refine w_dup hx hb dL_plays_82 rfl ?_
    obtain ⟨g7, h⟩ := v_ifs h
    refine v_tight hb0 ?_
    obtain ⟨z15, ez15, h⟩ := v_bnd h
    refine v_call0 (M1 := z15.2) (mc := 1) (ms := 16) (fun H locs hR hS => va_runI (As := []) (rest := [.ref M13.2.1, .ref M12.2.1, .ref M12.2.1]) ⟨hx, hb, hml, hown, hts⟩ (mJ4_init_da8c8 l hfl D M13.2.1 M14 z15 ez15) (cwI 0 hts (gdI kw415) rfl rfl rfl (hts _ kw38) (hts _ kw413) (hts _ kw414) rfl (by decide +kernel) ⟨Nat.le_of_ble_eq_true rfl, Nat.le_of_ble_eq_true rfl⟩) (v_preS hSS hR hS [.ref M13.2.1]) rfl rfl hl.1 rfl (lv_room (Nat.le_of_ble_eq_true rfl)) dL_plays_83 ⟨by show _ + _ ≤ 4000; omega, by show _ + _ ≤ 200000; omega⟩) ?_
    refine w_ldcS hx hb hown (hSS.2.2.1 6 _ rfl) dL_plays_86 ?_
    obtain ⟨g7, h⟩ := v_ifs h
    refine v_tight hb0 ?_
    obtain ⟨g8, h⟩ := v_ifs h
    obtain ⟨z16, ez16, h⟩ := v_bnd h
    refine v_call1 (v := .ref z16.1) (M1 := z16.2) (mc := 1) (ms := 250) (fun H locs hR hS => va_runV (As := [.ref (D.2.2.2.2 6)]) (rest := [.ref M12.2.1, .ref M12.2.1]) ⟨hx, hb, hml, hown, hts⟩ (mJ4_append_15ec4 l hfl D M13.2.1 (D.2.2.2.2 6) z15.2 z16 ez16) (cwV 1 hts (gdV kw443 kw444 kw445 kw38 kw446) rfl rfl rfl (by decide +kernel) ⟨Nat.le_of_ble_eq_true rfl, Nat.le_of_ble_eq_true rfl⟩) (v_preV (ci := 1) hSS hR hS g8 (by decide) rfl [.ref (D.2.2.2.2 6)]) rfl rfl hl.1 rfl (lv_room (Nat.le_of_ble_eq_true rfl)) dL_plays_88 ⟨by show _ + _ ≤ 4000; omega, by show _ + _ ≤ 200000; omega⟩) ?_
    refine w_aload_n hx hb dL_plays_91 rfl (lv_at hl 2 rfl) ?_
    obtain ⟨v17, ev17, h⟩ := v_bnd h
    refine v_gI (ci := 13) hx hb hts iwX12 hown hK 1 ev17 rfl (by decide) (Or.inr ⟨_, kn65 hSS _⟩) (fun _ h9 => h9) dL_plays_92 ?_
    obtain ⟨g7, h⟩ := v_ifs h
    refine v_tight hb0 ?_
    obtain ⟨g8, h⟩ := v_ifs h
    obtain ⟨z18, ez18, h⟩ := v_bnd h
    refine v_call1 (v := .ref z18.1) (M1 := z18.2) (mc := 1) (ms := 250) (fun H locs hR hS => va_runV (As := [.int v17]) (rest := [.ref M12.2.1, .ref M12.2.1]) ⟨hx, hb, hml, hown, hts⟩ (mJ4_append_bf812 l hfl D z16.1 v17 z16.2 z18 ez18) (cwV 1 hts (gdV kw563 kw564 kw565 kw38 kw566) rfl rfl rfl (by decide +kernel) ⟨Nat.le_of_ble_eq_true rfl, Nat.le_of_ble_eq_true rfl⟩) (v_preV (ci := 1) hSS hR hS g8 (by decide) rfl [.int v17]) rfl rfl hl.1 rfl (lv_room (Nat.le_of_ble_eq_true rfl)) dL_plays_95 ⟨by show _ + _ ≤ 4000; omega, by show _ + _ ≤ 200000; omega⟩) ?_
    refine w_ldcS hx hb hown (hSS.2.2.1 11 _ rfl) dL_plays_98 ?_
    obtain ⟨g7, h⟩ := v_ifs h
    refine v_tight hb0 ?_
    obtain ⟨g8, h⟩ := v_ifs h
    obtain ⟨z19, ez19, h⟩ := v_bnd h
    refine v_call1 (v := .ref z19.1) (M1 := z19.2) (mc := 1) (ms := 250) (fun H locs hR hS => va_runV (As := [.ref (D.2.2.2.2 11)]) (rest := [.ref M12.2.1, .ref M12.2.1]) ⟨hx, hb, hml, hown, hts⟩ (mJ4_append_15ec4 l hfl D z18.1 (D.2.2.2.2 11) z18.2 z19 ez19) (cwV 1 hts (gdV kw443 kw444 kw445 kw38 kw446) rfl rfl rfl (by decide +kernel) ⟨Nat.le_of_ble_eq_true rfl, Nat.le_of_ble_eq_true rfl⟩) (v_preV (ci := 1) hSS hR hS g8 (by decide) rfl [.ref (D.2.2.2.2 11)]) rfl rfl hl.1 rfl (lv_room (Nat.le_of_ble_eq_true rfl)) dL_plays_100 ⟨by show _ + _ ≤ 4000; omega, by show _ + _ ≤ 200000; omega⟩) ?_
    refine w_aload_n hx hb dL_plays_103 rfl (lv_at hl 2 rfl) ?_
    obtain ⟨v20, ev20, h⟩ := v_bnd h
    refine v_gI (ci := 13) hx hb hts iwX12 hown hK 2 ev20 rfl (by decide) (Or.inr ⟨_, kn66 hSS _⟩) (fun _ h9 => h9) dL_plays_104 ?_
    obtain ⟨g7, h⟩ := v_ifs h
    refine v_tight hb0 ?_
    obtain ⟨g8, h⟩ := v_ifs h
    obtain ⟨z21, ez21, h⟩ := v_bnd h
    refine v_call1 (v := .ref z21.1) (M1 := z21.2) (mc := 1) (ms := 250) (fun H locs hR hS => va_runV (As := [.int v20]) (rest := [.ref M12.2.1, .ref M12.2.1]) ⟨hx, hb, hml, hown, hts⟩ (mJ4_append_bf812 l hfl D z19.1 v20 z19.2 z21 ez21) (cwV 1 hts (gdV kw563 kw564 kw565 kw38 kw566) rfl rfl rfl (by decide +kernel) ⟨Nat.le_of_ble_eq_true rfl, Nat.le_of_ble_eq_true rfl⟩) (v_preV (ci := 1) hSS hR hS g8 (by decide) rfl [.int v20]) rfl rfl hl.1 rfl (lv_room (Nat.le_of_ble_eq_true rfl)) dL_plays_107 ⟨by show _ + _ ≤ 4000; omega, by show _ + _ ≤ 200000; omega⟩) ?_
    refine w_ldcS hx hb hown (hSS.2.2.1 20 _ rfl) dL_plays_110 ?_
    obtain ⟨g7, h⟩ := v_ifs h
    refine v_tight hb0 ?_
    obtain ⟨g8, h⟩ := v_ifs h
    obtain ⟨z22, ez22, h⟩ := v_bnd h
    refine v_call1 (v := .ref z22.1) (M1 := z22.2) (mc := 1) (ms := 250) (fun H locs hR hS => va_runV (As := [.ref (D.2.2.2.2 20)]) (rest := [.ref M12.2.1, .ref M12.2.1]) ⟨hx, hb, hml, hown, hts⟩ (mJ4_append_15ec4 l hfl D z21.1 (D.2.2.2.2 20) z21.2 z22 ez22) (cwV 1 hts (gdV kw443 kw444 kw445 kw38 kw446) rfl rfl rfl (by decide +kernel) ⟨Nat.le_of_ble_eq_true rfl, Nat.le_of_ble_eq_true rfl⟩) (v_preV (ci := 1) hSS hR hS g8 (by decide) rfl [.ref (D.2.2.2.2 20)]) rfl rfl hl.1 rfl (lv_room (Nat.le_of_ble_eq_true rfl)) dL_plays_112 ⟨by show _ + _ ≤ 4000; omega, by show _ + _ ≤ 200000; omega⟩) ?_
    obtain ⟨g7, h⟩ := v_ifs h
    refine v_tight hb0 ?_
    obtain ⟨g8, h⟩ := v_ifs h
    obtain ⟨z23, ez23, h⟩ := v_bnd h
    refine v_call1 (v := .ref z23.1) (M1 := z23.2) (mc := 2) (ms := 254) (fun H locs hR hS => va_runV (As := []) (rest := [.ref M12.2.1, .ref M12.2.1]) ⟨hx, hb, hml, hown, hts⟩ (mJ4_toString_0e30d l hfl D z22.1 z22.2 z23 ez23) (cwV 0 hts (gdV kw590 kw591 kw592 kw38 kw593) rfl rfl rfl (by decide +kernel) ⟨Nat.le_of_ble_eq_true rfl, Nat.le_of_ble_eq_true rfl⟩) (v_preV (ci := 1) hSS hR hS g8 (by decide) rfl []) rfl rfl hl.1 rfl (lv_room (Nat.le_of_ble_eq_true rfl)) dL_plays_115 ⟨by show _ + _ ≤ 4000; omega, by show _ + _ ≤ 200000; omega⟩) ?_
    obtain ⟨g7, h⟩ := v_ifs h
    refine v_tight hb0 ?_
    obtain ⟨z24, ez24, h⟩ := v_bnd h
    refine v_call0 (M1 := z24.2) (mc := 2) (ms := 300) (fun H locs hR hS => va_runI (As := [.ref z23.1]) (rest := [.ref M12.2.1]) ⟨hx, hb, hml, hown, hts⟩ (mJ4_init_a7421 l hfl D M12.2.1 z23.1 z23.2 z24 ez24) (cwI 1 hts (gdI kw652) rfl rfl rfl (hts _ kw38) (hts _ kw650) (hts _ kw651) rfl (by decide +kernel) ⟨Nat.le_of_ble_eq_true rfl, Nat.le_of_ble_eq_true rfl⟩) (v_preS hSS hR hS [.ref M12.2.1, .ref z23.1]) rfl rfl hl.1 rfl (lv_room (Nat.le_of_ble_eq_true rfl)) dL_plays_118 ⟨by show _ + _ ≤ 4000; omega, by show _ + _ ≤ 200000; omega⟩) ?_
    refine w_astore_n (lv' := [(3, .ref M12.2.1), (0, .ref x0), (1, .ref x1), (2, .ref x2)]) hx hb dL_plays_121 rfl hl (by decide) rfl (fun ls hl => ?_)
    have hl : lv_has ls 9 [(0, .ref x0), (1, .ref x1), (2, .ref x2), (3, .ref M12.2.1)] := lv_sub hl [1, 2, 3, 0] rfl
    refine w_iconst (v := 0) hx hb dL_plays_122 (by decide) ?_
    refine w_istore (lv' := [(4, .int 0), (0, .ref x0), (1, .ref x1), (2, .ref x2), (3, .ref M12.2.1)]) hx hb dL_plays_123 hl (by decide) rfl (fun ls hl => ?_)
    have hl : lv_has ls 9 [(0, .ref x0), (1, .ref x1), (2, .ref x2), (3, .ref M12.2.1), (4, .int 0)] := lv_sub hl [1, 2, 3, 4, 0] rfl
    obtain ⟨z30, ez30, h⟩ := v_bnd h
    refine v_tight hb0 ?_
    refine L_plays_L125p x0 x1 x2 M12.2.1 vF 0 z24.2 ls z30 (lv_sub hl [0, 1, 2, 3, 4] rfl) ez30 (fun ls hl => ?_)
    refine w_aload_n hx hb dL_plays_161 rfl (lv_at hl 1 rfl) ?_
    refine w_iconst (v := 5) hx hb dL_plays_162 (by decide) ?_
    obtain ⟨g7, h⟩ := v_ifs h
    refine v_tight hb0 ?_
    obtain ⟨z31, ez31, h⟩ := v_bnd h
    refine v_call1 (v := .int z31.1) (M1 := z31.2) (mc := 0) (ms := 0) (fun H locs hR hS => va_runS (As := [.ref x1, .int 5]) (rest := []) ⟨hx, hb, hml, hown, hts⟩ (mL_draw l hfl D x1 5 z30.2 z31 ez31) (va_cwS 2 hts (gdS kw406 kw407 kw26 kw408) rfl rfl rfl (by decide +kernel) ⟨Nat.le_of_ble_eq_true rfl, Nat.le_of_ble_eq_true rfl⟩) (v_preS hSS hR hS [.ref x1, .int 5]) rfl rfl hl.1 rfl (lv_room (Nat.le_of_ble_eq_true rfl)) dL_plays_163 ⟨by show _ + _ ≤ 4000; omega, by show _ + _ ≤ 200000; omega⟩) ?_
    refine w_istore (lv' := [(4, .int z31.1), (0, .ref x0), (1, .ref x1), (2, .ref x2), (3, .ref M12.2.1)]) hx hb dL_plays_166 hl (by decide) rfl (fun ls hl => ?_)
    have hl : lv_has ls 9 [(0, .ref x0), (1, .ref x1), (2, .ref x2), (3, .ref M12.2.1), (4, .int z31.1)] := lv_sub hl [1, 2, 3, 4, 0] rfl
    obtain ⟨z63, ez63, h⟩ := v_bnd h
    refine v_tight hb0 ?_
    refine L_plays_L168p x0 x1 x2 M12.2.1 vF z31.1 z31.2 ls z63 (lv_sub hl [0, 1, 2, 3, 4] rfl) ez63 (fun ls hl => ?_)
    refine w_aload_n hx hb dL_plays_353 rfl (lv_at hl 0 rfl) ?_
    refine w_aload_n hx hb dL_plays_354 rfl (lv_at hl 3 rfl) ?_
    obtain ⟨g7, h⟩ := v_ifs h
    refine v_tight hb0 ?_
    obtain ⟨g8, h⟩ := v_ifs h
    obtain ⟨z64, ez64, h⟩ := v_bnd h
    refine v_call1 (v := .ref z64.1) (M1 := z64.2) (mc := 2) (ms := 254) (fun H locs hR hS => va_runV (As := []) (rest := [.ref x0]) ⟨hx, hb, hml, hown, hts⟩ (mJ4_toString_0e30d l hfl D M12.2.1 z63.2 z64 ez64) (cwV 0 hts (gdV kw590 kw591 kw592 kw38 kw593) rfl rfl rfl (by decide +kernel) ⟨Nat.le_of_ble_eq_true rfl, Nat.le_of_ble_eq_true rfl⟩) (v_preV (ci := 1) hSS hR hS g8 (by decide) rfl []) rfl rfl hl.1 rfl (lv_room (Nat.le_of_ble_eq_true rfl)) dL_plays_355 ⟨by show _ + _ ≤ 4000; omega, by show _ + _ ≤ 200000; omega⟩) ?_
    obtain ⟨g7, h⟩ := v_ifs h
    refine v_tight hb0 ?_
    obtain ⟨z65, ez65, h⟩ := v_bnd h
    refine v_call1 (v := .int z65.1) (M1 := z65.2) (mc := 20) (ms := 100) (fun H locs hR hS => va_runS (As := [.ref x0, .ref z64.1]) (rest := []) ⟨hx, hb, hml, hown, hts⟩ (mL_feeds l hfl D x0 z64.1 z64.2 z65 ez65) (va_cwS 2 hts (gdS kw711 kw712 kw26 kw713) rfl rfl rfl (by decide +kernel) ⟨Nat.le_of_ble_eq_true rfl, Nat.le_of_ble_eq_true rfl⟩) (v_preS hSS hR hS [.ref x0, .ref z64.1]) rfl rfl hl.1 rfl (lv_room (Nat.le_of_ble_eq_true rfl)) dL_plays_358 ⟨by show _ + _ ≤ 4000; omega, by show _ + _ ≤ 200000; omega⟩) ?_
    refine w_if_eq (tgt := 375) hx hb dL_plays_361 (by decide) (fun c66 => ?_) (fun c66 => ?_)
    · rw [if_pos c66] at h
      refine w_iconst (v := 0) hx hb dL_plays_375 (by decide) ?_
      obtain ⟨g9, h⟩ := v_ifs h
      refine v_tight hb0 (vV.widen (n' := 4000) (k' := 200000) (by omega) (by omega) ?_)
      obtain rfl := Option.some.inj h
      rw [hQ]
      exact v_zret (x := 0) hx hb hr hlk rfl dL_plays_376
    · rw [if_neg c66] at h
      refine w_aload_n hx hb dL_plays_364 rfl (lv_at hl 0 rfl) ?_
      refine w_aload_n hx hb dL_plays_365 rfl (lv_at hl 3 rfl) ?_
      obtain ⟨g7, h⟩ := v_ifs h
      refine v_tight hb0 ?_
      obtain ⟨g8, h⟩ := v_ifs h
      obtain ⟨z67, ez67, h⟩ := v_bnd h
      refine v_call1 (v := .int z67) (M1 := z65.2) (mc := 0) (ms := 0) (fun H locs hR hS => va_runV (As := []) (rest := [.ref x0]) ⟨hx, hb, hml, hown, hts⟩ (mJ4_length_8abf5 l hfl D M12.2.1 z65.2 z67 ez67) (cwV 0 hts (gdV kw738 kw612 kw1390 kw38 kw613) rfl rfl rfl (by decide +kernel) ⟨Nat.le_of_ble_eq_true rfl, Nat.le_of_ble_eq_true rfl⟩) (v_preV (ci := 1) hSS hR hS g8 (by decide) rfl []) rfl rfl hl.1 rfl (lv_room (Nat.le_of_ble_eq_true rfl)) dL_plays_366 ⟨by show _ + _ ≤ 4000; omega, by show _ + _ ≤ 200000; omega⟩) ?_
      obtain ⟨g7, h⟩ := v_ifs h
      refine v_tight hb0 ?_
      obtain ⟨g8, h⟩ := v_ifs h
      obtain ⟨z68, ez68, h⟩ := v_bnd h
      rcases hz68 : z68.1 with r69 | jz68
      · replace h := v_inl hz68 h
        refine v_call1 (v := .int r69) (M1 := z68.2) (mc := 26) (ms := 669) (fun H locs hR hS => va_runV (As := [.int z67]) (rest := []) ⟨hx, hb, hml, hown, hts⟩ (v_noX (by rw [hz68]; rfl) (by rw [hz68]; rfl) (mX9_parse l hfl D x0 z67 z65.2 z68 ez68)) (cwV 1 hts (gdV kw739 kw740 kw741 kw27 kw742) rfl rfl rfl (by decide +kernel) ⟨Nat.le_of_ble_eq_true rfl, Nat.le_of_ble_eq_true rfl⟩) (v_preV (ci := 10) hSS hR hS g8 (by decide) rfl [.int z67]) rfl rfl hl.1 rfl (lv_room (Nat.le_of_ble_eq_true rfl)) dL_plays_369 ⟨by show _ + _ ≤ 4000; omega, by show _ + _ ≤ 200000; omega⟩) ?_
        refine w_if_eq (tgt := 377) hx hb dL_plays_372 (by decide) (fun c70 => ?_) (fun c70 => ?_)
        · rw [if_pos c70] at h
          refine w_iconst (v := 0) hx hb dL_plays_377 (by decide) ?_
          refine w_istore (lv' := [(4, .int 0), (0, .ref x0), (1, .ref x1), (2, .ref x2), (3, .ref M12.2.1)]) hx hb dL_plays_378 hl (by decide) rfl (fun ls hl => ?_)
          have hl : lv_has ls 9 [(0, .ref x0), (1, .ref x1), (2, .ref x2), (3, .ref M12.2.1), (4, .int 0)] := lv_sub hl [1, 2, 3, 4, 0] rfl
          obtain ⟨z78, ez78, h⟩ := v_bnd h
          refine v_tight hb0 ?_
          refine L_plays_L380p x0 x1 x2 vF 0 z68.2 ls z78 (lv_sub hl [0, 1, 2, 4] rfl) ez78 (fun w79 qw79 ls hl => ?_) (fun r80 qr80 => ?_)
          · replace h := v_inr qw79 h
            refine w_iconst (v := 1) hx hb dL_plays_421 (by decide) ?_
            obtain ⟨g9, h⟩ := v_ifs h
            refine v_tight hb0 (vV.widen (n' := 4000) (k' := 200000) (by omega) (by omega) ?_)
            obtain rfl := Option.some.inj h
            rw [hQ]
            exact v_zret (x := 1) hx hb hr hlk rfl dL_plays_422
          · replace h := v_inl qr80 h
            obtain rfl := Option.some.inj h
            exact hQ
        · rw [if_neg c70] at h
          refine w_iconst (v := 0) hx hb dL_plays_375 (by decide) ?_
          obtain ⟨g9, h⟩ := v_ifs h
          refine v_tight hb0 (vV.widen (n' := 4000) (k' := 200000) (by omega) (by omega) ?_)
          obtain rfl := Option.some.inj h
          rw [hQ]
          exact v_zret (x := 0) hx hb hr hlk rfl dL_plays_376
      · exact nomatch (v_inr hz68 h)
  have L_plays_J36p : ∀ (x0 : Nat) (x1 : Nat) (x2 : Nat) (y0 : Nat) (y1 : Int32) (Mj : vMe) (ls : Array Slot), lv_has ls 9 [(0, .ref x0), (1, .ref x1), (2, .ref x2)] → tL_plays_J36 D.2.2.2.2 M.2.1 M.2.2.1 x0 x1 x2 y0 y1 Mj = some z → vV D p l e rmL_plays s m args below meth c (Mj.2.1 - s.heap.size) (Mj.2.2.1 - vSum D.2.2.2.1 s.heap) Q Mj (F0 m 36 ls [.int y1, .ref y0]) := by
    intro x0 x1 x2 y0 y1 Mj ls hl h
    unfold tL_plays_J36 at h
    obtain ⟨M6, eM6, h⟩ := v_bnd h
    refine v_putf (ci := 13) hx hb hts iwX12 hown hK tyX12_ok nmX12 1 eM6 rfl (by decide) (Or.inr ⟨_, kn65 hSS _⟩) (fun _ h9 => h9) (Or.inl rfl) rfl rfl dL_plays_36 ?_
    refine w_aload_n hx hb dL_plays_39 rfl (lv_at hl 2 rfl) ?_
    refine w_iconst (v := 1) hx hb dL_plays_40 (by decide) ?_
    refine w_aload_n hx hb dL_plays_41 rfl (lv_at hl 1 rfl) ?_
    refine w_aload_n hx hb dL_plays_42 rfl (lv_at hl 1 rfl) ?_
    refine w_iconst (v := 2) hx hb dL_plays_43 (by decide) ?_
    obtain ⟨g7, h⟩ := v_ifs h
    refine v_tight hb0 ?_
    obtain ⟨z7, ez7, h⟩ := v_bnd h
    refine v_call1 (v := .int z7.1) (M1 := z7.2) (mc := 0) (ms := 0) (fun H locs hR hS => va_runS (As := [.ref x1, .int 2]) (rest := [.ref x1, .int 1, .ref x2]) ⟨hx, hb, hml, hown, hts⟩ (mL_draw l hfl D x1 2 M6 z7 ez7) (va_cwS 2 hts (gdS kw406 kw407 kw26 kw408) rfl rfl rfl (by decide +kernel) ⟨Nat.le_of_ble_eq_true rfl, Nat.le_of_ble_eq_true rfl⟩) (v_preS hSS hR hS [.ref x1, .int 2]) rfl rfl hl.1 rfl (lv_room (Nat.le_of_ble_eq_true rfl)) dL_plays_44 ⟨by show _ + _ ≤ 4000; omega, by show _ + _ ≤ 200000; omega⟩) ?_
    refine w_if_ne (tgt := 55) hx hb dL_plays_47 (by decide) (fun c8 => ?_) (fun c8 => ?_)
    · rw [if_pos c8] at h
      refine w_bipush (v := 60) hx hb dL_plays_50 (by decide) ?_
      refine w_goto (tgt := 57) hx hb dL_plays_52 (by decide) ?_
      refine v_tight hb0 ?_
      exact L_plays_J57p x0 x1 x2 x2 1 x1 60 z7.2 ls (lv_sub hl [0, 1, 2] rfl) h
    · rw [if_neg c8] at h
      refine w_bipush (v := 8) hx hb dL_plays_55 (by decide) ?_
      refine v_tight hb0 ?_
      exact L_plays_J57p x0 x1 x2 x2 1 x1 8 z7.2 ls (lv_sub hl [0, 1, 2] rfl) h
  obtain ⟨M1, eM1, h⟩ := v_bnd h
  refine u_new (ci := 13) (N := 9) hx hb hts iwX12 hown hK tyX12_ok rfl (hts _ kw311) (hts _ kw312) (hts _ kw35) (by decide) (by decide) (by decide) hb0 hz0 hs0 rfl rfl eM1 dL_plays_0 ?_
  refine w_dup hx hb dL_plays_3 rfl ?_
  obtain ⟨g7, h⟩ := v_ifs h
  refine v_tight hb0 ?_
  obtain ⟨z2, ez2, h⟩ := v_bnd h
  refine v_call0 (M1 := z2.2) (mc := 43) (ms := 41034) (fun H locs hR hS => va_runIN (As := []) (rest := [.ref M.2.1]) ⟨hx, hb, hml, hown, hts⟩ (mX12_init l hfl D M.2.1 M1 z2 ez2) ⟨va_cnB 0 hts (gdI kw315) rfl rfl rfl (km6 hSS) (hts _ kw35) (by decide +kernel) ⟨Nat.le_of_ble_eq_true rfl, Nat.le_of_ble_eq_true rfl⟩, rfl, (hts _ kw314)⟩ (v_preS hSS hR hS [.ref M.2.1]) rfl rfl hl.1 rfl (lv_room (Nat.le_of_ble_eq_true rfl)) dL_plays_4 ⟨by show _ + _ ≤ 4000; omega, by show _ + _ ≤ 200000; omega⟩) ?_
  refine w_astore_n (lv' := [(2, .ref M.2.1), (0, .ref x0), (1, .ref x1)]) hx hb dL_plays_7 rfl hl (by decide) rfl (fun ls hl => ?_)
  have hl : lv_has ls 9 [(0, .ref x0), (1, .ref x1), (2, .ref M.2.1)] := lv_sub hl [1, 2, 0] rfl
  refine w_aload_n hx hb dL_plays_8 rfl (lv_at hl 2 rfl) ?_
  refine w_aload_n hx hb dL_plays_9 rfl (lv_at hl 1 rfl) ?_
  refine w_iconst (v := 3) hx hb dL_plays_10 (by decide) ?_
  obtain ⟨g7, h⟩ := v_ifs h
  refine v_tight hb0 ?_
  obtain ⟨z3, ez3, h⟩ := v_bnd h
  refine v_call1 (v := .int z3.1) (M1 := z3.2) (mc := 0) (ms := 0) (fun H locs hR hS => va_runS (As := [.ref x1, .int 3]) (rest := [.ref M.2.1]) ⟨hx, hb, hml, hown, hts⟩ (mL_draw l hfl D x1 3 z2.2 z3 ez3) (va_cwS 2 hts (gdS kw406 kw407 kw26 kw408) rfl rfl rfl (by decide +kernel) ⟨Nat.le_of_ble_eq_true rfl, Nat.le_of_ble_eq_true rfl⟩) (v_preS hSS hR hS [.ref x1, .int 3]) rfl rfl hl.1 rfl (lv_room (Nat.le_of_ble_eq_true rfl)) dL_plays_11 ⟨by show _ + _ ≤ 4000; omega, by show _ + _ ≤ 200000; omega⟩) ?_
  refine w_if_ne (tgt := 28) hx hb dL_plays_14 (by decide) (fun c4 => ?_) (fun c4 => ?_)
  · rw [if_pos c4] at h
    refine w_iconst (v := 1) hx hb dL_plays_17 (by decide) ?_
    refine w_aload_n hx hb dL_plays_18 rfl (lv_at hl 1 rfl) ?_
    refine w_bipush (v := 64) hx hb dL_plays_19 (by decide) ?_
    obtain ⟨g7, h⟩ := v_ifs h
    refine v_tight hb0 ?_
    obtain ⟨z5, ez5, h⟩ := v_bnd h
    refine v_call1 (v := .int z5.1) (M1 := z5.2) (mc := 0) (ms := 0) (fun H locs hR hS => va_runS (As := [.ref x1, .int 64]) (rest := [.int 1, .ref M.2.1]) ⟨hx, hb, hml, hown, hts⟩ (mL_draw l hfl D x1 64 z3.2 z5 ez5) (va_cwS 2 hts (gdS kw406 kw407 kw26 kw408) rfl rfl rfl (by decide +kernel) ⟨Nat.le_of_ble_eq_true rfl, Nat.le_of_ble_eq_true rfl⟩) (v_preS hSS hR hS [.ref x1, .int 64]) rfl rfl hl.1 rfl (lv_room (Nat.le_of_ble_eq_true rfl)) dL_plays_21 ⟨by show _ + _ ≤ 4000; omega, by show _ + _ ≤ 200000; omega⟩) ?_
    refine w_iadd hx hb dL_plays_24 ?_
    refine w_goto (tgt := 36) hx hb dL_plays_25 (by decide) ?_
    refine v_tight hb0 ?_
    exact L_plays_J36p x0 x1 M.2.1 M.2.1 (1 + z5.1) z5.2 ls (lv_sub hl [0, 1, 2] rfl) h
  · rw [if_neg c4] at h
    refine w_iconst (v := 2) hx hb dL_plays_28 (by decide) ?_
    refine w_aload_n hx hb dL_plays_29 rfl (lv_at hl 1 rfl) ?_
    refine w_bipush (v := 10) hx hb dL_plays_30 (by decide) ?_
    obtain ⟨g7, h⟩ := v_ifs h
    refine v_tight hb0 ?_
    obtain ⟨z81, ez81, h⟩ := v_bnd h
    refine v_call1 (v := .int z81.1) (M1 := z81.2) (mc := 0) (ms := 0) (fun H locs hR hS => va_runS (As := [.ref x1, .int 10]) (rest := [.int 2, .ref M.2.1]) ⟨hx, hb, hml, hown, hts⟩ (mL_draw l hfl D x1 10 z3.2 z81 ez81) (va_cwS 2 hts (gdS kw406 kw407 kw26 kw408) rfl rfl rfl (by decide +kernel) ⟨Nat.le_of_ble_eq_true rfl, Nat.le_of_ble_eq_true rfl⟩) (v_preS hSS hR hS [.ref x1, .int 10]) rfl rfl hl.1 rfl (lv_room (Nat.le_of_ble_eq_true rfl)) dL_plays_32 ⟨by show _ + _ ≤ 4000; omega, by show _ + _ ≤ 200000; omega⟩) ?_
    refine w_iadd hx hb dL_plays_35 ?_
    refine v_tight hb0 ?_
    exact L_plays_J36p x0 x1 M.2.1 M.2.1 (2 + z81.1) z81.2 ls (lv_sub hl [0, 1, 2] rfl) h
