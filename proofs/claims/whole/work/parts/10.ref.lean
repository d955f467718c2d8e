def tX10_init (x0 : Nat) (M : vMe) : Option (Unit × vMe) :=
  (nwO M 101 1952 1952 (fun _ => .int 0) M.2.1 M.2.2.1 9 27946).bind fun M1 =>
  (sV M1 x0 12 1 (.ref M.2.1)).bind fun M2 =>
  (nwO M2 104 5 5 (fun _ => .long 0) M.2.1 M.2.2.1 9 27946).bind fun M3 =>
  (sV M3 x0 12 2 (.ref M2.2.1)).bind fun M4 =>
  (nwO M4 102 600 600 (fun _ => .int 0) M.2.1 M.2.2.1 9 27946).bind fun M5 =>
  (sV M5 x0 12 3 (.ref M4.2.1)).bind fun M6 =>
  (sV M6 x0 12 12 (.int ((-1)))).bind fun M7 =>
  (nwO M7 101 1952 1952 (fun _ => .int 0) M.2.1 M.2.2.1 9 27946).bind fun M8 =>
  (sV M8 x0 12 14 (.ref M7.2.1)).bind fun M9 =>
  (nwO M9 104 5 5 (fun _ => .long 0) M.2.1 M.2.2.1 9 27946).bind fun M10 =>
  (sV M10 x0 12 15 (.ref M9.2.1)).bind fun M11 =>
  (nwO M11 101 6 6 (fun _ => .int 0) M.2.1 M.2.2.1 9 27946).bind fun M12 =>
  (sV M12 x0 12 17 (.ref M11.2.1)).bind fun M13 =>
  (nwO M13 101 19520 19520 (fun _ => .int 0) M.2.1 M.2.2.1 9 27946).bind fun M14 =>
  (sV M14 x0 12 19 (.ref M13.2.1)).bind fun M15 =>
  (nwO M15 101 3904 3904 (fun _ => .int 0) M.2.1 M.2.2.1 9 27946).bind fun M16 =>
  (sV M16 x0 12 20 (.ref M15.2.1)).bind fun M17 =>
  (nwO M17 103 2 2 (fun _ => .int 0) M.2.1 M.2.2.1 9 27946).bind fun M18 =>
  (sV M18 x0 12 21 (.ref M17.2.1)).bind fun M19 =>
  (gA M19 x0 12 1).bind fun a20 =>
  (sA M19 a20 101 1 (.int 1)).bind fun M21 =>
  (gA M21 x0 12 1).bind fun a22 =>
  (sA M21 a22 101 2 (.int 1)).bind fun M23 =>
  if M23.2.1 ≤ M.2.1 + 9 ∧ M23.2.2.1 ≤ M.2.2.1 + 27946 then some ((), M23) else none
def rmX10_init : Room := { frames := 1, cells := 9, slots := 27946, locals := 60 }
set_option maxHeartbeats 4000000 in
set_option maxRecDepth 100000 in
theorem mX10_init (l : Launch) (hfl : l.stackTraces = false) (D : vD) (x0 : Nat) (M : vMe) (z : (Unit × vMe)) (h : tX10_init x0 M = some z) : Met l yX10_init (Cond.code yX10_init cX10_init 1 none :: TB) rmX10_init (va_Pc [.ref x0] (vPre D M)) (qW D none z.2) 9 27946 (vA D) := by
  refine v_ofW (cc := cX10_init) (maxL := 1) (ret := none) (by decide) (Nat.le_of_ble_eq_true rfl) ?_
  intro p e s m args below meth c Q hx hb hr hml hown hts hlk hnm hSS hR0 hQ ls hl
  have hz0 := hR0.2.1
  have hs0 := hR0.2.2.1
  have hb0 : D.2.2.2.1 ≤ s.heap.size := hR0.2.2.2.2.1
  refine v_tight hb0 ?_
  have hK := hSS.1
  have hl : lv_has ls 1 [(0, .ref x0)] := hl
  unfold tX10_init at h
  refine w_aload_n hx hb dX10_init_0 rfl (lv_at hl 0 rfl) ?_
  refine v_objInit hx hb hown (hts _ kw1334) (hts _ kw114) (hts _ kw115) (hl.1.trans hml.symm) dX10_init_1 (Nat.le_of_ble_eq_true rfl) (Nat.le_of_ble_eq_true rfl) ?_
  refine w_aload_n hx hb dX10_init_4 rfl (lv_at hl 0 rfl) ?_
  refine w_sipush (v := 1952) hx hb dX10_init_5 (by decide) ?_
  obtain ⟨M1, eM1, h⟩ := v_bnd h
  refine u_newa (x := 1952) (atype := .int) hx hb hK (hts _ kw212) (by decide) (by decide) rfl (by decide) (by decide) (by decide) hb0 hz0 hs0 rfl rfl eM1 dX10_init_8 ?_
  obtain ⟨M2, eM2, h⟩ := v_bnd h
  refine v_putf (ci := 11) hx hb hts iwX10 hown hK tyX10_ok nmX10 1 eM2 rfl (by decide) (Or.inl (hts _ kw1336)) (fun _ h9 => h9) (Or.inr ⟨rfl, hnm, rfl, (hts _ kw1336)⟩) rfl rfl dX10_init_10 ?_
  refine w_aload_n hx hb dX10_init_13 rfl (lv_at hl 0 rfl) ?_
  refine w_iconst (v := 5) hx hb dX10_init_14 (by decide) ?_
  obtain ⟨M3, eM3, h⟩ := v_bnd h
  refine u_newa (x := 5) (atype := .long) hx hb hK (hts _ kw1402) (by decide) (by decide) rfl (by decide) (by decide) (by decide) hb0 hz0 hs0 rfl rfl eM3 dX10_init_15 ?_
  obtain ⟨M4, eM4, h⟩ := v_bnd h
  refine v_putf (ci := 11) hx hb hts iwX10 hown hK tyX10_ok nmX10 2 eM4 rfl (by decide) (Or.inl (hts _ kw1337)) (fun _ h9 => h9) (Or.inr ⟨rfl, hnm, rfl, (hts _ kw1337)⟩) rfl rfl dX10_init_17 ?_
  refine w_aload_n hx hb dX10_init_20 rfl (lv_at hl 0 rfl) ?_
  refine w_sipush (v := 600) hx hb dX10_init_21 (by decide) ?_
  obtain ⟨M5, eM5, h⟩ := v_bnd h
  refine u_newa (x := 600) (atype := .byte) hx hb hK (hts _ kw131) (by decide) (by decide) rfl (by decide) (by decide) (by decide) hb0 hz0 hs0 rfl rfl eM5 dX10_init_24 ?_
  obtain ⟨M6, eM6, h⟩ := v_bnd h
  refine v_putf (ci := 11) hx hb hts iwX10 hown hK tyX10_ok nmX10 3 eM6 rfl (by decide) (Or.inl (hts _ kw1338)) (fun _ h9 => h9) (Or.inr ⟨rfl, hnm, rfl, (hts _ kw1338)⟩) rfl rfl dX10_init_26 ?_
  refine w_aload_n hx hb dX10_init_29 rfl (lv_at hl 0 rfl) ?_
  refine w_iconst (v := (-1)) hx hb dX10_init_30 (by decide) ?_
  obtain ⟨M7, eM7, h⟩ := v_bnd h
  refine v_putf (ci := 11) hx hb hts iwX10 hown hK tyX10_ok nmX10 12 eM7 rfl (by decide) (Or.inl (hts _ kw1347)) (fun _ h9 => h9) (Or.inl rfl) rfl rfl dX10_init_31 ?_
  refine w_aload_n hx hb dX10_init_34 rfl (lv_at hl 0 rfl) ?_
  refine w_sipush (v := 1952) hx hb dX10_init_35 (by decide) ?_
  obtain ⟨M8, eM8, h⟩ := v_bnd h
  refine u_newa (x := 1952) (atype := .int) hx hb hK (hts _ kw212) (by decide) (by decide) rfl (by decide) (by decide) (by decide) hb0 hz0 hs0 rfl rfl eM8 dX10_init_38 ?_
  obtain ⟨M9, eM9, h⟩ := v_bnd h
  refine v_putf (ci := 11) hx hb hts iwX10 hown hK tyX10_ok nmX10 14 eM9 rfl (by decide) (Or.inl (hts _ kw1349)) (fun _ h9 => h9) (Or.inr ⟨rfl, hnm, rfl, (hts _ kw1349)⟩) rfl rfl dX10_init_40 ?_
  refine w_aload_n hx hb dX10_init_43 rfl (lv_at hl 0 rfl) ?_
  refine w_iconst (v := 5) hx hb dX10_init_44 (by decide) ?_
  obtain ⟨M10, eM10, h⟩ := v_bnd h
  refine u_newa (x := 5) (atype := .long) hx hb hK (hts _ kw1402) (by decide) (by decide) rfl (by decide) (by decide) (by decide) hb0 hz0 hs0 rfl rfl eM10 dX10_init_45 ?_
  obtain ⟨M11, eM11, h⟩ := v_bnd h
  refine v_putf (ci := 11) hx hb hts iwX10 hown hK tyX10_ok nmX10 15 eM11 rfl (by decide) (Or.inl (hts _ kw1350)) (fun _ h9 => h9) (Or.inr ⟨rfl, hnm, rfl, (hts _ kw1350)⟩) rfl rfl dX10_init_47 ?_
  refine w_aload_n hx hb dX10_init_50 rfl (lv_at hl 0 rfl) ?_
  refine w_bipush (v := 6) hx hb dX10_init_51 (by decide) ?_
  obtain ⟨M12, eM12, h⟩ := v_bnd h
  refine u_newa (x := 6) (atype := .int) hx hb hK (hts _ kw212) (by decide) (by decide) rfl (by decide) (by decide) (by decide) hb0 hz0 hs0 rfl rfl eM12 dX10_init_53 ?_
  obtain ⟨M13, eM13, h⟩ := v_bnd h
  refine v_putf (ci := 11) hx hb hts iwX10 hown hK tyX10_ok nmX10 17 eM13 rfl (by decide) (Or.inl (hts _ kw1352)) (fun _ h9 => h9) (Or.inr ⟨rfl, hnm, rfl, (hts _ kw1352)⟩) rfl rfl dX10_init_55 ?_
  refine w_aload_n hx hb dX10_init_58 rfl (lv_at hl 0 rfl) ?_
  refine w_sipush (v := 19520) hx hb dX10_init_59 (by decide) ?_
  obtain ⟨M14, eM14, h⟩ := v_bnd h
  refine u_newa (x := 19520) (atype := .int) hx hb hK (hts _ kw212) (by decide) (by decide) rfl (by decide) (by decide) (by decide) hb0 hz0 hs0 rfl rfl eM14 dX10_init_62 ?_
  obtain ⟨M15, eM15, h⟩ := v_bnd h
  refine v_putf (ci := 11) hx hb hts iwX10 hown hK tyX10_ok nmX10 19 eM15 rfl (by decide) (Or.inl (hts _ kw1354)) (fun _ h9 => h9) (Or.inr ⟨rfl, hnm, rfl, (hts _ kw1354)⟩) rfl rfl dX10_init_64 ?_
  refine w_aload_n hx hb dX10_init_67 rfl (lv_at hl 0 rfl) ?_
  refine w_sipush (v := 3904) hx hb dX10_init_68 (by decide) ?_
  obtain ⟨M16, eM16, h⟩ := v_bnd h
  refine u_newa (x := 3904) (atype := .int) hx hb hK (hts _ kw212) (by decide) (by decide) rfl (by decide) (by decide) (by decide) hb0 hz0 hs0 rfl rfl eM16 dX10_init_71 ?_
  obtain ⟨M17, eM17, h⟩ := v_bnd h
  refine v_putf (ci := 11) hx hb hts iwX10 hown hK tyX10_ok nmX10 20 eM17 rfl (by decide) (Or.inl (hts _ kw1355)) (fun _ h9 => h9) (Or.inr ⟨rfl, hnm, rfl, (hts _ kw1355)⟩) rfl rfl dX10_init_73 ?_
  refine w_aload_n hx hb dX10_init_76 rfl (lv_at hl 0 rfl) ?_
  refine w_iconst (v := 2) hx hb dX10_init_77 (by decide) ?_
  obtain ⟨M18, eM18, h⟩ := v_bnd h
  refine u_newa (x := 2) (atype := .boolean) hx hb hK (hts _ kw166) (by decide) (by decide) rfl (by decide) (by decide) (by decide) hb0 hz0 hs0 rfl rfl eM18 dX10_init_78 ?_
  obtain ⟨M19, eM19, h⟩ := v_bnd h
  refine v_putf (ci := 11) hx hb hts iwX10 hown hK tyX10_ok nmX10 21 eM19 rfl (by decide) (Or.inl (hts _ kw1356)) (fun _ h9 => h9) (Or.inr ⟨rfl, hnm, rfl, (hts _ kw1356)⟩) rfl rfl dX10_init_80 ?_
  refine w_aload_n hx hb dX10_init_83 rfl (lv_at hl 0 rfl) ?_
  obtain ⟨a20, ea20, h⟩ := v_bnd h
  refine v_gA (ci := 11) hx hb hts iwX10 hown hK 1 ea20 rfl (by decide) (Or.inl (hts _ kw1336)) (fun _ h9 => h9) dX10_init_84 ?_
  refine w_iconst (v := 1) hx hb dX10_init_87 (by decide) ?_
  refine w_iconst (v := 1) hx hb dX10_init_88 (by decide) ?_
  obtain ⟨M21, eM21, h⟩ := v_bnd h
  refine v_iast hx hb hK eM21 dX10_init_89 ?_
  refine w_aload_n hx hb dX10_init_90 rfl (lv_at hl 0 rfl) ?_
  obtain ⟨a22, ea22, h⟩ := v_bnd h
  refine v_gA (ci := 11) hx hb hts iwX10 hown hK 1 ea22 rfl (by decide) (Or.inl (hts _ kw1336)) (fun _ h9 => h9) dX10_init_91 ?_
  refine w_iconst (v := 2) hx hb dX10_init_94 (by decide) ?_
  refine w_iconst (v := 1) hx hb dX10_init_95 (by decide) ?_
  obtain ⟨M23, eM23, h⟩ := v_bnd h
  refine v_iast hx hb hK eM23 dX10_init_96 ?_
  obtain ⟨g9, h⟩ := v_ifs h
  refine v_tight hb0 (vV.widen (n' := 9) (k' := 27946) (by omega) (by omega) ?_)
  obtain rfl := Option.some.inj h
  rw [hQ]
  exact v_vret hx hb hr hlk dX10_init_97

def tX10_thrown (x0 : Nat) (M : vMe) : Option Int32 :=
  (gI M x0 12 0).bind fun v1 =>
  some v1
def rmX10_thrown : Room := { frames := 1, cells := 0, slots := 0, locals := 0 }
set_option maxHeartbeats 4000000 in
set_option maxRecDepth 100000 in
theorem mX10_thrown (l : Launch) (hfl : l.stackTraces = false) (D : vD) (x0 : Nat) (M : vMe) (z : Int32) (h : tX10_thrown x0 M = some z) : Met l yX10_thrown (Cond.code yX10_thrown cX10_thrown 1 (some .int) :: TB) rmX10_thrown (va_Pc [.ref x0] (vPre D M)) (qW D (some (.int z)) M) 0 0 (vA D) := by
  refine v_ofW (cc := cX10_thrown) (maxL := 1) (ret := (some .int)) (by decide) (Nat.le_of_ble_eq_true rfl) ?_
  intro p e s m args below meth c Q hx hb hr hml hown hts hlk hnm hSS hR0 hQ ls hl
  have hK := hSS.1
  have hl : lv_has ls 1 [(0, .ref x0)] := hl
  unfold tX10_thrown at h
  refine w_aload_n hx hb dX10_thrown_0 rfl (lv_at hl 0 rfl) ?_
  obtain ⟨v1, ev1, h⟩ := v_bnd h
  refine v_gI (ci := 11) hx hb hts iwX10 hown hK 0 ev1 rfl (by decide) (Or.inl (hts _ kw1335)) (fun _ h9 => h9) dX10_thrown_1 ?_
  obtain rfl := Option.some.inj h
  rw [hQ]
  exact v_iret hx hb hr hlk dX10_thrown_4

def tX10_within (x0 : Int32) (x1 : Int32) (x2 : Int32) (M : vMe) : Option Int32 :=
  if x0 < x1 then
  (some 0)
else
  (if x2 < x0 then
  (some 0)
else
  (some 1))
def rmX10_within : Room := { frames := 1, cells := 0, slots := 0, locals := 0 }
set_option maxHeartbeats 4000000 in
set_option maxRecDepth 100000 in
theorem mX10_within (l : Launch) (hfl : l.stackTraces = false) (D : vD) (x0 : Int32) (x1 : Int32) (x2 : Int32) (M : vMe) (z : Int32) (h : tX10_within x0 x1 x2 M = some z) : Met l yX10_within (Cond.code yX10_within cX10_within 3 (some .boolean) :: TB) rmX10_within (va_Pc [.int x0, .int x1, .int x2] (vPre D M)) (qW D (some (.int z)) M) 0 0 (vA D) := by
  refine v_ofW (cc := cX10_within) (maxL := 3) (ret := (some .boolean)) (by decide) (Nat.le_of_ble_eq_true rfl) ?_
  intro p e s m args below meth c Q hx hb hr hml hown hts hlk hnm hSS hR0 hQ ls hl
  have hK := hSS.1
  have hl : lv_has ls 3 [(0, .int x0), (1, .int x1), (2, .int x2)] := hl
  unfold tX10_within at h
  refine w_iload_n hx hb dX10_within_0 rfl (lv_at hl 0 rfl) ?_
  refine w_iload_n hx hb dX10_within_1 rfl (lv_at hl 1 rfl) ?_
  refine w_icmp_lt (tgt := 14) hx hb dX10_within_2 (by decide) (fun c1 => ?_) (fun c1 => ?_)
  · rw [if_pos c1] at h
    refine w_iconst (v := 0) hx hb dX10_within_14 (by decide) ?_
    obtain rfl := Option.some.inj h
    rw [hQ]
    exact v_zret (x := 0) hx hb hr hlk rfl dX10_within_15
  · rw [if_neg c1] at h
    refine w_iload_n hx hb dX10_within_5 rfl (lv_at hl 0 rfl) ?_
    refine w_iload_n hx hb dX10_within_6 rfl (lv_at hl 2 rfl) ?_
    refine w_icmp_gt (tgt := 14) hx hb dX10_within_7 (by decide) (fun c2 => ?_) (fun c2 => ?_)
    · rw [if_pos c2] at h
      refine w_iconst (v := 0) hx hb dX10_within_14 (by decide) ?_
      obtain rfl := Option.some.inj h
      rw [hQ]
      exact v_zret (x := 0) hx hb hr hlk rfl dX10_within_15
    · rw [if_neg c2] at h
      refine w_iconst (v := 1) hx hb dX10_within_10 (by decide) ?_
      refine w_goto (tgt := 15) hx hb dX10_within_11 (by decide) ?_
      obtain rfl := Option.some.inj h
      rw [hQ]
      exact v_zret (x := 1) hx hb hr hlk rfl dX10_within_15

def tX10_throwsIf_J16 (x0 : Nat) (Mj : vMe) : Option (Int32 × vMe) :=
  (gI Mj x0 12 0).bind fun v4 =>
  if v4 ≤ 0 then
  (some (0, Mj))
else
  (some (1, Mj))
def tX10_throwsIf (x0 : Nat) (x1 : Int32) (x2 : Int32) (M : vMe) : Option (Int32 × vMe) :=
  (gI M x0 12 0).bind fun v1 =>
  if v1 = 0 then
  (if x1 = 0 then
  (tX10_throwsIf_J16 x0 M)
else
  ((sV M x0 12 0 (.int x2)).bind fun M6 =>
  tX10_throwsIf_J16 x0 M6))
else
  (tX10_throwsIf_J16 x0 M)
def rmX10_throwsIf : Room := { frames := 1, cells := 0, slots := 0, locals := 0 }
set_option maxHeartbeats 4000000 in
set_option maxRecDepth 100000 in
theorem mX10_throwsIf (l : Launch) (hfl : l.stackTraces = false) (D : vD) (x0 : Nat) (x1 : Int32) (x2 : Int32) (M : vMe) (z : (Int32 × vMe)) (h : tX10_throwsIf x0 x1 x2 M = some z) : Met l yX10_throwsIf (Cond.code yX10_throwsIf cX10_throwsIf 3 (some .boolean) :: TB) rmX10_throwsIf (va_Pc [.ref x0, .int x1, .int x2] (vPre D M)) (qW D (some (.int z.1)) z.2) 0 0 (vA D) := by
  refine v_ofW (cc := cX10_throwsIf) (maxL := 3) (ret := (some .boolean)) (by decide) (Nat.le_of_ble_eq_true rfl) ?_
  intro p e s m args below meth c Q hx hb hr hml hown hts hlk hnm hSS hR0 hQ ls hl
  have hK := hSS.1
  have hl : lv_has ls 3 [(0, .ref x0), (1, .int x1), (2, .int x2)] := hl
  unfold tX10_throwsIf at h
  have X10_throwsIf_J16p : ∀ (x0 : Nat) (Mj : vMe) (ls : Array Slot), lv_has ls 3 [(0, .ref x0)] → tX10_throwsIf_J16 x0 Mj = some z → vV D p l e rmX10_throwsIf s m args below meth c 0 0 Q Mj (F0 m 16 ls []) := by
    intro x0 Mj ls hl h
    unfold tX10_throwsIf_J16 at h
    refine w_aload_n hx hb dX10_throwsIf_16 rfl (lv_at hl 0 rfl) ?_
    obtain ⟨v4, ev4, h⟩ := v_bnd h
    refine v_gI (ci := 11) hx hb hts iwX10 hown hK 0 ev4 rfl (by decide) (Or.inl (hts _ kw1335)) (fun _ h9 => h9) dX10_throwsIf_17 ?_
    refine w_if_le (tgt := 27) hx hb dX10_throwsIf_20 (by decide) (fun c5 => ?_) (fun c5 => ?_)
    · rw [if_pos c5] at h
      refine w_iconst (v := 0) hx hb dX10_throwsIf_27 (by decide) ?_
      obtain rfl := Option.some.inj h
      rw [hQ]
      exact v_zret (x := 0) hx hb hr hlk rfl dX10_throwsIf_28
    · rw [if_neg c5] at h
      refine w_iconst (v := 1) hx hb dX10_throwsIf_23 (by decide) ?_
      refine w_goto (tgt := 28) hx hb dX10_throwsIf_24 (by decide) ?_
      obtain rfl := Option.some.inj h
      rw [hQ]
      exact v_zret (x := 1) hx hb hr hlk rfl dX10_throwsIf_28
  refine w_aload_n hx hb dX10_throwsIf_0 rfl (lv_at hl 0 rfl) ?_
  obtain ⟨v1, ev1, h⟩ := v_bnd h
  refine v_gI (ci := 11) hx hb hts iwX10 hown hK 0 ev1 rfl (by decide) (Or.inl (hts _ kw1335)) (fun _ h9 => h9) dX10_throwsIf_1 ?_
  refine w_if_ne (tgt := 16) hx hb dX10_throwsIf_4 (by decide) (fun c2 => ?_) (fun c2 => ?_)
  · rw [if_pos c2] at h
    refine w_iload_n hx hb dX10_throwsIf_7 rfl (lv_at hl 1 rfl) ?_
    refine w_if_eq (tgt := 16) hx hb dX10_throwsIf_8 (by decide) (fun c3 => ?_) (fun c3 => ?_)
    · rw [if_pos c3] at h
      exact X10_throwsIf_J16p x0 M ls (lv_sub hl [0] rfl) h
    · rw [if_neg c3] at h
      refine w_aload_n hx hb dX10_throwsIf_11 rfl (lv_at hl 0 rfl) ?_
      refine w_iload_n hx hb dX10_throwsIf_12 rfl (lv_at hl 2 rfl) ?_
      obtain ⟨M6, eM6, h⟩ := v_bnd h
      refine v_putf (ci := 11) hx hb hts iwX10 hown hK tyX10_ok nmX10 0 eM6 rfl (by decide) (Or.inl (hts _ kw1335)) (fun _ h9 => h9) (Or.inl rfl) rfl rfl dX10_throwsIf_13 ?_
      exact X10_throwsIf_J16p x0 M6 ls (lv_sub hl [0] rfl) h
  · rw [if_neg c2] at h
    exact X10_throwsIf_J16p x0 M ls (lv_sub hl [0] rfl) h

def tX10_bytesOf_L3 (x0 : Nat) (x1 : Int32) : Nat → Int32 → vMe → Option (Unit × vMe)
  | 0, _, _ => none
  | f + 1, x2, Mi =>
  if x2 < 0 then
  (some ((), Mi))
else
  ((gA Mi x0 12 3).bind fun a8 =>
  (gI Mi x0 12 4).bind fun v9 =>
  (sA Mi a8 102 v9 (.int ((x1 >>> (x2 &&& 31)).toInt8.toInt32).toInt8.toInt32)).bind fun M10 =>
  (gI M10 x0 12 4).bind fun v11 =>
  (sV M10 x0 12 4 (.int (v11 + 1))).bind fun M12 =>
  tX10_bytesOf_L3 x0 x1 f (x2 + (-8)) M12)
def tX10_bytesOf (x0 : Nat) (x1 : Int32) (M : vMe) : Option (Unit × vMe) :=
  (tX10_bytesOf_L3 x0 x1 vF 24 M).bind fun z13 =>
  some ((), z13.2)
def rmX10_bytesOf : Room := { frames := 1, cells := 0, slots := 0, locals := 0 }
set_option maxHeartbeats 4000000 in
set_option maxRecDepth 100000 in
theorem mX10_bytesOf (l : Launch) (hfl : l.stackTraces = false) (D : vD) (x0 : Nat) (x1 : Int32) (M : vMe) (z : (Unit × vMe)) (h : tX10_bytesOf x0 x1 M = some z) : Met l yX10_bytesOf (Cond.code yX10_bytesOf cX10_bytesOf 3 none :: TB) rmX10_bytesOf (va_Pc [.ref x0, .int x1] (vPre D M)) (qW D none z.2) 0 0 (vA D) := by
  refine v_ofW (cc := cX10_bytesOf) (maxL := 3) (ret := none) (by decide) (Nat.le_of_ble_eq_true rfl) ?_
  intro p e s m args below meth c Q hx hb hr hml hown hts hlk hnm hSS hR0 hQ ls hl
  have hK := hSS.1
  have hl : lv_has ls 3 [(0, .ref x0), (1, .int x1)] := hl
  unfold tX10_bytesOf at h
  have X10_bytesOf_L3p : ∀ (x0 : Nat) (x1 : Int32), ∀ (f : Nat) (x2 : Int32) (Mi : vMe) (ls : Array Slot) (z : (Unit × vMe)), lv_has ls 3 [(0, .ref x0), (1, .int x1), (2, .int x2)] → tX10_bytesOf_L3 x0 x1 f x2 Mi = some z → (∀ ls : Array Slot, lv_has ls 3 [] → vV D p l e rmX10_bytesOf s m args below meth c 0 0 Q z.2 (F0 m 36 ls [])) → vV D p l e rmX10_bytesOf s m args below meth c 0 0 Q Mi (F0 m 3 ls []) := by
    intro x0 x1 f
    induction f with
    | zero =>
      intro x2 Mi ls z hl h
      exact absurd h (by simp [tX10_bytesOf_L3])
    | succ f ih =>
      intro x2 Mi ls z hl h KX
      rw [tX10_bytesOf_L3] at h
      refine w_iload_n hx hb dX10_bytesOf_3 rfl (lv_at hl 2 rfl) ?_
      refine w_if_lt (tgt := 36) hx hb dX10_bytesOf_4 (by decide) (fun c7 => ?_) (fun c7 => ?_)
      · rw [if_pos c7] at h
        obtain rfl := Option.some.inj h
        exact KX ls (lv_sub hl [] rfl)
      · rw [if_neg c7] at h
        refine w_aload_n hx hb dX10_bytesOf_7 rfl (lv_at hl 0 rfl) ?_
        obtain ⟨a8, ea8, h⟩ := v_bnd h
        refine v_gA (ci := 11) hx hb hts iwX10 hown hK 3 ea8 rfl (by decide) (Or.inl (hts _ kw1338)) (fun _ h9 => h9) dX10_bytesOf_8 ?_
        refine w_aload_n hx hb dX10_bytesOf_11 rfl (lv_at hl 0 rfl) ?_
        obtain ⟨v9, ev9, h⟩ := v_bnd h
        refine v_gI (ci := 11) hx hb hts iwX10 hown hK 4 ev9 rfl (by decide) (Or.inl (hts _ kw1339)) (fun _ h9 => h9) dX10_bytesOf_12 ?_
        refine w_iload_n hx hb dX10_bytesOf_15 rfl (lv_at hl 1 rfl) ?_
        refine w_iload_n hx hb dX10_bytesOf_16 rfl (lv_at hl 2 rfl) ?_
        refine w_ishr hx hb dX10_bytesOf_17 ?_
        refine w_i2b hx hb dX10_bytesOf_18 ?_
        obtain ⟨M10, eM10, h⟩ := v_bnd h
        refine v_bast hx hb hK eM10 dX10_bytesOf_19 ?_
        refine w_aload_n hx hb dX10_bytesOf_20 rfl (lv_at hl 0 rfl) ?_
        refine w_dup hx hb dX10_bytesOf_21 rfl ?_
        obtain ⟨v11, ev11, h⟩ := v_bnd h
        refine v_gI (ci := 11) hx hb hts iwX10 hown hK 4 ev11 rfl (by decide) (Or.inl (hts _ kw1339)) (fun _ h9 => h9) dX10_bytesOf_22 ?_
        refine w_iconst (v := 1) hx hb dX10_bytesOf_25 (by decide) ?_
        refine w_iadd hx hb dX10_bytesOf_26 ?_
        obtain ⟨M12, eM12, h⟩ := v_bnd h
        refine v_putf (ci := 11) hx hb hts iwX10 hown hK tyX10_ok nmX10 4 eM12 rfl (by decide) (Or.inl (hts _ kw1339)) (fun _ h9 => h9) (Or.inl rfl) rfl rfl dX10_bytesOf_27 ?_
        refine w_iinc (v := x2 + (-8)) (lv' := [(2, .int (x2 + (-8))), (0, .ref x0), (1, .int x1)]) hx hb dX10_bytesOf_30 hl (j := 2) rfl rfl (by decide) rfl (fun ls hl => ?_)
        have hl : lv_has ls 3 [(0, .ref x0), (1, .int x1), (2, .int (x2 + (-8)))] := lv_sub hl [1, 2, 0] rfl
        refine w_goto (tgt := 3) hx hb dX10_bytesOf_33 (by decide) ?_
        exact ih (x2 + (-8)) M12 ls z (lv_sub hl [0, 1, 2] rfl) h KX
  refine w_bipush (v := 24) hx hb dX10_bytesOf_0 (by decide) ?_
  refine w_istore_n (lv' := [(2, .int 24), (0, .ref x0), (1, .int x1)]) hx hb dX10_bytesOf_2 rfl hl (by decide) rfl (fun ls hl => ?_)
  have hl : lv_has ls 3 [(0, .ref x0), (1, .int x1), (2, .int 24)] := lv_sub hl [1, 2, 0] rfl
  obtain ⟨z13, ez13, h⟩ := v_bnd h
  refine X10_bytesOf_L3p x0 x1 vF 24 M ls z13 (lv_sub hl [0, 1, 2] rfl) ez13 (fun ls hl => ?_)
  obtain rfl := Option.some.inj h
  rw [hQ]
  exact v_vret hx hb hr hlk dX10_bytesOf_36

def tX10_append (x0 : Nat) (x1 : Int32) (x2 : Int32) (x3 : Int32) (x4 : Int32) (x5 : Int32) (M : vMe) : Option (Int32 × vMe) :=
  (sV M x0 12 0 (.int 0)).bind fun M1 =>
  (gI M1 x0 12 4).bind fun v2 =>
  if (v2 + 20) ≤ (600 : Int32) then
  (if (M1.1 x0).1 = 12 then
  ((tX10_bytesOf x0 x1 M1).bind fun z4 =>
  if (z4.2.1 x0).1 = 12 then
  ((tX10_bytesOf x0 x2 z4.2).bind fun z5 =>
  if (z5.2.1 x0).1 = 12 then
  ((tX10_bytesOf x0 x3 z5.2).bind fun z6 =>
  if (z6.2.1 x0).1 = 12 then
  ((tX10_bytesOf x0 x4 z6.2).bind fun z7 =>
  if (z7.2.1 x0).1 = 12 then
  ((tX10_bytesOf x0 x5 z7.2).bind fun z8 =>
  (gI z8.2 x0 12 4).bind fun v9 =>
  some (v9, z8.2))
else none)
else none)
else none)
else none)
else none)
else
  (some ((-1), M1))
def rmX10_append : Room := { frames := 2, cells := 0, slots := 0, locals := 22 }
set_option maxHeartbeats 4000000 in
set_option maxRecDepth 100000 in
theorem mX10_append (l : Launch) (hfl : l.stackTraces = false) (D : vD) (x0 : Nat) (x1 : Int32) (x2 : Int32) (x3 : Int32) (x4 : Int32) (x5 : Int32) (M : vMe) (z : (Int32 × vMe)) (h : tX10_append x0 x1 x2 x3 x4 x5 M = some z) : Met l yX10_append (Cond.code yX10_append cX10_append 6 (some .int) :: TB) rmX10_append (va_Pc [.ref x0, .int x1, .int x2, .int x3, .int x4, .int x5] (vPre D M)) (qW D (some (.int z.1)) z.2) 0 0 (vA D) := by
  refine v_ofW (cc := cX10_append) (maxL := 6) (ret := (some .int)) (by decide) (Nat.le_of_ble_eq_true rfl) ?_
  intro p e s m args below meth c Q hx hb hr hml hown hts hlk hnm hSS hR0 hQ ls hl
  have hK := hSS.1
  have hl : lv_has ls 6 [(0, .ref x0), (1, .int x1), (2, .int x2), (3, .int x3), (4, .int x4), (5, .int x5)] := hl
  unfold tX10_append at h
  refine w_aload_n hx hb dX10_append_0 rfl (lv_at hl 0 rfl) ?_
  refine w_iconst (v := 0) hx hb dX10_append_1 (by decide) ?_
  obtain ⟨M1, eM1, h⟩ := v_bnd h
  refine v_putf (ci := 11) hx hb hts iwX10 hown hK tyX10_ok nmX10 0 eM1 rfl (by decide) (Or.inl (hts _ kw1335)) (fun _ h9 => h9) (Or.inl rfl) rfl rfl dX10_append_2 ?_
  refine w_aload_n hx hb dX10_append_5 rfl (lv_at hl 0 rfl) ?_
  obtain ⟨v2, ev2, h⟩ := v_bnd h
  refine v_gI (ci := 11) hx hb hts iwX10 hown hK 4 ev2 rfl (by decide) (Or.inl (hts _ kw1339)) (fun _ h9 => h9) dX10_append_6 ?_
  refine w_bipush (v := 20) hx hb dX10_append_9 (by decide) ?_
  refine w_iadd hx hb dX10_append_11 ?_
  refine w_sipush (v := 600) hx hb dX10_append_12 (by decide) ?_
  refine w_icmp_le (tgt := 20) hx hb dX10_append_15 (by decide) (fun c3 => ?_) (fun c3 => ?_)
  · rw [if_pos c3] at h
    refine w_aload_n hx hb dX10_append_20 rfl (lv_at hl 0 rfl) ?_
    refine w_iload_n hx hb dX10_append_21 rfl (lv_at hl 1 rfl) ?_
    obtain ⟨g8, h⟩ := v_ifs h
    obtain ⟨z4, ez4, h⟩ := v_bnd h
    refine v_call0 (M1 := z4.2) (mc := 0) (ms := 0) (fun H locs hR hS => va_runV (As := [.int x1]) (rest := []) ⟨hx, hb, hml, hown, hts⟩ (mX10_bytesOf l hfl D x0 x1 M1 z4 ez4) (cwV 1 hts (gdV kw1411 kw1413 kw27 kw85 kw1414) rfl rfl rfl (by decide +kernel) ⟨Nat.le_of_ble_eq_true rfl, Nat.le_of_ble_eq_true rfl⟩) (v_preV (ci := 11) hSS hR hS g8 (by decide) rfl [.int x1]) rfl rfl hl.1 rfl (lv_room (Nat.le_of_ble_eq_true rfl)) dX10_append_22 ⟨Nat.zero_le _, Nat.zero_le _⟩) ?_
    refine w_aload_n hx hb dX10_append_25 rfl (lv_at hl 0 rfl) ?_
    refine w_iload_n hx hb dX10_append_26 rfl (lv_at hl 2 rfl) ?_
    obtain ⟨g8, h⟩ := v_ifs h
    obtain ⟨z5, ez5, h⟩ := v_bnd h
    refine v_call0 (M1 := z5.2) (mc := 0) (ms := 0) (fun H locs hR hS => va_runV (As := [.int x2]) (rest := []) ⟨hx, hb, hml, hown, hts⟩ (mX10_bytesOf l hfl D x0 x2 z4.2 z5 ez5) (cwV 1 hts (gdV kw1411 kw1413 kw27 kw85 kw1414) rfl rfl rfl (by decide +kernel) ⟨Nat.le_of_ble_eq_true rfl, Nat.le_of_ble_eq_true rfl⟩) (v_preV (ci := 11) hSS hR hS g8 (by decide) rfl [.int x2]) rfl rfl hl.1 rfl (lv_room (Nat.le_of_ble_eq_true rfl)) dX10_append_27 ⟨Nat.zero_le _, Nat.zero_le _⟩) ?_
    refine w_aload_n hx hb dX10_append_30 rfl (lv_at hl 0 rfl) ?_
    refine w_iload_n hx hb dX10_append_31 rfl (lv_at hl 3 rfl) ?_
    obtain ⟨g8, h⟩ := v_ifs h
    obtain ⟨z6, ez6, h⟩ := v_bnd h
    refine v_call0 (M1 := z6.2) (mc := 0) (ms := 0) (fun H locs hR hS => va_runV (As := [.int x3]) (rest := []) ⟨hx, hb, hml, hown, hts⟩ (mX10_bytesOf l hfl D x0 x3 z5.2 z6 ez6) (cwV 1 hts (gdV kw1411 kw1413 kw27 kw85 kw1414) rfl rfl rfl (by decide +kernel) ⟨Nat.le_of_ble_eq_true rfl, Nat.le_of_ble_eq_true rfl⟩) (v_preV (ci := 11) hSS hR hS g8 (by decide) rfl [.int x3]) rfl rfl hl.1 rfl (lv_room (Nat.le_of_ble_eq_true rfl)) dX10_append_32 ⟨Nat.zero_le _, Nat.zero_le _⟩) ?_
    refine w_aload_n hx hb dX10_append_35 rfl (lv_at hl 0 rfl) ?_
    refine w_iload hx hb dX10_append_36 (lv_at hl 4 rfl) ?_
    obtain ⟨g8, h⟩ := v_ifs h
    obtain ⟨z7, ez7, h⟩ := v_bnd h
    refine v_call0 (M1 := z7.2) (mc := 0) (ms := 0) (fun H locs hR hS => va_runV (As := [.int x4]) (rest := []) ⟨hx, hb, hml, hown, hts⟩ (mX10_bytesOf l hfl D x0 x4 z6.2 z7 ez7) (cwV 1 hts (gdV kw1411 kw1413 kw27 kw85 kw1414) rfl rfl rfl (by decide +kernel) ⟨Nat.le_of_ble_eq_true rfl, Nat.le_of_ble_eq_true rfl⟩) (v_preV (ci := 11) hSS hR hS g8 (by decide) rfl [.int x4]) rfl rfl hl.1 rfl (lv_room (Nat.le_of_ble_eq_true rfl)) dX10_append_38 ⟨Nat.zero_le _, Nat.zero_le _⟩) ?_
    refine w_aload_n hx hb dX10_append_41 rfl (lv_at hl 0 rfl) ?_
    refine w_iload hx hb dX10_append_42 (lv_at hl 5 rfl) ?_
    obtain ⟨g8, h⟩ := v_ifs h
    obtain ⟨z8, ez8, h⟩ := v_bnd h
    refine v_call0 (M1 := z8.2) (mc := 0) (ms := 0) (fun H locs hR hS => va_runV (As := [.int x5]) (rest := []) ⟨hx, hb, hml, hown, hts⟩ (mX10_bytesOf l hfl D x0 x5 z7.2 z8 ez8) (cwV 1 hts (gdV kw1411 kw1413 kw27 kw85 kw1414) rfl rfl rfl (by decide +kernel) ⟨Nat.le_of_ble_eq_true rfl, Nat.le_of_ble_eq_true rfl⟩) (v_preV (ci := 11) hSS hR hS g8 (by decide) rfl [.int x5]) rfl rfl hl.1 rfl (lv_room (Nat.le_of_ble_eq_true rfl)) dX10_append_44 ⟨Nat.zero_le _, Nat.zero_le _⟩) ?_
    refine w_aload_n hx hb dX10_append_47 rfl (lv_at hl 0 rfl) ?_
    obtain ⟨v9, ev9, h⟩ := v_bnd h
    refine v_gI (ci := 11) hx hb hts iwX10 hown hK 4 ev9 rfl (by decide) (Or.inl (hts _ kw1339)) (fun _ h9 => h9) dX10_append_48 ?_
    obtain rfl := Option.some.inj h
    rw [hQ]
    exact v_iret hx hb hr hlk dX10_append_51
  · rw [if_neg c3] at h
    refine w_iconst (v := (-1)) hx hb dX10_append_18 (by decide) ?_
    obtain rfl := Option.some.inj h
    rw [hQ]
    exact v_iret hx hb hr hlk dX10_append_19

def tX10_byteAt (x0 : Nat) (x1 : Int32) (M : vMe) : Option Int32 :=
  (gI M x0 12 5).bind fun v1 =>
  if v1 ≤ x1 then
  (some ((-1)))
else
  ((gA M x0 12 3).bind fun a3 =>
  (aI M a3 102 x1).bind fun v4 =>
  some (v4 &&& 255))
def rmX10_byteAt : Room := { frames := 1, cells := 0, slots := 0, locals := 0 }
set_option maxHeartbeats 4000000 in
set_option maxRecDepth 100000 in
theorem mX10_byteAt (l : Launch) (hfl : l.stackTraces = false) (D : vD) (x0 : Nat) (x1 : Int32) (M : vMe) (z : Int32) (h : tX10_byteAt x0 x1 M = some z) : Met l yX10_byteAt (Cond.code yX10_byteAt cX10_byteAt 2 (some .int) :: TB) rmX10_byteAt (va_Pc [.ref x0, .int x1] (vPre D M)) (qW D (some (.int z)) M) 0 0 (vA D) := by
  refine v_ofW (cc := cX10_byteAt) (maxL := 2) (ret := (some .int)) (by decide) (Nat.le_of_ble_eq_true rfl) ?_
  intro p e s m args below meth c Q hx hb hr hml hown hts hlk hnm hSS hR0 hQ ls hl
  have hK := hSS.1
  have hl : lv_has ls 2 [(0, .ref x0), (1, .int x1)] := hl
  unfold tX10_byteAt at h
  refine w_iload_n hx hb dX10_byteAt_0 rfl (lv_at hl 1 rfl) ?_
  refine w_aload_n hx hb dX10_byteAt_1 rfl (lv_at hl 0 rfl) ?_
  obtain ⟨v1, ev1, h⟩ := v_bnd h
  refine v_gI (ci := 11) hx hb hts iwX10 hown hK 5 ev1 rfl (by decide) (Or.inl (hts _ kw1340)) (fun _ h9 => h9) dX10_byteAt_2 ?_
  refine w_icmp_ge (tgt := 21) hx hb dX10_byteAt_5 (by decide) (fun c2 => ?_) (fun c2 => ?_)
  · rw [if_pos c2] at h
    refine w_iconst (v := (-1)) hx hb dX10_byteAt_21 (by decide) ?_
    obtain rfl := Option.some.inj h
    rw [hQ]
    exact v_iret hx hb hr hlk dX10_byteAt_22
  · rw [if_neg c2] at h
    refine w_aload_n hx hb dX10_byteAt_8 rfl (lv_at hl 0 rfl) ?_
    obtain ⟨a3, ea3, h⟩ := v_bnd h
    refine v_gA (ci := 11) hx hb hts iwX10 hown hK 3 ea3 rfl (by decide) (Or.inl (hts _ kw1338)) (fun _ h9 => h9) dX10_byteAt_9 ?_
    refine w_iload_n hx hb dX10_byteAt_12 rfl (lv_at hl 1 rfl) ?_
    obtain ⟨v4, ev4, h⟩ := v_bnd h
    refine v_bald hx hb hK ev4 dX10_byteAt_13 ?_
    refine w_sipush (v := 255) hx hb dX10_byteAt_14 (by decide) ?_
    refine w_iand hx hb dX10_byteAt_17 ?_
    refine w_goto (tgt := 22) hx hb dX10_byteAt_18 (by decide) ?_
    obtain rfl := Option.some.inj h
    rw [hQ]
    exact v_iret hx hb hr hlk dX10_byteAt_22

def tX10_takesLetters_J62_5 (rec : vMe → Option (Unit × vMe)) (x0 : Nat) (y0 : Nat) (y1 : Int64) (Mj : vMe) : Option (Unit × vMe) :=
  (sV Mj y0 12 10 (.long y1)).bind fun M24 =>
  (gI M24 x0 12 7).bind fun v25 =>
  (sV M24 x0 12 7 (.int (v25 + 1))).bind fun M26 =>
  rec M26
def tX10_takesLetters_L5 (x0 : Nat) : Nat → vMe → Option (Unit × vMe)
  | 0, _ => none
  | f + 1, Mi =>
  (gI Mi x0 12 7).bind fun v16 =>
  if (Mi.1 x0).1 = 12 then
  ((tX10_byteAt x0 v16 Mi).bind fun z17 =>
  (tX10_within z17 97 122 Mi).bind fun z18 =>
  if z18 = 0 then
  (some ((), Mi))
else
  ((gI Mi x0 12 7).bind fun v20 =>
  (gI Mi x0 12 6).bind fun v21 =>
  if (8 : Int32) ≤ (v20 - v21) then
  ((gJ Mi x0 12 10).bind fun v23 =>
  tX10_takesLetters_J62_5 (tX10_takesLetters_L5 x0 f) x0 x0 v23 Mi)
else
  ((gJ Mi x0 12 10).bind fun v27 =>
  (gI Mi x0 12 7).bind fun v28 =>
  if (Mi.1 x0).1 = 12 then
  ((tX10_byteAt x0 v28 Mi).bind fun z29 =>
  tX10_takesLetters_J62_5 (tX10_takesLetters_L5 x0 f) x0 x0 ((v27 <<< ((8 : Int32).toInt64 &&& 63)) ||| z29.toInt64) Mi)
else none)))
else none
def tX10_takesLetters (x0 : Nat) (M : vMe) : Option (Unit × vMe) :=
  (sV M x0 12 10 (.long 0)).bind fun M1 =>
  (tX10_takesLetters_L5 x0 vF M1).bind fun z30 =>
  some ((), z30.2)
def rmX10_takesLetters : Room := { frames := 2, cells := 0, slots := 0, locals := 22 }
set_option maxHeartbeats 4000000 in
set_option maxRecDepth 100000 in
theorem mX10_takesLetters (l : Launch) (hfl : l.stackTraces = false) (D : vD) (x0 : Nat) (M : vMe) (z : (Unit × vMe)) (h : tX10_takesLetters x0 M = some z) : Met l yX10_takesLetters (Cond.code yX10_takesLetters cX10_takesLetters 1 none :: TB) rmX10_takesLetters (va_Pc [.ref x0] (vPre D M)) (qW D none z.2) 0 0 (vA D) := by
  refine v_ofW (cc := cX10_takesLetters) (maxL := 1) (ret := none) (by decide) (Nat.le_of_ble_eq_true rfl) ?_
  intro p e s m args below meth c Q hx hb hr hml hown hts hlk hnm hSS hR0 hQ ls hl
  have hK := hSS.1
  have hl : lv_has ls 1 [(0, .ref x0)] := hl
  unfold tX10_takesLetters at h
  have X10_takesLetters_L5p : ∀ (x0 : Nat), ∀ (f : Nat) (Mi : vMe) (ls : Array Slot) (z : (Unit × vMe)), lv_has ls 1 [(0, .ref x0)] → tX10_takesLetters_L5 x0 f Mi = some z → (∀ ls : Array Slot, lv_has ls 1 [] → vV D p l e rmX10_takesLetters s m args below meth c 0 0 Q z.2 (F0 m 78 ls [])) → vV D p l e rmX10_takesLetters s m args below meth c 0 0 Q Mi (F0 m 5 ls []) := by
    intro x0 f
    induction f with
    | zero =>
      intro  Mi ls z hl h
      exact absurd h (by simp [tX10_takesLetters_L5])
    | succ f ih =>
      intro  Mi ls z hl h KX
      rw [tX10_takesLetters_L5] at h
      have X10_takesLetters_J62_5p : ∀ (y0 : Nat) (y1 : Int64) (Mj : vMe) (ls : Array Slot), lv_has ls 1 [(0, .ref x0)] → tX10_takesLetters_J62_5 (tX10_takesLetters_L5 x0 f) x0 y0 y1 Mj = some z → vV D p l e rmX10_takesLetters s m args below meth c 0 0 Q Mj (F0 m 62 ls [.long y1, .ref y0]) := by
        intro y0 y1 Mj ls hl h
        unfold tX10_takesLetters_J62_5 at h
        obtain ⟨M24, eM24, h⟩ := v_bnd h
        refine v_putf (ci := 11) hx hb hts iwX10 hown hK tyX10_ok nmX10 10 eM24 rfl (by decide) (Or.inl (hts _ kw1345)) (fun _ h9 => h9) (Or.inl rfl) rfl rfl dX10_takesLetters_62 ?_
        refine w_aload_n hx hb dX10_takesLetters_65 rfl (lv_at hl 0 rfl) ?_
        refine w_dup hx hb dX10_takesLetters_66 rfl ?_
        obtain ⟨v25, ev25, h⟩ := v_bnd h
        refine v_gI (ci := 11) hx hb hts iwX10 hown hK 7 ev25 rfl (by decide) (Or.inl (hts _ kw1342)) (fun _ h9 => h9) dX10_takesLetters_67 ?_
        refine w_iconst (v := 1) hx hb dX10_takesLetters_70 (by decide) ?_
        refine w_iadd hx hb dX10_takesLetters_71 ?_
        obtain ⟨M26, eM26, h⟩ := v_bnd h
        refine v_putf (ci := 11) hx hb hts iwX10 hown hK tyX10_ok nmX10 7 eM26 rfl (by decide) (Or.inl (hts _ kw1342)) (fun _ h9 => h9) (Or.inl rfl) rfl rfl dX10_takesLetters_72 ?_
        refine w_goto (tgt := 5) hx hb dX10_takesLetters_75 (by decide) ?_
        exact ih M26 ls z (lv_sub hl [0] rfl) h KX
      refine w_aload_n hx hb dX10_takesLetters_5 rfl (lv_at hl 0 rfl) ?_
      refine w_aload_n hx hb dX10_takesLetters_6 rfl (lv_at hl 0 rfl) ?_
      obtain ⟨v16, ev16, h⟩ := v_bnd h
      refine v_gI (ci := 11) hx hb hts iwX10 hown hK 7 ev16 rfl (by decide) (Or.inl (hts _ kw1342)) (fun _ h9 => h9) dX10_takesLetters_7 ?_
      obtain ⟨g8, h⟩ := v_ifs h
      obtain ⟨z17, ez17, h⟩ := v_bnd h
      refine v_call1 (v := .int z17) (M1 := Mi) (mc := 0) (ms := 0) (fun H locs hR hS => va_runV (As := [.int v16]) (rest := []) ⟨hx, hb, hml, hown, hts⟩ (mX10_byteAt l hfl D x0 v16 Mi z17 ez17) (cwV 1 hts (gdV kw1433 kw1435 kw30 kw85 kw1436) rfl rfl rfl (by decide +kernel) ⟨Nat.le_of_ble_eq_true rfl, Nat.le_of_ble_eq_true rfl⟩) (v_preV (ci := 11) hSS hR hS g8 (by decide) rfl [.int v16]) rfl rfl hl.1 rfl (lv_room (Nat.le_of_ble_eq_true rfl)) dX10_takesLetters_10 ⟨Nat.zero_le _, Nat.zero_le _⟩) ?_
      refine w_bipush (v := 97) hx hb dX10_takesLetters_13 (by decide) ?_
      refine w_bipush (v := 122) hx hb dX10_takesLetters_15 (by decide) ?_
      obtain ⟨z18, ez18, h⟩ := v_bnd h
      refine v_call1 (v := .int z18) (M1 := Mi) (mc := 0) (ms := 0) (fun H locs hR hS => va_runS (As := [.int z17, .int 97, .int 122]) (rest := []) ⟨hx, hb, hml, hown, hts⟩ (mX10_within l hfl D z17 97 122 Mi z18 ez18) (va_cwS 3 hts (gdS kw1419 kw1420 kw85 kw1421) rfl rfl rfl (by decide +kernel) ⟨Nat.le_of_ble_eq_true rfl, Nat.le_of_ble_eq_true rfl⟩) (v_preS hSS hR hS [.int z17, .int 97, .int 122]) rfl rfl hl.1 rfl (lv_room (Nat.le_of_ble_eq_true rfl)) dX10_takesLetters_17 ⟨Nat.zero_le _, Nat.zero_le _⟩) ?_
      refine w_if_eq (tgt := 78) hx hb dX10_takesLetters_20 (by decide) (fun c19 => ?_) (fun c19 => ?_)
      · rw [if_pos c19] at h
        obtain rfl := Option.some.inj h
        exact KX ls (lv_sub hl [] rfl)
      · rw [if_neg c19] at h
        refine w_aload_n hx hb dX10_takesLetters_23 rfl (lv_at hl 0 rfl) ?_
        refine w_aload_n hx hb dX10_takesLetters_24 rfl (lv_at hl 0 rfl) ?_
        obtain ⟨v20, ev20, h⟩ := v_bnd h
        refine v_gI (ci := 11) hx hb hts iwX10 hown hK 7 ev20 rfl (by decide) (Or.inl (hts _ kw1342)) (fun _ h9 => h9) dX10_takesLetters_25 ?_
        refine w_aload_n hx hb dX10_takesLetters_28 rfl (lv_at hl 0 rfl) ?_
        obtain ⟨v21, ev21, h⟩ := v_bnd h
        refine v_gI (ci := 11) hx hb hts iwX10 hown hK 6 ev21 rfl (by decide) (Or.inl (hts _ kw1341)) (fun _ h9 => h9) dX10_takesLetters_29 ?_
        refine w_isub hx hb dX10_takesLetters_32 ?_
        refine w_bipush (v := 8) hx hb dX10_takesLetters_33 (by decide) ?_
        refine w_icmp_ge (tgt := 58) hx hb dX10_takesLetters_35 (by decide) (fun c22 => ?_) (fun c22 => ?_)
        · rw [if_pos c22] at h
          refine w_aload_n hx hb dX10_takesLetters_58 rfl (lv_at hl 0 rfl) ?_
          obtain ⟨v23, ev23, h⟩ := v_bnd h
          refine v_gJ (ci := 11) hx hb hts iwX10 hown hK 10 ev23 rfl (by decide) (Or.inl (hts _ kw1345)) (fun _ h9 => h9) dX10_takesLetters_59 ?_
          exact X10_takesLetters_J62_5p x0 v23 Mi ls (lv_sub hl [0] rfl) h
        · rw [if_neg c22] at h
          refine w_aload_n hx hb dX10_takesLetters_38 rfl (lv_at hl 0 rfl) ?_
          obtain ⟨v27, ev27, h⟩ := v_bnd h
          refine v_gJ (ci := 11) hx hb hts iwX10 hown hK 10 ev27 rfl (by decide) (Or.inl (hts _ kw1345)) (fun _ h9 => h9) dX10_takesLetters_39 ?_
          refine w_bipush (v := 8) hx hb dX10_takesLetters_42 (by decide) ?_
          refine w_lshl hx hb dX10_takesLetters_44 ?_
          refine w_aload_n hx hb dX10_takesLetters_45 rfl (lv_at hl 0 rfl) ?_
          refine w_aload_n hx hb dX10_takesLetters_46 rfl (lv_at hl 0 rfl) ?_
          obtain ⟨v28, ev28, h⟩ := v_bnd h
          refine v_gI (ci := 11) hx hb hts iwX10 hown hK 7 ev28 rfl (by decide) (Or.inl (hts _ kw1342)) (fun _ h9 => h9) dX10_takesLetters_47 ?_
          obtain ⟨g8, h⟩ := v_ifs h
          obtain ⟨z29, ez29, h⟩ := v_bnd h
          refine v_call1 (v := .int z29) (M1 := Mi) (mc := 0) (ms := 0) (fun H locs hR hS => va_runV (As := [.int v28]) (rest := [.long (v27 <<< ((8 : Int32).toInt64 &&& 63)), .ref x0]) ⟨hx, hb, hml, hown, hts⟩ (mX10_byteAt l hfl D x0 v28 Mi z29 ez29) (cwV 1 hts (gdV kw1433 kw1435 kw30 kw85 kw1436) rfl rfl rfl (by decide +kernel) ⟨Nat.le_of_ble_eq_true rfl, Nat.le_of_ble_eq_true rfl⟩) (v_preV (ci := 11) hSS hR hS g8 (by decide) rfl [.int v28]) rfl rfl hl.1 rfl (lv_room (Nat.le_of_ble_eq_true rfl)) dX10_takesLetters_50 ⟨Nat.zero_le _, Nat.zero_le _⟩) ?_
          refine w_i2l hx hb dX10_takesLetters_53 ?_
          refine w_lor hx hb dX10_takesLetters_54 ?_
          refine w_goto (tgt := 62) hx hb dX10_takesLetters_55 (by decide) ?_
          exact X10_takesLetters_J62_5p x0 ((v27 <<< ((8 : Int32).toInt64 &&& 63)) ||| z29.toInt64) Mi ls (lv_sub hl [0] rfl) h
  refine w_aload_n hx hb dX10_takesLetters_0 rfl (lv_at hl 0 rfl) ?_
  refine w_lconst (v := 0) hx hb dX10_takesLetters_1 (by decide) ?_
  obtain ⟨M1, eM1, h⟩ := v_bnd h
  refine v_putf (ci := 11) hx hb hts iwX10 hown hK tyX10_ok nmX10 10 eM1 rfl (by decide) (Or.inl (hts _ kw1345)) (fun _ h9 => h9) (Or.inl rfl) rfl rfl dX10_takesLetters_2 ?_
  obtain ⟨z30, ez30, h⟩ := v_bnd h
  refine X10_takesLetters_L5p x0 vF  M1 ls z30 (lv_sub hl [0] rfl) ez30 (fun ls hl => ?_)
  obtain rfl := Option.some.inj h
  rw [hQ]
  exact v_vret hx hb hr hlk dX10_takesLetters_78

def tX10_advance_J26_0 (rec : vMe → Option (Unit × vMe)) (x0 : Nat) (Mj : vMe) : Option (Unit × vMe) :=
  (gI Mj x0 12 7).bind fun v12 =>
  (sV Mj x0 12 7 (.int (v12 + 1))).bind fun M13 =>
  rec M13
def tX10_advance_L0 (x0 : Nat) : Nat → vMe → Option (Unit × vMe)
  | 0, _ => none
  | f + 1, Mi =>
  (gI Mi x0 12 7).bind fun v9 =>
  if (Mi.1 x0).1 = 12 then
  ((tX10_byteAt x0 v9 Mi).bind fun z10 =>
  if z10 = (32 : Int32) then
  (tX10_advance_J26_0 (tX10_advance_L0 x0 f) x0 Mi)
else
  ((gI Mi x0 12 7).bind fun v14 =>
  if (Mi.1 x0).1 = 12 then
  ((tX10_byteAt x0 v14 Mi).bind fun z15 =>
  if z15 = (10 : Int32) then
  (tX10_advance_J26_0 (tX10_advance_L0 x0 f) x0 Mi)
else
  (some ((), Mi)))
else none))
else none
def tX10_advance_J247 (y0 : Nat) (y1 : Int32) (Mj : vMe) : Option (Unit × vMe) :=
  (sV Mj y0 12 8 (.int y1)).bind fun M32 =>
  some ((), M32)
def tX10_advance_J184_126 (rec : vMe → Option (Unit × vMe)) (x0 : Nat) (y0 : Nat) (y1 : Int32) (Mj : vMe) : Option (Unit × vMe) :=
  (sV Mj y0 12 9 (.int y1)).bind fun M55 =>
  (gI M55 x0 12 7).bind fun v56 =>
  (sV M55 x0 12 7 (.int (v56 + 1))).bind fun M57 =>
  rec M57
def tX10_advance_L126 (x0 : Nat) : Nat → vMe → Option (Unit × vMe)
  | 0, _ => none
  | f + 1, Mi =>
  (gI Mi x0 12 7).bind fun v47 =>
  if (Mi.1 x0).1 = 12 then
  ((tX10_byteAt x0 v47 Mi).bind fun z48 =>
  (tX10_within z48 48 57 Mi).bind fun z49 =>
  if z49 = 0 then
  (some ((), Mi))
else
  ((gI Mi x0 12 7).bind fun v51 =>
  (gI Mi x0 12 6).bind fun v52 =>
  if (3 : Int32) ≤ (v51 - v52) then
  ((gI Mi x0 12 9).bind fun v54 =>
  tX10_advance_J184_126 (tX10_advance_L126 x0 f) x0 x0 v54 Mi)
else
  ((gI Mi x0 12 9).bind fun v58 =>
  (gI Mi x0 12 7).bind fun v59 =>
  if (Mi.1 x0).1 = 12 then
  ((tX10_byteAt x0 v59 Mi).bind fun z60 =>
  tX10_advance_J184_126 (tX10_advance_L126 x0 f) x0 x0 (((10 * v58) + z60) - 48) Mi)
else none)))
else none
def tX10_advance_J219 (y0 : Nat) (y1 : Int32) (Mj : vMe) : Option (Unit × vMe) :=
  (sV Mj y0 12 8 (.int y1)).bind fun M65 =>
  some ((), M65)
def tX10_advance_J109 (y0 : Nat) (y1 : Int32) (Mj : vMe) : Option (Unit × vMe) :=
  (sV Mj y0 12 8 (.int y1)).bind fun M70 =>
  some ((), M70)
def tX10_advance (x0 : Nat) (M : vMe) : Option (Unit × vMe) :=
  (tX10_advance_L0 x0 vF M).bind fun z17 =>
  (gI z17.2 x0 12 7).bind fun v18 =>
  (sV z17.2 x0 12 6 (.int v18)).bind fun M19 =>
  (sV M19 x0 12 9 (.int 0)).bind fun M20 =>
  (gI M20 x0 12 7).bind fun v21 =>
  if (M20.1 x0).1 = 12 then
  ((tX10_byteAt x0 v21 M20).bind fun z22 =>
  if z22 = ((-1) : Int32) then
  ((sV M20 x0 12 8 (.int 0)).bind fun M24 =>
  some ((), M24))
else
  ((tX10_within z22 97 122 M20).bind fun z25 =>
  if z25 = 0 then
  ((tX10_within z22 48 57 M20).bind fun z27 =>
  if z27 = 0 then
  ((gI M20 x0 12 7).bind fun v29 =>
  (sV M20 x0 12 7 (.int (v29 + 1))).bind fun M30 =>
  if z22 = (59 : Int32) then
  (tX10_advance_J247 x0 3 M30)
else
  (tX10_advance_J247 x0 4 M30))
else
  ((tX10_advance_L126 x0 vF M20).bind fun z61 =>
  (gI z61.2 x0 12 7).bind fun v62 =>
  (gI z61.2 x0 12 6).bind fun v63 =>
  if (v62 - v63) ≤ (3 : Int32) then
  (tX10_advance_J219 x0 2 z61.2)
else
  (tX10_advance_J219 x0 4 z61.2)))
else
  (if (M20.1 x0).1 = 12 then
  ((tX10_takesLetters x0 M20).bind fun z66 =>
  (gI z66.2 x0 12 7).bind fun v67 =>
  (gI z66.2 x0 12 6).bind fun v68 =>
  if (v67 - v68) ≤ (8 : Int32) then
  (tX10_advance_J109 x0 1 z66.2)
else
  (tX10_advance_J109 x0 4 z66.2))
else none)))
else none
def rmX10_advance : Room := { frames := 3, cells := 0, slots := 0, locals := 42 }
set_option maxHeartbeats 4000000 in
set_option maxRecDepth 100000 in
theorem mX10_advance (l : Launch) (hfl : l.stackTraces = false) (D : vD) (x0 : Nat) (M : vMe) (z : (Unit × vMe)) (h : tX10_advance x0 M = some z) : Met l yX10_advance (Cond.code yX10_advance cX10_advance 2 none :: TB) rmX10_advance (va_Pc [.ref x0] (vPre D M)) (qW D none z.2) 0 0 (vA D) := by
  refine v_ofW (cc := cX10_advance) (maxL := 2) (ret := none) (by decide) (Nat.le_of_ble_eq_true rfl) ?_
  intro p e s m args below meth c Q hx hb hr hml hown hts hlk hnm hSS hR0 hQ ls hl
  have hK := hSS.1
  have hl : lv_has ls 2 [(0, .ref x0)] := hl
  unfold tX10_advance at h
  have X10_advance_L0p : ∀ (x0 : Nat), ∀ (f : Nat) (Mi : vMe) (ls : Array Slot) (z : (Unit × vMe)), lv_has ls 2 [(0, .ref x0)] → tX10_advance_L0 x0 f Mi = some z → (∀ ls : Array Slot, lv_has ls 2 [(0, .ref x0)] → vV D p l e rmX10_advance s m args below meth c 0 0 Q z.2 (F0 m 39 ls [])) → vV D p l e rmX10_advance s m args below meth c 0 0 Q Mi (F0 m 0 ls []) := by
    intro x0 f
    induction f with
    | zero =>
      intro  Mi ls z hl h
      exact absurd h (by simp [tX10_advance_L0])
    | succ f ih =>
      intro  Mi ls z hl h KX
      rw [tX10_advance_L0] at h
      have X10_advance_J26_0p : ∀  (Mj : vMe) (ls : Array Slot), lv_has ls 2 [(0, .ref x0)] → tX10_advance_J26_0 (tX10_advance_L0 x0 f) x0 Mj = some z → vV D p l e rmX10_advance s m args below meth c 0 0 Q Mj (F0 m 26 ls []) := by
        intro  Mj ls hl h
        unfold tX10_advance_J26_0 at h
        refine w_aload_n hx hb dX10_advance_26 rfl (lv_at hl 0 rfl) ?_
        refine w_dup hx hb dX10_advance_27 rfl ?_
        obtain ⟨v12, ev12, h⟩ := v_bnd h
        refine v_gI (ci := 11) hx hb hts iwX10 hown hK 7 ev12 rfl (by decide) (Or.inl (hts _ kw1342)) (fun _ h9 => h9) dX10_advance_28 ?_
        refine w_iconst (v := 1) hx hb dX10_advance_31 (by decide) ?_
        refine w_iadd hx hb dX10_advance_32 ?_
        obtain ⟨M13, eM13, h⟩ := v_bnd h
        refine v_putf (ci := 11) hx hb hts iwX10 hown hK tyX10_ok nmX10 7 eM13 rfl (by decide) (Or.inl (hts _ kw1342)) (fun _ h9 => h9) (Or.inl rfl) rfl rfl dX10_advance_33 ?_
        refine w_goto (tgt := 0) hx hb dX10_advance_36 (by decide) ?_
        exact ih M13 ls z (lv_sub hl [0] rfl) h KX
      refine w_aload_n hx hb dX10_advance_0 rfl (lv_at hl 0 rfl) ?_
      refine w_aload_n hx hb dX10_advance_1 rfl (lv_at hl 0 rfl) ?_
      obtain ⟨v9, ev9, h⟩ := v_bnd h
      refine v_gI (ci := 11) hx hb hts iwX10 hown hK 7 ev9 rfl (by decide) (Or.inl (hts _ kw1342)) (fun _ h9 => h9) dX10_advance_2 ?_
      obtain ⟨g8, h⟩ := v_ifs h
      obtain ⟨z10, ez10, h⟩ := v_bnd h
      refine v_call1 (v := .int z10) (M1 := Mi) (mc := 0) (ms := 0) (fun H locs hR hS => va_runV (As := [.int v9]) (rest := []) ⟨hx, hb, hml, hown, hts⟩ (mX10_byteAt l hfl D x0 v9 Mi z10 ez10) (cwV 1 hts (gdV kw1433 kw1435 kw30 kw85 kw1436) rfl rfl rfl (by decide +kernel) ⟨Nat.le_of_ble_eq_true rfl, Nat.le_of_ble_eq_true rfl⟩) (v_preV (ci := 11) hSS hR hS g8 (by decide) rfl [.int v9]) rfl rfl hl.1 rfl (lv_room (Nat.le_of_ble_eq_true rfl)) dX10_advance_5 ⟨Nat.zero_le _, Nat.zero_le _⟩) ?_
      refine w_bipush (v := 32) hx hb dX10_advance_8 (by decide) ?_
      refine w_icmp_eq (tgt := 26) hx hb dX10_advance_10 (by decide) (fun c11 => ?_) (fun c11 => ?_)
      · rw [if_pos c11] at h
        exact X10_advance_J26_0p  Mi ls (lv_sub hl [0] rfl) h
      · rw [if_neg c11] at h
        refine w_aload_n hx hb dX10_advance_13 rfl (lv_at hl 0 rfl) ?_
        refine w_aload_n hx hb dX10_advance_14 rfl (lv_at hl 0 rfl) ?_
        obtain ⟨v14, ev14, h⟩ := v_bnd h
        refine v_gI (ci := 11) hx hb hts iwX10 hown hK 7 ev14 rfl (by decide) (Or.inl (hts _ kw1342)) (fun _ h9 => h9) dX10_advance_15 ?_
        obtain ⟨g8, h⟩ := v_ifs h
        obtain ⟨z15, ez15, h⟩ := v_bnd h
        refine v_call1 (v := .int z15) (M1 := Mi) (mc := 0) (ms := 0) (fun H locs hR hS => va_runV (As := [.int v14]) (rest := []) ⟨hx, hb, hml, hown, hts⟩ (mX10_byteAt l hfl D x0 v14 Mi z15 ez15) (cwV 1 hts (gdV kw1433 kw1435 kw30 kw85 kw1436) rfl rfl rfl (by decide +kernel) ⟨Nat.le_of_ble_eq_true rfl, Nat.le_of_ble_eq_true rfl⟩) (v_preV (ci := 11) hSS hR hS g8 (by decide) rfl [.int v14]) rfl rfl hl.1 rfl (lv_room (Nat.le_of_ble_eq_true rfl)) dX10_advance_18 ⟨Nat.zero_le _, Nat.zero_le _⟩) ?_
        refine w_bipush (v := 10) hx hb dX10_advance_21 (by decide) ?_
        refine w_icmp_ne (tgt := 39) hx hb dX10_advance_23 (by decide) (fun c16 => ?_) (fun c16 => ?_)
        · rw [if_pos c16] at h
          exact X10_advance_J26_0p  Mi ls (lv_sub hl [0] rfl) h
        · rw [if_neg c16] at h
          obtain rfl := Option.some.inj h
          exact KX ls (lv_sub hl [0] rfl)
  have X10_advance_L126p : ∀ (x0 : Nat), ∀ (f : Nat) (Mi : vMe) (ls : Array Slot) (z : (Unit × vMe)), lv_has ls 2 [(0, .ref x0)] → tX10_advance_L126 x0 f Mi = some z → (∀ ls : Array Slot, lv_has ls 2 [(0, .ref x0)] → vV D p l e rmX10_advance s m args below meth c 0 0 Q z.2 (F0 m 200 ls [])) → vV D p l e rmX10_advance s m args below meth c 0 0 Q Mi (F0 m 126 ls []) := by
    intro x0 f
    induction f with
    | zero =>
      intro  Mi ls z hl h
      exact absurd h (by simp [tX10_advance_L126])
    | succ f ih =>
      intro  Mi ls z hl h KX
      rw [tX10_advance_L126] at h
      have X10_advance_J184_126p : ∀ (y0 : Nat) (y1 : Int32) (Mj : vMe) (ls : Array Slot), lv_has ls 2 [(0, .ref x0)] → tX10_advance_J184_126 (tX10_advance_L126 x0 f) x0 y0 y1 Mj = some z → vV D p l e rmX10_advance s m args below meth c 0 0 Q Mj (F0 m 184 ls [.int y1, .ref y0]) := by
        intro y0 y1 Mj ls hl h
        unfold tX10_advance_J184_126 at h
        obtain ⟨M55, eM55, h⟩ := v_bnd h
        refine v_putf (ci := 11) hx hb hts iwX10 hown hK tyX10_ok nmX10 9 eM55 rfl (by decide) (Or.inl (hts _ kw1344)) (fun _ h9 => h9) (Or.inl rfl) rfl rfl dX10_advance_184 ?_
        refine w_aload_n hx hb dX10_advance_187 rfl (lv_at hl 0 rfl) ?_
        refine w_dup hx hb dX10_advance_188 rfl ?_
        obtain ⟨v56, ev56, h⟩ := v_bnd h
        refine v_gI (ci := 11) hx hb hts iwX10 hown hK 7 ev56 rfl (by decide) (Or.inl (hts _ kw1342)) (fun _ h9 => h9) dX10_advance_189 ?_
        refine w_iconst (v := 1) hx hb dX10_advance_192 (by decide) ?_
        refine w_iadd hx hb dX10_advance_193 ?_
        obtain ⟨M57, eM57, h⟩ := v_bnd h
        refine v_putf (ci := 11) hx hb hts iwX10 hown hK tyX10_ok nmX10 7 eM57 rfl (by decide) (Or.inl (hts _ kw1342)) (fun _ h9 => h9) (Or.inl rfl) rfl rfl dX10_advance_194 ?_
        refine w_goto (tgt := 126) hx hb dX10_advance_197 (by decide) ?_
        exact ih M57 ls z (lv_sub hl [0] rfl) h KX
      refine w_aload_n hx hb dX10_advance_126 rfl (lv_at hl 0 rfl) ?_
      refine w_aload_n hx hb dX10_advance_127 rfl (lv_at hl 0 rfl) ?_
      obtain ⟨v47, ev47, h⟩ := v_bnd h
      refine v_gI (ci := 11) hx hb hts iwX10 hown hK 7 ev47 rfl (by decide) (Or.inl (hts _ kw1342)) (fun _ h9 => h9) dX10_advance_128 ?_
      obtain ⟨g8, h⟩ := v_ifs h
      obtain ⟨z48, ez48, h⟩ := v_bnd h
      refine v_call1 (v := .int z48) (M1 := Mi) (mc := 0) (ms := 0) (fun H locs hR hS => va_runV (As := [.int v47]) (rest := []) ⟨hx, hb, hml, hown, hts⟩ (mX10_byteAt l hfl D x0 v47 Mi z48 ez48) (cwV 1 hts (gdV kw1433 kw1435 kw30 kw85 kw1436) rfl rfl rfl (by decide +kernel) ⟨Nat.le_of_ble_eq_true rfl, Nat.le_of_ble_eq_true rfl⟩) (v_preV (ci := 11) hSS hR hS g8 (by decide) rfl [.int v47]) rfl rfl hl.1 rfl (lv_room (Nat.le_of_ble_eq_true rfl)) dX10_advance_131 ⟨Nat.zero_le _, Nat.zero_le _⟩) ?_
      refine w_bipush (v := 48) hx hb dX10_advance_134 (by decide) ?_
      refine w_bipush (v := 57) hx hb dX10_advance_136 (by decide) ?_
      obtain ⟨z49, ez49, h⟩ := v_bnd h
      refine v_call1 (v := .int z49) (M1 := Mi) (mc := 0) (ms := 0) (fun H locs hR hS => va_runS (As := [.int z48, .int 48, .int 57]) (rest := []) ⟨hx, hb, hml, hown, hts⟩ (mX10_within l hfl D z48 48 57 Mi z49 ez49) (va_cwS 3 hts (gdS kw1419 kw1420 kw85 kw1421) rfl rfl rfl (by decide +kernel) ⟨Nat.le_of_ble_eq_true rfl, Nat.le_of_ble_eq_true rfl⟩) (v_preS hSS hR hS [.int z48, .int 48, .int 57]) rfl rfl hl.1 rfl (lv_room (Nat.le_of_ble_eq_true rfl)) dX10_advance_138 ⟨Nat.zero_le _, Nat.zero_le _⟩) ?_
      refine w_if_eq (tgt := 200) hx hb dX10_advance_141 (by decide) (fun c50 => ?_) (fun c50 => ?_)
      · rw [if_pos c50] at h
        obtain rfl := Option.some.inj h
        exact KX ls (lv_sub hl [0] rfl)
      · rw [if_neg c50] at h
        refine w_aload_n hx hb dX10_advance_144 rfl (lv_at hl 0 rfl) ?_
        refine w_aload_n hx hb dX10_advance_145 rfl (lv_at hl 0 rfl) ?_
        obtain ⟨v51, ev51, h⟩ := v_bnd h
        refine v_gI (ci := 11) hx hb hts iwX10 hown hK 7 ev51 rfl (by decide) (Or.inl (hts _ kw1342)) (fun _ h9 => h9) dX10_advance_146 ?_
        refine w_aload_n hx hb dX10_advance_149 rfl (lv_at hl 0 rfl) ?_
        obtain ⟨v52, ev52, h⟩ := v_bnd h
        refine v_gI (ci := 11) hx hb hts iwX10 hown hK 6 ev52 rfl (by decide) (Or.inl (hts _ kw1341)) (fun _ h9 => h9) dX10_advance_150 ?_
        refine w_isub hx hb dX10_advance_153 ?_
        refine w_iconst (v := 3) hx hb dX10_advance_154 (by decide) ?_
        refine w_icmp_ge (tgt := 180) hx hb dX10_advance_155 (by decide) (fun c53 => ?_) (fun c53 => ?_)
        · rw [if_pos c53] at h
          refine w_aload_n hx hb dX10_advance_180 rfl (lv_at hl 0 rfl) ?_
          obtain ⟨v54, ev54, h⟩ := v_bnd h
          refine v_gI (ci := 11) hx hb hts iwX10 hown hK 9 ev54 rfl (by decide) (Or.inl (hts _ kw1344)) (fun _ h9 => h9) dX10_advance_181 ?_
          exact X10_advance_J184_126p x0 v54 Mi ls (lv_sub hl [0] rfl) h
        · rw [if_neg c53] at h
          refine w_bipush (v := 10) hx hb dX10_advance_158 (by decide) ?_
          refine w_aload_n hx hb dX10_advance_160 rfl (lv_at hl 0 rfl) ?_
          obtain ⟨v58, ev58, h⟩ := v_bnd h
          refine v_gI (ci := 11) hx hb hts iwX10 hown hK 9 ev58 rfl (by decide) (Or.inl (hts _ kw1344)) (fun _ h9 => h9) dX10_advance_161 ?_
          refine w_imul hx hb dX10_advance_164 ?_
          refine w_aload_n hx hb dX10_advance_165 rfl (lv_at hl 0 rfl) ?_
          refine w_aload_n hx hb dX10_advance_166 rfl (lv_at hl 0 rfl) ?_
          obtain ⟨v59, ev59, h⟩ := v_bnd h
          refine v_gI (ci := 11) hx hb hts iwX10 hown hK 7 ev59 rfl (by decide) (Or.inl (hts _ kw1342)) (fun _ h9 => h9) dX10_advance_167 ?_
          obtain ⟨g8, h⟩ := v_ifs h
          obtain ⟨z60, ez60, h⟩ := v_bnd h
          refine v_call1 (v := .int z60) (M1 := Mi) (mc := 0) (ms := 0) (fun H locs hR hS => va_runV (As := [.int v59]) (rest := [.int (10 * v58), .ref x0]) ⟨hx, hb, hml, hown, hts⟩ (mX10_byteAt l hfl D x0 v59 Mi z60 ez60) (cwV 1 hts (gdV kw1433 kw1435 kw30 kw85 kw1436) rfl rfl rfl (by decide +kernel) ⟨Nat.le_of_ble_eq_true rfl, Nat.le_of_ble_eq_true rfl⟩) (v_preV (ci := 11) hSS hR hS g8 (by decide) rfl [.int v59]) rfl rfl hl.1 rfl (lv_room (Nat.le_of_ble_eq_true rfl)) dX10_advance_170 ⟨Nat.zero_le _, Nat.zero_le _⟩) ?_
          refine w_iadd hx hb dX10_advance_173 ?_
          refine w_bipush (v := 48) hx hb dX10_advance_174 (by decide) ?_
          refine w_isub hx hb dX10_advance_176 ?_
          refine w_goto (tgt := 184) hx hb dX10_advance_177 (by decide) ?_
          exact X10_advance_J184_126p x0 (((10 * v58) + z60) - 48) Mi ls (lv_sub hl [0] rfl) h
  have X10_advance_J247p : ∀ (y0 : Nat) (y1 : Int32) (Mj : vMe) (ls : Array Slot), lv_has ls 2 [] → tX10_advance_J247 y0 y1 Mj = some z → vV D p l e rmX10_advance s m args below meth c 0 0 Q Mj (F0 m 247 ls [.int y1, .ref y0]) := by
    intro y0 y1 Mj ls hl h
    unfold tX10_advance_J247 at h
    obtain ⟨M32, eM32, h⟩ := v_bnd h
    refine v_putf (ci := 11) hx hb hts iwX10 hown hK tyX10_ok nmX10 8 eM32 rfl (by decide) (Or.inl (hts _ kw1343)) (fun _ h9 => h9) (Or.inl rfl) rfl rfl dX10_advance_247 ?_
    obtain rfl := Option.some.inj h
    rw [hQ]
    exact v_vret hx hb hr hlk dX10_advance_250
  have X10_advance_J219p : ∀ (y0 : Nat) (y1 : Int32) (Mj : vMe) (ls : Array Slot), lv_has ls 2 [] → tX10_advance_J219 y0 y1 Mj = some z → vV D p l e rmX10_advance s m args below meth c 0 0 Q Mj (F0 m 219 ls [.int y1, .ref y0]) := by
    intro y0 y1 Mj ls hl h
    unfold tX10_advance_J219 at h
    obtain ⟨M65, eM65, h⟩ := v_bnd h
    refine v_putf (ci := 11) hx hb hts iwX10 hown hK tyX10_ok nmX10 8 eM65 rfl (by decide) (Or.inl (hts _ kw1343)) (fun _ h9 => h9) (Or.inl rfl) rfl rfl dX10_advance_219 ?_
    refine w_goto (tgt := 250) hx hb dX10_advance_222 (by decide) ?_
    obtain rfl := Option.some.inj h
    rw [hQ]
    exact v_vret hx hb hr hlk dX10_advance_250
  have X10_advance_J109p : ∀ (y0 : Nat) (y1 : Int32) (Mj : vMe) (ls : Array Slot), lv_has ls 2 [] → tX10_advance_J109 y0 y1 Mj = some z → vV D p l e rmX10_advance s m args below meth c 0 0 Q Mj (F0 m 109 ls [.int y1, .ref y0]) := by
    intro y0 y1 Mj ls hl h
    unfold tX10_advance_J109 at h
    obtain ⟨M70, eM70, h⟩ := v_bnd h
    refine v_putf (ci := 11) hx hb hts iwX10 hown hK tyX10_ok nmX10 8 eM70 rfl (by decide) (Or.inl (hts _ kw1343)) (fun _ h9 => h9) (Or.inl rfl) rfl rfl dX10_advance_109 ?_
    refine w_goto (tgt := 250) hx hb dX10_advance_112 (by decide) ?_
    obtain rfl := Option.some.inj h
    rw [hQ]
    exact v_vret hx hb hr hlk dX10_advance_250
  obtain ⟨z17, ez17, h⟩ := v_bnd h
  refine X10_advance_L0p x0 vF  M ls z17 (lv_sub hl [0] rfl) ez17 (fun ls hl => ?_)
  refine w_aload_n hx hb dX10_advance_39 rfl (lv_at hl 0 rfl) ?_
  refine w_aload_n hx hb dX10_advance_40 rfl (lv_at hl 0 rfl) ?_
  obtain ⟨v18, ev18, h⟩ := v_bnd h
  refine v_gI (ci := 11) hx hb hts iwX10 hown hK 7 ev18 rfl (by decide) (Or.inl (hts _ kw1342)) (fun _ h9 => h9) dX10_advance_41 ?_
  obtain ⟨M19, eM19, h⟩ := v_bnd h
  refine v_putf (ci := 11) hx hb hts iwX10 hown hK tyX10_ok nmX10 6 eM19 rfl (by decide) (Or.inl (hts _ kw1341)) (fun _ h9 => h9) (Or.inl rfl) rfl rfl dX10_advance_44 ?_
  refine w_aload_n hx hb dX10_advance_47 rfl (lv_at hl 0 rfl) ?_
  refine w_iconst (v := 0) hx hb dX10_advance_48 (by decide) ?_
  obtain ⟨M20, eM20, h⟩ := v_bnd h
  refine v_putf (ci := 11) hx hb hts iwX10 hown hK tyX10_ok nmX10 9 eM20 rfl (by decide) (Or.inl (hts _ kw1344)) (fun _ h9 => h9) (Or.inl rfl) rfl rfl dX10_advance_49 ?_
  refine w_aload_n hx hb dX10_advance_52 rfl (lv_at hl 0 rfl) ?_
  refine w_aload_n hx hb dX10_advance_53 rfl (lv_at hl 0 rfl) ?_
  obtain ⟨v21, ev21, h⟩ := v_bnd h
  refine v_gI (ci := 11) hx hb hts iwX10 hown hK 7 ev21 rfl (by decide) (Or.inl (hts _ kw1342)) (fun _ h9 => h9) dX10_advance_54 ?_
  obtain ⟨g8, h⟩ := v_ifs h
  obtain ⟨z22, ez22, h⟩ := v_bnd h
  refine v_call1 (v := .int z22) (M1 := M20) (mc := 0) (ms := 0) (fun H locs hR hS => va_runV (As := [.int v21]) (rest := []) ⟨hx, hb, hml, hown, hts⟩ (mX10_byteAt l hfl D x0 v21 M20 z22 ez22) (cwV 1 hts (gdV kw1433 kw1435 kw30 kw85 kw1436) rfl rfl rfl (by decide +kernel) ⟨Nat.le_of_ble_eq_true rfl, Nat.le_of_ble_eq_true rfl⟩) (v_preV (ci := 11) hSS hR hS g8 (by decide) rfl [.int v21]) rfl rfl hl.1 rfl (lv_room (Nat.le_of_ble_eq_true rfl)) dX10_advance_57 ⟨Nat.zero_le _, Nat.zero_le _⟩) ?_
  refine w_istore_n (lv' := [(1, .int z22), (0, .ref x0)]) hx hb dX10_advance_60 rfl hl (by decide) rfl (fun ls hl => ?_)
  have hl : lv_has ls 2 [(0, .ref x0), (1, .int z22)] := lv_sub hl [1, 0] rfl
  refine w_iload_n hx hb dX10_advance_61 rfl (lv_at hl 1 rfl) ?_
  refine w_iconst (v := (-1)) hx hb dX10_advance_62 (by decide) ?_
  refine w_icmp_ne (tgt := 74) hx hb dX10_advance_63 (by decide) (fun c23 => ?_) (fun c23 => ?_)
  · rw [if_pos c23] at h
    refine w_aload_n hx hb dX10_advance_66 rfl (lv_at hl 0 rfl) ?_
    refine w_iconst (v := 0) hx hb dX10_advance_67 (by decide) ?_
    obtain ⟨M24, eM24, h⟩ := v_bnd h
    refine v_putf (ci := 11) hx hb hts iwX10 hown hK tyX10_ok nmX10 8 eM24 rfl (by decide) (Or.inl (hts _ kw1343)) (fun _ h9 => h9) (Or.inl rfl) rfl rfl dX10_advance_68 ?_
    refine w_goto (tgt := 250) hx hb dX10_advance_71 (by decide) ?_
    obtain rfl := Option.some.inj h
    rw [hQ]
    exact v_vret hx hb hr hlk dX10_advance_250
  · rw [if_neg c23] at h
    refine w_iload_n hx hb dX10_advance_74 rfl (lv_at hl 1 rfl) ?_
    refine w_bipush (v := 97) hx hb dX10_advance_75 (by decide) ?_
    refine w_bipush (v := 122) hx hb dX10_advance_77 (by decide) ?_
    obtain ⟨z25, ez25, h⟩ := v_bnd h
    refine v_call1 (v := .int z25) (M1 := M20) (mc := 0) (ms := 0) (fun H locs hR hS => va_runS (As := [.int z22, .int 97, .int 122]) (rest := []) ⟨hx, hb, hml, hown, hts⟩ (mX10_within l hfl D z22 97 122 M20 z25 ez25) (va_cwS 3 hts (gdS kw1419 kw1420 kw85 kw1421) rfl rfl rfl (by decide +kernel) ⟨Nat.le_of_ble_eq_true rfl, Nat.le_of_ble_eq_true rfl⟩) (v_preS hSS hR hS [.int z22, .int 97, .int 122]) rfl rfl hl.1 rfl (lv_room (Nat.le_of_ble_eq_true rfl)) dX10_advance_79 ⟨Nat.zero_le _, Nat.zero_le _⟩) ?_
    refine w_if_eq (tgt := 115) hx hb dX10_advance_82 (by decide) (fun c26 => ?_) (fun c26 => ?_)
    · rw [if_pos c26] at h
      refine w_iload_n hx hb dX10_advance_115 rfl (lv_at hl 1 rfl) ?_
      refine w_bipush (v := 48) hx hb dX10_advance_116 (by decide) ?_
      refine w_bipush (v := 57) hx hb dX10_advance_118 (by decide) ?_
      obtain ⟨z27, ez27, h⟩ := v_bnd h
      refine v_call1 (v := .int z27) (M1 := M20) (mc := 0) (ms := 0) (fun H locs hR hS => va_runS (As := [.int z22, .int 48, .int 57]) (rest := []) ⟨hx, hb, hml, hown, hts⟩ (mX10_within l hfl D z22 48 57 M20 z27 ez27) (va_cwS 3 hts (gdS kw1419 kw1420 kw85 kw1421) rfl rfl rfl (by decide +kernel) ⟨Nat.le_of_ble_eq_true rfl, Nat.le_of_ble_eq_true rfl⟩) (v_preS hSS hR hS [.int z22, .int 48, .int 57]) rfl rfl hl.1 rfl (lv_room (Nat.le_of_ble_eq_true rfl)) dX10_advance_120 ⟨Nat.zero_le _, Nat.zero_le _⟩) ?_
      refine w_if_eq (tgt := 225) hx hb dX10_advance_123 (by decide) (fun c28 => ?_) (fun c28 => ?_)
      · rw [if_pos c28] at h
        refine w_aload_n hx hb dX10_advance_225 rfl (lv_at hl 0 rfl) ?_
        refine w_dup hx hb dX10_advance_226 rfl ?_
        obtain ⟨v29, ev29, h⟩ := v_bnd h
        refine v_gI (ci := 11) hx hb hts iwX10 hown hK 7 ev29 rfl (by decide) (Or.inl (hts _ kw1342)) (fun _ h9 => h9) dX10_advance_227 ?_
        refine w_iconst (v := 1) hx hb dX10_advance_230 (by decide) ?_
        refine w_iadd hx hb dX10_advance_231 ?_
        obtain ⟨M30, eM30, h⟩ := v_bnd h
        refine v_putf (ci := 11) hx hb hts iwX10 hown hK tyX10_ok nmX10 7 eM30 rfl (by decide) (Or.inl (hts _ kw1342)) (fun _ h9 => h9) (Or.inl rfl) rfl rfl dX10_advance_232 ?_
        refine w_aload_n hx hb dX10_advance_235 rfl (lv_at hl 0 rfl) ?_
        refine w_iload_n hx hb dX10_advance_236 rfl (lv_at hl 1 rfl) ?_
        refine w_bipush (v := 59) hx hb dX10_advance_237 (by decide) ?_
        refine w_icmp_ne (tgt := 246) hx hb dX10_advance_239 (by decide) (fun c31 => ?_) (fun c31 => ?_)
        · rw [if_pos c31] at h
          refine w_iconst (v := 3) hx hb dX10_advance_242 (by decide) ?_
          refine w_goto (tgt := 247) hx hb dX10_advance_243 (by decide) ?_
          exact X10_advance_J247p x0 3 M30 ls (lv_sub hl [] rfl) h
        · rw [if_neg c31] at h
          refine w_iconst (v := 4) hx hb dX10_advance_246 (by decide) ?_
          exact X10_advance_J247p x0 4 M30 ls (lv_sub hl [] rfl) h
      · rw [if_neg c28] at h
        obtain ⟨z61, ez61, h⟩ := v_bnd h
        refine X10_advance_L126p x0 vF  M20 ls z61 (lv_sub hl [0] rfl) ez61 (fun ls hl => ?_)
        refine w_aload_n hx hb dX10_advance_200 rfl (lv_at hl 0 rfl) ?_
        refine w_aload_n hx hb dX10_advance_201 rfl (lv_at hl 0 rfl) ?_
        obtain ⟨v62, ev62, h⟩ := v_bnd h
        refine v_gI (ci := 11) hx hb hts iwX10 hown hK 7 ev62 rfl (by decide) (Or.inl (hts _ kw1342)) (fun _ h9 => h9) dX10_advance_202 ?_
        refine w_aload_n hx hb dX10_advance_205 rfl (lv_at hl 0 rfl) ?_
        obtain ⟨v63, ev63, h⟩ := v_bnd h
        refine v_gI (ci := 11) hx hb hts iwX10 hown hK 6 ev63 rfl (by decide) (Or.inl (hts _ kw1341)) (fun _ h9 => h9) dX10_advance_206 ?_
        refine w_isub hx hb dX10_advance_209 ?_
        refine w_iconst (v := 3) hx hb dX10_advance_210 (by decide) ?_
        refine w_icmp_le (tgt := 218) hx hb dX10_advance_211 (by decide) (fun c64 => ?_) (fun c64 => ?_)
        · rw [if_pos c64] at h
          refine w_iconst (v := 2) hx hb dX10_advance_218 (by decide) ?_
          exact X10_advance_J219p x0 2 z61.2 ls (lv_sub hl [] rfl) h
        · rw [if_neg c64] at h
          refine w_iconst (v := 4) hx hb dX10_advance_214 (by decide) ?_
          refine w_goto (tgt := 219) hx hb dX10_advance_215 (by decide) ?_
          exact X10_advance_J219p x0 4 z61.2 ls (lv_sub hl [] rfl) h
    · rw [if_neg c26] at h
      refine w_aload_n hx hb dX10_advance_85 rfl (lv_at hl 0 rfl) ?_
      obtain ⟨g8, h⟩ := v_ifs h
      obtain ⟨z66, ez66, h⟩ := v_bnd h
      refine v_call0 (M1 := z66.2) (mc := 0) (ms := 0) (fun H locs hR hS => va_runV (As := []) (rest := []) ⟨hx, hb, hml, hown, hts⟩ (mX10_takesLetters l hfl D x0 M20 z66 ez66) (cwV 0 hts (gdV kw1437 kw1439 kw31 kw85 kw1440) rfl rfl rfl (by decide +kernel) ⟨Nat.le_of_ble_eq_true rfl, Nat.le_of_ble_eq_true rfl⟩) (v_preV (ci := 11) hSS hR hS g8 (by decide) rfl []) rfl rfl hl.1 rfl (lv_room (Nat.le_of_ble_eq_true rfl)) dX10_advance_86 ⟨Nat.zero_le _, Nat.zero_le _⟩) ?_
      refine w_aload_n hx hb dX10_advance_89 rfl (lv_at hl 0 rfl) ?_
      refine w_aload_n hx hb dX10_advance_90 rfl (lv_at hl 0 rfl) ?_
      obtain ⟨v67, ev67, h⟩ := v_bnd h
      refine v_gI (ci := 11) hx hb hts iwX10 hown hK 7 ev67 rfl (by decide) (Or.inl (hts _ kw1342)) (fun _ h9 => h9) dX10_advance_91 ?_
      refine w_aload_n hx hb dX10_advance_94 rfl (lv_at hl 0 rfl) ?_
      obtain ⟨v68, ev68, h⟩ := v_bnd h
      refine v_gI (ci := 11) hx hb hts iwX10 hown hK 6 ev68 rfl (by decide) (Or.inl (hts _ kw1341)) (fun _ h9 => h9) dX10_advance_95 ?_
      refine w_isub hx hb dX10_advance_98 ?_
      refine w_bipush (v := 8) hx hb dX10_advance_99 (by decide) ?_
      refine w_icmp_le (tgt := 108) hx hb dX10_advance_101 (by decide) (fun c69 => ?_) (fun c69 => ?_)
      · rw [if_pos c69] at h
        refine w_iconst (v := 1) hx hb dX10_advance_108 (by decide) ?_
        exact X10_advance_J109p x0 1 z66.2 ls (lv_sub hl [] rfl) h
      · rw [if_neg c69] at h
        refine w_iconst (v := 4) hx hb dX10_advance_104 (by decide) ?_
        refine w_goto (tgt := 109) hx hb dX10_advance_105 (by decide) ?_
        exact X10_advance_J109p x0 4 z66.2 ls (lv_sub hl [] rfl) h

def tJ0_coder_7d493 (x0 : Nat) (M : vMe) : Option Int32 :=
  if (1 : Int32) = 0 then
  (some 1)
else
  ((gI M x0 1 1).bind fun v2 =>
  if fits .byte (.int v2) = true then some v2 else none)
def rmJ0_coder_7d493 : Room := { frames := 1, cells := 0, slots := 0, locals := 0 }
set_option maxHeartbeats 4000000 in
set_option maxRecDepth 100000 in
theorem mJ0_coder_7d493 (l : Launch) (hfl : l.stackTraces = false) (D : vD) (x0 : Nat) (M : vMe) (z : Int32) (h : tJ0_coder_7d493 x0 M = some z) : Met l yJ0_coder_7d493 (Cond.code yJ0_coder_7d493 cJ0_coder_7d493 1 (some .byte) :: TB) rmJ0_coder_7d493 (va_Pc [.ref x0] (vPre D M)) (qW D (some (.int z)) M) 0 0 (vA D) := by
  refine v_ofW (cc := cJ0_coder_7d493) (maxL := 1) (ret := (some .byte)) (by decide) (Nat.le_of_ble_eq_true rfl) ?_
  intro p e s m args below meth c Q hx hb hr hml hown hts hlk hnm hSS hR0 hQ ls hl
  have hK := hSS.1
  have hl : lv_has ls 1 [(0, .ref x0)] := hl
  unfold tJ0_coder_7d493 at h
  refine w_gets hx hb hSS.2.2.2.2.1 hown (hts _ kw393) (fun _ h9 => h9) dJ0_coder_7d493_0 ?_
  refine w_if_eq (tgt := 13) hx hb dJ0_coder_7d493_3 (by decide) (fun c1 => ?_) (fun c1 => ?_)
  · rw [if_pos c1] at h
    refine w_iconst (v := 1) hx hb dJ0_coder_7d493_13 (by decide) ?_
    obtain rfl := Option.some.inj h
    rw [hQ]
    exact v_xret (x := 1) hx hb hr hlk rfl dJ0_coder_7d493_14
  · rw [if_neg c1] at h
    refine w_aload_n hx hb dJ0_coder_7d493_6 rfl (lv_at hl 0 rfl) ?_
    obtain ⟨v2, ev2, h⟩ := v_bnd h
    refine v_gI (ci := 0) hx hb hts iwJ0 hown hK 1 ev2 rfl (by decide) (Or.inl (hts _ kw872)) (fun _ h9 => h9) dJ0_coder_7d493_7 ?_
    refine w_goto (tgt := 14) hx hb dJ0_coder_7d493_10 (by decide) ?_
    obtain ⟨g6, h⟩ := v_ifs h
    obtain rfl := Option.some.inj h
    rw [hQ]
    exact v_xret hx hb hr hlk (v_narB g6) dJ0_coder_7d493_14

def tJ0_length_8abf5 (x0 : Nat) (M : vMe) : Option Int32 :=
  (gA M x0 1 0).bind fun a1 =>
  (aN M a1 102).bind fun v2 =>
  if (M.1 x0).1 = 1 then
  ((tJ0_coder_7d493 x0 M).bind fun z3 =>
  some (v2 >>> (z3 &&& 31)))
else none
def rmJ0_length_8abf5 : Room := { frames := 2, cells := 0, slots := 0, locals := 20 }
set_option maxHeartbeats 4000000 in
set_option maxRecDepth 100000 in
theorem mJ0_length_8abf5 (l : Launch) (hfl : l.stackTraces = false) (D : vD) (x0 : Nat) (M : vMe) (z : Int32) (h : tJ0_length_8abf5 x0 M = some z) : Met l yJ0_length_8abf5 (Cond.code yJ0_length_8abf5 cJ0_length_8abf5 1 (some .int) :: TB) rmJ0_length_8abf5 (va_Pc [.ref x0] (vPre D M)) (qW D (some (.int z)) M) 0 0 (vA D) := by
  refine v_ofW (cc := cJ0_length_8abf5) (maxL := 1) (ret := (some .int)) (by decide) (Nat.le_of_ble_eq_true rfl) ?_
  intro p e s m args below meth c Q hx hb hr hml hown hts hlk hnm hSS hR0 hQ ls hl
  have hK := hSS.1
  have hl : lv_has ls 1 [(0, .ref x0)] := hl
  unfold tJ0_length_8abf5 at h
  refine w_aload_n hx hb dJ0_length_8abf5_0 rfl (lv_at hl 0 rfl) ?_
  obtain ⟨a1, ea1, h⟩ := v_bnd h
  refine v_gA (ci := 0) hx hb hts iwJ0 hown hK 0 ea1 rfl (by decide) (Or.inl (hts _ kw871)) (fun _ h9 => h9) dJ0_length_8abf5_1 ?_
  obtain ⟨v2, ev2, h⟩ := v_bnd h
  refine v_alen hx hb hK ev2 (by decide) dJ0_length_8abf5_4 ?_
  refine w_aload_n hx hb dJ0_length_8abf5_5 rfl (lv_at hl 0 rfl) ?_
  obtain ⟨g8, h⟩ := v_ifs h
  obtain ⟨z3, ez3, h⟩ := v_bnd h
  refine v_call1 (v := .int z3) (M1 := M) (mc := 0) (ms := 0) (fun H locs hR hS => va_runV (As := []) (rest := [.int v2]) ⟨hx, hb, hml, hown, hts⟩ (mJ0_coder_7d493 l hfl D x0 M z3 ez3) (cwV 0 hts (gdV kw389 kw390 kw391 kw93 kw392) rfl rfl rfl (by decide +kernel) ⟨Nat.le_of_ble_eq_true rfl, Nat.le_of_ble_eq_true rfl⟩) (v_preV (ci := 0) hSS hR hS g8 (by decide) rfl []) rfl rfl hl.1 rfl (lv_room (Nat.le_of_ble_eq_true rfl)) dJ0_length_8abf5_6 ⟨Nat.zero_le _, Nat.zero_le _⟩) ?_
  refine w_ishr hx hb dJ0_length_8abf5_9 ?_
  obtain rfl := Option.some.inj h
  rw [hQ]
  exact v_iret hx hb hr hlk dJ0_length_8abf5_10

def tJ0_isLatin1_aae02 (x0 : Nat) (M : vMe) : Option Int32 :=
  if (1 : Int32) = 0 then
  (some 0)
else
  ((gI M x0 1 1).bind fun v2 =>
  if v2 = 0 then
  (some 1)
else
  (some 0))
def rmJ0_isLatin1_aae02 : Room := { frames := 1, cells := 0, slots := 0, locals := 0 }
set_option maxHeartbeats 4000000 in
set_option maxRecDepth 100000 in
theorem mJ0_isLatin1_aae02 (l : Launch) (hfl : l.stackTraces = false) (D : vD) (x0 : Nat) (M : vMe) (z : Int32) (h : tJ0_isLatin1_aae02 x0 M = some z) : Met l yJ0_isLatin1_aae02 (Cond.code yJ0_isLatin1_aae02 cJ0_isLatin1_aae02 1 (some .boolean) :: TB) rmJ0_isLatin1_aae02 (va_Pc [.ref x0] (vPre D M)) (qW D (some (.int z)) M) 0 0 (vA D) := by
  refine v_ofW (cc := cJ0_isLatin1_aae02) (maxL := 1) (ret := (some .boolean)) (by decide) (Nat.le_of_ble_eq_true rfl) ?_
  intro p e s m args below meth c Q hx hb hr hml hown hts hlk hnm hSS hR0 hQ ls hl
  have hK := hSS.1
  have hl : lv_has ls 1 [(0, .ref x0)] := hl
  unfold tJ0_isLatin1_aae02 at h
  refine w_gets hx hb hSS.2.2.2.2.1 hown (hts _ kw393) (fun _ h9 => h9) dJ0_isLatin1_aae02_0 ?_
  refine w_if_eq (tgt := 17) hx hb dJ0_isLatin1_aae02_3 (by decide) (fun c1 => ?_) (fun c1 => ?_)
  · rw [if_pos c1] at h
    refine w_iconst (v := 0) hx hb dJ0_isLatin1_aae02_17 (by decide) ?_
    obtain rfl := Option.some.inj h
    rw [hQ]
    exact v_zret (x := 0) hx hb hr hlk rfl dJ0_isLatin1_aae02_18
  · rw [if_neg c1] at h
    refine w_aload_n hx hb dJ0_isLatin1_aae02_6 rfl (lv_at hl 0 rfl) ?_
    obtain ⟨v2, ev2, h⟩ := v_bnd h
    refine v_gI (ci := 0) hx hb hts iwJ0 hown hK 1 ev2 rfl (by decide) (Or.inl (hts _ kw872)) (fun _ h9 => h9) dJ0_isLatin1_aae02_7 ?_
    refine w_if_ne (tgt := 17) hx hb dJ0_isLatin1_aae02_10 (by decide) (fun c3 => ?_) (fun c3 => ?_)
    · rw [if_pos c3] at h
      refine w_iconst (v := 1) hx hb dJ0_isLatin1_aae02_13 (by decide) ?_
      refine w_goto (tgt := 18) hx hb dJ0_isLatin1_aae02_14 (by decide) ?_
      obtain rfl := Option.some.inj h
      rw [hQ]
      exact v_zret (x := 1) hx hb hr hlk rfl dJ0_isLatin1_aae02_18
    · rw [if_neg c3] at h
      refine w_iconst (v := 0) hx hb dJ0_isLatin1_aae02_17 (by decide) ?_
      obtain rfl := Option.some.inj h
      rw [hQ]
      exact v_zret (x := 0) hx hb hr hlk rfl dJ0_isLatin1_aae02_18

def tJ3_checkIndex_8e157_J9 (x0 : Int32) (x1 : Int32) (x2 : Nat) (Mj : vMe) : Option (Int32 × vMe) :=
  none
def tJ3_checkIndex_8e157 (x0 : Int32) (x1 : Int32) (x2 : Nat) (M : vMe) : Option (Int32 × vMe) :=
  if x0 < 0 then
  (tJ3_checkIndex_8e157_J9 x0 x1 x2 M)
else
  (if x0 < x1 then
  (some (x0, M))
else
  (tJ3_checkIndex_8e157_J9 x0 x1 x2 M))
def rmJ3_checkIndex_8e157 : Room := { frames := 1, cells := 0, slots := 0, locals := 0 }
set_option maxHeartbeats 4000000 in
set_option maxRecDepth 100000 in
theorem mJ3_checkIndex_8e157 (l : Launch) (hfl : l.stackTraces = false) (D : vD) (x0 : Int32) (x1 : Int32) (x2 : Nat) (M : vMe) (z : (Int32 × vMe)) (h : tJ3_checkIndex_8e157 x0 x1 x2 M = some z) : Met l yJ3_checkIndex_8e157 (Cond.code yJ3_checkIndex_8e157 cJ3_checkIndex_8e157 3 (some .int) :: TB) rmJ3_checkIndex_8e157 (va_Pc [.int x0, .int x1, .ref x2] (vPre D M)) (qW D (some (.int z.1)) z.2) 0 0 (vA D) := by
  refine v_ofW (cc := cJ3_checkIndex_8e157) (maxL := 3) (ret := (some .int)) (by decide) (Nat.le_of_ble_eq_true rfl) ?_
  intro p e s m args below meth c Q hx hb hr hml hown hts hlk hnm hSS hR0 hQ ls hl
  have hK := hSS.1
  have hl : lv_has ls 3 [(0, .int x0), (1, .int x1), (2, .ref x2)] := hl
  unfold tJ3_checkIndex_8e157 at h
  have J3_checkIndex_8e157_J9p : ∀ (x0 : Int32) (x1 : Int32) (x2 : Nat) (Mj : vMe) (ls : Array Slot), lv_has ls 3 [(0, .int x0), (1, .int x1), (2, .ref x2)] → tJ3_checkIndex_8e157_J9 x0 x1 x2 Mj = some z → vV D p l e rmJ3_checkIndex_8e157 s m args below meth c 0 0 Q Mj (F0 m 9 ls []) := by
    intro x0 x1 x2 Mj ls hl h
    unfold tJ3_checkIndex_8e157_J9 at h
    refine w_aload_n hx hb dJ3_checkIndex_8e157_9 rfl (lv_at hl 2 rfl) ?_
    refine w_iload_n hx hb dJ3_checkIndex_8e157_10 rfl (lv_at hl 0 rfl) ?_
    refine w_iload_n hx hb dJ3_checkIndex_8e157_11 rfl (lv_at hl 1 rfl) ?_
    exact nomatch h
  refine w_iload_n hx hb dJ3_checkIndex_8e157_0 rfl (lv_at hl 0 rfl) ?_
  refine w_if_lt (tgt := 9) hx hb dJ3_checkIndex_8e157_1 (by decide) (fun c1 => ?_) (fun c1 => ?_)
  · rw [if_pos c1] at h
    exact J3_checkIndex_8e157_J9p x0 x1 x2 M ls (lv_sub hl [0, 1, 2] rfl) h
  · rw [if_neg c1] at h
    refine w_iload_n hx hb dJ3_checkIndex_8e157_4 rfl (lv_at hl 0 rfl) ?_
    refine w_iload_n hx hb dJ3_checkIndex_8e157_5 rfl (lv_at hl 1 rfl) ?_
    refine w_icmp_lt (tgt := 16) hx hb dJ3_checkIndex_8e157_6 (by decide) (fun c2 => ?_) (fun c2 => ?_)
    · rw [if_pos c2] at h
      refine w_iload_n hx hb dJ3_checkIndex_8e157_16 rfl (lv_at hl 0 rfl) ?_
      obtain rfl := Option.some.inj h
      rw [hQ]
      exact v_iret hx hb hr hlk dJ3_checkIndex_8e157_17
    · rw [if_neg c2] at h
      exact J3_checkIndex_8e157_J9p x0 x1 x2 M ls (lv_sub hl [0, 1, 2] rfl) h
set_option maxHeartbeats 4000000 in
set_option maxRecDepth 100000 in
theorem mJ3_checkIndexN (l : Launch) (hfl : l.stackTraces = false) (D : vD) (x0 : Int32) (x1 : Int32) (x2 : Nat) (M : vMe) (z : (Int32 × vMe)) (h : tJ3_checkIndex_8e157 x0 x1 x2 M = some z) : Met l yJ3_checkIndex_8e157 (Cond.code yJ3_checkIndex_8e157 cJ3_checkIndex_8e157 3 (some .int) :: TB) rmJ3_checkIndex_8e157 (va_Pc [.int x0, .int x1, .null] (vPre D M)) (qW D (some (.int z.1)) z.2) 0 0 (vA D) := by
  refine v_ofW (cc := cJ3_checkIndex_8e157) (maxL := 3) (ret := (some .int)) (by decide) (Nat.le_of_ble_eq_true rfl) ?_
  intro p e s m args below meth c Q hx hb hr hml hown hts hlk hnm hSS hR0 hQ ls hl
  have hK := hSS.1
  have hl : lv_has ls 3 [(0, .int x0), (1, .int x1), (2, .null)] := hl
  unfold tJ3_checkIndex_8e157 at h
  have J3_checkIndex_8e157_J9p : ∀ (x0 : Int32) (x1 : Int32) (x2 : Nat) (Mj : vMe) (ls : Array Slot), lv_has ls 3 [(0, .int x0), (1, .int x1), (2, .null)] → tJ3_checkIndex_8e157_J9 x0 x1 x2 Mj = some z → vV D p l e rmJ3_checkIndex_8e157 s m args below meth c 0 0 Q Mj (F0 m 9 ls []) := by
    intro x0 x1 x2 Mj ls hl h
    unfold tJ3_checkIndex_8e157_J9 at h
    exact nomatch h
  refine w_iload_n hx hb dJ3_checkIndex_8e157_0 rfl (lv_at hl 0 rfl) ?_
  refine w_if_lt (tgt := 9) hx hb dJ3_checkIndex_8e157_1 (by decide) (fun c1 => ?_) (fun c1 => ?_)
  · rw [if_pos c1] at h
    exact J3_checkIndex_8e157_J9p x0 x1 x2 M ls (lv_sub hl [0, 1, 2] rfl) h
  · rw [if_neg c1] at h
    refine w_iload_n hx hb dJ3_checkIndex_8e157_4 rfl (lv_at hl 0 rfl) ?_
    refine w_iload_n hx hb dJ3_checkIndex_8e157_5 rfl (lv_at hl 1 rfl) ?_
    refine w_icmp_lt (tgt := 16) hx hb dJ3_checkIndex_8e157_6 (by decide) (fun c2 => ?_) (fun c2 => ?_)
    · rw [if_pos c2] at h
      refine w_iload_n hx hb dJ3_checkIndex_8e157_16 rfl (lv_at hl 0 rfl) ?_
      obtain rfl := Option.some.inj h
      rw [hQ]
      exact v_iret hx hb hr hlk dJ3_checkIndex_8e157_17
    · rw [if_neg c2] at h
      exact J3_checkIndex_8e157_J9p x0 x1 x2 M ls (lv_sub hl [0, 1, 2] rfl) h
theorem ci_any (x0 x1 : Int32) (a b : Nat) (M : vMe) : tJ3_checkIndex_8e157 x0 x1 a M = tJ3_checkIndex_8e157 x0 x1 b M := rfl

def tJ0_checkIndex_df160 (G : Nat → Nat) (x0 : Int32) (x1 : Int32) (M : vMe) : Option (Unit × vMe) :=
  (tJ3_checkIndex_8e157 x0 x1 (G 200) M).bind fun z1 =>
  some ((), z1.2)
def rmJ0_checkIndex_df160 : Room := { frames := 2, cells := 0, slots := 0, locals := 22 }
set_option maxHeartbeats 4000000 in
set_option maxRecDepth 100000 in
theorem mJ0_checkIndex_df160 (l : Launch) (hfl : l.stackTraces = false) (D : vD) (x0 : Int32) (x1 : Int32) (M : vMe) (z : (Unit × vMe)) (h : tJ0_checkIndex_df160 D.2.2.2.2 x0 x1 M = some z) : Met l yJ0_checkIndex_df160 (Cond.code yJ0_checkIndex_df160 cJ0_checkIndex_df160 2 none :: TB) rmJ0_checkIndex_df160 (va_Pc [.int x0, .int x1] (vPre D M)) (qW D none z.2) 0 0 (vA D) := by
  refine v_ofW (cc := cJ0_checkIndex_df160) (maxL := 2) (ret := none) (by decide) (Nat.le_of_ble_eq_true rfl) ?_
  intro p e s m args below meth c Q hx hb hr hml hown hts hlk hnm hSS hR0 hQ ls hl
  have hK := hSS.1
  have hl : lv_has ls 2 [(0, .int x0), (1, .int x1)] := hl
  unfold tJ0_checkIndex_df160 at h
  refine w_iload_n hx hb dJ0_checkIndex_df160_0 rfl (lv_at hl 0 rfl) ?_
  refine w_iload_n hx hb dJ0_checkIndex_df160_1 rfl (lv_at hl 1 rfl) ?_
  obtain ⟨z1, ez1, h⟩ := v_bnd h
  rcases hSS.2.2.2.2.2.2.2.1 with hZ | ⟨q9, hZ⟩
  · refine w_gets hx hb hZ hown (hts _ kw409) (fun _ h9 => h9) dJ0_checkIndex_df160_2 ?_
    refine v_call1 (v := .int z1.1) (M1 := z1.2) (mc := 0) (ms := 0) (fun H locs hR hS => va_runS (As := [.int x0, .int x1, .null]) (rest := []) ⟨hx, hb, hml, hown, hts⟩ (mJ3_checkIndexN l hfl D x0 x1 (D.2.2.2.2 200) M z1 ez1) (va_cwS 3 hts (gdS kw411 kw412 kw95 kw413) rfl rfl rfl (by decide +kernel) ⟨Nat.le_of_ble_eq_true rfl, Nat.le_of_ble_eq_true rfl⟩) (v_preS hSS hR hS [.int x0, .int x1, .null]) rfl rfl hl.1 rfl (lv_room (Nat.le_of_ble_eq_true rfl)) dJ0_checkIndex_df160_5 ⟨Nat.zero_le _, Nat.zero_le _⟩) ?_
    refine w_pop hx hb dJ0_checkIndex_df160_8 rfl ?_
    obtain rfl := Option.some.inj h
    rw [hQ]
    exact v_vret hx hb hr hlk dJ0_checkIndex_df160_9
  · refine w_gets hx hb hZ hown (hts _ kw409) (fun _ h9 => h9) dJ0_checkIndex_df160_2 ?_
    refine v_call1 (v := .int z1.1) (M1 := z1.2) (mc := 0) (ms := 0) (fun H locs hR hS => va_runS (As := [.int x0, .int x1, .ref q9]) (rest := []) ⟨hx, hb, hml, hown, hts⟩ (mJ3_checkIndex_8e157 l hfl D x0 x1 q9 M z1 ((ci_any x0 x1 q9 (D.2.2.2.2 200) M).trans ez1)) (va_cwS 3 hts (gdS kw411 kw412 kw95 kw413) rfl rfl rfl (by decide +kernel) ⟨Nat.le_of_ble_eq_true rfl, Nat.le_of_ble_eq_true rfl⟩) (v_preS hSS hR hS [.int x0, .int x1, .ref q9]) rfl rfl hl.1 rfl (lv_room (Nat.le_of_ble_eq_true rfl)) dJ0_checkIndex_df160_5 ⟨Nat.zero_le _, Nat.zero_le _⟩) ?_
    refine w_pop hx hb dJ0_checkIndex_df160_8 rfl ?_
    obtain rfl := Option.some.inj h
    rw [hQ]
    exact v_vret hx hb hr hlk dJ0_checkIndex_df160_9

def tJ1_charAt_3b067 (G : Nat → Nat) (x0 : Nat) (x1 : Int32) (M : vMe) : Option (Int32 × vMe) :=
  (aN M x0 102).bind fun v1 =>
  (tJ0_checkIndex_df160 G x1 v1 M).bind fun z2 =>
  (aI z2.2 x0 102 x1).bind fun v3 =>
  if fits .char (.int (((v3 &&& 255).toUInt32 % 65536).toInt32)) = true then some (((v3 &&& 255).toUInt32 % 65536).toInt32, z2.2) else none
def rmJ1_charAt_3b067 : Room := { frames := 3, cells := 0, slots := 0, locals := 43 }
set_option maxHeartbeats 4000000 in
set_option maxRecDepth 100000 in
theorem mJ1_charAt_3b067 (l : Launch) (hfl : l.stackTraces = false) (D : vD) (x0 : Nat) (x1 : Int32) (M : vMe) (z : (Int32 × vMe)) (h : tJ1_charAt_3b067 D.2.2.2.2 x0 x1 M = some z) : Met l yJ1_charAt_3b067 (Cond.code yJ1_charAt_3b067 cJ1_charAt_3b067 2 (some .char) :: TB) rmJ1_charAt_3b067 (va_Pc [.ref x0, .int x1] (vPre D M)) (qW D (some (.int z.1)) z.2) 0 0 (vA D) := by
  refine v_ofW (cc := cJ1_charAt_3b067) (maxL := 2) (ret := (some .char)) (by decide) (Nat.le_of_ble_eq_true rfl) ?_
  intro p e s m args below meth c Q hx hb hr hml hown hts hlk hnm hSS hR0 hQ ls hl
  have hK := hSS.1
  have hl : lv_has ls 2 [(0, .ref x0), (1, .int x1)] := hl
  unfold tJ1_charAt_3b067 at h
  refine w_iload_n hx hb dJ1_charAt_3b067_0 rfl (lv_at hl 1 rfl) ?_
  refine w_aload_n hx hb dJ1_charAt_3b067_1 rfl (lv_at hl 0 rfl) ?_
  obtain ⟨v1, ev1, h⟩ := v_bnd h
  refine v_alen hx hb hK ev1 (by decide) dJ1_charAt_3b067_2 ?_
  obtain ⟨z2, ez2, h⟩ := v_bnd h
  refine v_call0 (M1 := z2.2) (mc := 0) (ms := 0) (fun H locs hR hS => va_runS (As := [.int x1, .int v1]) (rest := []) ⟨hx, hb, hml, hown, hts⟩ (mJ0_checkIndex_df160 l hfl D x1 v1 M z2 ez2) (va_cwS 2 hts (gdS kw406 kw407 kw93 kw408) rfl rfl rfl (by decide +kernel) ⟨Nat.le_of_ble_eq_true rfl, Nat.le_of_ble_eq_true rfl⟩) (v_preS hSS hR hS [.int x1, .int v1]) rfl rfl hl.1 rfl (lv_room (Nat.le_of_ble_eq_true rfl)) dJ1_charAt_3b067_3 ⟨Nat.zero_le _, Nat.zero_le _⟩) ?_
  refine w_aload_n hx hb dJ1_charAt_3b067_6 rfl (lv_at hl 0 rfl) ?_
  refine w_iload_n hx hb dJ1_charAt_3b067_7 rfl (lv_at hl 1 rfl) ?_
  obtain ⟨v3, ev3, h⟩ := v_bnd h
  refine v_bald hx hb hK ev3 dJ1_charAt_3b067_8 ?_
  refine w_sipush (v := 255) hx hb dJ1_charAt_3b067_9 (by decide) ?_
  refine w_iand hx hb dJ1_charAt_3b067_12 ?_
  refine w_i2c hx hb dJ1_charAt_3b067_13 ?_
  obtain ⟨g6, h⟩ := v_ifs h
  obtain rfl := Option.some.inj h
  rw [hQ]
  exact v_xret hx hb hr hlk (v_narC g6) dJ1_charAt_3b067_14

def tJ0_charAt_5068e (G : Nat → Nat) (x0 : Nat) (x1 : Int32) (M : vMe) : Option (Int32 × vMe) :=
  if (M.1 x0).1 = 1 then
  ((tJ0_isLatin1_aae02 x0 M).bind fun z1 =>
  if z1 = 0 then
  ((gA M x0 1 0).bind fun a3 =>
  none)
else
  ((gA M x0 1 0).bind fun a4 =>
  (tJ1_charAt_3b067 G a4 x1 M).bind fun z5 =>
  if fits .char (.int z5.1) = true then some (z5.1, z5.2) else none))
else none
def rmJ0_charAt_5068e : Room := { frames := 4, cells := 0, slots := 0, locals := 64 }
set_option maxHeartbeats 4000000 in
set_option maxRecDepth 100000 in
theorem mJ0_charAt_5068e (l : Launch) (hfl : l.stackTraces = false) (D : vD) (x0 : Nat) (x1 : Int32) (M : vMe) (z : (Int32 × vMe)) (h : tJ0_charAt_5068e D.2.2.2.2 x0 x1 M = some z) : Met l yJ0_charAt_5068e (Cond.code yJ0_charAt_5068e cJ0_charAt_5068e 2 (some .char) :: TB) rmJ0_charAt_5068e (va_Pc [.ref x0, .int x1] (vPre D M)) (qW D (some (.int z.1)) z.2) 0 0 (vA D) := by
  refine v_ofW (cc := cJ0_charAt_5068e) (maxL := 2) (ret := (some .char)) (by decide) (Nat.le_of_ble_eq_true rfl) ?_
  intro p e s m args below meth c Q hx hb hr hml hown hts hlk hnm hSS hR0 hQ ls hl
  have hK := hSS.1
  have hl : lv_has ls 2 [(0, .ref x0), (1, .int x1)] := hl
  unfold tJ0_charAt_5068e at h
  refine w_aload_n hx hb dJ0_charAt_5068e_0 rfl (lv_at hl 0 rfl) ?_
  obtain ⟨g8, h⟩ := v_ifs h
  obtain ⟨z1, ez1, h⟩ := v_bnd h
  refine v_call1 (v := .int z1) (M1 := M) (mc := 0) (ms := 0) (fun H locs hR hS => va_runV (As := []) (rest := []) ⟨hx, hb, hml, hown, hts⟩ (mJ0_isLatin1_aae02 l hfl D x0 M z1 ez1) (cwV 0 hts (gdV kw399 kw400 kw401 kw93 kw402) rfl rfl rfl (by decide +kernel) ⟨Nat.le_of_ble_eq_true rfl, Nat.le_of_ble_eq_true rfl⟩) (v_preV (ci := 0) hSS hR hS g8 (by decide) rfl []) rfl rfl hl.1 rfl (lv_room (Nat.le_of_ble_eq_true rfl)) dJ0_charAt_5068e_1 ⟨Nat.zero_le _, Nat.zero_le _⟩) ?_
  refine w_if_eq (tgt := 16) hx hb dJ0_charAt_5068e_4 (by decide) (fun c2 => ?_) (fun c2 => ?_)
  · rw [if_pos c2] at h
    refine w_aload_n hx hb dJ0_charAt_5068e_16 rfl (lv_at hl 0 rfl) ?_
    obtain ⟨a3, ea3, h⟩ := v_bnd h
    refine v_gA (ci := 0) hx hb hts iwJ0 hown hK 0 ea3 rfl (by decide) (Or.inl (hts _ kw871)) (fun _ h9 => h9) dJ0_charAt_5068e_17 ?_
    refine w_iload_n hx hb dJ0_charAt_5068e_20 rfl (lv_at hl 1 rfl) ?_
    exact nomatch h
  · rw [if_neg c2] at h
    refine w_aload_n hx hb dJ0_charAt_5068e_7 rfl (lv_at hl 0 rfl) ?_
    obtain ⟨a4, ea4, h⟩ := v_bnd h
    refine v_gA (ci := 0) hx hb hts iwJ0 hown hK 0 ea4 rfl (by decide) (Or.inl (hts _ kw871)) (fun _ h9 => h9) dJ0_charAt_5068e_8 ?_
    refine w_iload_n hx hb dJ0_charAt_5068e_11 rfl (lv_at hl 1 rfl) ?_
    obtain ⟨z5, ez5, h⟩ := v_bnd h
    refine v_call1 (v := .int z5.1) (M1 := z5.2) (mc := 0) (ms := 0) (fun H locs hR hS => va_runS (As := [.ref a4, .int x1]) (rest := []) ⟨hx, hb, hml, hown, hts⟩ (mJ1_charAt_3b067 l hfl D a4 x1 M z5 ez5) (va_cwS 2 hts (gdS kw403 kw404 kw94 kw405) rfl rfl rfl (by decide +kernel) ⟨Nat.le_of_ble_eq_true rfl, Nat.le_of_ble_eq_true rfl⟩) (v_preS hSS hR hS [.ref a4, .int x1]) rfl rfl hl.1 rfl (lv_room (Nat.le_of_ble_eq_true rfl)) dJ0_charAt_5068e_12 ⟨Nat.zero_le _, Nat.zero_le _⟩) ?_
    obtain ⟨g6, h⟩ := v_ifs h
    obtain rfl := Option.some.inj h
    rw [hQ]
    exact v_xret hx hb hr hlk (v_narC g6) dJ0_charAt_5068e_15

def tX10_isWord_J68_32 (rec : Int32 → Int32 → vMe → Option (Int32 × vMe)) (x0 : Nat) (x1 : Nat) (x3 : Int32) (y0 : Int32) (Mj : vMe) : Option (Int32 × vMe) :=
  rec y0 (x3 + 1) Mj
def tX10_isWord_L32 (G : Nat → Nat) (x0 : Nat) (x1 : Nat) : Nat → Int32 → Int32 → vMe → Option (Int32 × vMe)
  | 0, _, _, _ => none
  | f + 1, x2, x3, Mi =>
  if (Mi.1 x1).1 = 1 then
  ((tJ0_length_8abf5 x1 Mi).bind fun z7 =>
  if z7 ≤ x3 then
  (some (x2, Mi))
else
  (if x2 = 0 then
  (some (x2, Mi))
else
  ((gA Mi x0 12 3).bind fun a10 =>
  (gI Mi x0 12 6).bind fun v11 =>
  (aI Mi a10 102 (v11 + x3)).bind fun v12 =>
  if (Mi.1 x1).1 = 1 then
  ((tJ0_charAt_5068e G x1 x3 Mi).bind fun z13 =>
  if v12 = z13.1 then
  (tX10_isWord_J68_32 (tX10_isWord_L32 G x0 x1 f) x0 x1 x3 1 z13.2)
else
  (tX10_isWord_J68_32 (tX10_isWord_L32 G x0 x1 f) x0 x1 x3 0 z13.2))
else none)))
else none
def tX10_isWord_J29 (G : Nat → Nat) (x0 : Nat) (x1 : Nat) (y0 : Int32) (Mj : vMe) : Option (Int32 × vMe) :=
  (tX10_isWord_L32 G x0 x1 vF y0 0 Mj).bind fun z15 =>
  if fits .boolean (.int z15.1) = true then some (z15.1, z15.2) else none
def tX10_isWord_J28 (G : Nat → Nat) (x0 : Nat) (x1 : Nat) (Mj : vMe) : Option (Int32 × vMe) :=
  tX10_isWord_J29 G x0 x1 0 Mj
def tX10_isWord (G : Nat → Nat) (x0 : Nat) (x1 : Nat) (M : vMe) : Option (Int32 × vMe) :=
  (gI M x0 12 8).bind fun v1 =>
  if v1 = (1 : Int32) then
  ((gI M x0 12 7).bind fun v3 =>
  (gI M x0 12 6).bind fun v4 =>
  if (M.1 x1).1 = 1 then
  ((tJ0_length_8abf5 x1 M).bind fun z5 =>
  if (v3 - v4) = z5 then
  (tX10_isWord_J29 G x0 x1 1 M)
else
  (tX10_isWord_J28 G x0 x1 M))
else none)
else
  (tX10_isWord_J28 G x0 x1 M)
def rmX10_isWord : Room := { frames := 5, cells := 0, slots := 0, locals := 85 }
set_option maxHeartbeats 4000000 in
set_option maxRecDepth 100000 in
theorem mX10_isWord (l : Launch) (hfl : l.stackTraces = false) (D : vD) (x0 : Nat) (x1 : Nat) (M : vMe) (z : (Int32 × vMe)) (h : tX10_isWord D.2.2.2.2 x0 x1 M = some z) : Met l yX10_isWord (Cond.code yX10_isWord cX10_isWord 4 (some .boolean) :: TB) rmX10_isWord (va_Pc [.ref x0, .ref x1] (vPre D M)) (qW D (some (.int z.1)) z.2) 0 0 (vA D) := by
  refine v_ofW (cc := cX10_isWord) (maxL := 4) (ret := (some .boolean)) (by decide) (Nat.le_of_ble_eq_true rfl) ?_
  intro p e s m args below meth c Q hx hb hr hml hown hts hlk hnm hSS hR0 hQ ls hl
  have hK := hSS.1
  have hl : lv_has ls 4 [(0, .ref x0), (1, .ref x1)] := hl
  unfold tX10_isWord at h
  have X10_isWord_L32p : ∀ (x0 : Nat) (x1 : Nat), ∀ (f : Nat) (x2 : Int32) (x3 : Int32) (Mi : vMe) (ls : Array Slot) (z : (Int32 × vMe)), lv_has ls 4 [(0, .ref x0), (1, .ref x1), (2, .int x2), (3, .int x3)] → tX10_isWord_L32 D.2.2.2.2 x0 x1 f x2 x3 Mi = some z → (∀ ls : Array Slot, lv_has ls 4 [(2, .int z.1)] → vV D p l e rmX10_isWord s m args below meth c 0 0 Q z.2 (F0 m 75 ls [])) → vV D p l e rmX10_isWord s m args below meth c 0 0 Q Mi (F0 m 32 ls []) := by
    intro x0 x1 f
    induction f with
    | zero =>
      intro x2 x3 Mi ls z hl h
      exact absurd h (by simp [tX10_isWord_L32])
    | succ f ih =>
      intro x2 x3 Mi ls z hl h KX
      rw [tX10_isWord_L32] at h
      have X10_isWord_J68_32p : ∀ (x3 : Int32) (y0 : Int32) (Mj : vMe) (ls : Array Slot), lv_has ls 4 [(0, .ref x0), (1, .ref x1), (3, .int x3)] → tX10_isWord_J68_32 (tX10_isWord_L32 D.2.2.2.2 x0 x1 f) x0 x1 x3 y0 Mj = some z → vV D p l e rmX10_isWord s m args below meth c 0 0 Q Mj (F0 m 68 ls [.int y0]) := by
        intro x3 y0 Mj ls hl h
        unfold tX10_isWord_J68_32 at h
        refine w_istore_n (lv' := [(2, .int y0), (0, .ref x0), (1, .ref x1), (3, .int x3)]) hx hb dX10_isWord_68 rfl hl (by decide) rfl (fun ls hl => ?_)
        have hl : lv_has ls 4 [(0, .ref x0), (1, .ref x1), (2, .int y0), (3, .int x3)] := lv_sub hl [1, 2, 0, 3] rfl
        refine w_iinc (v := x3 + 1) (lv' := [(3, .int (x3 + 1)), (0, .ref x0), (1, .ref x1), (2, .int y0)]) hx hb dX10_isWord_69 hl (j := 3) rfl rfl (by decide) rfl (fun ls hl => ?_)
        have hl : lv_has ls 4 [(0, .ref x0), (1, .ref x1), (2, .int y0), (3, .int (x3 + 1))] := lv_sub hl [1, 2, 3, 0] rfl
        refine w_goto (tgt := 32) hx hb dX10_isWord_72 (by decide) ?_
        exact ih y0 (x3 + 1) Mj ls z (lv_sub hl [0, 1, 2, 3] rfl) h KX
      refine w_iload_n hx hb dX10_isWord_32 rfl (lv_at hl 3 rfl) ?_
      refine w_aload_n hx hb dX10_isWord_33 rfl (lv_at hl 1 rfl) ?_
      obtain ⟨g8, h⟩ := v_ifs h
      obtain ⟨z7, ez7, h⟩ := v_bnd h
      refine v_call1 (v := .int z7) (M1 := Mi) (mc := 0) (ms := 0) (fun H locs hR hS => va_runV (As := []) (rest := [.int x3]) ⟨hx, hb, hml, hown, hts⟩ (mJ0_length_8abf5 l hfl D x1 Mi z7 ez7) (cwV 0 hts (gdV kw1446 kw386 kw387 kw93 kw388) rfl rfl rfl (by decide +kernel) ⟨Nat.le_of_ble_eq_true rfl, Nat.le_of_ble_eq_true rfl⟩) (v_preV (ci := 0) hSS hR hS g8 (by decide) rfl []) rfl rfl hl.1 rfl (lv_room (Nat.le_of_ble_eq_true rfl)) dX10_isWord_34 ⟨Nat.zero_le _, Nat.zero_le _⟩) ?_
      refine w_icmp_ge (tgt := 75) hx hb dX10_isWord_37 (by decide) (fun c8 => ?_) (fun c8 => ?_)
      · rw [if_pos c8] at h
        obtain rfl := Option.some.inj h
        exact KX ls (lv_sub hl [2] rfl)
      · rw [if_neg c8] at h
        refine w_iload_n hx hb dX10_isWord_40 rfl (lv_at hl 2 rfl) ?_
        refine w_if_eq (tgt := 75) hx hb dX10_isWord_41 (by decide) (fun c9 => ?_) (fun c9 => ?_)
        · rw [if_pos c9] at h
          obtain rfl := Option.some.inj h
          exact KX ls (lv_sub hl [2] rfl)
        · rw [if_neg c9] at h
          refine w_aload_n hx hb dX10_isWord_44 rfl (lv_at hl 0 rfl) ?_
          obtain ⟨a10, ea10, h⟩ := v_bnd h
          refine v_gA (ci := 11) hx hb hts iwX10 hown hK 3 ea10 rfl (by decide) (Or.inl (hts _ kw1338)) (fun _ h9 => h9) dX10_isWord_45 ?_
          refine w_aload_n hx hb dX10_isWord_48 rfl (lv_at hl 0 rfl) ?_
          obtain ⟨v11, ev11, h⟩ := v_bnd h
          refine v_gI (ci := 11) hx hb hts iwX10 hown hK 6 ev11 rfl (by decide) (Or.inl (hts _ kw1341)) (fun _ h9 => h9) dX10_isWord_49 ?_
          refine w_iload_n hx hb dX10_isWord_52 rfl (lv_at hl 3 rfl) ?_
          refine w_iadd hx hb dX10_isWord_53 ?_
          obtain ⟨v12, ev12, h⟩ := v_bnd h
          refine v_bald hx hb hK ev12 dX10_isWord_54 ?_
          refine w_aload_n hx hb dX10_isWord_55 rfl (lv_at hl 1 rfl) ?_
          refine w_iload_n hx hb dX10_isWord_56 rfl (lv_at hl 3 rfl) ?_
          obtain ⟨g8, h⟩ := v_ifs h
          obtain ⟨z13, ez13, h⟩ := v_bnd h
          refine v_call1 (v := .int z13.1) (M1 := z13.2) (mc := 0) (ms := 0) (fun H locs hR hS => va_runV (As := [.int x3]) (rest := [.int v12]) ⟨hx, hb, hml, hown, hts⟩ (mJ0_charAt_5068e l hfl D x1 x3 Mi z13 ez13) (cwV 1 hts (gdV kw1447 kw396 kw397 kw93 kw398) rfl rfl rfl (by decide +kernel) ⟨Nat.le_of_ble_eq_true rfl, Nat.le_of_ble_eq_true rfl⟩) (v_preV (ci := 0) hSS hR hS g8 (by decide) rfl [.int x3]) rfl rfl hl.1 rfl (lv_room (Nat.le_of_ble_eq_true rfl)) dX10_isWord_57 ⟨Nat.zero_le _, Nat.zero_le _⟩) ?_
          refine w_icmp_ne (tgt := 67) hx hb dX10_isWord_60 (by decide) (fun c14 => ?_) (fun c14 => ?_)
          · rw [if_pos c14] at h
            refine w_iconst (v := 1) hx hb dX10_isWord_63 (by decide) ?_
            refine w_goto (tgt := 68) hx hb dX10_isWord_64 (by decide) ?_
            exact X10_isWord_J68_32p x3 1 z13.2 ls (lv_sub hl [0, 1, 3] rfl) h
          · rw [if_neg c14] at h
            refine w_iconst (v := 0) hx hb dX10_isWord_67 (by decide) ?_
            exact X10_isWord_J68_32p x3 0 z13.2 ls (lv_sub hl [0, 1, 3] rfl) h
  have X10_isWord_J29p : ∀ (x0 : Nat) (x1 : Nat) (y0 : Int32) (Mj : vMe) (ls : Array Slot), lv_has ls 4 [(0, .ref x0), (1, .ref x1)] → tX10_isWord_J29 D.2.2.2.2 x0 x1 y0 Mj = some z → vV D p l e rmX10_isWord s m args below meth c 0 0 Q Mj (F0 m 29 ls [.int y0]) := by
    intro x0 x1 y0 Mj ls hl h
    unfold tX10_isWord_J29 at h
    refine w_istore_n (lv' := [(2, .int y0), (0, .ref x0), (1, .ref x1)]) hx hb dX10_isWord_29 rfl hl (by decide) rfl (fun ls hl => ?_)
    have hl : lv_has ls 4 [(0, .ref x0), (1, .ref x1), (2, .int y0)] := lv_sub hl [1, 2, 0] rfl
    refine w_iconst (v := 0) hx hb dX10_isWord_30 (by decide) ?_
    refine w_istore_n (lv' := [(3, .int 0), (0, .ref x0), (1, .ref x1), (2, .int y0)]) hx hb dX10_isWord_31 rfl hl (by decide) rfl (fun ls hl => ?_)
    have hl : lv_has ls 4 [(0, .ref x0), (1, .ref x1), (2, .int y0), (3, .int 0)] := lv_sub hl [1, 2, 3, 0] rfl
    obtain ⟨z15, ez15, h⟩ := v_bnd h
    refine X10_isWord_L32p x0 x1 vF y0 0 Mj ls z15 (lv_sub hl [0, 1, 2, 3] rfl) ez15 (fun ls hl => ?_)
    refine w_iload_n hx hb dX10_isWord_75 rfl (lv_at hl 0 rfl) ?_
    obtain ⟨g6, h⟩ := v_ifs h
    obtain rfl := Option.some.inj h
    rw [hQ]
    exact v_zret hx hb hr hlk (v_narZ g6) dX10_isWord_76
  have X10_isWord_J28p : ∀ (x0 : Nat) (x1 : Nat) (Mj : vMe) (ls : Array Slot), lv_has ls 4 [(0, .ref x0), (1, .ref x1)] → tX10_isWord_J28 D.2.2.2.2 x0 x1 Mj = some z → vV D p l e rmX10_isWord s m args below meth c 0 0 Q Mj (F0 m 28 ls []) := by
    intro x0 x1 Mj ls hl h
    unfold tX10_isWord_J28 at h
    refine w_iconst (v := 0) hx hb dX10_isWord_28 (by decide) ?_
    exact X10_isWord_J29p x0 x1 0 Mj ls (lv_sub hl [0, 1] rfl) h
  refine w_aload_n hx hb dX10_isWord_0 rfl (lv_at hl 0 rfl) ?_
  obtain ⟨v1, ev1, h⟩ := v_bnd h
  refine v_gI (ci := 11) hx hb hts iwX10 hown hK 8 ev1 rfl (by decide) (Or.inl (hts _ kw1343)) (fun _ h9 => h9) dX10_isWord_1 ?_
  refine w_iconst (v := 1) hx hb dX10_isWord_4 (by decide) ?_
  refine w_icmp_ne (tgt := 28) hx hb dX10_isWord_5 (by decide) (fun c2 => ?_) (fun c2 => ?_)
  · rw [if_pos c2] at h
    refine w_aload_n hx hb dX10_isWord_8 rfl (lv_at hl 0 rfl) ?_
    obtain ⟨v3, ev3, h⟩ := v_bnd h
    refine v_gI (ci := 11) hx hb hts iwX10 hown hK 7 ev3 rfl (by decide) (Or.inl (hts _ kw1342)) (fun _ h9 => h9) dX10_isWord_9 ?_
    refine w_aload_n hx hb dX10_isWord_12 rfl (lv_at hl 0 rfl) ?_
    obtain ⟨v4, ev4, h⟩ := v_bnd h
    refine v_gI (ci := 11) hx hb hts iwX10 hown hK 6 ev4 rfl (by decide) (Or.inl (hts _ kw1341)) (fun _ h9 => h9) dX10_isWord_13 ?_
    refine w_isub hx hb dX10_isWord_16 ?_
    refine w_aload_n hx hb dX10_isWord_17 rfl (lv_at hl 1 rfl) ?_
    obtain ⟨g8, h⟩ := v_ifs h
    obtain ⟨z5, ez5, h⟩ := v_bnd h
    refine v_call1 (v := .int z5) (M1 := M) (mc := 0) (ms := 0) (fun H locs hR hS => va_runV (As := []) (rest := [.int (v3 - v4)]) ⟨hx, hb, hml, hown, hts⟩ (mJ0_length_8abf5 l hfl D x1 M z5 ez5) (cwV 0 hts (gdV kw1446 kw386 kw387 kw93 kw388) rfl rfl rfl (by decide +kernel) ⟨Nat.le_of_ble_eq_true rfl, Nat.le_of_ble_eq_true rfl⟩) (v_preV (ci := 0) hSS hR hS g8 (by decide) rfl []) rfl rfl hl.1 rfl (lv_room (Nat.le_of_ble_eq_true rfl)) dX10_isWord_18 ⟨Nat.zero_le _, Nat.zero_le _⟩) ?_
    refine w_icmp_ne (tgt := 28) hx hb dX10_isWord_21 (by decide) (fun c6 => ?_) (fun c6 => ?_)
    · rw [if_pos c6] at h
      refine w_iconst (v := 1) hx hb dX10_isWord_24 (by decide) ?_
      refine w_goto (tgt := 29) hx hb dX10_isWord_25 (by decide) ?_
      exact X10_isWord_J29p x0 x1 1 M ls (lv_sub hl [0, 1] rfl) h
    · rw [if_neg c6] at h
      exact X10_isWord_J28p x0 x1 M ls (lv_sub hl [0, 1] rfl) h
  · rw [if_neg c2] at h
    exact X10_isWord_J28p x0 x1 M ls (lv_sub hl [0, 1] rfl) h

def tX10_fails (x0 : Nat) (x1 : Int32) (M : vMe) : Option (Int32 × vMe) :=
  (gI M x0 12 11).bind fun v1 =>
  if v1 = 0 then
  ((sV M x0 12 11 (.int x1)).bind fun M3 =>
  (gI M3 x0 12 6).bind fun v4 =>
  (sV M3 x0 12 12 (.int v4)).bind fun M5 =>
  some (0, M5))
else
  (some (0, M))
def rmX10_fails : Room := { frames := 1, cells := 0, slots := 0, locals := 0 }
set_option maxHeartbeats 4000000 in
set_option maxRecDepth 100000 in
theorem mX10_fails (l : Launch) (hfl : l.stackTraces = false) (D : vD) (x0 : Nat) (x1 : Int32) (M : vMe) (z : (Int32 × vMe)) (h : tX10_fails x0 x1 M = some z) : Met l yX10_fails (Cond.code yX10_fails cX10_fails 2 (some .boolean) :: TB) rmX10_fails (va_Pc [.ref x0, .int x1] (vPre D M)) (qW D (some (.int z.1)) z.2) 0 0 (vA D) := by
  refine v_ofW (cc := cX10_fails) (maxL := 2) (ret := (some .boolean)) (by decide) (Nat.le_of_ble_eq_true rfl) ?_
  intro p e s m args below meth c Q hx hb hr hml hown hts hlk hnm hSS hR0 hQ ls hl
  have hK := hSS.1
  have hl : lv_has ls 2 [(0, .ref x0), (1, .int x1)] := hl
  unfold tX10_fails at h
  refine w_aload_n hx hb dX10_fails_0 rfl (lv_at hl 0 rfl) ?_
  obtain ⟨v1, ev1, h⟩ := v_bnd h
  refine v_gI (ci := 11) hx hb hts iwX10 hown hK 11 ev1 rfl (by decide) (Or.inl (hts _ kw1346)) (fun _ h9 => h9) dX10_fails_1 ?_
  refine w_if_ne (tgt := 20) hx hb dX10_fails_4 (by decide) (fun c2 => ?_) (fun c2 => ?_)
  · rw [if_pos c2] at h
    refine w_aload_n hx hb dX10_fails_7 rfl (lv_at hl 0 rfl) ?_
    refine w_iload_n hx hb dX10_fails_8 rfl (lv_at hl 1 rfl) ?_
    obtain ⟨M3, eM3, h⟩ := v_bnd h
    refine v_putf (ci := 11) hx hb hts iwX10 hown hK tyX10_ok nmX10 11 eM3 rfl (by decide) (Or.inl (hts _ kw1346)) (fun _ h9 => h9) (Or.inl rfl) rfl rfl dX10_fails_9 ?_
    refine w_aload_n hx hb dX10_fails_12 rfl (lv_at hl 0 rfl) ?_
    refine w_aload_n hx hb dX10_fails_13 rfl (lv_at hl 0 rfl) ?_
    obtain ⟨v4, ev4, h⟩ := v_bnd h
    refine v_gI (ci := 11) hx hb hts iwX10 hown hK 6 ev4 rfl (by decide) (Or.inl (hts _ kw1341)) (fun _ h9 => h9) dX10_fails_14 ?_
    obtain ⟨M5, eM5, h⟩ := v_bnd h
    refine v_putf (ci := 11) hx hb hts iwX10 hown hK tyX10_ok nmX10 12 eM5 rfl (by decide) (Or.inl (hts _ kw1347)) (fun _ h9 => h9) (Or.inl rfl) rfl rfl dX10_fails_17 ?_
    refine w_iconst (v := 0) hx hb dX10_fails_20 (by decide) ?_
    obtain rfl := Option.some.inj h
    rw [hQ]
    exact v_zret (x := 0) hx hb hr hlk rfl dX10_fails_21
  · rw [if_neg c2] at h
    refine w_iconst (v := 0) hx hb dX10_fails_20 (by decide) ?_
    obtain rfl := Option.some.inj h
    rw [hQ]
    exact v_zret (x := 0) hx hb hr hlk rfl dX10_fails_21

def tX10_starts (x0 : Nat) (x1 : Int32) (x2 : Int32) (M : vMe) : Option (Int32 × vMe) :=
  if x2 = 0 then
  (if (M.1 x0).1 = 12 then
  ((tX10_fails x0 x1 M).bind fun z2 =>
  if fits .boolean (.int z2.1) = true then some (z2.1, z2.2) else none)
else none)
else
  (if (M.1 x0).1 = 12 then
  ((tX10_advance x0 M).bind fun z3 =>
  some (1, z3.2))
else none)
def rmX10_starts : Room := { frames := 4, cells := 0, slots := 0, locals := 63 }
set_option maxHeartbeats 4000000 in
set_option maxRecDepth 100000 in
theorem mX10_starts (l : Launch) (hfl : l.stackTraces = false) (D : vD) (x0 : Nat) (x1 : Int32) (x2 : Int32) (M : vMe) (z : (Int32 × vMe)) (h : tX10_starts x0 x1 x2 M = some z) : Met l yX10_starts (Cond.code yX10_starts cX10_starts 3 (some .boolean) :: TB) rmX10_starts (va_Pc [.ref x0, .int x1, .int x2] (vPre D M)) (qW D (some (.int z.1)) z.2) 0 0 (vA D) := by
  refine v_ofW (cc := cX10_starts) (maxL := 3) (ret := (some .boolean)) (by decide) (Nat.le_of_ble_eq_true rfl) ?_
  intro p e s m args below meth c Q hx hb hr hml hown hts hlk hnm hSS hR0 hQ ls hl
  have hK := hSS.1
  have hl : lv_has ls 3 [(0, .ref x0), (1, .int x1), (2, .int x2)] := hl
  unfold tX10_starts at h
  refine w_iload_n hx hb dX10_starts_0 rfl (lv_at hl 2 rfl) ?_
  refine w_if_ne (tgt := 10) hx hb dX10_starts_1 (by decide) (fun c1 => ?_) (fun c1 => ?_)
  · rw [if_pos c1] at h
    refine w_aload_n hx hb dX10_starts_4 rfl (lv_at hl 0 rfl) ?_
    refine w_iload_n hx hb dX10_starts_5 rfl (lv_at hl 1 rfl) ?_
    obtain ⟨g8, h⟩ := v_ifs h
    obtain ⟨z2, ez2, h⟩ := v_bnd h
    refine v_call1 (v := .int z2.1) (M1 := z2.2) (mc := 0) (ms := 0) (fun H locs hR hS => va_runV (As := [.int x1]) (rest := []) ⟨hx, hb, hml, hown, hts⟩ (mX10_fails l hfl D x0 x1 M z2 ez2) (cwV 1 hts (gdV kw1452 kw1454 kw34 kw85 kw1455) rfl rfl rfl (by decide +kernel) ⟨Nat.le_of_ble_eq_true rfl, Nat.le_of_ble_eq_true rfl⟩) (v_preV (ci := 11) hSS hR hS g8 (by decide) rfl [.int x1]) rfl rfl hl.1 rfl (lv_room (Nat.le_of_ble_eq_true rfl)) dX10_starts_6 ⟨Nat.zero_le _, Nat.zero_le _⟩) ?_
    obtain ⟨g6, h⟩ := v_ifs h
    obtain rfl := Option.some.inj h
    rw [hQ]
    exact v_zret hx hb hr hlk (v_narZ g6) dX10_starts_9
  · rw [if_neg c1] at h
    refine w_aload_n hx hb dX10_starts_10 rfl (lv_at hl 0 rfl) ?_
    obtain ⟨g8, h⟩ := v_ifs h
    obtain ⟨z3, ez3, h⟩ := v_bnd h
    refine v_call0 (M1 := z3.2) (mc := 0) (ms := 0) (fun H locs hR hS => va_runV (As := []) (rest := []) ⟨hx, hb, hml, hown, hts⟩ (mX10_advance l hfl D x0 M z3 ez3) (cwV 0 hts (gdV kw1429 kw1431 kw29 kw85 kw1432) rfl rfl rfl (by decide +kernel) ⟨Nat.le_of_ble_eq_true rfl, Nat.le_of_ble_eq_true rfl⟩) (v_preV (ci := 11) hSS hR hS g8 (by decide) rfl []) rfl rfl hl.1 rfl (lv_room (Nat.le_of_ble_eq_true rfl)) dX10_starts_11 ⟨Nat.zero_le _, Nat.zero_le _⟩) ?_
    refine w_iconst (v := 1) hx hb dX10_starts_14 (by decide) ?_
    obtain rfl := Option.some.inj h
    rw [hQ]
    exact v_zret (x := 1) hx hb hr hlk rfl dX10_starts_15

def tX10_takes (x0 : Nat) (x1 : Int32) (x2 : Int32) (M : vMe) : Option (Int32 × vMe) :=
  (gI M x0 12 8).bind fun v1 =>
  if v1 = (2 : Int32) then
  ((gI M x0 12 9).bind fun v3 =>
  (tX10_within v3 x1 x2 M).bind fun z4 =>
  if z4 = 0 then
  (if (M.1 x0).1 = 12 then
  ((tX10_fails x0 3 M).bind fun z6 =>
  if fits .boolean (.int z6.1) = true then some (z6.1, z6.2) else none)
else none)
else
  ((gI M x0 12 9).bind fun v7 =>
  (sV M x0 12 13 (.int v7)).bind fun M8 =>
  if (M8.1 x0).1 = 12 then
  ((tX10_advance x0 M8).bind fun z9 =>
  some (1, z9.2))
else none))
else
  (if (M.1 x0).1 = 12 then
  ((tX10_fails x0 1 M).bind fun z10 =>
  if fits .boolean (.int z10.1) = true then some (z10.1, z10.2) else none)
else none)
def rmX10_takes : Room := { frames := 4, cells := 0, slots := 0, locals := 63 }
set_option maxHeartbeats 4000000 in
set_option maxRecDepth 100000 in
theorem mX10_takes (l : Launch) (hfl : l.stackTraces = false) (D : vD) (x0 : Nat) (x1 : Int32) (x2 : Int32) (M : vMe) (z : (Int32 × vMe)) (h : tX10_takes x0 x1 x2 M = some z) : Met l yX10_takes (Cond.code yX10_takes cX10_takes 3 (some .boolean) :: TB) rmX10_takes (va_Pc [.ref x0, .int x1, .int x2] (vPre D M)) (qW D (some (.int z.1)) z.2) 0 0 (vA D) := by
  refine v_ofW (cc := cX10_takes) (maxL := 3) (ret := (some .boolean)) (by decide) (Nat.le_of_ble_eq_true rfl) ?_
  intro p e s m args below meth c Q hx hb hr hml hown hts hlk hnm hSS hR0 hQ ls hl
  have hK := hSS.1
  have hl : lv_has ls 3 [(0, .ref x0), (1, .int x1), (2, .int x2)] := hl
  unfold tX10_takes at h
  refine w_aload_n hx hb dX10_takes_0 rfl (lv_at hl 0 rfl) ?_
  obtain ⟨v1, ev1, h⟩ := v_bnd h
  refine v_gI (ci := 11) hx hb hts iwX10 hown hK 8 ev1 rfl (by decide) (Or.inl (hts _ kw1343)) (fun _ h9 => h9) dX10_takes_1 ?_
  refine w_iconst (v := 2) hx hb dX10_takes_4 (by decide) ?_
  refine w_icmp_eq (tgt := 14) hx hb dX10_takes_5 (by decide) (fun c2 => ?_) (fun c2 => ?_)
  · rw [if_pos c2] at h
    refine w_aload_n hx hb dX10_takes_14 rfl (lv_at hl 0 rfl) ?_
    obtain ⟨v3, ev3, h⟩ := v_bnd h
    refine v_gI (ci := 11) hx hb hts iwX10 hown hK 9 ev3 rfl (by decide) (Or.inl (hts _ kw1344)) (fun _ h9 => h9) dX10_takes_15 ?_
    refine w_iload_n hx hb dX10_takes_18 rfl (lv_at hl 1 rfl) ?_
    refine w_iload_n hx hb dX10_takes_19 rfl (lv_at hl 2 rfl) ?_
    obtain ⟨z4, ez4, h⟩ := v_bnd h
    refine v_call1 (v := .int z4) (M1 := M) (mc := 0) (ms := 0) (fun H locs hR hS => va_runS (As := [.int v3, .int x1, .int x2]) (rest := []) ⟨hx, hb, hml, hown, hts⟩ (mX10_within l hfl D v3 x1 x2 M z4 ez4) (va_cwS 3 hts (gdS kw1419 kw1420 kw85 kw1421) rfl rfl rfl (by decide +kernel) ⟨Nat.le_of_ble_eq_true rfl, Nat.le_of_ble_eq_true rfl⟩) (v_preS hSS hR hS [.int v3, .int x1, .int x2]) rfl rfl hl.1 rfl (lv_room (Nat.le_of_ble_eq_true rfl)) dX10_takes_20 ⟨Nat.zero_le _, Nat.zero_le _⟩) ?_
    refine w_if_ne (tgt := 32) hx hb dX10_takes_23 (by decide) (fun c5 => ?_) (fun c5 => ?_)
    · rw [if_pos c5] at h
      refine w_aload_n hx hb dX10_takes_26 rfl (lv_at hl 0 rfl) ?_
      refine w_iconst (v := 3) hx hb dX10_takes_27 (by decide) ?_
      obtain ⟨g8, h⟩ := v_ifs h
      obtain ⟨z6, ez6, h⟩ := v_bnd h
      refine v_call1 (v := .int z6.1) (M1 := z6.2) (mc := 0) (ms := 0) (fun H locs hR hS => va_runV (As := [.int 3]) (rest := []) ⟨hx, hb, hml, hown, hts⟩ (mX10_fails l hfl D x0 3 M z6 ez6) (cwV 1 hts (gdV kw1452 kw1454 kw34 kw85 kw1455) rfl rfl rfl (by decide +kernel) ⟨Nat.le_of_ble_eq_true rfl, Nat.le_of_ble_eq_true rfl⟩) (v_preV (ci := 11) hSS hR hS g8 (by decide) rfl [.int 3]) rfl rfl hl.1 rfl (lv_room (Nat.le_of_ble_eq_true rfl)) dX10_takes_28 ⟨Nat.zero_le _, Nat.zero_le _⟩) ?_
      obtain ⟨g6, h⟩ := v_ifs h
      obtain rfl := Option.some.inj h
      rw [hQ]
      exact v_zret hx hb hr hlk (v_narZ g6) dX10_takes_31
    · rw [if_neg c5] at h
      refine w_aload_n hx hb dX10_takes_32 rfl (lv_at hl 0 rfl) ?_
      refine w_aload_n hx hb dX10_takes_33 rfl (lv_at hl 0 rfl) ?_
      obtain ⟨v7, ev7, h⟩ := v_bnd h
      refine v_gI (ci := 11) hx hb hts iwX10 hown hK 9 ev7 rfl (by decide) (Or.inl (hts _ kw1344)) (fun _ h9 => h9) dX10_takes_34 ?_
      obtain ⟨M8, eM8, h⟩ := v_bnd h
      refine v_putf (ci := 11) hx hb hts iwX10 hown hK tyX10_ok nmX10 13 eM8 rfl (by decide) (Or.inl (hts _ kw1348)) (fun _ h9 => h9) (Or.inl rfl) rfl rfl dX10_takes_37 ?_
      refine w_aload_n hx hb dX10_takes_40 rfl (lv_at hl 0 rfl) ?_
      obtain ⟨g8, h⟩ := v_ifs h
      obtain ⟨z9, ez9, h⟩ := v_bnd h
      refine v_call0 (M1 := z9.2) (mc := 0) (ms := 0) (fun H locs hR hS => va_runV (As := []) (rest := []) ⟨hx, hb, hml, hown, hts⟩ (mX10_advance l hfl D x0 M8 z9 ez9) (cwV 0 hts (gdV kw1429 kw1431 kw29 kw85 kw1432) rfl rfl rfl (by decide +kernel) ⟨Nat.le_of_ble_eq_true rfl, Nat.le_of_ble_eq_true rfl⟩) (v_preV (ci := 11) hSS hR hS g8 (by decide) rfl []) rfl rfl hl.1 rfl (lv_room (Nat.le_of_ble_eq_true rfl)) dX10_takes_41 ⟨Nat.zero_le _, Nat.zero_le _⟩) ?_
      refine w_iconst (v := 1) hx hb dX10_takes_44 (by decide) ?_
      obtain rfl := Option.some.inj h
      rw [hQ]
      exact v_zret (x := 1) hx hb hr hlk rfl dX10_takes_45
  · rw [if_neg c2] at h
    refine w_aload_n hx hb dX10_takes_8 rfl (lv_at hl 0 rfl) ?_
    refine w_iconst (v := 1) hx hb dX10_takes_9 (by decide) ?_
    obtain ⟨g8, h⟩ := v_ifs h
    obtain ⟨z10, ez10, h⟩ := v_bnd h
    refine v_call1 (v := .int z10.1) (M1 := z10.2) (mc := 0) (ms := 0) (fun H locs hR hS => va_runV (As := [.int 1]) (rest := []) ⟨hx, hb, hml, hown, hts⟩ (mX10_fails l hfl D x0 1 M z10 ez10) (cwV 1 hts (gdV kw1452 kw1454 kw34 kw85 kw1455) rfl rfl rfl (by decide +kernel) ⟨Nat.le_of_ble_eq_true rfl, Nat.le_of_ble_eq_true rfl⟩) (v_preV (ci := 11) hSS hR hS g8 (by decide) rfl [.int 1]) rfl rfl hl.1 rfl (lv_room (Nat.le_of_ble_eq_true rfl)) dX10_takes_10 ⟨Nat.zero_le _, Nat.zero_le _⟩) ?_
    obtain ⟨g6, h⟩ := v_ifs h
    obtain rfl := Option.some.inj h
    rw [hQ]
    exact v_zret hx hb hr hlk (v_narZ g6) dX10_takes_13

def tX10_lays (x0 : Nat) (x1 : Int32) (x2 : Int32) (x3 : Int32) (M : vMe) : Option (Int32 × vMe) :=
  if (M.1 x0).1 = 12 then
  ((tX10_takes x0 x2 x3 M).bind fun z1 =>
  if z1.1 = 0 then
  (some (0, z1.2))
else
  ((gA z1.2 x0 12 1).bind fun a3 =>
  (gI z1.2 x0 12 13).bind fun v4 =>
  (sA z1.2 a3 101 x1 (.int v4)).bind fun M5 =>
  some (1, M5)))
else none
def rmX10_lays : Room := { frames := 5, cells := 0, slots := 0, locals := 85 }
set_option maxHeartbeats 4000000 in
set_option maxRecDepth 100000 in
theorem mX10_lays (l : Launch) (hfl : l.stackTraces = false) (D : vD) (x0 : Nat) (x1 : Int32) (x2 : Int32) (x3 : Int32) (M : vMe) (z : (Int32 × vMe)) (h : tX10_lays x0 x1 x2 x3 M = some z) : Met l yX10_lays (Cond.code yX10_lays cX10_lays 4 (some .boolean) :: TB) rmX10_lays (va_Pc [.ref x0, .int x1, .int x2, .int x3] (vPre D M)) (qW D (some (.int z.1)) z.2) 0 0 (vA D) := by
  refine v_ofW (cc := cX10_lays) (maxL := 4) (ret := (some .boolean)) (by decide) (Nat.le_of_ble_eq_true rfl) ?_
  intro p e s m args below meth c Q hx hb hr hml hown hts hlk hnm hSS hR0 hQ ls hl
  have hK := hSS.1
  have hl : lv_has ls 4 [(0, .ref x0), (1, .int x1), (2, .int x2), (3, .int x3)] := hl
  unfold tX10_lays at h
  refine w_aload_n hx hb dX10_lays_0 rfl (lv_at hl 0 rfl) ?_
  refine w_iload_n hx hb dX10_lays_1 rfl (lv_at hl 2 rfl) ?_
  refine w_iload_n hx hb dX10_lays_2 rfl (lv_at hl 3 rfl) ?_
  obtain ⟨g8, h⟩ := v_ifs h
  obtain ⟨z1, ez1, h⟩ := v_bnd h
  refine v_call1 (v := .int z1.1) (M1 := z1.2) (mc := 0) (ms := 0) (fun H locs hR hS => va_runV (As := [.int x2, .int x3]) (rest := []) ⟨hx, hb, hml, hown, hts⟩ (mX10_takes l hfl D x0 x2 x3 M z1 ez1) (cwV 2 hts (gdV kw1460 kw1462 kw36 kw85 kw1463) rfl rfl rfl (by decide +kernel) ⟨Nat.le_of_ble_eq_true rfl, Nat.le_of_ble_eq_true rfl⟩) (v_preV (ci := 11) hSS hR hS g8 (by decide) rfl [.int x2, .int x3]) rfl rfl hl.1 rfl (lv_room (Nat.le_of_ble_eq_true rfl)) dX10_lays_3 ⟨Nat.zero_le _, Nat.zero_le _⟩) ?_
  refine w_if_ne (tgt := 11) hx hb dX10_lays_6 (by decide) (fun c2 => ?_) (fun c2 => ?_)
  · rw [if_pos c2] at h
    refine w_iconst (v := 0) hx hb dX10_lays_9 (by decide) ?_
    obtain rfl := Option.some.inj h
    rw [hQ]
    exact v_zret (x := 0) hx hb hr hlk rfl dX10_lays_10
  · rw [if_neg c2] at h
    refine w_aload_n hx hb dX10_lays_11 rfl (lv_at hl 0 rfl) ?_
    obtain ⟨a3, ea3, h⟩ := v_bnd h
    refine v_gA (ci := 11) hx hb hts iwX10 hown hK 1 ea3 rfl (by decide) (Or.inl (hts _ kw1336)) (fun _ h9 => h9) dX10_lays_12 ?_
    refine w_iload_n hx hb dX10_lays_15 rfl (lv_at hl 1 rfl) ?_
    refine w_aload_n hx hb dX10_lays_16 rfl (lv_at hl 0 rfl) ?_
    obtain ⟨v4, ev4, h⟩ := v_bnd h
    refine v_gI (ci := 11) hx hb hts iwX10 hown hK 13 ev4 rfl (by decide) (Or.inl (hts _ kw1348)) (fun _ h9 => h9) dX10_lays_17 ?_
    obtain ⟨M5, eM5, h⟩ := v_bnd h
    refine v_iast hx hb hK eM5 dX10_lays_20 ?_
    refine w_iconst (v := 1) hx hb dX10_lays_21 (by decide) ?_
    obtain rfl := Option.some.inj h
    rw [hQ]
    exact v_zret (x := 1) hx hb hr hlk rfl dX10_lays_22

def tX10_closes_J15 (y0 : Nat) (y1 : Int32) (y2 : Int32) (Mj : vMe) : Option (Int32 × vMe) :=
  if (Mj.1 y0).1 = 12 then
  ((tX10_starts y0 y1 y2 Mj).bind fun z3 =>
  if fits .boolean (.int z3.1) = true then some (z3.1, z3.2) else none)
else none
def tX10_closes (x0 : Nat) (M : vMe) : Option (Int32 × vMe) :=
  (gI M x0 12 8).bind fun v1 =>
  if v1 = (3 : Int32) then
  (tX10_closes_J15 x0 1 1 M)
else
  (tX10_closes_J15 x0 1 0 M)
def rmX10_closes : Room := { frames := 5, cells := 0, slots := 0, locals := 85 }
set_option maxHeartbeats 4000000 in
set_option maxRecDepth 100000 in
theorem mX10_closes (l : Launch) (hfl : l.stackTraces = false) (D : vD) (x0 : Nat) (M : vMe) (z : (Int32 × vMe)) (h : tX10_closes x0 M = some z) : Met l yX10_closes (Cond.code yX10_closes cX10_closes 1 (some .boolean) :: TB) rmX10_closes (va_Pc [.ref x0] (vPre D M)) (qW D (some (.int z.1)) z.2) 0 0 (vA D) := by
  refine v_ofW (cc := cX10_closes) (maxL := 1) (ret := (some .boolean)) (by decide) (Nat.le_of_ble_eq_true rfl) ?_
  intro p e s m args below meth c Q hx hb hr hml hown hts hlk hnm hSS hR0 hQ ls hl
  have hK := hSS.1
  have hl : lv_has ls 1 [(0, .ref x0)] := hl
  unfold tX10_closes at h
  have X10_closes_J15p : ∀ (y0 : Nat) (y1 : Int32) (y2 : Int32) (Mj : vMe) (ls : Array Slot), lv_has ls 1 [] → tX10_closes_J15 y0 y1 y2 Mj = some z → vV D p l e rmX10_closes s m args below meth c 0 0 Q Mj (F0 m 15 ls [.int y2, .int y1, .ref y0]) := by
    intro y0 y1 y2 Mj ls hl h
    unfold tX10_closes_J15 at h
    obtain ⟨g8, h⟩ := v_ifs h
    obtain ⟨z3, ez3, h⟩ := v_bnd h
    refine v_call1 (v := .int z3.1) (M1 := z3.2) (mc := 0) (ms := 0) (fun H locs hR hS => va_runV (As := [.int y1, .int y2]) (rest := []) ⟨hx, hb, hml, hown, hts⟩ (mX10_starts l hfl D y0 y1 y2 Mj z3 ez3) (cwV 2 hts (gdV kw1448 kw1450 kw33 kw85 kw1451) rfl rfl rfl (by decide +kernel) ⟨Nat.le_of_ble_eq_true rfl, Nat.le_of_ble_eq_true rfl⟩) (v_preV (ci := 11) hSS hR hS g8 (by decide) rfl [.int y1, .int y2]) rfl rfl hl.1 rfl (lv_room (Nat.le_of_ble_eq_true rfl)) dX10_closes_15 ⟨Nat.zero_le _, Nat.zero_le _⟩) ?_
    obtain ⟨g6, h⟩ := v_ifs h
    obtain rfl := Option.some.inj h
    rw [hQ]
    exact v_zret hx hb hr hlk (v_narZ g6) dX10_closes_18
  refine w_aload_n hx hb dX10_closes_0 rfl (lv_at hl 0 rfl) ?_
  refine w_iconst (v := 1) hx hb dX10_closes_1 (by decide) ?_
  refine w_aload_n hx hb dX10_closes_2 rfl (lv_at hl 0 rfl) ?_
  obtain ⟨v1, ev1, h⟩ := v_bnd h
  refine v_gI (ci := 11) hx hb hts iwX10 hown hK 8 ev1 rfl (by decide) (Or.inl (hts _ kw1343)) (fun _ h9 => h9) dX10_closes_3 ?_
  refine w_iconst (v := 3) hx hb dX10_closes_6 (by decide) ?_
  refine w_icmp_ne (tgt := 14) hx hb dX10_closes_7 (by decide) (fun c2 => ?_) (fun c2 => ?_)
  · rw [if_pos c2] at h
    refine w_iconst (v := 1) hx hb dX10_closes_10 (by decide) ?_
    refine w_goto (tgt := 15) hx hb dX10_closes_11 (by decide) ?_
    exact X10_closes_J15p x0 1 1 M ls (lv_sub hl [] rfl) h
  · rw [if_neg c2] at h
    refine w_iconst (v := 0) hx hb dX10_closes_14 (by decide) ?_
    exact X10_closes_J15p x0 1 0 M ls (lv_sub hl [] rfl) h

def tX10_named_L3 (x0 : Nat) (x1 : Int32) (x2 : Int64) (M : vMe) : Nat → Int32 → Option (Int32 ⊕ Unit)
  | 0, _ => none
  | f + 1, x4 =>
  if x1 ≤ x4 then
  (some (Sum.inr (())))
else
  ((aJ M x0 104 x4).bind fun v5 =>
  if (lg_cmp v5 x2) = 0 then
  (some (Sum.inl x4))
else
  (tX10_named_L3 x0 x1 x2 M f (x4 + 1)))
def tX10_named (x0 : Nat) (x1 : Int32) (x2 : Int64) (M : vMe) : Option Int32 :=
  (tX10_named_L3 x0 x1 x2 M vF 0).bind fun z7 =>
  Sum.elim (fun r9 => some r9) (fun w8 =>
  some ((-1))) z7
def rmX10_named : Room := { frames := 1, cells := 0, slots := 0, locals := 0 }
set_option maxHeartbeats 4000000 in
set_option maxRecDepth 100000 in
theorem mX10_named (l : Launch) (hfl : l.stackTraces = false) (D : vD) (x0 : Nat) (x1 : Int32) (x2 : Int64) (M : vMe) (z : Int32) (h : tX10_named x0 x1 x2 M = some z) : Met l yX10_named (Cond.code yX10_named cX10_named 5 (some .int) :: TB) rmX10_named (va_Pc [.ref x0, .int x1, .long x2] (vPre D M)) (qW D (some (.int z)) M) 0 0 (vA D) := by
  refine v_ofW (cc := cX10_named) (maxL := 5) (ret := (some .int)) (by decide) (Nat.le_of_ble_eq_true rfl) ?_
  intro p e s m args below meth c Q hx hb hr hml hown hts hlk hnm hSS hR0 hQ ls hl
  have hK := hSS.1
  have hl : lv_has ls 5 [(0, .ref x0), (1, .int x1), (2, .long x2)] := hl
  unfold tX10_named at h
  have X10_named_L3p : ∀ (x0 : Nat) (x1 : Int32) (x2 : Int64), ∀ (f : Nat) (x4 : Int32) (ls : Array Slot) (z : (Int32 ⊕ Unit)), lv_has ls 5 [(0, .ref x0), (1, .int x1), (2, .long x2), (4, .int x4)] → tX10_named_L3 x0 x1 x2 M f x4 = some z → (∀ w, z = Sum.inr w → ∀ ls : Array Slot, lv_has ls 5 [] → vV D p l e rmX10_named s m args below meth c 0 0 Q M (F0 m 27 ls [])) → (∀ r9, z = Sum.inl r9 → Q = MQ below (qW D (some (.int r9)) M) args s 0 0 (vA D)) → vV D p l e rmX10_named s m args below meth c 0 0 Q M (F0 m 3 ls []) := by
    intro x0 x1 x2 f
    induction f with
    | zero =>
      intro x4 ls z hl h
      exact absurd h (by simp [tX10_named_L3])
    | succ f ih =>
      intro x4 ls z hl h KX KR
      rw [tX10_named_L3] at h
      refine w_iload hx hb dX10_named_3 (lv_at hl 3 rfl) ?_
      refine w_iload_n hx hb dX10_named_5 rfl (lv_at hl 1 rfl) ?_
      refine w_icmp_ge (tgt := 27) hx hb dX10_named_6 (by decide) (fun c4 => ?_) (fun c4 => ?_)
      · rw [if_pos c4] at h
        obtain rfl := Option.some.inj h
        exact KX _ rfl ls (lv_sub hl [] rfl)
      · rw [if_neg c4] at h
        refine w_aload_n hx hb dX10_named_9 rfl (lv_at hl 0 rfl) ?_
        refine w_iload hx hb dX10_named_10 (lv_at hl 3 rfl) ?_
        obtain ⟨v5, ev5, h⟩ := v_bnd h
        refine v_lald hx hb hK ev5 dX10_named_12 ?_
        refine w_lload_n hx hb dX10_named_13 rfl (lv_at hl 2 rfl) ?_
        refine w_lcmp hx hb dX10_named_14 ?_
        refine w_if_ne (tgt := 21) hx hb dX10_named_15 (by decide) (fun c6 => ?_) (fun c6 => ?_)
        · rw [if_pos c6] at h
          refine w_iload hx hb dX10_named_18 (lv_at hl 3 rfl) ?_
          obtain rfl := Option.some.inj h
          rw [KR _ rfl]
          exact v_iret hx hb hr hlk dX10_named_20
        · rw [if_neg c6] at h
          refine w_iinc (v := x4 + 1) (lv' := [(4, .int (x4 + 1)), (0, .ref x0), (1, .int x1), (2, .long x2)]) hx hb dX10_named_21 hl (j := 3) rfl rfl (by decide) rfl (fun ls hl => ?_)
          have hl : lv_has ls 5 [(0, .ref x0), (1, .int x1), (2, .long x2), (4, .int (x4 + 1))] := lv_sub hl [1, 2, 3, 0] rfl
          refine w_goto (tgt := 3) hx hb dX10_named_24 (by decide) ?_
          exact ih (x4 + 1) ls z (lv_sub hl [0, 1, 2, 3] rfl) h KX KR
  refine w_iconst (v := 0) hx hb dX10_named_0 (by decide) ?_
  refine w_istore (lv' := [(4, .int 0), (0, .ref x0), (1, .int x1), (2, .long x2)]) hx hb dX10_named_1 hl (by decide) rfl (fun ls hl => ?_)
  have hl : lv_has ls 5 [(0, .ref x0), (1, .int x1), (2, .long x2), (4, .int 0)] := lv_sub hl [1, 2, 3, 0] rfl
  obtain ⟨z7, ez7, h⟩ := v_bnd h
  refine X10_named_L3p x0 x1 x2 vF 0 ls z7 (lv_sub hl [0, 1, 2, 3] rfl) ez7 (fun w8 qw8 ls hl => ?_) (fun r9 qr9 => ?_)
  · replace h := v_inr qw8 h
    refine w_iconst (v := (-1)) hx hb dX10_named_27 (by decide) ?_
    obtain rfl := Option.some.inj h
    rw [hQ]
    exact v_iret hx hb hr hlk dX10_named_28
  · replace h := v_inl qr9 h
    obtain rfl := Option.some.inj h
    exact hQ

def tX10_setLine_J66 (x0 : Nat) (x1 : Int32) (x2 : Int64) (y0 : Nat) (y1 : Int32) (y2 : Int32) (Mj : vMe) : Option (Int32 × vMe) :=
  if (Mj.1 y0).1 = 12 then
  ((tX10_starts y0 y1 y2 Mj).bind fun z12 =>
  if z12.1 = 0 then
  (some (0, z12.2))
else
  ((gA z12.2 x0 12 15).bind fun a14 =>
  (sA z12.2 a14 104 x1 (.long x2)).bind fun M15 =>
  (gA M15 x0 12 1).bind fun a16 =>
  (aI M15 a16 101 0).bind fun v17 =>
  (sA M15 a16 101 0 (.int (v17 + 1))).bind fun M18 =>
  some (1, M18)))
else none
def tX10_setLine_J19 (x0 : Nat) (x1 : Int32) (y0 : Nat) (y1 : Int32) (y2 : Int32) (Mj : vMe) : Option (Int32 × vMe) :=
  if (Mj.1 y0).1 = 12 then
  ((tX10_starts y0 y1 y2 Mj).bind fun z4 =>
  if z4.1 = 0 then
  (some (0, z4.2))
else
  ((gI z4.2 x0 12 8).bind fun v6 =>
  if v6 = (1 : Int32) then
  ((gJ z4.2 x0 12 10).bind fun v8 =>
  (gA z4.2 x0 12 15).bind fun a9 =>
  (tX10_named a9 x1 v8 z4.2).bind fun z10 =>
  if z10 = ((-1) : Int32) then
  (tX10_setLine_J66 x0 x1 v8 x0 2 1 z4.2)
else
  (tX10_setLine_J66 x0 x1 v8 x0 2 0 z4.2))
else
  (if (z4.2.1 x0).1 = 12 then
  ((tX10_fails x0 1 z4.2).bind fun z19 =>
  if fits .boolean (.int z19.1) = true then some (z19.1, z19.2) else none)
else none)))
else none
def tX10_setLine (x0 : Nat) (M : vMe) : Option (Int32 × vMe) :=
  (gA M x0 12 1).bind fun a1 =>
  (aI M a1 101 0).bind fun v2 =>
  if (5 : Int32) ≤ v2 then
  (tX10_setLine_J19 x0 v2 x0 5 0 M)
else
  (tX10_setLine_J19 x0 v2 x0 5 1 M)
def rmX10_setLine : Room := { frames := 5, cells := 0, slots := 0, locals := 85 }
set_option maxHeartbeats 4000000 in
set_option maxRecDepth 100000 in
theorem mX10_setLine (l : Launch) (hfl : l.stackTraces = false) (D : vD) (x0 : Nat) (M : vMe) (z : (Int32 × vMe)) (h : tX10_setLine x0 M = some z) : Met l yX10_setLine (Cond.code yX10_setLine cX10_setLine 4 (some .boolean) :: TB) rmX10_setLine (va_Pc [.ref x0] (vPre D M)) (qW D (some (.int z.1)) z.2) 0 0 (vA D) := by
  refine v_ofW (cc := cX10_setLine) (maxL := 4) (ret := (some .boolean)) (by decide) (Nat.le_of_ble_eq_true rfl) ?_
  intro p e s m args below meth c Q hx hb hr hml hown hts hlk hnm hSS hR0 hQ ls hl
  have hK := hSS.1
  have hl : lv_has ls 4 [(0, .ref x0)] := hl
  unfold tX10_setLine at h
  have X10_setLine_J66p : ∀ (x0 : Nat) (x1 : Int32) (x2 : Int64) (y0 : Nat) (y1 : Int32) (y2 : Int32) (Mj : vMe) (ls : Array Slot), lv_has ls 4 [(0, .ref x0), (1, .int x1), (2, .long x2)] → tX10_setLine_J66 x0 x1 x2 y0 y1 y2 Mj = some z → vV D p l e rmX10_setLine s m args below meth c 0 0 Q Mj (F0 m 66 ls [.int y2, .int y1, .ref y0]) := by
    intro x0 x1 x2 y0 y1 y2 Mj ls hl h
    unfold tX10_setLine_J66 at h
    obtain ⟨g8, h⟩ := v_ifs h
    obtain ⟨z12, ez12, h⟩ := v_bnd h
    refine v_call1 (v := .int z12.1) (M1 := z12.2) (mc := 0) (ms := 0) (fun H locs hR hS => va_runV (As := [.int y1, .int y2]) (rest := []) ⟨hx, hb, hml, hown, hts⟩ (mX10_starts l hfl D y0 y1 y2 Mj z12 ez12) (cwV 2 hts (gdV kw1448 kw1450 kw33 kw85 kw1451) rfl rfl rfl (by decide +kernel) ⟨Nat.le_of_ble_eq_true rfl, Nat.le_of_ble_eq_true rfl⟩) (v_preV (ci := 11) hSS hR hS g8 (by decide) rfl [.int y1, .int y2]) rfl rfl hl.1 rfl (lv_room (Nat.le_of_ble_eq_true rfl)) dX10_setLine_66 ⟨Nat.zero_le _, Nat.zero_le _⟩) ?_
    refine w_if_ne (tgt := 74) hx hb dX10_setLine_69 (by decide) (fun c13 => ?_) (fun c13 => ?_)
    · rw [if_pos c13] at h
      refine w_iconst (v := 0) hx hb dX10_setLine_72 (by decide) ?_
      obtain rfl := Option.some.inj h
      rw [hQ]
      exact v_zret (x := 0) hx hb hr hlk rfl dX10_setLine_73
    · rw [if_neg c13] at h
      refine w_aload_n hx hb dX10_setLine_74 rfl (lv_at hl 0 rfl) ?_
      obtain ⟨a14, ea14, h⟩ := v_bnd h
      refine v_gA (ci := 11) hx hb hts iwX10 hown hK 15 ea14 rfl (by decide) (Or.inl (hts _ kw1350)) (fun _ h9 => h9) dX10_setLine_75 ?_
      refine w_iload_n hx hb dX10_setLine_78 rfl (lv_at hl 1 rfl) ?_
      refine w_lload_n hx hb dX10_setLine_79 rfl (lv_at hl 2 rfl) ?_
      obtain ⟨M15, eM15, h⟩ := v_bnd h
      refine v_last hx hb hK eM15 dX10_setLine_80 ?_
      refine w_aload_n hx hb dX10_setLine_81 rfl (lv_at hl 0 rfl) ?_
      obtain ⟨a16, ea16, h⟩ := v_bnd h
      refine v_gA (ci := 11) hx hb hts iwX10 hown hK 1 ea16 rfl (by decide) (Or.inl (hts _ kw1336)) (fun _ h9 => h9) dX10_setLine_82 ?_
      refine w_iconst (v := 0) hx hb dX10_setLine_85 (by decide) ?_
      refine w_dup2_11 hx hb dX10_setLine_86 rfl rfl ?_
      obtain ⟨v17, ev17, h⟩ := v_bnd h
      refine v_iald hx hb hK ev17 dX10_setLine_87 ?_
      refine w_iconst (v := 1) hx hb dX10_setLine_88 (by decide) ?_
      refine w_iadd hx hb dX10_setLine_89 ?_
      obtain ⟨M18, eM18, h⟩ := v_bnd h
      refine v_iast hx hb hK eM18 dX10_setLine_90 ?_
      refine w_iconst (v := 1) hx hb dX10_setLine_91 (by decide) ?_
      obtain rfl := Option.some.inj h
      rw [hQ]
      exact v_zret (x := 1) hx hb hr hlk rfl dX10_setLine_92
  have X10_setLine_J19p : ∀ (x0 : Nat) (x1 : Int32) (y0 : Nat) (y1 : Int32) (y2 : Int32) (Mj : vMe) (ls : Array Slot), lv_has ls 4 [(0, .ref x0), (1, .int x1)] → tX10_setLine_J19 x0 x1 y0 y1 y2 Mj = some z → vV D p l e rmX10_setLine s m args below meth c 0 0 Q Mj (F0 m 19 ls [.int y2, .int y1, .ref y0]) := by
    intro x0 x1 y0 y1 y2 Mj ls hl h
    unfold tX10_setLine_J19 at h
    obtain ⟨g8, h⟩ := v_ifs h
    obtain ⟨z4, ez4, h⟩ := v_bnd h
    refine v_call1 (v := .int z4.1) (M1 := z4.2) (mc := 0) (ms := 0) (fun H locs hR hS => va_runV (As := [.int y1, .int y2]) (rest := []) ⟨hx, hb, hml, hown, hts⟩ (mX10_starts l hfl D y0 y1 y2 Mj z4 ez4) (cwV 2 hts (gdV kw1448 kw1450 kw33 kw85 kw1451) rfl rfl rfl (by decide +kernel) ⟨Nat.le_of_ble_eq_true rfl, Nat.le_of_ble_eq_true rfl⟩) (v_preV (ci := 11) hSS hR hS g8 (by decide) rfl [.int y1, .int y2]) rfl rfl hl.1 rfl (lv_room (Nat.le_of_ble_eq_true rfl)) dX10_setLine_19 ⟨Nat.zero_le _, Nat.zero_le _⟩) ?_
    refine w_if_ne (tgt := 27) hx hb dX10_setLine_22 (by decide) (fun c5 => ?_) (fun c5 => ?_)
    · rw [if_pos c5] at h
      refine w_iconst (v := 0) hx hb dX10_setLine_25 (by decide) ?_
      obtain rfl := Option.some.inj h
      rw [hQ]
      exact v_zret (x := 0) hx hb hr hlk rfl dX10_setLine_26
    · rw [if_neg c5] at h
      refine w_aload_n hx hb dX10_setLine_27 rfl (lv_at hl 0 rfl) ?_
      obtain ⟨v6, ev6, h⟩ := v_bnd h
      refine v_gI (ci := 11) hx hb hts iwX10 hown hK 8 ev6 rfl (by decide) (Or.inl (hts _ kw1343)) (fun _ h9 => h9) dX10_setLine_28 ?_
      refine w_iconst (v := 1) hx hb dX10_setLine_31 (by decide) ?_
      refine w_icmp_eq (tgt := 41) hx hb dX10_setLine_32 (by decide) (fun c7 => ?_) (fun c7 => ?_)
      · rw [if_pos c7] at h
        refine w_aload_n hx hb dX10_setLine_41 rfl (lv_at hl 0 rfl) ?_
        obtain ⟨v8, ev8, h⟩ := v_bnd h
        refine v_gJ (ci := 11) hx hb hts iwX10 hown hK 10 ev8 rfl (by decide) (Or.inl (hts _ kw1345)) (fun _ h9 => h9) dX10_setLine_42 ?_
        refine w_lstore_n (lv' := [(2, .long v8), (0, .ref x0), (1, .int x1)]) hx hb dX10_setLine_45 rfl hl (by decide) rfl (fun ls hl => ?_)
        have hl : lv_has ls 4 [(0, .ref x0), (1, .int x1), (2, .long v8)] := lv_sub hl [1, 2, 0] rfl
        refine w_aload_n hx hb dX10_setLine_46 rfl (lv_at hl 0 rfl) ?_
        refine w_iconst (v := 2) hx hb dX10_setLine_47 (by decide) ?_
        refine w_aload_n hx hb dX10_setLine_48 rfl (lv_at hl 0 rfl) ?_
        obtain ⟨a9, ea9, h⟩ := v_bnd h
        refine v_gA (ci := 11) hx hb hts iwX10 hown hK 15 ea9 rfl (by decide) (Or.inl (hts _ kw1350)) (fun _ h9 => h9) dX10_setLine_49 ?_
        refine w_iload_n hx hb dX10_setLine_52 rfl (lv_at hl 1 rfl) ?_
        refine w_lload_n hx hb dX10_setLine_53 rfl (lv_at hl 2 rfl) ?_
        obtain ⟨z10, ez10, h⟩ := v_bnd h
        refine v_call1 (v := .int z10) (M1 := z4.2) (mc := 0) (ms := 0) (fun H locs hR hS => va_runS (As := [.ref a9, .int x1, .long v8]) (rest := [.int 2, .ref x0]) ⟨hx, hb, hml, hown, hts⟩ (mX10_named l hfl D a9 x1 v8 z4.2 z10 ez10) (va_cwS 3 hts (gdS kw1477 kw1478 kw85 kw1479) rfl rfl rfl (by decide +kernel) ⟨Nat.le_of_ble_eq_true rfl, Nat.le_of_ble_eq_true rfl⟩) (v_preS hSS hR hS [.ref a9, .int x1, .long v8]) rfl rfl hl.1 rfl (lv_room (Nat.le_of_ble_eq_true rfl)) dX10_setLine_54 ⟨Nat.zero_le _, Nat.zero_le _⟩) ?_
        refine w_iconst (v := (-1)) hx hb dX10_setLine_57 (by decide) ?_
        refine w_icmp_ne (tgt := 65) hx hb dX10_setLine_58 (by decide) (fun c11 => ?_) (fun c11 => ?_)
        · rw [if_pos c11] at h
          refine w_iconst (v := 1) hx hb dX10_setLine_61 (by decide) ?_
          refine w_goto (tgt := 66) hx hb dX10_setLine_62 (by decide) ?_
          exact X10_setLine_J66p x0 x1 v8 x0 2 1 z4.2 ls (lv_sub hl [0, 1, 2] rfl) h
        · rw [if_neg c11] at h
          refine w_iconst (v := 0) hx hb dX10_setLine_65 (by decide) ?_
          exact X10_setLine_J66p x0 x1 v8 x0 2 0 z4.2 ls (lv_sub hl [0, 1, 2] rfl) h
      · rw [if_neg c7] at h
        refine w_aload_n hx hb dX10_setLine_35 rfl (lv_at hl 0 rfl) ?_
        refine w_iconst (v := 1) hx hb dX10_setLine_36 (by decide) ?_
        obtain ⟨g8, h⟩ := v_ifs h
        obtain ⟨z19, ez19, h⟩ := v_bnd h
        refine v_call1 (v := .int z19.1) (M1 := z19.2) (mc := 0) (ms := 0) (fun H locs hR hS => va_runV (As := [.int 1]) (rest := []) ⟨hx, hb, hml, hown, hts⟩ (mX10_fails l hfl D x0 1 z4.2 z19 ez19) (cwV 1 hts (gdV kw1452 kw1454 kw34 kw85 kw1455) rfl rfl rfl (by decide +kernel) ⟨Nat.le_of_ble_eq_true rfl, Nat.le_of_ble_eq_true rfl⟩) (v_preV (ci := 11) hSS hR hS g8 (by decide) rfl [.int 1]) rfl rfl hl.1 rfl (lv_room (Nat.le_of_ble_eq_true rfl)) dX10_setLine_37 ⟨Nat.zero_le _, Nat.zero_le _⟩) ?_
        obtain ⟨g6, h⟩ := v_ifs h
        obtain rfl := Option.some.inj h
        rw [hQ]
        exact v_zret hx hb hr hlk (v_narZ g6) dX10_setLine_40
  refine w_aload_n hx hb dX10_setLine_0 rfl (lv_at hl 0 rfl) ?_
  obtain ⟨a1, ea1, h⟩ := v_bnd h
  refine v_gA (ci := 11) hx hb hts iwX10 hown hK 1 ea1 rfl (by decide) (Or.inl (hts _ kw1336)) (fun _ h9 => h9) dX10_setLine_1 ?_
  refine w_iconst (v := 0) hx hb dX10_setLine_4 (by decide) ?_
  obtain ⟨v2, ev2, h⟩ := v_bnd h
  refine v_iald hx hb hK ev2 dX10_setLine_5 ?_
  refine w_istore_n (lv' := [(1, .int v2), (0, .ref x0)]) hx hb dX10_setLine_6 rfl hl (by decide) rfl (fun ls hl => ?_)
  have hl : lv_has ls 4 [(0, .ref x0), (1, .int v2)] := lv_sub hl [1, 0] rfl
  refine w_aload_n hx hb dX10_setLine_7 rfl (lv_at hl 0 rfl) ?_
  refine w_iconst (v := 5) hx hb dX10_setLine_8 (by decide) ?_
  refine w_iload_n hx hb dX10_setLine_9 rfl (lv_at hl 1 rfl) ?_
  refine w_iconst (v := 5) hx hb dX10_setLine_10 (by decide) ?_
  refine w_icmp_ge (tgt := 18) hx hb dX10_setLine_11 (by decide) (fun c3 => ?_) (fun c3 => ?_)
  · rw [if_pos c3] at h
    refine w_iconst (v := 0) hx hb dX10_setLine_18 (by decide) ?_
    exact X10_setLine_J19p x0 v2 x0 5 0 M ls (lv_sub hl [0, 1] rfl) h
  · rw [if_neg c3] at h
    refine w_iconst (v := 1) hx hb dX10_setLine_14 (by decide) ?_
    refine w_goto (tgt := 19) hx hb dX10_setLine_15 (by decide) ?_
    exact X10_setLine_J19p x0 v2 x0 5 1 M ls (lv_sub hl [0, 1] rfl) h

def tX10_takesSet_J54 (y0 : Nat) (y1 : Int32) (y2 : Int32) (Mj : vMe) : Option (Int32 × vMe) :=
  if (Mj.1 y0).1 = 12 then
  ((tX10_starts y0 y1 y2 Mj).bind fun z12 =>
  if fits .boolean (.int z12.1) = true then some (z12.1, z12.2) else none)
else none
def tX10_takesSet (x0 : Nat) (M : vMe) : Option (Int32 × vMe) :=
  if (M.1 x0).1 = 12 then
  ((tX10_advance x0 M).bind fun z1 =>
  (gI z1.2 x0 12 8).bind fun v2 =>
  if v2 = (1 : Int32) then
  ((gA z1.2 x0 12 15).bind fun a4 =>
  (gA z1.2 x0 12 1).bind fun a5 =>
  (aI z1.2 a5 101 0).bind fun v6 =>
  (gJ z1.2 x0 12 10).bind fun v7 =>
  (tX10_named a4 v6 v7 z1.2).bind fun z8 =>
  (sV z1.2 x0 12 16 (.int z8)).bind fun M9 =>
  (gI M9 x0 12 16).bind fun v10 =>
  if v10 = ((-1) : Int32) then
  (tX10_takesSet_J54 x0 4 0 M9)
else
  (tX10_takesSet_J54 x0 4 1 M9))
else
  (if (z1.2.1 x0).1 = 12 then
  ((tX10_fails x0 1 z1.2).bind fun z13 =>
  if fits .boolean (.int z13.1) = true then some (z13.1, z13.2) else none)
else none))
else none
def rmX10_takesSet : Room := { frames := 5, cells := 0, slots := 0, locals := 85 }
set_option maxHeartbeats 4000000 in
set_option maxRecDepth 100000 in
theorem mX10_takesSet (l : Launch) (hfl : l.stackTraces = false) (D : vD) (x0 : Nat) (M : vMe) (z : (Int32 × vMe)) (h : tX10_takesSet x0 M = some z) : Met l yX10_takesSet (Cond.code yX10_takesSet cX10_takesSet 1 (some .boolean) :: TB) rmX10_takesSet (va_Pc [.ref x0] (vPre D M)) (qW D (some (.int z.1)) z.2) 0 0 (vA D) := by
  refine v_ofW (cc := cX10_takesSet) (maxL := 1) (ret := (some .boolean)) (by decide) (Nat.le_of_ble_eq_true rfl) ?_
  intro p e s m args below meth c Q hx hb hr hml hown hts hlk hnm hSS hR0 hQ ls hl
  have hK := hSS.1
  have hl : lv_has ls 1 [(0, .ref x0)] := hl
  unfold tX10_takesSet at h
  have X10_takesSet_J54p : ∀ (y0 : Nat) (y1 : Int32) (y2 : Int32) (Mj : vMe) (ls : Array Slot), lv_has ls 1 [] → tX10_takesSet_J54 y0 y1 y2 Mj = some z → vV D p l e rmX10_takesSet s m args below meth c 0 0 Q Mj (F0 m 54 ls [.int y2, .int y1, .ref y0]) := by
    intro y0 y1 y2 Mj ls hl h
    unfold tX10_takesSet_J54 at h
    obtain ⟨g8, h⟩ := v_ifs h
    obtain ⟨z12, ez12, h⟩ := v_bnd h
    refine v_call1 (v := .int z12.1) (M1 := z12.2) (mc := 0) (ms := 0) (fun H locs hR hS => va_runV (As := [.int y1, .int y2]) (rest := []) ⟨hx, hb, hml, hown, hts⟩ (mX10_starts l hfl D y0 y1 y2 Mj z12 ez12) (cwV 2 hts (gdV kw1448 kw1450 kw33 kw85 kw1451) rfl rfl rfl (by decide +kernel) ⟨Nat.le_of_ble_eq_true rfl, Nat.le_of_ble_eq_true rfl⟩) (v_preV (ci := 11) hSS hR hS g8 (by decide) rfl [.int y1, .int y2]) rfl rfl hl.1 rfl (lv_room (Nat.le_of_ble_eq_true rfl)) dX10_takesSet_54 ⟨Nat.zero_le _, Nat.zero_le _⟩) ?_
    obtain ⟨g6, h⟩ := v_ifs h
    obtain rfl := Option.some.inj h
    rw [hQ]
    exact v_zret hx hb hr hlk (v_narZ g6) dX10_takesSet_57
  refine w_aload_n hx hb dX10_takesSet_0 rfl (lv_at hl 0 rfl) ?_
  obtain ⟨g8, h⟩ := v_ifs h
  obtain ⟨z1, ez1, h⟩ := v_bnd h
  refine v_call0 (M1 := z1.2) (mc := 0) (ms := 0) (fun H locs hR hS => va_runV (As := []) (rest := []) ⟨hx, hb, hml, hown, hts⟩ (mX10_advance l hfl D x0 M z1 ez1) (cwV 0 hts (gdV kw1429 kw1431 kw29 kw85 kw1432) rfl rfl rfl (by decide +kernel) ⟨Nat.le_of_ble_eq_true rfl, Nat.le_of_ble_eq_true rfl⟩) (v_preV (ci := 11) hSS hR hS g8 (by decide) rfl []) rfl rfl hl.1 rfl (lv_room (Nat.le_of_ble_eq_true rfl)) dX10_takesSet_1 ⟨Nat.zero_le _, Nat.zero_le _⟩) ?_
  refine w_aload_n hx hb dX10_takesSet_4 rfl (lv_at hl 0 rfl) ?_
  obtain ⟨v2, ev2, h⟩ := v_bnd h
  refine v_gI (ci := 11) hx hb hts iwX10 hown hK 8 ev2 rfl (by decide) (Or.inl (hts _ kw1343)) (fun _ h9 => h9) dX10_takesSet_5 ?_
  refine w_iconst (v := 1) hx hb dX10_takesSet_8 (by decide) ?_
  refine w_icmp_eq (tgt := 18) hx hb dX10_takesSet_9 (by decide) (fun c3 => ?_) (fun c3 => ?_)
  · rw [if_pos c3] at h
    refine w_aload_n hx hb dX10_takesSet_18 rfl (lv_at hl 0 rfl) ?_
    refine w_aload_n hx hb dX10_takesSet_19 rfl (lv_at hl 0 rfl) ?_
    obtain ⟨a4, ea4, h⟩ := v_bnd h
    refine v_gA (ci := 11) hx hb hts iwX10 hown hK 15 ea4 rfl (by decide) (Or.inl (hts _ kw1350)) (fun _ h9 => h9) dX10_takesSet_20 ?_
    refine w_aload_n hx hb dX10_takesSet_23 rfl (lv_at hl 0 rfl) ?_
    obtain ⟨a5, ea5, h⟩ := v_bnd h
    refine v_gA (ci := 11) hx hb hts iwX10 hown hK 1 ea5 rfl (by decide) (Or.inl (hts _ kw1336)) (fun _ h9 => h9) dX10_takesSet_24 ?_
    refine w_iconst (v := 0) hx hb dX10_takesSet_27 (by decide) ?_
    obtain ⟨v6, ev6, h⟩ := v_bnd h
    refine v_iald hx hb hK ev6 dX10_takesSet_28 ?_
    refine w_aload_n hx hb dX10_takesSet_29 rfl (lv_at hl 0 rfl) ?_
    obtain ⟨v7, ev7, h⟩ := v_bnd h
    refine v_gJ (ci := 11) hx hb hts iwX10 hown hK 10 ev7 rfl (by decide) (Or.inl (hts _ kw1345)) (fun _ h9 => h9) dX10_takesSet_30 ?_
    obtain ⟨z8, ez8, h⟩ := v_bnd h
    refine v_call1 (v := .int z8) (M1 := z1.2) (mc := 0) (ms := 0) (fun H locs hR hS => va_runS (As := [.ref a4, .int v6, .long v7]) (rest := [.ref x0]) ⟨hx, hb, hml, hown, hts⟩ (mX10_named l hfl D a4 v6 v7 z1.2 z8 ez8) (va_cwS 3 hts (gdS kw1477 kw1478 kw85 kw1479) rfl rfl rfl (by decide +kernel) ⟨Nat.le_of_ble_eq_true rfl, Nat.le_of_ble_eq_true rfl⟩) (v_preS hSS hR hS [.ref a4, .int v6, .long v7]) rfl rfl hl.1 rfl (lv_room (Nat.le_of_ble_eq_true rfl)) dX10_takesSet_33 ⟨Nat.zero_le _, Nat.zero_le _⟩) ?_
    obtain ⟨M9, eM9, h⟩ := v_bnd h
    refine v_putf (ci := 11) hx hb hts iwX10 hown hK tyX10_ok nmX10 16 eM9 rfl (by decide) (Or.inl (hts _ kw1351)) (fun _ h9 => h9) (Or.inl rfl) rfl rfl dX10_takesSet_36 ?_
    refine w_aload_n hx hb dX10_takesSet_39 rfl (lv_at hl 0 rfl) ?_
    refine w_iconst (v := 4) hx hb dX10_takesSet_40 (by decide) ?_
    refine w_aload_n hx hb dX10_takesSet_41 rfl (lv_at hl 0 rfl) ?_
    obtain ⟨v10, ev10, h⟩ := v_bnd h
    refine v_gI (ci := 11) hx hb hts iwX10 hown hK 16 ev10 rfl (by decide) (Or.inl (hts _ kw1351)) (fun _ h9 => h9) dX10_takesSet_42 ?_
    refine w_iconst (v := (-1)) hx hb dX10_takesSet_45 (by decide) ?_
    refine w_icmp_eq (tgt := 53) hx hb dX10_takesSet_46 (by decide) (fun c11 => ?_) (fun c11 => ?_)
    · rw [if_pos c11] at h
      refine w_iconst (v := 0) hx hb dX10_takesSet_53 (by decide) ?_
      exact X10_takesSet_J54p x0 4 0 M9 ls (lv_sub hl [] rfl) h
    · rw [if_neg c11] at h
      refine w_iconst (v := 1) hx hb dX10_takesSet_49 (by decide) ?_
      refine w_goto (tgt := 54) hx hb dX10_takesSet_50 (by decide) ?_
      exact X10_takesSet_J54p x0 4 1 M9 ls (lv_sub hl [] rfl) h
  · rw [if_neg c3] at h
    refine w_aload_n hx hb dX10_takesSet_12 rfl (lv_at hl 0 rfl) ?_
    refine w_iconst (v := 1) hx hb dX10_takesSet_13 (by decide) ?_
    obtain ⟨g8, h⟩ := v_ifs h
    obtain ⟨z13, ez13, h⟩ := v_bnd h
    refine v_call1 (v := .int z13.1) (M1 := z13.2) (mc := 0) (ms := 0) (fun H locs hR hS => va_runV (As := [.int 1]) (rest := []) ⟨hx, hb, hml, hown, hts⟩ (mX10_fails l hfl D x0 1 z1.2 z13 ez13) (cwV 1 hts (gdV kw1452 kw1454 kw34 kw85 kw1455) rfl rfl rfl (by decide +kernel) ⟨Nat.le_of_ble_eq_true rfl, Nat.le_of_ble_eq_true rfl⟩) (v_preV (ci := 11) hSS hR hS g8 (by decide) rfl [.int 1]) rfl rfl hl.1 rfl (lv_room (Nat.le_of_ble_eq_true rfl)) dX10_takesSet_14 ⟨Nat.zero_le _, Nat.zero_le _⟩) ?_
    obtain ⟨g6, h⟩ := v_ifs h
    obtain rfl := Option.some.inj h
    rw [hQ]
    exact v_zret hx hb hr hlk (v_narZ g6) dX10_takesSet_17

def tX10_of (x0 : Nat) (x1 : Int32) (x2 : Int32) (M : vMe) : Option Int32 :=
  (gA M x0 12 1).bind fun a1 =>
  (aI M a1 101 ((62 + (378 * x1)) + x2)).bind fun v2 =>
  some v2
def rmX10_of : Room := { frames := 1, cells := 0, slots := 0, locals := 0 }
set_option maxHeartbeats 4000000 in
set_option maxRecDepth 100000 in
theorem mX10_of (l : Launch) (hfl : l.stackTraces = false) (D : vD) (x0 : Nat) (x1 : Int32) (x2 : Int32) (M : vMe) (z : Int32) (h : tX10_of x0 x1 x2 M = some z) : Met l yX10_of (Cond.code yX10_of cX10_of 3 (some .int) :: TB) rmX10_of (va_Pc [.ref x0, .int x1, .int x2] (vPre D M)) (qW D (some (.int z)) M) 0 0 (vA D) := by
  refine v_ofW (cc := cX10_of) (maxL := 3) (ret := (some .int)) (by decide) (Nat.le_of_ble_eq_true rfl) ?_
  intro p e s m args below meth c Q hx hb hr hml hown hts hlk hnm hSS hR0 hQ ls hl
  have hK := hSS.1
  have hl : lv_has ls 3 [(0, .ref x0), (1, .int x1), (2, .int x2)] := hl
  unfold tX10_of at h
  refine w_aload_n hx hb dX10_of_0 rfl (lv_at hl 0 rfl) ?_
  obtain ⟨a1, ea1, h⟩ := v_bnd h
  refine v_gA (ci := 11) hx hb hts iwX10 hown hK 1 ea1 rfl (by decide) (Or.inl (hts _ kw1336)) (fun _ h9 => h9) dX10_of_1 ?_
  refine w_bipush (v := 62) hx hb dX10_of_4 (by decide) ?_
  refine w_sipush (v := 378) hx hb dX10_of_6 (by decide) ?_
  refine w_iload_n hx hb dX10_of_9 rfl (lv_at hl 1 rfl) ?_
  refine w_imul hx hb dX10_of_10 ?_
  refine w_iadd hx hb dX10_of_11 ?_
  refine w_iload_n hx hb dX10_of_12 rfl (lv_at hl 2 rfl) ?_
  refine w_iadd hx hb dX10_of_13 ?_
  obtain ⟨v2, ev2, h⟩ := v_bnd h
  refine v_iald hx hb hK ev2 dX10_of_14 ?_
  obtain rfl := Option.some.inj h
  rw [hQ]
  exact v_iret hx hb hr hlk dX10_of_15

def tX10_isMember (x0 : Nat) (x1 : Int32) (x2 : Int32) (M : vMe) : Option Int32 :=
  if (M.1 x0).1 = 12 then
  ((tX10_of x0 x1 (70 + x2) M).bind fun z1 =>
  if (M.1 x0).1 = 12 then
  ((tX10_of x0 x1 0 M).bind fun z2 =>
  if z2 ≤ z1 then
  (some 0)
else
  (if (M.1 x0).1 = 12 then
  ((tX10_of x0 x1 (6 + z1) M).bind fun z4 =>
  if z4 = x2 then
  (some 1)
else
  (some 0))
else none))
else none)
else none
def rmX10_isMember : Room := { frames := 2, cells := 0, slots := 0, locals := 22 }
set_option maxHeartbeats 4000000 in
set_option maxRecDepth 100000 in
theorem mX10_isMember (l : Launch) (hfl : l.stackTraces = false) (D : vD) (x0 : Nat) (x1 : Int32) (x2 : Int32) (M : vMe) (z : Int32) (h : tX10_isMember x0 x1 x2 M = some z) : Met l yX10_isMember (Cond.code yX10_isMember cX10_isMember 4 (some .boolean) :: TB) rmX10_isMember (va_Pc [.ref x0, .int x1, .int x2] (vPre D M)) (qW D (some (.int z)) M) 0 0 (vA D) := by
  refine v_ofW (cc := cX10_isMember) (maxL := 4) (ret := (some .boolean)) (by decide) (Nat.le_of_ble_eq_true rfl) ?_
  intro p e s m args below meth c Q hx hb hr hml hown hts hlk hnm hSS hR0 hQ ls hl
  have hK := hSS.1
  have hl : lv_has ls 4 [(0, .ref x0), (1, .int x1), (2, .int x2)] := hl
  unfold tX10_isMember at h
  refine w_aload_n hx hb dX10_isMember_0 rfl (lv_at hl 0 rfl) ?_
  refine w_iload_n hx hb dX10_isMember_1 rfl (lv_at hl 1 rfl) ?_
  refine w_bipush (v := 70) hx hb dX10_isMember_2 (by decide) ?_
  refine w_iload_n hx hb dX10_isMember_4 rfl (lv_at hl 2 rfl) ?_
  refine w_iadd hx hb dX10_isMember_5 ?_
  obtain ⟨g8, h⟩ := v_ifs h
  obtain ⟨z1, ez1, h⟩ := v_bnd h
  refine v_call1 (v := .int z1) (M1 := M) (mc := 0) (ms := 0) (fun H locs hR hS => va_runV (As := [.int x1, .int (70 + x2)]) (rest := []) ⟨hx, hb, hml, hown, hts⟩ (mX10_of l hfl D x0 x1 (70 + x2) M z1 ez1) (cwV 2 hts (gdV kw1497 kw1499 kw44 kw85 kw1500) rfl rfl rfl (by decide +kernel) ⟨Nat.le_of_ble_eq_true rfl, Nat.le_of_ble_eq_true rfl⟩) (v_preV (ci := 11) hSS hR hS g8 (by decide) rfl [.int x1, .int (70 + x2)]) rfl rfl hl.1 rfl (lv_room (Nat.le_of_ble_eq_true rfl)) dX10_isMember_6 ⟨Nat.zero_le _, Nat.zero_le _⟩) ?_
  refine w_istore_n (lv' := [(3, .int z1), (0, .ref x0), (1, .int x1), (2, .int x2)]) hx hb dX10_isMember_9 rfl hl (by decide) rfl (fun ls hl => ?_)
  have hl : lv_has ls 4 [(0, .ref x0), (1, .int x1), (2, .int x2), (3, .int z1)] := lv_sub hl [1, 2, 3, 0] rfl
  refine w_iload_n hx hb dX10_isMember_10 rfl (lv_at hl 3 rfl) ?_
  refine w_aload_n hx hb dX10_isMember_11 rfl (lv_at hl 0 rfl) ?_
  refine w_iload_n hx hb dX10_isMember_12 rfl (lv_at hl 1 rfl) ?_
  refine w_iconst (v := 0) hx hb dX10_isMember_13 (by decide) ?_
  obtain ⟨g8, h⟩ := v_ifs h
  obtain ⟨z2, ez2, h⟩ := v_bnd h
  refine v_call1 (v := .int z2) (M1 := M) (mc := 0) (ms := 0) (fun H locs hR hS => va_runV (As := [.int x1, .int 0]) (rest := [.int z1]) ⟨hx, hb, hml, hown, hts⟩ (mX10_of l hfl D x0 x1 0 M z2 ez2) (cwV 2 hts (gdV kw1497 kw1499 kw44 kw85 kw1500) rfl rfl rfl (by decide +kernel) ⟨Nat.le_of_ble_eq_true rfl, Nat.le_of_ble_eq_true rfl⟩) (v_preV (ci := 11) hSS hR hS g8 (by decide) rfl [.int x1, .int 0]) rfl rfl hl.1 rfl (lv_room (Nat.le_of_ble_eq_true rfl)) dX10_isMember_14 ⟨Nat.zero_le _, Nat.zero_le _⟩) ?_
  refine w_icmp_ge (tgt := 37) hx hb dX10_isMember_17 (by decide) (fun c3 => ?_) (fun c3 => ?_)
  · rw [if_pos c3] at h
    refine w_iconst (v := 0) hx hb dX10_isMember_37 (by decide) ?_
    obtain rfl := Option.some.inj h
    rw [hQ]
    exact v_zret (x := 0) hx hb hr hlk rfl dX10_isMember_38
  · rw [if_neg c3] at h
    refine w_aload_n hx hb dX10_isMember_20 rfl (lv_at hl 0 rfl) ?_
    refine w_iload_n hx hb dX10_isMember_21 rfl (lv_at hl 1 rfl) ?_
    refine w_bipush (v := 6) hx hb dX10_isMember_22 (by decide) ?_
    refine w_iload_n hx hb dX10_isMember_24 rfl (lv_at hl 3 rfl) ?_
    refine w_iadd hx hb dX10_isMember_25 ?_
    obtain ⟨g8, h⟩ := v_ifs h
    obtain ⟨z4, ez4, h⟩ := v_bnd h
    refine v_call1 (v := .int z4) (M1 := M) (mc := 0) (ms := 0) (fun H locs hR hS => va_runV (As := [.int x1, .int (6 + z1)]) (rest := []) ⟨hx, hb, hml, hown, hts⟩ (mX10_of l hfl D x0 x1 (6 + z1) M z4 ez4) (cwV 2 hts (gdV kw1497 kw1499 kw44 kw85 kw1500) rfl rfl rfl (by decide +kernel) ⟨Nat.le_of_ble_eq_true rfl, Nat.le_of_ble_eq_true rfl⟩) (v_preV (ci := 11) hSS hR hS g8 (by decide) rfl [.int x1, .int (6 + z1)]) rfl rfl hl.1 rfl (lv_room (Nat.le_of_ble_eq_true rfl)) dX10_isMember_26 ⟨Nat.zero_le _, Nat.zero_le _⟩) ?_
    refine w_iload_n hx hb dX10_isMember_29 rfl (lv_at hl 2 rfl) ?_
    refine w_icmp_ne (tgt := 37) hx hb dX10_isMember_30 (by decide) (fun c5 => ?_) (fun c5 => ?_)
    · rw [if_pos c5] at h
      refine w_iconst (v := 1) hx hb dX10_isMember_33 (by decide) ?_
      refine w_goto (tgt := 38) hx hb dX10_isMember_34 (by decide) ?_
      obtain rfl := Option.some.inj h
      rw [hQ]
      exact v_zret (x := 1) hx hb hr hlk rfl dX10_isMember_38
    · rw [if_neg c5] at h
      refine w_iconst (v := 0) hx hb dX10_isMember_37 (by decide) ?_
      obtain rfl := Option.some.inj h
      rw [hQ]
      exact v_zret (x := 0) hx hb hr hlk rfl dX10_isMember_38

def tX10_sets (x0 : Nat) (x1 : Int32) (x2 : Int32) (x3 : Int32) (M : vMe) : Option (Unit × vMe) :=
  (gA M x0 12 1).bind fun a1 =>
  (sA M a1 101 ((62 + (378 * x1)) + x2) (.int x3)).bind fun M2 =>
  some ((), M2)
def rmX10_sets : Room := { frames := 1, cells := 0, slots := 0, locals := 0 }
set_option maxHeartbeats 4000000 in
set_option maxRecDepth 100000 in
theorem mX10_sets (l : Launch) (hfl : l.stackTraces = false) (D : vD) (x0 : Nat) (x1 : Int32) (x2 : Int32) (x3 : Int32) (M : vMe) (z : (Unit × vMe)) (h : tX10_sets x0 x1 x2 x3 M = some z) : Met l yX10_sets (Cond.code yX10_sets cX10_sets 4 none :: TB) rmX10_sets (va_Pc [.ref x0, .int x1, .int x2, .int x3] (vPre D M)) (qW D none z.2) 0 0 (vA D) := by
  refine v_ofW (cc := cX10_sets) (maxL := 4) (ret := none) (by decide) (Nat.le_of_ble_eq_true rfl) ?_
  intro p e s m args below meth c Q hx hb hr hml hown hts hlk hnm hSS hR0 hQ ls hl
  have hK := hSS.1
  have hl : lv_has ls 4 [(0, .ref x0), (1, .int x1), (2, .int x2), (3, .int x3)] := hl
  unfold tX10_sets at h
  refine w_aload_n hx hb dX10_sets_0 rfl (lv_at hl 0 rfl) ?_
  obtain ⟨a1, ea1, h⟩ := v_bnd h
  refine v_gA (ci := 11) hx hb hts iwX10 hown hK 1 ea1 rfl (by decide) (Or.inl (hts _ kw1336)) (fun _ h9 => h9) dX10_sets_1 ?_
  refine w_bipush (v := 62) hx hb dX10_sets_4 (by decide) ?_
  refine w_sipush (v := 378) hx hb dX10_sets_6 (by decide) ?_
  refine w_iload_n hx hb dX10_sets_9 rfl (lv_at hl 1 rfl) ?_
  refine w_imul hx hb dX10_sets_10 ?_
  refine w_iadd hx hb dX10_sets_11 ?_
  refine w_iload_n hx hb dX10_sets_12 rfl (lv_at hl 2 rfl) ?_
  refine w_iadd hx hb dX10_sets_13 ?_
  refine w_iload_n hx hb dX10_sets_14 rfl (lv_at hl 3 rfl) ?_
  obtain ⟨M2, eM2, h⟩ := v_bnd h
  refine v_iast hx hb hK eM2 dX10_sets_15 ?_
  obtain rfl := Option.some.inj h
  rw [hQ]
  exact v_vret hx hb hr hlk dX10_sets_16

def tX10_lay (x0 : Nat) (x1 : Int32) (x2 : Int32) (x3 : Int32) (M : vMe) : Option (Unit × vMe) :=
  if (M.1 x0).1 = 12 then
  ((tX10_sets x0 x1 (6 + x3) x2 M).bind fun z1 =>
  if (z1.2.1 x0).1 = 12 then
  ((tX10_sets x0 x1 (70 + x2) x3 z1.2).bind fun z2 =>
  (gA z2.2 x0 12 1).bind fun a3 =>
  (aI z2.2 a3 101 5).bind fun v4 =>
  (sA z2.2 a3 101 5 (.int (v4 + 2))).bind fun M5 =>
  some ((), M5))
else none)
else none
def rmX10_lay : Room := { frames := 2, cells := 0, slots := 0, locals := 23 }
set_option maxHeartbeats 4000000 in
set_option maxRecDepth 100000 in
theorem mX10_lay (l : Launch) (hfl : l.stackTraces = false) (D : vD) (x0 : Nat) (x1 : Int32) (x2 : Int32) (x3 : Int32) (M : vMe) (z : (Unit × vMe)) (h : tX10_lay x0 x1 x2 x3 M = some z) : Met l yX10_lay (Cond.code yX10_lay cX10_lay 4 none :: TB) rmX10_lay (va_Pc [.ref x0, .int x1, .int x2, .int x3] (vPre D M)) (qW D none z.2) 0 0 (vA D) := by
  refine v_ofW (cc := cX10_lay) (maxL := 4) (ret := none) (by decide) (Nat.le_of_ble_eq_true rfl) ?_
  intro p e s m args below meth c Q hx hb hr hml hown hts hlk hnm hSS hR0 hQ ls hl
  have hK := hSS.1
  have hl : lv_has ls 4 [(0, .ref x0), (1, .int x1), (2, .int x2), (3, .int x3)] := hl
  unfold tX10_lay at h
  refine w_aload_n hx hb dX10_lay_0 rfl (lv_at hl 0 rfl) ?_
  refine w_iload_n hx hb dX10_lay_1 rfl (lv_at hl 1 rfl) ?_
  refine w_bipush (v := 6) hx hb dX10_lay_2 (by decide) ?_
  refine w_iload_n hx hb dX10_lay_4 rfl (lv_at hl 3 rfl) ?_
  refine w_iadd hx hb dX10_lay_5 ?_
  refine w_iload_n hx hb dX10_lay_6 rfl (lv_at hl 2 rfl) ?_
  obtain ⟨g8, h⟩ := v_ifs h
  obtain ⟨z1, ez1, h⟩ := v_bnd h
  refine v_call0 (M1 := z1.2) (mc := 0) (ms := 0) (fun H locs hR hS => va_runV (As := [.int x1, .int (6 + x3), .int x2]) (rest := []) ⟨hx, hb, hml, hown, hts⟩ (mX10_sets l hfl D x0 x1 (6 + x3) x2 M z1 ez1) (cwV 3 hts (gdV kw1505 kw1507 kw46 kw85 kw1508) rfl rfl rfl (by decide +kernel) ⟨Nat.le_of_ble_eq_true rfl, Nat.le_of_ble_eq_true rfl⟩) (v_preV (ci := 11) hSS hR hS g8 (by decide) rfl [.int x1, .int (6 + x3), .int x2]) rfl rfl hl.1 rfl (lv_room (Nat.le_of_ble_eq_true rfl)) dX10_lay_7 ⟨Nat.zero_le _, Nat.zero_le _⟩) ?_
  refine w_aload_n hx hb dX10_lay_10 rfl (lv_at hl 0 rfl) ?_
  refine w_iload_n hx hb dX10_lay_11 rfl (lv_at hl 1 rfl) ?_
  refine w_bipush (v := 70) hx hb dX10_lay_12 (by decide) ?_
  refine w_iload_n hx hb dX10_lay_14 rfl (lv_at hl 2 rfl) ?_
  refine w_iadd hx hb dX10_lay_15 ?_
  refine w_iload_n hx hb dX10_lay_16 rfl (lv_at hl 3 rfl) ?_
  obtain ⟨g8, h⟩ := v_ifs h
  obtain ⟨z2, ez2, h⟩ := v_bnd h
  refine v_call0 (M1 := z2.2) (mc := 0) (ms := 0) (fun H locs hR hS => va_runV (As := [.int x1, .int (70 + x2), .int x3]) (rest := []) ⟨hx, hb, hml, hown, hts⟩ (mX10_sets l hfl D x0 x1 (70 + x2) x3 z1.2 z2 ez2) (cwV 3 hts (gdV kw1505 kw1507 kw46 kw85 kw1508) rfl rfl rfl (by decide +kernel) ⟨Nat.le_of_ble_eq_true rfl, Nat.le_of_ble_eq_true rfl⟩) (v_preV (ci := 11) hSS hR hS g8 (by decide) rfl [.int x1, .int (70 + x2), .int x3]) rfl rfl hl.1 rfl (lv_room (Nat.le_of_ble_eq_true rfl)) dX10_lay_17 ⟨Nat.zero_le _, Nat.zero_le _⟩) ?_
  refine w_aload_n hx hb dX10_lay_20 rfl (lv_at hl 0 rfl) ?_
  obtain ⟨a3, ea3, h⟩ := v_bnd h
  refine v_gA (ci := 11) hx hb hts iwX10 hown hK 1 ea3 rfl (by decide) (Or.inl (hts _ kw1336)) (fun _ h9 => h9) dX10_lay_21 ?_
  refine w_iconst (v := 5) hx hb dX10_lay_24 (by decide) ?_
  refine w_dup2_11 hx hb dX10_lay_25 rfl rfl ?_
  obtain ⟨v4, ev4, h⟩ := v_bnd h
  refine v_iald hx hb hK ev4 dX10_lay_26 ?_
  refine w_iconst (v := 2) hx hb dX10_lay_27 (by decide) ?_
  refine w_iadd hx hb dX10_lay_28 ?_
  obtain ⟨M5, eM5, h⟩ := v_bnd h
  refine v_iast hx hb hK eM5 dX10_lay_29 ?_
  obtain rfl := Option.some.inj h
  rw [hQ]
  exact v_vret hx hb hr hlk dX10_lay_30

def tX10_base (x0 : Nat) (x1 : Int32) (M : vMe) : Option Int64 :=
  if (M.1 x0).1 = 12 then
  ((tX10_of x0 x1 5 M).bind fun z1 =>
  if (M.1 x0).1 = 12 then
  ((tX10_of x0 x1 4 M).bind fun z2 =>
  some ((z1.toInt64 <<< ((32 : Int32).toInt64 &&& 63)) ||| (z2.toInt64 &&& 4294967295)))
else none)
else none
def rmX10_base : Room := { frames := 2, cells := 0, slots := 0, locals := 22 }
set_option maxHeartbeats 4000000 in
set_option maxRecDepth 100000 in
theorem mX10_base (l : Launch) (hfl : l.stackTraces = false) (D : vD) (x0 : Nat) (x1 : Int32) (M : vMe) (z : Int64) (h : tX10_base x0 x1 M = some z) : Met l yX10_base (Cond.code yX10_base cX10_base 2 (some .long) :: TB) rmX10_base (va_Pc [.ref x0, .int x1] (vPre D M)) (qW D (some (.long z)) M) 0 0 (vA D) := by
  refine v_ofW (cc := cX10_base) (maxL := 2) (ret := (some .long)) (by decide) (Nat.le_of_ble_eq_true rfl) ?_
  intro p e s m args below meth c Q hx hb hr hml hown hts hlk hnm hSS hR0 hQ ls hl
  have hK := hSS.1
  have hl : lv_has ls 2 [(0, .ref x0), (1, .int x1)] := hl
  unfold tX10_base at h
  refine w_aload_n hx hb dX10_base_0 rfl (lv_at hl 0 rfl) ?_
  refine w_iload_n hx hb dX10_base_1 rfl (lv_at hl 1 rfl) ?_
  refine w_iconst (v := 5) hx hb dX10_base_2 (by decide) ?_
  obtain ⟨g8, h⟩ := v_ifs h
  obtain ⟨z1, ez1, h⟩ := v_bnd h
  refine v_call1 (v := .int z1) (M1 := M) (mc := 0) (ms := 0) (fun H locs hR hS => va_runV (As := [.int x1, .int 5]) (rest := []) ⟨hx, hb, hml, hown, hts⟩ (mX10_of l hfl D x0 x1 5 M z1 ez1) (cwV 2 hts (gdV kw1497 kw1499 kw44 kw85 kw1500) rfl rfl rfl (by decide +kernel) ⟨Nat.le_of_ble_eq_true rfl, Nat.le_of_ble_eq_true rfl⟩) (v_preV (ci := 11) hSS hR hS g8 (by decide) rfl [.int x1, .int 5]) rfl rfl hl.1 rfl (lv_room (Nat.le_of_ble_eq_true rfl)) dX10_base_3 ⟨Nat.zero_le _, Nat.zero_le _⟩) ?_
  refine w_i2l hx hb dX10_base_6 ?_
  refine w_bipush (v := 32) hx hb dX10_base_7 (by decide) ?_
  refine w_lshl hx hb dX10_base_9 ?_
  refine w_aload_n hx hb dX10_base_10 rfl (lv_at hl 0 rfl) ?_
  refine w_iload_n hx hb dX10_base_11 rfl (lv_at hl 1 rfl) ?_
  refine w_iconst (v := 4) hx hb dX10_base_12 (by decide) ?_
  obtain ⟨g8, h⟩ := v_ifs h
  obtain ⟨z2, ez2, h⟩ := v_bnd h
  refine v_call1 (v := .int z2) (M1 := M) (mc := 0) (ms := 0) (fun H locs hR hS => va_runV (As := [.int x1, .int 4]) (rest := [.long (z1.toInt64 <<< ((32 : Int32).toInt64 &&& 63))]) ⟨hx, hb, hml, hown, hts⟩ (mX10_of l hfl D x0 x1 4 M z2 ez2) (cwV 2 hts (gdV kw1497 kw1499 kw44 kw85 kw1500) rfl rfl rfl (by decide +kernel) ⟨Nat.le_of_ble_eq_true rfl, Nat.le_of_ble_eq_true rfl⟩) (v_preV (ci := 11) hSS hR hS g8 (by decide) rfl [.int x1, .int 4]) rfl rfl hl.1 rfl (lv_room (Nat.le_of_ble_eq_true rfl)) dX10_base_13 ⟨Nat.zero_le _, Nat.zero_le _⟩) ?_
  refine w_i2l hx hb dX10_base_16 ?_
  refine w_ldcL hx hb hown (hts _ kw1521) dX10_base_17 ?_
  refine w_land hx hb dX10_base_20 ?_
  refine w_lor hx hb dX10_base_21 ?_
  obtain rfl := Option.some.inj h
  rw [hQ]
  exact v_lret hx hb hr hlk dX10_base_22

def tX10_ofEvent (x0 : Nat) (x1 : Int32) (x2 : Int32) (x3 : Int32) (M : vMe) : Option Int32 :=
  if (M.1 x0).1 = 12 then
  ((tX10_of x0 x1 ((198 + (3 * x2)) + x3) M).bind fun z1 =>
  some z1)
else none
def rmX10_ofEvent : Room := { frames := 2, cells := 0, slots := 0, locals := 22 }
set_option maxHeartbeats 4000000 in
set_option maxRecDepth 100000 in
theorem mX10_ofEvent (l : Launch) (hfl : l.stackTraces = false) (D : vD) (x0 : Nat) (x1 : Int32) (x2 : Int32) (x3 : Int32) (M : vMe) (z : Int32) (h : tX10_ofEvent x0 x1 x2 x3 M = some z) : Met l yX10_ofEvent (Cond.code yX10_ofEvent cX10_ofEvent 4 (some .int) :: TB) rmX10_ofEvent (va_Pc [.ref x0, .int x1, .int x2, .int x3] (vPre D M)) (qW D (some (.int z)) M) 0 0 (vA D) := by
  refine v_ofW (cc := cX10_ofEvent) (maxL := 4) (ret := (some .int)) (by decide) (Nat.le_of_ble_eq_true rfl) ?_
  intro p e s m args below meth c Q hx hb hr hml hown hts hlk hnm hSS hR0 hQ ls hl
  have hK := hSS.1
  have hl : lv_has ls 4 [(0, .ref x0), (1, .int x1), (2, .int x2), (3, .int x3)] := hl
  unfold tX10_ofEvent at h
  refine w_aload_n hx hb dX10_ofEvent_0 rfl (lv_at hl 0 rfl) ?_
  refine w_iload_n hx hb dX10_ofEvent_1 rfl (lv_at hl 1 rfl) ?_
  refine w_sipush (v := 198) hx hb dX10_ofEvent_2 (by decide) ?_
  refine w_iconst (v := 3) hx hb dX10_ofEvent_5 (by decide) ?_
  refine w_iload_n hx hb dX10_ofEvent_6 rfl (lv_at hl 2 rfl) ?_
  refine w_imul hx hb dX10_ofEvent_7 ?_
  refine w_iadd hx hb dX10_ofEvent_8 ?_
  refine w_iload_n hx hb dX10_ofEvent_9 rfl (lv_at hl 3 rfl) ?_
  refine w_iadd hx hb dX10_ofEvent_10 ?_
  obtain ⟨g8, h⟩ := v_ifs h
  obtain ⟨z1, ez1, h⟩ := v_bnd h
  refine v_call1 (v := .int z1) (M1 := M) (mc := 0) (ms := 0) (fun H locs hR hS => va_runV (As := [.int x1, .int ((198 + (3 * x2)) + x3)]) (rest := []) ⟨hx, hb, hml, hown, hts⟩ (mX10_of l hfl D x0 x1 ((198 + (3 * x2)) + x3) M z1 ez1) (cwV 2 hts (gdV kw1497 kw1499 kw44 kw85 kw1500) rfl rfl rfl (by decide +kernel) ⟨Nat.le_of_ble_eq_true rfl, Nat.le_of_ble_eq_true rfl⟩) (v_preV (ci := 11) hSS hR hS g8 (by decide) rfl [.int x1, .int ((198 + (3 * x2)) + x3)]) rfl rfl hl.1 rfl (lv_room (Nat.le_of_ble_eq_true rfl)) dX10_ofEvent_11 ⟨Nat.zero_le _, Nat.zero_le _⟩) ?_
  obtain rfl := Option.some.inj h
  rw [hQ]
  exact v_iret hx hb hr hlk dX10_ofEvent_14

def tX10_behind (x0 : Nat) (x1 : Int64) (x3 : Int32) (x4 : Int32) (M : vMe) : Option Int64 :=
  if (M.1 x0).1 = 12 then
  ((tX10_ofEvent x0 x3 x4 2 M).bind fun z1 =>
  if z1 = (2 : Int32) then
  (some 0)
else
  (if (M.1 x0).1 = 12 then
  ((tX10_ofEvent x0 x3 x4 1 M).bind fun z3 =>
  if z1 = 0 then
  (some (x1 ||| (1 <<< (z3.toInt64 &&& 63))))
else
  (some (x1 &&& ((1 <<< (z3.toInt64 &&& 63)) ^^^ ((-1))))))
else none))
else none
def rmX10_behind : Room := { frames := 3, cells := 0, slots := 0, locals := 45 }
set_option maxHeartbeats 4000000 in
set_option maxRecDepth 100000 in
theorem mX10_behind (l : Launch) (hfl : l.stackTraces = false) (D : vD) (x0 : Nat) (x1 : Int64) (x3 : Int32) (x4 : Int32) (M : vMe) (z : Int64) (h : tX10_behind x0 x1 x3 x4 M = some z) : Met l yX10_behind (Cond.code yX10_behind cX10_behind 8 (some .long) :: TB) rmX10_behind (va_Pc [.ref x0, .long x1, .int x3, .int x4] (vPre D M)) (qW D (some (.long z)) M) 0 0 (vA D) := by
  refine v_ofW (cc := cX10_behind) (maxL := 8) (ret := (some .long)) (by decide) (Nat.le_of_ble_eq_true rfl) ?_
  intro p e s m args below meth c Q hx hb hr hml hown hts hlk hnm hSS hR0 hQ ls hl
  have hK := hSS.1
  have hl : lv_has ls 8 [(0, .ref x0), (1, .long x1), (3, .int x3), (4, .int x4)] := hl
  unfold tX10_behind at h
  refine w_aload_n hx hb dX10_behind_0 rfl (lv_at hl 0 rfl) ?_
  refine w_iload_n hx hb dX10_behind_1 rfl (lv_at hl 2 rfl) ?_
  refine w_iload hx hb dX10_behind_2 (lv_at hl 3 rfl) ?_
  refine w_iconst (v := 2) hx hb dX10_behind_4 (by decide) ?_
  obtain ⟨g8, h⟩ := v_ifs h
  obtain ⟨z1, ez1, h⟩ := v_bnd h
  refine v_call1 (v := .int z1) (M1 := M) (mc := 0) (ms := 0) (fun H locs hR hS => va_runV (As := [.int x3, .int x4, .int 2]) (rest := []) ⟨hx, hb, hml, hown, hts⟩ (mX10_ofEvent l hfl D x0 x3 x4 2 M z1 ez1) (cwV 3 hts (gdV kw1526 kw1528 kw51 kw85 kw1529) rfl rfl rfl (by decide +kernel) ⟨Nat.le_of_ble_eq_true rfl, Nat.le_of_ble_eq_true rfl⟩) (v_preV (ci := 11) hSS hR hS g8 (by decide) rfl [.int x3, .int x4, .int 2]) rfl rfl hl.1 rfl (lv_room (Nat.le_of_ble_eq_true rfl)) dX10_behind_5 ⟨Nat.zero_le _, Nat.zero_le _⟩) ?_
  refine w_istore (lv' := [(5, .int z1), (0, .ref x0), (1, .long x1), (3, .int x3), (4, .int x4)]) hx hb dX10_behind_8 hl (by decide) rfl (fun ls hl => ?_)
  have hl : lv_has ls 8 [(0, .ref x0), (1, .long x1), (3, .int x3), (4, .int x4), (5, .int z1)] := lv_sub hl [1, 2, 3, 4, 0] rfl
  refine w_iload hx hb dX10_behind_10 (lv_at hl 4 rfl) ?_
  refine w_iconst (v := 2) hx hb dX10_behind_12 (by decide) ?_
  refine w_icmp_ne (tgt := 18) hx hb dX10_behind_13 (by decide) (fun c2 => ?_) (fun c2 => ?_)
  · rw [if_pos c2] at h
    refine w_lconst (v := 0) hx hb dX10_behind_16 (by decide) ?_
    obtain rfl := Option.some.inj h
    rw [hQ]
    exact v_lret hx hb hr hlk dX10_behind_17
  · rw [if_neg c2] at h
    refine w_lconst (v := 1) hx hb dX10_behind_18 (by decide) ?_
    refine w_aload_n hx hb dX10_behind_19 rfl (lv_at hl 0 rfl) ?_
    refine w_iload_n hx hb dX10_behind_20 rfl (lv_at hl 2 rfl) ?_
    refine w_iload hx hb dX10_behind_21 (lv_at hl 3 rfl) ?_
    refine w_iconst (v := 1) hx hb dX10_behind_23 (by decide) ?_
    obtain ⟨g8, h⟩ := v_ifs h
    obtain ⟨z3, ez3, h⟩ := v_bnd h
    refine v_call1 (v := .int z3) (M1 := M) (mc := 0) (ms := 0) (fun H locs hR hS => va_runV (As := [.int x3, .int x4, .int 1]) (rest := [.long 1]) ⟨hx, hb, hml, hown, hts⟩ (mX10_ofEvent l hfl D x0 x3 x4 1 M z3 ez3) (cwV 3 hts (gdV kw1526 kw1528 kw51 kw85 kw1529) rfl rfl rfl (by decide +kernel) ⟨Nat.le_of_ble_eq_true rfl, Nat.le_of_ble_eq_true rfl⟩) (v_preV (ci := 11) hSS hR hS g8 (by decide) rfl [.int x3, .int x4, .int 1]) rfl rfl hl.1 rfl (lv_room (Nat.le_of_ble_eq_true rfl)) dX10_behind_24 ⟨Nat.zero_le _, Nat.zero_le _⟩) ?_
    refine w_lshl hx hb dX10_behind_27 ?_
    refine w_lstore (lv' := [(6, .long (1 <<< (z3.toInt64 &&& 63))), (0, .ref x0), (1, .long x1), (3, .int x3), (4, .int x4), (5, .int z1)]) hx hb dX10_behind_28 hl (by decide) rfl (fun ls hl => ?_)
    have hl : lv_has ls 8 [(0, .ref x0), (1, .long x1), (3, .int x3), (4, .int x4), (5, .int z1), (6, .long (1 <<< (z3.toInt64 &&& 63)))] := lv_sub hl [1, 2, 3, 4, 5, 0] rfl
    refine w_iload hx hb dX10_behind_30 (lv_at hl 4 rfl) ?_
    refine w_if_ne (tgt := 42) hx hb dX10_behind_32 (by decide) (fun c4 => ?_) (fun c4 => ?_)
    · rw [if_pos c4] at h
      refine w_lload_n hx hb dX10_behind_35 rfl (lv_at hl 1 rfl) ?_
      refine w_lload hx hb dX10_behind_36 (lv_at hl 5 rfl) ?_
      refine w_lor hx hb dX10_behind_38 ?_
      refine w_goto (tgt := 50) hx hb dX10_behind_39 (by decide) ?_
      obtain rfl := Option.some.inj h
      rw [hQ]
      exact v_lret hx hb hr hlk dX10_behind_50
    · rw [if_neg c4] at h
      refine w_lload_n hx hb dX10_behind_42 rfl (lv_at hl 1 rfl) ?_
      refine w_lload hx hb dX10_behind_43 (lv_at hl 5 rfl) ?_
      refine w_ldcL hx hb hown (hts _ kw1530) dX10_behind_45 ?_
      refine w_lxor hx hb dX10_behind_48 ?_
      refine w_land hx hb dX10_behind_49 ?_
      obtain rfl := Option.some.inj h
      rw [hQ]
      exact v_lret hx hb hr hlk dX10_behind_50

def tX10_setsEvent (x0 : Nat) (x1 : Int32) (x2 : Int32) (x3 : Int32) (x4 : Int32) (x5 : Int32) (M : vMe) : Option (Unit × vMe) :=
  if (M.1 x0).1 = 12 then
  ((tX10_sets x0 x1 (198 + (3 * x2)) x3 M).bind fun z1 =>
  if (z1.2.1 x0).1 = 12 then
  ((tX10_sets x0 x1 ((198 + (3 * x2)) + 1) x4 z1.2).bind fun z2 =>
  if (z2.2.1 x0).1 = 12 then
  ((tX10_sets x0 x1 ((198 + (3 * x2)) + 2) x5 z2.2).bind fun z3 =>
  some ((), z3.2))
else none)
else none)
else none
def rmX10_setsEvent : Room := { frames := 2, cells := 0, slots := 0, locals := 23 }
set_option maxHeartbeats 4000000 in
set_option maxRecDepth 100000 in
theorem mX10_setsEvent (l : Launch) (hfl : l.stackTraces = false) (D : vD) (x0 : Nat) (x1 : Int32) (x2 : Int32) (x3 : Int32) (x4 : Int32) (x5 : Int32) (M : vMe) (z : (Unit × vMe)) (h : tX10_setsEvent x0 x1 x2 x3 x4 x5 M = some z) : Met l yX10_setsEvent (Cond.code yX10_setsEvent cX10_setsEvent 6 none :: TB) rmX10_setsEvent (va_Pc [.ref x0, .int x1, .int x2, .int x3, .int x4, .int x5] (vPre D M)) (qW D none z.2) 0 0 (vA D) := by
  refine v_ofW (cc := cX10_setsEvent) (maxL := 6) (ret := none) (by decide) (Nat.le_of_ble_eq_true rfl) ?_
  intro p e s m args below meth c Q hx hb hr hml hown hts hlk hnm hSS hR0 hQ ls hl
  have hK := hSS.1
  have hl : lv_has ls 6 [(0, .ref x0), (1, .int x1), (2, .int x2), (3, .int x3), (4, .int x4), (5, .int x5)] := hl
  unfold tX10_setsEvent at h
  refine w_aload_n hx hb dX10_setsEvent_0 rfl (lv_at hl 0 rfl) ?_
  refine w_iload_n hx hb dX10_setsEvent_1 rfl (lv_at hl 1 rfl) ?_
  refine w_sipush (v := 198) hx hb dX10_setsEvent_2 (by decide) ?_
  refine w_iconst (v := 3) hx hb dX10_setsEvent_5 (by decide) ?_
  refine w_iload_n hx hb dX10_setsEvent_6 rfl (lv_at hl 2 rfl) ?_
  refine w_imul hx hb dX10_setsEvent_7 ?_
  refine w_iadd hx hb dX10_setsEvent_8 ?_
  refine w_iload_n hx hb dX10_setsEvent_9 rfl (lv_at hl 3 rfl) ?_
  obtain ⟨g8, h⟩ := v_ifs h
  obtain ⟨z1, ez1, h⟩ := v_bnd h
  refine v_call0 (M1 := z1.2) (mc := 0) (ms := 0) (fun H locs hR hS => va_runV (As := [.int x1, .int (198 + (3 * x2)), .int x3]) (rest := []) ⟨hx, hb, hml, hown, hts⟩ (mX10_sets l hfl D x0 x1 (198 + (3 * x2)) x3 M z1 ez1) (cwV 3 hts (gdV kw1505 kw1507 kw46 kw85 kw1508) rfl rfl rfl (by decide +kernel) ⟨Nat.le_of_ble_eq_true rfl, Nat.le_of_ble_eq_true rfl⟩) (v_preV (ci := 11) hSS hR hS g8 (by decide) rfl [.int x1, .int (198 + (3 * x2)), .int x3]) rfl rfl hl.1 rfl (lv_room (Nat.le_of_ble_eq_true rfl)) dX10_setsEvent_10 ⟨Nat.zero_le _, Nat.zero_le _⟩) ?_
  refine w_aload_n hx hb dX10_setsEvent_13 rfl (lv_at hl 0 rfl) ?_
  refine w_iload_n hx hb dX10_setsEvent_14 rfl (lv_at hl 1 rfl) ?_
  refine w_sipush (v := 198) hx hb dX10_setsEvent_15 (by decide) ?_
  refine w_iconst (v := 3) hx hb dX10_setsEvent_18 (by decide) ?_
  refine w_iload_n hx hb dX10_setsEvent_19 rfl (lv_at hl 2 rfl) ?_
  refine w_imul hx hb dX10_setsEvent_20 ?_
  refine w_iadd hx hb dX10_setsEvent_21 ?_
  refine w_iconst (v := 1) hx hb dX10_setsEvent_22 (by decide) ?_
  refine w_iadd hx hb dX10_setsEvent_23 ?_
  refine w_iload hx hb dX10_setsEvent_24 (lv_at hl 4 rfl) ?_
  obtain ⟨g8, h⟩ := v_ifs h
  obtain ⟨z2, ez2, h⟩ := v_bnd h
  refine v_call0 (M1 := z2.2) (mc := 0) (ms := 0) (fun H locs hR hS => va_runV (As := [.int x1, .int ((198 + (3 * x2)) + 1), .int x4]) (rest := []) ⟨hx, hb, hml, hown, hts⟩ (mX10_sets l hfl D x0 x1 ((198 + (3 * x2)) + 1) x4 z1.2 z2 ez2) (cwV 3 hts (gdV kw1505 kw1507 kw46 kw85 kw1508) rfl rfl rfl (by decide +kernel) ⟨Nat.le_of_ble_eq_true rfl, Nat.le_of_ble_eq_true rfl⟩) (v_preV (ci := 11) hSS hR hS g8 (by decide) rfl [.int x1, .int ((198 + (3 * x2)) + 1), .int x4]) rfl rfl hl.1 rfl (lv_room (Nat.le_of_ble_eq_true rfl)) dX10_setsEvent_26 ⟨Nat.zero_le _, Nat.zero_le _⟩) ?_
  refine w_aload_n hx hb dX10_setsEvent_29 rfl (lv_at hl 0 rfl) ?_
  refine w_iload_n hx hb dX10_setsEvent_30 rfl (lv_at hl 1 rfl) ?_
  refine w_sipush (v := 198) hx hb dX10_setsEvent_31 (by decide) ?_
  refine w_iconst (v := 3) hx hb dX10_setsEvent_34 (by decide) ?_
  refine w_iload_n hx hb dX10_setsEvent_35 rfl (lv_at hl 2 rfl) ?_
  refine w_imul hx hb dX10_setsEvent_36 ?_
  refine w_iadd hx hb dX10_setsEvent_37 ?_
  refine w_iconst (v := 2) hx hb dX10_setsEvent_38 (by decide) ?_
  refine w_iadd hx hb dX10_setsEvent_39 ?_
  refine w_iload hx hb dX10_setsEvent_40 (lv_at hl 5 rfl) ?_
  obtain ⟨g8, h⟩ := v_ifs h
  obtain ⟨z3, ez3, h⟩ := v_bnd h
  refine v_call0 (M1 := z3.2) (mc := 0) (ms := 0) (fun H locs hR hS => va_runV (As := [.int x1, .int ((198 + (3 * x2)) + 2), .int x5]) (rest := []) ⟨hx, hb, hml, hown, hts⟩ (mX10_sets l hfl D x0 x1 ((198 + (3 * x2)) + 2) x5 z2.2 z3 ez3) (cwV 3 hts (gdV kw1505 kw1507 kw46 kw85 kw1508) rfl rfl rfl (by decide +kernel) ⟨Nat.le_of_ble_eq_true rfl, Nat.le_of_ble_eq_true rfl⟩) (v_preV (ci := 11) hSS hR hS g8 (by decide) rfl [.int x1, .int ((198 + (3 * x2)) + 2), .int x5]) rfl rfl hl.1 rfl (lv_room (Nat.le_of_ble_eq_true rfl)) dX10_setsEvent_42 ⟨Nat.zero_le _, Nat.zero_le _⟩) ?_
  obtain rfl := Option.some.inj h
  rw [hQ]
  exact v_vret hx hb hr hlk dX10_setsEvent_45

def tX10_forgets_L65 (x0 : Nat) (x1 : Int32) (x4 : Int32) : Nat → Int32 → vMe → Option (Unit × vMe)
  | 0, _, _ => none
  | f + 1, x5, Mi =>
  if x4 ≤ x5 then
  (some ((), Mi))
else
  (if (Mi.1 x0).1 = 12 then
  ((tX10_ofEvent x0 x1 (x5 + 1) 0 Mi).bind fun z15 =>
  if (Mi.1 x0).1 = 12 then
  ((tX10_ofEvent x0 x1 (x5 + 1) 1 Mi).bind fun z16 =>
  if (Mi.1 x0).1 = 12 then
  ((tX10_ofEvent x0 x1 (x5 + 1) 2 Mi).bind fun z17 =>
  if (Mi.1 x0).1 = 12 then
  ((tX10_setsEvent x0 x1 x5 z15 z16 z17 Mi).bind fun z18 =>
  tX10_forgets_L65 x0 x1 x4 f (x5 + 1) z18.2)
else none)
else none)
else none)
else none)
def tX10_forgets (x0 : Nat) (x1 : Int32) (M : vMe) : Option (Unit × vMe) :=
  if (M.1 x0).1 = 12 then
  ((tX10_base x0 x1 M).bind fun z1 =>
  if (M.1 x0).1 = 12 then
  ((tX10_behind x0 z1 x1 0 M).bind fun z2 =>
  if (M.1 x0).1 = 12 then
  ((tX10_sets x0 x1 4 z2.toInt32 M).bind fun z3 =>
  if (z3.2.1 x0).1 = 12 then
  ((tX10_sets x0 x1 5 ((z2 >>> ((32 : Int32).toInt64 &&& 63)).toInt32) z3.2).bind fun z4 =>
  if (z4.2.1 x0).1 = 12 then
  ((tX10_ofEvent x0 x1 0 0 z4.2).bind fun z5 =>
  if (z4.2.1 x0).1 = 12 then
  ((tX10_sets x0 x1 2 z5 z4.2).bind fun z6 =>
  if (z6.2.1 x0).1 = 12 then
  ((tX10_of x0 x1 3 z6.2).bind fun z7 =>
  if (z6.2.1 x0).1 = 12 then
  ((tX10_sets x0 x1 3 (z7 - 1) z6.2).bind fun z8 =>
  (tX10_forgets_L65 x0 x1 (z7 - 1) vF 0 z8.2).bind fun z19 =>
  some ((), z19.2))
else none)
else none)
else none)
else none)
else none)
else none)
else none)
else none
def rmX10_forgets : Room := { frames := 4, cells := 0, slots := 0, locals := 72 }
set_option maxHeartbeats 4000000 in
set_option maxRecDepth 100000 in
theorem mX10_forgets (l : Launch) (hfl : l.stackTraces = false) (D : vD) (x0 : Nat) (x1 : Int32) (M : vMe) (z : (Unit × vMe)) (h : tX10_forgets x0 x1 M = some z) : Met l yX10_forgets (Cond.code yX10_forgets cX10_forgets 6 none :: TB) rmX10_forgets (va_Pc [.ref x0, .int x1] (vPre D M)) (qW D none z.2) 0 0 (vA D) := by
  refine v_ofW (cc := cX10_forgets) (maxL := 6) (ret := none) (by decide) (Nat.le_of_ble_eq_true rfl) ?_
  intro p e s m args below meth c Q hx hb hr hml hown hts hlk hnm hSS hR0 hQ ls hl
  have hK := hSS.1
  have hl : lv_has ls 6 [(0, .ref x0), (1, .int x1)] := hl
  unfold tX10_forgets at h
  have X10_forgets_L65p : ∀ (x0 : Nat) (x1 : Int32) (x4 : Int32), ∀ (f : Nat) (x5 : Int32) (Mi : vMe) (ls : Array Slot) (z : (Unit × vMe)), lv_has ls 6 [(0, .ref x0), (1, .int x1), (4, .int x4), (5, .int x5)] → tX10_forgets_L65 x0 x1 x4 f x5 Mi = some z → (∀ ls : Array Slot, lv_has ls 6 [] → vV D p l e rmX10_forgets s m args below meth c 0 0 Q z.2 (F0 m 115 ls [])) → vV D p l e rmX10_forgets s m args below meth c 0 0 Q Mi (F0 m 65 ls []) := by
    intro x0 x1 x4 f
    induction f with
    | zero =>
      intro x5 Mi ls z hl h
      exact absurd h (by simp [tX10_forgets_L65])
    | succ f ih =>
      intro x5 Mi ls z hl h KX
      rw [tX10_forgets_L65] at h
      refine w_iload hx hb dX10_forgets_65 (lv_at hl 3 rfl) ?_
      refine w_iload hx hb dX10_forgets_67 (lv_at hl 2 rfl) ?_
      refine w_icmp_ge (tgt := 115) hx hb dX10_forgets_69 (by decide) (fun c14 => ?_) (fun c14 => ?_)
      · rw [if_pos c14] at h
        obtain rfl := Option.some.inj h
        exact KX ls (lv_sub hl [] rfl)
      · rw [if_neg c14] at h
        refine w_aload_n hx hb dX10_forgets_72 rfl (lv_at hl 0 rfl) ?_
        refine w_iload_n hx hb dX10_forgets_73 rfl (lv_at hl 1 rfl) ?_
        refine w_iload hx hb dX10_forgets_74 (lv_at hl 3 rfl) ?_
        refine w_aload_n hx hb dX10_forgets_76 rfl (lv_at hl 0 rfl) ?_
        refine w_iload_n hx hb dX10_forgets_77 rfl (lv_at hl 1 rfl) ?_
        refine w_iload hx hb dX10_forgets_78 (lv_at hl 3 rfl) ?_
        refine w_iconst (v := 1) hx hb dX10_forgets_80 (by decide) ?_
        refine w_iadd hx hb dX10_forgets_81 ?_
        refine w_iconst (v := 0) hx hb dX10_forgets_82 (by decide) ?_
        obtain ⟨g8, h⟩ := v_ifs h
        obtain ⟨z15, ez15, h⟩ := v_bnd h
        refine v_call1 (v := .int z15) (M1 := Mi) (mc := 0) (ms := 0) (fun H locs hR hS => va_runV (As := [.int x1, .int (x5 + 1), .int 0]) (rest := [.int x5, .int x1, .ref x0]) ⟨hx, hb, hml, hown, hts⟩ (mX10_ofEvent l hfl D x0 x1 (x5 + 1) 0 Mi z15 ez15) (cwV 3 hts (gdV kw1526 kw1528 kw51 kw85 kw1529) rfl rfl rfl (by decide +kernel) ⟨Nat.le_of_ble_eq_true rfl, Nat.le_of_ble_eq_true rfl⟩) (v_preV (ci := 11) hSS hR hS g8 (by decide) rfl [.int x1, .int (x5 + 1), .int 0]) rfl rfl hl.1 rfl (lv_room (Nat.le_of_ble_eq_true rfl)) dX10_forgets_83 ⟨Nat.zero_le _, Nat.zero_le _⟩) ?_
        refine w_aload_n hx hb dX10_forgets_86 rfl (lv_at hl 0 rfl) ?_
        refine w_iload_n hx hb dX10_forgets_87 rfl (lv_at hl 1 rfl) ?_
        refine w_iload hx hb dX10_forgets_88 (lv_at hl 3 rfl) ?_
        refine w_iconst (v := 1) hx hb dX10_forgets_90 (by decide) ?_
        refine w_iadd hx hb dX10_forgets_91 ?_
        refine w_iconst (v := 1) hx hb dX10_forgets_92 (by decide) ?_
        obtain ⟨g8, h⟩ := v_ifs h
        obtain ⟨z16, ez16, h⟩ := v_bnd h
        refine v_call1 (v := .int z16) (M1 := Mi) (mc := 0) (ms := 0) (fun H locs hR hS => va_runV (As := [.int x1, .int (x5 + 1), .int 1]) (rest := [.int z15, .int x5, .int x1, .ref x0]) ⟨hx, hb, hml, hown, hts⟩ (mX10_ofEvent l hfl D x0 x1 (x5 + 1) 1 Mi z16 ez16) (cwV 3 hts (gdV kw1526 kw1528 kw51 kw85 kw1529) rfl rfl rfl (by decide +kernel) ⟨Nat.le_of_ble_eq_true rfl, Nat.le_of_ble_eq_true rfl⟩) (v_preV (ci := 11) hSS hR hS g8 (by decide) rfl [.int x1, .int (x5 + 1), .int 1]) rfl rfl hl.1 rfl (lv_room (Nat.le_of_ble_eq_true rfl)) dX10_forgets_93 ⟨Nat.zero_le _, Nat.zero_le _⟩) ?_
        refine w_aload_n hx hb dX10_forgets_96 rfl (lv_at hl 0 rfl) ?_
        refine w_iload_n hx hb dX10_forgets_97 rfl (lv_at hl 1 rfl) ?_
        refine w_iload hx hb dX10_forgets_98 (lv_at hl 3 rfl) ?_
        refine w_iconst (v := 1) hx hb dX10_forgets_100 (by decide) ?_
        refine w_iadd hx hb dX10_forgets_101 ?_
        refine w_iconst (v := 2) hx hb dX10_forgets_102 (by decide) ?_
        obtain ⟨g8, h⟩ := v_ifs h
        obtain ⟨z17, ez17, h⟩ := v_bnd h
        refine v_call1 (v := .int z17) (M1 := Mi) (mc := 0) (ms := 0) (fun H locs hR hS => va_runV (As := [.int x1, .int (x5 + 1), .int 2]) (rest := [.int z16, .int z15, .int x5, .int x1, .ref x0]) ⟨hx, hb, hml, hown, hts⟩ (mX10_ofEvent l hfl D x0 x1 (x5 + 1) 2 Mi z17 ez17) (cwV 3 hts (gdV kw1526 kw1528 kw51 kw85 kw1529) rfl rfl rfl (by decide +kernel) ⟨Nat.le_of_ble_eq_true rfl, Nat.le_of_ble_eq_true rfl⟩) (v_preV (ci := 11) hSS hR hS g8 (by decide) rfl [.int x1, .int (x5 + 1), .int 2]) rfl rfl hl.1 rfl (lv_room (Nat.le_of_ble_eq_true rfl)) dX10_forgets_103 ⟨Nat.zero_le _, Nat.zero_le _⟩) ?_
        obtain ⟨g8, h⟩ := v_ifs h
        obtain ⟨z18, ez18, h⟩ := v_bnd h
        refine v_call0 (M1 := z18.2) (mc := 0) (ms := 0) (fun H locs hR hS => va_runV (As := [.int x1, .int x5, .int z15, .int z16, .int z17]) (rest := []) ⟨hx, hb, hml, hown, hts⟩ (mX10_setsEvent l hfl D x0 x1 x5 z15 z16 z17 Mi z18 ez18) (cwV 5 hts (gdV kw1531 kw1533 kw52 kw85 kw1534) rfl rfl rfl (by decide +kernel) ⟨Nat.le_of_ble_eq_true rfl, Nat.le_of_ble_eq_true rfl⟩) (v_preV (ci := 11) hSS hR hS g8 (by decide) rfl [.int x1, .int x5, .int z15, .int z16, .int z17]) rfl rfl hl.1 rfl (lv_room (Nat.le_of_ble_eq_true rfl)) dX10_forgets_106 ⟨Nat.zero_le _, Nat.zero_le _⟩) ?_
        refine w_iinc (v := x5 + 1) (lv' := [(5, .int (x5 + 1)), (0, .ref x0), (1, .int x1), (4, .int x4)]) hx hb dX10_forgets_109 hl (j := 3) rfl rfl (by decide) rfl (fun ls hl => ?_)
        have hl : lv_has ls 6 [(0, .ref x0), (1, .int x1), (4, .int x4), (5, .int (x5 + 1))] := lv_sub hl [1, 2, 3, 0] rfl
        refine w_goto (tgt := 65) hx hb dX10_forgets_112 (by decide) ?_
        exact ih (x5 + 1) z18.2 ls z (lv_sub hl [0, 1, 2, 3] rfl) h KX
  refine w_aload_n hx hb dX10_forgets_0 rfl (lv_at hl 0 rfl) ?_
  refine w_aload_n hx hb dX10_forgets_1 rfl (lv_at hl 0 rfl) ?_
  refine w_iload_n hx hb dX10_forgets_2 rfl (lv_at hl 1 rfl) ?_
  obtain ⟨g8, h⟩ := v_ifs h
  obtain ⟨z1, ez1, h⟩ := v_bnd h
  refine v_call1 (v := .long z1) (M1 := M) (mc := 0) (ms := 0) (fun H locs hR hS => va_runV (As := [.int x1]) (rest := [.ref x0]) ⟨hx, hb, hml, hown, hts⟩ (mX10_base l hfl D x0 x1 M z1 ez1) (cwV 1 hts (gdV kw1517 kw1519 kw49 kw85 kw1520) rfl rfl rfl (by decide +kernel) ⟨Nat.le_of_ble_eq_true rfl, Nat.le_of_ble_eq_true rfl⟩) (v_preV (ci := 11) hSS hR hS g8 (by decide) rfl [.int x1]) rfl rfl hl.1 rfl (lv_room (Nat.le_of_ble_eq_true rfl)) dX10_forgets_3 ⟨Nat.zero_le _, Nat.zero_le _⟩) ?_
  refine w_iload_n hx hb dX10_forgets_6 rfl (lv_at hl 1 rfl) ?_
  refine w_iconst (v := 0) hx hb dX10_forgets_7 (by decide) ?_
  obtain ⟨g8, h⟩ := v_ifs h
  obtain ⟨z2, ez2, h⟩ := v_bnd h
  refine v_call1 (v := .long z2) (M1 := M) (mc := 0) (ms := 0) (fun H locs hR hS => va_runV (As := [.long z1, .int x1, .int 0]) (rest := []) ⟨hx, hb, hml, hown, hts⟩ (mX10_behind l hfl D x0 z1 x1 0 M z2 ez2) (cwV 3 hts (gdV kw1522 kw1524 kw50 kw85 kw1525) rfl rfl rfl (by decide +kernel) ⟨Nat.le_of_ble_eq_true rfl, Nat.le_of_ble_eq_true rfl⟩) (v_preV (ci := 11) hSS hR hS g8 (by decide) rfl [.long z1, .int x1, .int 0]) rfl rfl hl.1 rfl (lv_room (Nat.le_of_ble_eq_true rfl)) dX10_forgets_8 ⟨Nat.zero_le _, Nat.zero_le _⟩) ?_
  refine w_lstore_n (lv' := [(2, .long z2), (0, .ref x0), (1, .int x1)]) hx hb dX10_forgets_11 rfl hl (by decide) rfl (fun ls hl => ?_)
  have hl : lv_has ls 6 [(0, .ref x0), (1, .int x1), (2, .long z2)] := lv_sub hl [1, 2, 0] rfl
  refine w_aload_n hx hb dX10_forgets_12 rfl (lv_at hl 0 rfl) ?_
  refine w_iload_n hx hb dX10_forgets_13 rfl (lv_at hl 1 rfl) ?_
  refine w_iconst (v := 4) hx hb dX10_forgets_14 (by decide) ?_
  refine w_lload_n hx hb dX10_forgets_15 rfl (lv_at hl 2 rfl) ?_
  refine w_l2i hx hb dX10_forgets_16 ?_
  obtain ⟨g8, h⟩ := v_ifs h
  obtain ⟨z3, ez3, h⟩ := v_bnd h
  refine v_call0 (M1 := z3.2) (mc := 0) (ms := 0) (fun H locs hR hS => va_runV (As := [.int x1, .int 4, .int z2.toInt32]) (rest := []) ⟨hx, hb, hml, hown, hts⟩ (mX10_sets l hfl D x0 x1 4 z2.toInt32 M z3 ez3) (cwV 3 hts (gdV kw1505 kw1507 kw46 kw85 kw1508) rfl rfl rfl (by decide +kernel) ⟨Nat.le_of_ble_eq_true rfl, Nat.le_of_ble_eq_true rfl⟩) (v_preV (ci := 11) hSS hR hS g8 (by decide) rfl [.int x1, .int 4, .int z2.toInt32]) rfl rfl hl.1 rfl (lv_room (Nat.le_of_ble_eq_true rfl)) dX10_forgets_17 ⟨Nat.zero_le _, Nat.zero_le _⟩) ?_
  refine w_aload_n hx hb dX10_forgets_20 rfl (lv_at hl 0 rfl) ?_
  refine w_iload_n hx hb dX10_forgets_21 rfl (lv_at hl 1 rfl) ?_
  refine w_iconst (v := 5) hx hb dX10_forgets_22 (by decide) ?_
  refine w_lload_n hx hb dX10_forgets_23 rfl (lv_at hl 2 rfl) ?_
  refine w_bipush (v := 32) hx hb dX10_forgets_24 (by decide) ?_
  refine w_lshr hx hb dX10_forgets_26 ?_
  refine w_l2i hx hb dX10_forgets_27 ?_
  obtain ⟨g8, h⟩ := v_ifs h
  obtain ⟨z4, ez4, h⟩ := v_bnd h
  refine v_call0 (M1 := z4.2) (mc := 0) (ms := 0) (fun H locs hR hS => va_runV (As := [.int x1, .int 5, .int ((z2 >>> ((32 : Int32).toInt64 &&& 63)).toInt32)]) (rest := []) ⟨hx, hb, hml, hown, hts⟩ (mX10_sets l hfl D x0 x1 5 ((z2 >>> ((32 : Int32).toInt64 &&& 63)).toInt32) z3.2 z4 ez4) (cwV 3 hts (gdV kw1505 kw1507 kw46 kw85 kw1508) rfl rfl rfl (by decide +kernel) ⟨Nat.le_of_ble_eq_true rfl, Nat.le_of_ble_eq_true rfl⟩) (v_preV (ci := 11) hSS hR hS g8 (by decide) rfl [.int x1, .int 5, .int ((z2 >>> ((32 : Int32).toInt64 &&& 63)).toInt32)]) rfl rfl hl.1 rfl (lv_room (Nat.le_of_ble_eq_true rfl)) dX10_forgets_28 ⟨Nat.zero_le _, Nat.zero_le _⟩) ?_
  refine w_aload_n hx hb dX10_forgets_31 rfl (lv_at hl 0 rfl) ?_
  refine w_iload_n hx hb dX10_forgets_32 rfl (lv_at hl 1 rfl) ?_
  refine w_iconst (v := 2) hx hb dX10_forgets_33 (by decide) ?_
  refine w_aload_n hx hb dX10_forgets_34 rfl (lv_at hl 0 rfl) ?_
  refine w_iload_n hx hb dX10_forgets_35 rfl (lv_at hl 1 rfl) ?_
  refine w_iconst (v := 0) hx hb dX10_forgets_36 (by decide) ?_
  refine w_iconst (v := 0) hx hb dX10_forgets_37 (by decide) ?_
  obtain ⟨g8, h⟩ := v_ifs h
  obtain ⟨z5, ez5, h⟩ := v_bnd h
  refine v_call1 (v := .int z5) (M1 := z4.2) (mc := 0) (ms := 0) (fun H locs hR hS => va_runV (As := [.int x1, .int 0, .int 0]) (rest := [.int 2, .int x1, .ref x0]) ⟨hx, hb, hml, hown, hts⟩ (mX10_ofEvent l hfl D x0 x1 0 0 z4.2 z5 ez5) (cwV 3 hts (gdV kw1526 kw1528 kw51 kw85 kw1529) rfl rfl rfl (by decide +kernel) ⟨Nat.le_of_ble_eq_true rfl, Nat.le_of_ble_eq_true rfl⟩) (v_preV (ci := 11) hSS hR hS g8 (by decide) rfl [.int x1, .int 0, .int 0]) rfl rfl hl.1 rfl (lv_room (Nat.le_of_ble_eq_true rfl)) dX10_forgets_38 ⟨Nat.zero_le _, Nat.zero_le _⟩) ?_
  obtain ⟨g8, h⟩ := v_ifs h
  obtain ⟨z6, ez6, h⟩ := v_bnd h
  refine v_call0 (M1 := z6.2) (mc := 0) (ms := 0) (fun H locs hR hS => va_runV (As := [.int x1, .int 2, .int z5]) (rest := []) ⟨hx, hb, hml, hown, hts⟩ (mX10_sets l hfl D x0 x1 2 z5 z4.2 z6 ez6) (cwV 3 hts (gdV kw1505 kw1507 kw46 kw85 kw1508) rfl rfl rfl (by decide +kernel) ⟨Nat.le_of_ble_eq_true rfl, Nat.le_of_ble_eq_true rfl⟩) (v_preV (ci := 11) hSS hR hS g8 (by decide) rfl [.int x1, .int 2, .int z5]) rfl rfl hl.1 rfl (lv_room (Nat.le_of_ble_eq_true rfl)) dX10_forgets_41 ⟨Nat.zero_le _, Nat.zero_le _⟩) ?_
  refine w_aload_n hx hb dX10_forgets_44 rfl (lv_at hl 0 rfl) ?_
  refine w_iload_n hx hb dX10_forgets_45 rfl (lv_at hl 1 rfl) ?_
  refine w_iconst (v := 3) hx hb dX10_forgets_46 (by decide) ?_
  obtain ⟨g8, h⟩ := v_ifs h
  obtain ⟨z7, ez7, h⟩ := v_bnd h
  refine v_call1 (v := .int z7) (M1 := z6.2) (mc := 0) (ms := 0) (fun H locs hR hS => va_runV (As := [.int x1, .int 3]) (rest := []) ⟨hx, hb, hml, hown, hts⟩ (mX10_of l hfl D x0 x1 3 z6.2 z7 ez7) (cwV 2 hts (gdV kw1497 kw1499 kw44 kw85 kw1500) rfl rfl rfl (by decide +kernel) ⟨Nat.le_of_ble_eq_true rfl, Nat.le_of_ble_eq_true rfl⟩) (v_preV (ci := 11) hSS hR hS g8 (by decide) rfl [.int x1, .int 3]) rfl rfl hl.1 rfl (lv_room (Nat.le_of_ble_eq_true rfl)) dX10_forgets_47 ⟨Nat.zero_le _, Nat.zero_le _⟩) ?_
  refine w_iconst (v := 1) hx hb dX10_forgets_50 (by decide) ?_
  refine w_isub hx hb dX10_forgets_51 ?_
  refine w_istore (lv' := [(4, .int (z7 - 1)), (0, .ref x0), (1, .int x1), (2, .long z2)]) hx hb dX10_forgets_52 hl (by decide) rfl (fun ls hl => ?_)
  have hl : lv_has ls 6 [(0, .ref x0), (1, .int x1), (2, .long z2), (4, .int (z7 - 1))] := lv_sub hl [1, 2, 3, 0] rfl
  refine w_aload_n hx hb dX10_forgets_54 rfl (lv_at hl 0 rfl) ?_
  refine w_iload_n hx hb dX10_forgets_55 rfl (lv_at hl 1 rfl) ?_
  refine w_iconst (v := 3) hx hb dX10_forgets_56 (by decide) ?_
  refine w_iload hx hb dX10_forgets_57 (lv_at hl 3 rfl) ?_
  obtain ⟨g8, h⟩ := v_ifs h
  obtain ⟨z8, ez8, h⟩ := v_bnd h
  refine v_call0 (M1 := z8.2) (mc := 0) (ms := 0) (fun H locs hR hS => va_runV (As := [.int x1, .int 3, .int (z7 - 1)]) (rest := []) ⟨hx, hb, hml, hown, hts⟩ (mX10_sets l hfl D x0 x1 3 (z7 - 1) z6.2 z8 ez8) (cwV 3 hts (gdV kw1505 kw1507 kw46 kw85 kw1508) rfl rfl rfl (by decide +kernel) ⟨Nat.le_of_ble_eq_true rfl, Nat.le_of_ble_eq_true rfl⟩) (v_preV (ci := 11) hSS hR hS g8 (by decide) rfl [.int x1, .int 3, .int (z7 - 1)]) rfl rfl hl.1 rfl (lv_room (Nat.le_of_ble_eq_true rfl)) dX10_forgets_59 ⟨Nat.zero_le _, Nat.zero_le _⟩) ?_
  refine w_iconst (v := 0) hx hb dX10_forgets_62 (by decide) ?_
  refine w_istore (lv' := [(5, .int 0), (0, .ref x0), (1, .int x1), (2, .long z2), (4, .int (z7 - 1))]) hx hb dX10_forgets_63 hl (by decide) rfl (fun ls hl => ?_)
  have hl : lv_has ls 6 [(0, .ref x0), (1, .int x1), (2, .long z2), (4, .int (z7 - 1)), (5, .int 0)] := lv_sub hl [1, 2, 3, 4, 0] rfl
  obtain ⟨z19, ez19, h⟩ := v_bnd h
  refine X10_forgets_L65p x0 x1 (z7 - 1) vF 0 z8.2 ls z19 (lv_sub hl [0, 1, 3, 4] rfl) ez19 (fun ls hl => ?_)
  obtain rfl := Option.some.inj h
  rw [hQ]
  exact v_vret hx hb hr hlk dX10_forgets_115

def tX10_happens_J30 (x0 : Nat) (x1 : Int32) (x2 : Int32) (x3 : Int32) (Mj : vMe) : Option (Unit × vMe) :=
  if (Mj.1 x0).1 = 12 then
  ((tX10_of x0 x1 3 Mj).bind fun z9 =>
  (gA Mj x0 12 1).bind fun a10 =>
  (aI Mj a10 101 3).bind fun v11 =>
  if (Mj.1 x0).1 = 12 then
  ((tX10_setsEvent x0 x1 z9 v11 x2 x3 Mj).bind fun z12 =>
  if (z12.2.1 x0).1 = 12 then
  ((tX10_sets x0 x1 3 (z9 + 1) z12.2).bind fun z13 =>
  some ((), z13.2))
else none)
else none)
else none
def tX10_happens (x0 : Nat) (x1 : Int32) (x2 : Int32) (x3 : Int32) (M : vMe) : Option (Unit × vMe) :=
  (gA M x0 12 1).bind fun a1 =>
  (aI M a1 101 3).bind fun v2 =>
  (sA M a1 101 3 (.int (v2 + 1))).bind fun M3 =>
  if (M3.1 x0).1 = 12 then
  ((tX10_of x0 x1 3 M3).bind fun z4 =>
  (gA M3 x0 12 1).bind fun a5 =>
  (aI M3 a5 101 2).bind fun v6 =>
  if z4 = v6 then
  (if (M3.1 x0).1 = 12 then
  ((tX10_forgets x0 x1 M3).bind fun z8 =>
  tX10_happens_J30 x0 x1 x2 x3 z8.2)
else none)
else
  (tX10_happens_J30 x0 x1 x2 x3 M3))
else none
def rmX10_happens : Room := { frames := 5, cells := 0, slots := 0, locals := 97 }
set_option maxHeartbeats 4000000 in
set_option maxRecDepth 100000 in
theorem mX10_happens (l : Launch) (hfl : l.stackTraces = false) (D : vD) (x0 : Nat) (x1 : Int32) (x2 : Int32) (x3 : Int32) (M : vMe) (z : (Unit × vMe)) (h : tX10_happens x0 x1 x2 x3 M = some z) : Met l yX10_happens (Cond.code yX10_happens cX10_happens 5 none :: TB) rmX10_happens (va_Pc [.ref x0, .int x1, .int x2, .int x3] (vPre D M)) (qW D none z.2) 0 0 (vA D) := by
  refine v_ofW (cc := cX10_happens) (maxL := 5) (ret := none) (by decide) (Nat.le_of_ble_eq_true rfl) ?_
  intro p e s m args below meth c Q hx hb hr hml hown hts hlk hnm hSS hR0 hQ ls hl
  have hK := hSS.1
  have hl : lv_has ls 5 [(0, .ref x0), (1, .int x1), (2, .int x2), (3, .int x3)] := hl
  unfold tX10_happens at h
  have X10_happens_J30p : ∀ (x0 : Nat) (x1 : Int32) (x2 : Int32) (x3 : Int32) (Mj : vMe) (ls : Array Slot), lv_has ls 5 [(0, .ref x0), (1, .int x1), (2, .int x2), (3, .int x3)] → tX10_happens_J30 x0 x1 x2 x3 Mj = some z → vV D p l e rmX10_happens s m args below meth c 0 0 Q Mj (F0 m 30 ls []) := by
    intro x0 x1 x2 x3 Mj ls hl h
    unfold tX10_happens_J30 at h
    refine w_aload_n hx hb dX10_happens_30 rfl (lv_at hl 0 rfl) ?_
    refine w_iload_n hx hb dX10_happens_31 rfl (lv_at hl 1 rfl) ?_
    refine w_iconst (v := 3) hx hb dX10_happens_32 (by decide) ?_
    obtain ⟨g8, h⟩ := v_ifs h
    obtain ⟨z9, ez9, h⟩ := v_bnd h
    refine v_call1 (v := .int z9) (M1 := Mj) (mc := 0) (ms := 0) (fun H locs hR hS => va_runV (As := [.int x1, .int 3]) (rest := []) ⟨hx, hb, hml, hown, hts⟩ (mX10_of l hfl D x0 x1 3 Mj z9 ez9) (cwV 2 hts (gdV kw1497 kw1499 kw44 kw85 kw1500) rfl rfl rfl (by decide +kernel) ⟨Nat.le_of_ble_eq_true rfl, Nat.le_of_ble_eq_true rfl⟩) (v_preV (ci := 11) hSS hR hS g8 (by decide) rfl [.int x1, .int 3]) rfl rfl hl.1 rfl (lv_room (Nat.le_of_ble_eq_true rfl)) dX10_happens_33 ⟨Nat.zero_le _, Nat.zero_le _⟩) ?_
    refine w_istore (lv' := [(4, .int z9), (0, .ref x0), (1, .int x1), (2, .int x2), (3, .int x3)]) hx hb dX10_happens_36 hl (by decide) rfl (fun ls hl => ?_)
    have hl : lv_has ls 5 [(0, .ref x0), (1, .int x1), (2, .int x2), (3, .int x3), (4, .int z9)] := lv_sub hl [1, 2, 3, 4, 0] rfl
    refine w_aload_n hx hb dX10_happens_38 rfl (lv_at hl 0 rfl) ?_
    refine w_iload_n hx hb dX10_happens_39 rfl (lv_at hl 1 rfl) ?_
    refine w_iload hx hb dX10_happens_40 (lv_at hl 4 rfl) ?_
    refine w_aload_n hx hb dX10_happens_42 rfl (lv_at hl 0 rfl) ?_
    obtain ⟨a10, ea10, h⟩ := v_bnd h
    refine v_gA (ci := 11) hx hb hts iwX10 hown hK 1 ea10 rfl (by decide) (Or.inl (hts _ kw1336)) (fun _ h9 => h9) dX10_happens_43 ?_
    refine w_iconst (v := 3) hx hb dX10_happens_46 (by decide) ?_
    obtain ⟨v11, ev11, h⟩ := v_bnd h
    refine v_iald hx hb hK ev11 dX10_happens_47 ?_
    refine w_iload_n hx hb dX10_happens_48 rfl (lv_at hl 2 rfl) ?_
    refine w_iload_n hx hb dX10_happens_49 rfl (lv_at hl 3 rfl) ?_
    obtain ⟨g8, h⟩ := v_ifs h
    obtain ⟨z12, ez12, h⟩ := v_bnd h
    refine v_call0 (M1 := z12.2) (mc := 0) (ms := 0) (fun H locs hR hS => va_runV (As := [.int x1, .int z9, .int v11, .int x2, .int x3]) (rest := []) ⟨hx, hb, hml, hown, hts⟩ (mX10_setsEvent l hfl D x0 x1 z9 v11 x2 x3 Mj z12 ez12) (cwV 5 hts (gdV kw1531 kw1533 kw52 kw85 kw1534) rfl rfl rfl (by decide +kernel) ⟨Nat.le_of_ble_eq_true rfl, Nat.le_of_ble_eq_true rfl⟩) (v_preV (ci := 11) hSS hR hS g8 (by decide) rfl [.int x1, .int z9, .int v11, .int x2, .int x3]) rfl rfl hl.1 rfl (lv_room (Nat.le_of_ble_eq_true rfl)) dX10_happens_50 ⟨Nat.zero_le _, Nat.zero_le _⟩) ?_
    refine w_aload_n hx hb dX10_happens_53 rfl (lv_at hl 0 rfl) ?_
    refine w_iload_n hx hb dX10_happens_54 rfl (lv_at hl 1 rfl) ?_
    refine w_iconst (v := 3) hx hb dX10_happens_55 (by decide) ?_
    refine w_iload hx hb dX10_happens_56 (lv_at hl 4 rfl) ?_
    refine w_iconst (v := 1) hx hb dX10_happens_58 (by decide) ?_
    refine w_iadd hx hb dX10_happens_59 ?_
    obtain ⟨g8, h⟩ := v_ifs h
    obtain ⟨z13, ez13, h⟩ := v_bnd h
    refine v_call0 (M1 := z13.2) (mc := 0) (ms := 0) (fun H locs hR hS => va_runV (As := [.int x1, .int 3, .int (z9 + 1)]) (rest := []) ⟨hx, hb, hml, hown, hts⟩ (mX10_sets l hfl D x0 x1 3 (z9 + 1) z12.2 z13 ez13) (cwV 3 hts (gdV kw1505 kw1507 kw46 kw85 kw1508) rfl rfl rfl (by decide +kernel) ⟨Nat.le_of_ble_eq_true rfl, Nat.le_of_ble_eq_true rfl⟩) (v_preV (ci := 11) hSS hR hS g8 (by decide) rfl [.int x1, .int 3, .int (z9 + 1)]) rfl rfl hl.1 rfl (lv_room (Nat.le_of_ble_eq_true rfl)) dX10_happens_60 ⟨Nat.zero_le _, Nat.zero_le _⟩) ?_
    obtain rfl := Option.some.inj h
    rw [hQ]
    exact v_vret hx hb hr hlk dX10_happens_63
  refine w_aload_n hx hb dX10_happens_0 rfl (lv_at hl 0 rfl) ?_
  obtain ⟨a1, ea1, h⟩ := v_bnd h
  refine v_gA (ci := 11) hx hb hts iwX10 hown hK 1 ea1 rfl (by decide) (Or.inl (hts _ kw1336)) (fun _ h9 => h9) dX10_happens_1 ?_
  refine w_iconst (v := 3) hx hb dX10_happens_4 (by decide) ?_
  refine w_dup2_11 hx hb dX10_happens_5 rfl rfl ?_
  obtain ⟨v2, ev2, h⟩ := v_bnd h
  refine v_iald hx hb hK ev2 dX10_happens_6 ?_
  refine w_iconst (v := 1) hx hb dX10_happens_7 (by decide) ?_
  refine w_iadd hx hb dX10_happens_8 ?_
  obtain ⟨M3, eM3, h⟩ := v_bnd h
  refine v_iast hx hb hK eM3 dX10_happens_9 ?_
  refine w_aload_n hx hb dX10_happens_10 rfl (lv_at hl 0 rfl) ?_
  refine w_iload_n hx hb dX10_happens_11 rfl (lv_at hl 1 rfl) ?_
  refine w_iconst (v := 3) hx hb dX10_happens_12 (by decide) ?_
  obtain ⟨g8, h⟩ := v_ifs h
  obtain ⟨z4, ez4, h⟩ := v_bnd h
  refine v_call1 (v := .int z4) (M1 := M3) (mc := 0) (ms := 0) (fun H locs hR hS => va_runV (As := [.int x1, .int 3]) (rest := []) ⟨hx, hb, hml, hown, hts⟩ (mX10_of l hfl D x0 x1 3 M3 z4 ez4) (cwV 2 hts (gdV kw1497 kw1499 kw44 kw85 kw1500) rfl rfl rfl (by decide +kernel) ⟨Nat.le_of_ble_eq_true rfl, Nat.le_of_ble_eq_true rfl⟩) (v_preV (ci := 11) hSS hR hS g8 (by decide) rfl [.int x1, .int 3]) rfl rfl hl.1 rfl (lv_room (Nat.le_of_ble_eq_true rfl)) dX10_happens_13 ⟨Nat.zero_le _, Nat.zero_le _⟩) ?_
  refine w_aload_n hx hb dX10_happens_16 rfl (lv_at hl 0 rfl) ?_
  obtain ⟨a5, ea5, h⟩ := v_bnd h
  refine v_gA (ci := 11) hx hb hts iwX10 hown hK 1 ea5 rfl (by decide) (Or.inl (hts _ kw1336)) (fun _ h9 => h9) dX10_happens_17 ?_
  refine w_iconst (v := 2) hx hb dX10_happens_20 (by decide) ?_
  obtain ⟨v6, ev6, h⟩ := v_bnd h
  refine v_iald hx hb hK ev6 dX10_happens_21 ?_
  refine w_icmp_ne (tgt := 30) hx hb dX10_happens_22 (by decide) (fun c7 => ?_) (fun c7 => ?_)
  · rw [if_pos c7] at h
    refine w_aload_n hx hb dX10_happens_25 rfl (lv_at hl 0 rfl) ?_
    refine w_iload_n hx hb dX10_happens_26 rfl (lv_at hl 1 rfl) ?_
    obtain ⟨g8, h⟩ := v_ifs h
    obtain ⟨z8, ez8, h⟩ := v_bnd h
    refine v_call0 (M1 := z8.2) (mc := 0) (ms := 0) (fun H locs hR hS => va_runV (As := [.int x1]) (rest := []) ⟨hx, hb, hml, hown, hts⟩ (mX10_forgets l hfl D x0 x1 M3 z8 ez8) (cwV 1 hts (gdV kw1513 kw1515 kw48 kw85 kw1516) rfl rfl rfl (by decide +kernel) ⟨Nat.le_of_ble_eq_true rfl, Nat.le_of_ble_eq_true rfl⟩) (v_preV (ci := 11) hSS hR hS g8 (by decide) rfl [.int x1]) rfl rfl hl.1 rfl (lv_room (Nat.le_of_ble_eq_true rfl)) dX10_happens_27 ⟨Nat.zero_le _, Nat.zero_le _⟩) ?_
    exact X10_happens_J30p x0 x1 x2 x3 z8.2 ls (lv_sub hl [0, 1, 2, 3] rfl) h
  · rw [if_neg c7] at h
    exact X10_happens_J30p x0 x1 x2 x3 M3 ls (lv_sub hl [0, 1, 2, 3] rfl) h

def tX10_comes (x0 : Nat) (x1 : Int32) (x2 : Int32) (M : vMe) : Option (Unit × vMe) :=
  if (M.1 x0).1 = 12 then
  ((tX10_isMember x0 x1 x2 M).bind fun z1 =>
  if z1 = 0 then
  (if (M.1 x0).1 = 12 then
  ((tX10_of x0 x1 0 M).bind fun z3 =>
  if (M.1 x0).1 = 12 then
  ((tX10_lay x0 x1 x2 z3 M).bind fun z4 =>
  if (z4.2.1 x0).1 = 12 then
  ((tX10_of x0 x1 0 z4.2).bind fun z5 =>
  if (z4.2.1 x0).1 = 12 then
  ((tX10_sets x0 x1 0 (z5 + 1) z4.2).bind fun z6 =>
  if (z6.2.1 x0).1 = 12 then
  ((tX10_happens x0 x1 x2 0 z6.2).bind fun z7 =>
  (gA z7.2 x0 12 1).bind fun a8 =>
  (aI z7.2 a8 101 3).bind fun v9 =>
  if (z7.2.1 x0).1 = 12 then
  ((tX10_sets x0 x1 (134 + x2) v9 z7.2).bind fun z10 =>
  some ((), z10.2))
else none)
else none)
else none)
else none)
else none)
else none)
else
  (some ((), M)))
else none
def rmX10_comes : Room := { frames := 6, cells := 0, slots := 0, locals := 121 }
set_option maxHeartbeats 4000000 in
set_option maxRecDepth 100000 in
theorem mX10_comes (l : Launch) (hfl : l.stackTraces = false) (D : vD) (x0 : Nat) (x1 : Int32) (x2 : Int32) (M : vMe) (z : (Unit × vMe)) (h : tX10_comes x0 x1 x2 M = some z) : Met l yX10_comes (Cond.code yX10_comes cX10_comes 3 none :: TB) rmX10_comes (va_Pc [.ref x0, .int x1, .int x2] (vPre D M)) (qW D none z.2) 0 0 (vA D) := by
  refine v_ofW (cc := cX10_comes) (maxL := 3) (ret := none) (by decide) (Nat.le_of_ble_eq_true rfl) ?_
  intro p e s m args below meth c Q hx hb hr hml hown hts hlk hnm hSS hR0 hQ ls hl
  have hK := hSS.1
  have hl : lv_has ls 3 [(0, .ref x0), (1, .int x1), (2, .int x2)] := hl
  unfold tX10_comes at h
  refine w_aload_n hx hb dX10_comes_0 rfl (lv_at hl 0 rfl) ?_
  refine w_iload_n hx hb dX10_comes_1 rfl (lv_at hl 1 rfl) ?_
  refine w_iload_n hx hb dX10_comes_2 rfl (lv_at hl 2 rfl) ?_
  obtain ⟨g8, h⟩ := v_ifs h
  obtain ⟨z1, ez1, h⟩ := v_bnd h
  refine v_call1 (v := .int z1) (M1 := M) (mc := 0) (ms := 0) (fun H locs hR hS => va_runV (As := [.int x1, .int x2]) (rest := []) ⟨hx, hb, hml, hown, hts⟩ (mX10_isMember l hfl D x0 x1 x2 M z1 ez1) (cwV 2 hts (gdV kw1493 kw1495 kw43 kw85 kw1496) rfl rfl rfl (by decide +kernel) ⟨Nat.le_of_ble_eq_true rfl, Nat.le_of_ble_eq_true rfl⟩) (v_preV (ci := 11) hSS hR hS g8 (by decide) rfl [.int x1, .int x2]) rfl rfl hl.1 rfl (lv_room (Nat.le_of_ble_eq_true rfl)) dX10_comes_3 ⟨Nat.zero_le _, Nat.zero_le _⟩) ?_
  refine w_if_eq (tgt := 10) hx hb dX10_comes_6 (by decide) (fun c2 => ?_) (fun c2 => ?_)
  · rw [if_pos c2] at h
    refine w_aload_n hx hb dX10_comes_10 rfl (lv_at hl 0 rfl) ?_
    refine w_iload_n hx hb dX10_comes_11 rfl (lv_at hl 1 rfl) ?_
    refine w_iload_n hx hb dX10_comes_12 rfl (lv_at hl 2 rfl) ?_
    refine w_aload_n hx hb dX10_comes_13 rfl (lv_at hl 0 rfl) ?_
    refine w_iload_n hx hb dX10_comes_14 rfl (lv_at hl 1 rfl) ?_
    refine w_iconst (v := 0) hx hb dX10_comes_15 (by decide) ?_
    obtain ⟨g8, h⟩ := v_ifs h
    obtain ⟨z3, ez3, h⟩ := v_bnd h
    refine v_call1 (v := .int z3) (M1 := M) (mc := 0) (ms := 0) (fun H locs hR hS => va_runV (As := [.int x1, .int 0]) (rest := [.int x2, .int x1, .ref x0]) ⟨hx, hb, hml, hown, hts⟩ (mX10_of l hfl D x0 x1 0 M z3 ez3) (cwV 2 hts (gdV kw1497 kw1499 kw44 kw85 kw1500) rfl rfl rfl (by decide +kernel) ⟨Nat.le_of_ble_eq_true rfl, Nat.le_of_ble_eq_true rfl⟩) (v_preV (ci := 11) hSS hR hS g8 (by decide) rfl [.int x1, .int 0]) rfl rfl hl.1 rfl (lv_room (Nat.le_of_ble_eq_true rfl)) dX10_comes_16 ⟨Nat.zero_le _, Nat.zero_le _⟩) ?_
    obtain ⟨g8, h⟩ := v_ifs h
    obtain ⟨z4, ez4, h⟩ := v_bnd h
    refine v_call0 (M1 := z4.2) (mc := 0) (ms := 0) (fun H locs hR hS => va_runV (As := [.int x1, .int x2, .int z3]) (rest := []) ⟨hx, hb, hml, hown, hts⟩ (mX10_lay l hfl D x0 x1 x2 z3 M z4 ez4) (cwV 3 hts (gdV kw1501 kw1503 kw45 kw85 kw1504) rfl rfl rfl (by decide +kernel) ⟨Nat.le_of_ble_eq_true rfl, Nat.le_of_ble_eq_true rfl⟩) (v_preV (ci := 11) hSS hR hS g8 (by decide) rfl [.int x1, .int x2, .int z3]) rfl rfl hl.1 rfl (lv_room (Nat.le_of_ble_eq_true rfl)) dX10_comes_19 ⟨Nat.zero_le _, Nat.zero_le _⟩) ?_
    refine w_aload_n hx hb dX10_comes_22 rfl (lv_at hl 0 rfl) ?_
    refine w_iload_n hx hb dX10_comes_23 rfl (lv_at hl 1 rfl) ?_
    refine w_iconst (v := 0) hx hb dX10_comes_24 (by decide) ?_
    refine w_aload_n hx hb dX10_comes_25 rfl (lv_at hl 0 rfl) ?_
    refine w_iload_n hx hb dX10_comes_26 rfl (lv_at hl 1 rfl) ?_
    refine w_iconst (v := 0) hx hb dX10_comes_27 (by decide) ?_
    obtain ⟨g8, h⟩ := v_ifs h
    obtain ⟨z5, ez5, h⟩ := v_bnd h
    refine v_call1 (v := .int z5) (M1 := z4.2) (mc := 0) (ms := 0) (fun H locs hR hS => va_runV (As := [.int x1, .int 0]) (rest := [.int 0, .int x1, .ref x0]) ⟨hx, hb, hml, hown, hts⟩ (mX10_of l hfl D x0 x1 0 z4.2 z5 ez5) (cwV 2 hts (gdV kw1497 kw1499 kw44 kw85 kw1500) rfl rfl rfl (by decide +kernel) ⟨Nat.le_of_ble_eq_true rfl, Nat.le_of_ble_eq_true rfl⟩) (v_preV (ci := 11) hSS hR hS g8 (by decide) rfl [.int x1, .int 0]) rfl rfl hl.1 rfl (lv_room (Nat.le_of_ble_eq_true rfl)) dX10_comes_28 ⟨Nat.zero_le _, Nat.zero_le _⟩) ?_
    refine w_iconst (v := 1) hx hb dX10_comes_31 (by decide) ?_
    refine w_iadd hx hb dX10_comes_32 ?_
    obtain ⟨g8, h⟩ := v_ifs h
    obtain ⟨z6, ez6, h⟩ := v_bnd h
    refine v_call0 (M1 := z6.2) (mc := 0) (ms := 0) (fun H locs hR hS => va_runV (As := [.int x1, .int 0, .int (z5 + 1)]) (rest := []) ⟨hx, hb, hml, hown, hts⟩ (mX10_sets l hfl D x0 x1 0 (z5 + 1) z4.2 z6 ez6) (cwV 3 hts (gdV kw1505 kw1507 kw46 kw85 kw1508) rfl rfl rfl (by decide +kernel) ⟨Nat.le_of_ble_eq_true rfl, Nat.le_of_ble_eq_true rfl⟩) (v_preV (ci := 11) hSS hR hS g8 (by decide) rfl [.int x1, .int 0, .int (z5 + 1)]) rfl rfl hl.1 rfl (lv_room (Nat.le_of_ble_eq_true rfl)) dX10_comes_33 ⟨Nat.zero_le _, Nat.zero_le _⟩) ?_
    refine w_aload_n hx hb dX10_comes_36 rfl (lv_at hl 0 rfl) ?_
    refine w_iload_n hx hb dX10_comes_37 rfl (lv_at hl 1 rfl) ?_
    refine w_iload_n hx hb dX10_comes_38 rfl (lv_at hl 2 rfl) ?_
    refine w_iconst (v := 0) hx hb dX10_comes_39 (by decide) ?_
    obtain ⟨g8, h⟩ := v_ifs h
    obtain ⟨z7, ez7, h⟩ := v_bnd h
    refine v_call0 (M1 := z7.2) (mc := 0) (ms := 0) (fun H locs hR hS => va_runV (As := [.int x1, .int x2, .int 0]) (rest := []) ⟨hx, hb, hml, hown, hts⟩ (mX10_happens l hfl D x0 x1 x2 0 z6.2 z7 ez7) (cwV 3 hts (gdV kw1509 kw1511 kw47 kw85 kw1512) rfl rfl rfl (by decide +kernel) ⟨Nat.le_of_ble_eq_true rfl, Nat.le_of_ble_eq_true rfl⟩) (v_preV (ci := 11) hSS hR hS g8 (by decide) rfl [.int x1, .int x2, .int 0]) rfl rfl hl.1 rfl (lv_room (Nat.le_of_ble_eq_true rfl)) dX10_comes_40 ⟨Nat.zero_le _, Nat.zero_le _⟩) ?_
    refine w_aload_n hx hb dX10_comes_43 rfl (lv_at hl 0 rfl) ?_
    refine w_iload_n hx hb dX10_comes_44 rfl (lv_at hl 1 rfl) ?_
    refine w_sipush (v := 134) hx hb dX10_comes_45 (by decide) ?_
    refine w_iload_n hx hb dX10_comes_48 rfl (lv_at hl 2 rfl) ?_
    refine w_iadd hx hb dX10_comes_49 ?_
    refine w_aload_n hx hb dX10_comes_50 rfl (lv_at hl 0 rfl) ?_
    obtain ⟨a8, ea8, h⟩ := v_bnd h
    refine v_gA (ci := 11) hx hb hts iwX10 hown hK 1 ea8 rfl (by decide) (Or.inl (hts _ kw1336)) (fun _ h9 => h9) dX10_comes_51 ?_
    refine w_iconst (v := 3) hx hb dX10_comes_54 (by decide) ?_
    obtain ⟨v9, ev9, h⟩ := v_bnd h
    refine v_iald hx hb hK ev9 dX10_comes_55 ?_
    obtain ⟨g8, h⟩ := v_ifs h
    obtain ⟨z10, ez10, h⟩ := v_bnd h
    refine v_call0 (M1 := z10.2) (mc := 0) (ms := 0) (fun H locs hR hS => va_runV (As := [.int x1, .int (134 + x2), .int v9]) (rest := []) ⟨hx, hb, hml, hown, hts⟩ (mX10_sets l hfl D x0 x1 (134 + x2) v9 z7.2 z10 ez10) (cwV 3 hts (gdV kw1505 kw1507 kw46 kw85 kw1508) rfl rfl rfl (by decide +kernel) ⟨Nat.le_of_ble_eq_true rfl, Nat.le_of_ble_eq_true rfl⟩) (v_preV (ci := 11) hSS hR hS g8 (by decide) rfl [.int x1, .int (134 + x2), .int v9]) rfl rfl hl.1 rfl (lv_room (Nat.le_of_ble_eq_true rfl)) dX10_comes_56 ⟨Nat.zero_le _, Nat.zero_le _⟩) ?_
    obtain rfl := Option.some.inj h
    rw [hQ]
    exact v_vret hx hb hr hlk dX10_comes_59
  · rw [if_neg c2] at h
    obtain rfl := Option.some.inj h
    rw [hQ]
    exact v_vret hx hb hr hlk dX10_comes_9

def tX10_ofCursor (x0 : Nat) (x1 : Int32) (x2 : Int32) (M : vMe) : Option Int32 :=
  (gA M x0 12 1).bind fun a1 =>
  (aI M a1 101 ((14 + (8 * x1)) + x2)).bind fun v2 =>
  some v2
def rmX10_ofCursor : Room := { frames := 1, cells := 0, slots := 0, locals := 0 }
set_option maxHeartbeats 4000000 in
set_option maxRecDepth 100000 in
theorem mX10_ofCursor (l : Launch) (hfl : l.stackTraces = false) (D : vD) (x0 : Nat) (x1 : Int32) (x2 : Int32) (M : vMe) (z : Int32) (h : tX10_ofCursor x0 x1 x2 M = some z) : Met l yX10_ofCursor (Cond.code yX10_ofCursor cX10_ofCursor 3 (some .int) :: TB) rmX10_ofCursor (va_Pc [.ref x0, .int x1, .int x2] (vPre D M)) (qW D (some (.int z)) M) 0 0 (vA D) := by
  refine v_ofW (cc := cX10_ofCursor) (maxL := 3) (ret := (some .int)) (by decide) (Nat.le_of_ble_eq_true rfl) ?_
  intro p e s m args below meth c Q hx hb hr hml hown hts hlk hnm hSS hR0 hQ ls hl
  have hK := hSS.1
  have hl : lv_has ls 3 [(0, .ref x0), (1, .int x1), (2, .int x2)] := hl
  unfold tX10_ofCursor at h
  refine w_aload_n hx hb dX10_ofCursor_0 rfl (lv_at hl 0 rfl) ?_
  obtain ⟨a1, ea1, h⟩ := v_bnd h
  refine v_gA (ci := 11) hx hb hts iwX10 hown hK 1 ea1 rfl (by decide) (Or.inl (hts _ kw1336)) (fun _ h9 => h9) dX10_ofCursor_1 ?_
  refine w_bipush (v := 14) hx hb dX10_ofCursor_4 (by decide) ?_
  refine w_bipush (v := 8) hx hb dX10_ofCursor_6 (by decide) ?_
  refine w_iload_n hx hb dX10_ofCursor_8 rfl (lv_at hl 1 rfl) ?_
  refine w_imul hx hb dX10_ofCursor_9 ?_
  refine w_iadd hx hb dX10_ofCursor_10 ?_
  refine w_iload_n hx hb dX10_ofCursor_11 rfl (lv_at hl 2 rfl) ?_
  refine w_iadd hx hb dX10_ofCursor_12 ?_
  obtain ⟨v2, ev2, h⟩ := v_bnd h
  refine v_iald hx hb hK ev2 dX10_ofCursor_13 ?_
  obtain rfl := Option.some.inj h
  rw [hQ]
  exact v_iret hx hb hr hlk dX10_ofCursor_14

def tX10_isOn (x0 : Nat) (x1 : Int32) (x2 : Int32) (M : vMe) : Option Int32 :=
  if (M.1 x0).1 = 12 then
  ((tX10_ofCursor x0 x1 0 M).bind fun z1 =>
  if z1 = (1 : Int32) then
  (if (M.1 x0).1 = 12 then
  ((tX10_ofCursor x0 x1 3 M).bind fun z3 =>
  if z3 = (1 : Int32) then
  (if (M.1 x0).1 = 12 then
  ((tX10_ofCursor x0 x1 1 M).bind fun z5 =>
  if z5 = x2 then
  (some 1)
else
  (some 0))
else none)
else
  (some 0))
else none)
else
  (some 0))
else none
def rmX10_isOn : Room := { frames := 2, cells := 0, slots := 0, locals := 22 }
set_option maxHeartbeats 4000000 in
set_option maxRecDepth 100000 in
theorem mX10_isOn (l : Launch) (hfl : l.stackTraces = false) (D : vD) (x0 : Nat) (x1 : Int32) (x2 : Int32) (M : vMe) (z : Int32) (h : tX10_isOn x0 x1 x2 M = some z) : Met l yX10_isOn (Cond.code yX10_isOn cX10_isOn 3 (some .boolean) :: TB) rmX10_isOn (va_Pc [.ref x0, .int x1, .int x2] (vPre D M)) (qW D (some (.int z)) M) 0 0 (vA D) := by
  refine v_ofW (cc := cX10_isOn) (maxL := 3) (ret := (some .boolean)) (by decide) (Nat.le_of_ble_eq_true rfl) ?_
  intro p e s m args below meth c Q hx hb hr hml hown hts hlk hnm hSS hR0 hQ ls hl
  have hK := hSS.1
  have hl : lv_has ls 3 [(0, .ref x0), (1, .int x1), (2, .int x2)] := hl
  unfold tX10_isOn at h
  refine w_aload_n hx hb dX10_isOn_0 rfl (lv_at hl 0 rfl) ?_
  refine w_iload_n hx hb dX10_isOn_1 rfl (lv_at hl 1 rfl) ?_
  refine w_iconst (v := 0) hx hb dX10_isOn_2 (by decide) ?_
  obtain ⟨g8, h⟩ := v_ifs h
  obtain ⟨z1, ez1, h⟩ := v_bnd h
  refine v_call1 (v := .int z1) (M1 := M) (mc := 0) (ms := 0) (fun H locs hR hS => va_runV (As := [.int x1, .int 0]) (rest := []) ⟨hx, hb, hml, hown, hts⟩ (mX10_ofCursor l hfl D x0 x1 0 M z1 ez1) (cwV 2 hts (gdV kw1547 kw1549 kw56 kw85 kw1550) rfl rfl rfl (by decide +kernel) ⟨Nat.le_of_ble_eq_true rfl, Nat.le_of_ble_eq_true rfl⟩) (v_preV (ci := 11) hSS hR hS g8 (by decide) rfl [.int x1, .int 0]) rfl rfl hl.1 rfl (lv_room (Nat.le_of_ble_eq_true rfl)) dX10_isOn_3 ⟨Nat.zero_le _, Nat.zero_le _⟩) ?_
  refine w_iconst (v := 1) hx hb dX10_isOn_6 (by decide) ?_
  refine w_icmp_ne (tgt := 34) hx hb dX10_isOn_7 (by decide) (fun c2 => ?_) (fun c2 => ?_)
  · rw [if_pos c2] at h
    refine w_aload_n hx hb dX10_isOn_10 rfl (lv_at hl 0 rfl) ?_
    refine w_iload_n hx hb dX10_isOn_11 rfl (lv_at hl 1 rfl) ?_
    refine w_iconst (v := 3) hx hb dX10_isOn_12 (by decide) ?_
    obtain ⟨g8, h⟩ := v_ifs h
    obtain ⟨z3, ez3, h⟩ := v_bnd h
    refine v_call1 (v := .int z3) (M1 := M) (mc := 0) (ms := 0) (fun H locs hR hS => va_runV (As := [.int x1, .int 3]) (rest := []) ⟨hx, hb, hml, hown, hts⟩ (mX10_ofCursor l hfl D x0 x1 3 M z3 ez3) (cwV 2 hts (gdV kw1547 kw1549 kw56 kw85 kw1550) rfl rfl rfl (by decide +kernel) ⟨Nat.le_of_ble_eq_true rfl, Nat.le_of_ble_eq_true rfl⟩) (v_preV (ci := 11) hSS hR hS g8 (by decide) rfl [.int x1, .int 3]) rfl rfl hl.1 rfl (lv_room (Nat.le_of_ble_eq_true rfl)) dX10_isOn_13 ⟨Nat.zero_le _, Nat.zero_le _⟩) ?_
    refine w_iconst (v := 1) hx hb dX10_isOn_16 (by decide) ?_
    refine w_icmp_ne (tgt := 34) hx hb dX10_isOn_17 (by decide) (fun c4 => ?_) (fun c4 => ?_)
    · rw [if_pos c4] at h
      refine w_aload_n hx hb dX10_isOn_20 rfl (lv_at hl 0 rfl) ?_
      refine w_iload_n hx hb dX10_isOn_21 rfl (lv_at hl 1 rfl) ?_
      refine w_iconst (v := 1) hx hb dX10_isOn_22 (by decide) ?_
      obtain ⟨g8, h⟩ := v_ifs h
      obtain ⟨z5, ez5, h⟩ := v_bnd h
      refine v_call1 (v := .int z5) (M1 := M) (mc := 0) (ms := 0) (fun H locs hR hS => va_runV (As := [.int x1, .int 1]) (rest := []) ⟨hx, hb, hml, hown, hts⟩ (mX10_ofCursor l hfl D x0 x1 1 M z5 ez5) (cwV 2 hts (gdV kw1547 kw1549 kw56 kw85 kw1550) rfl rfl rfl (by decide +kernel) ⟨Nat.le_of_ble_eq_true rfl, Nat.le_of_ble_eq_true rfl⟩) (v_preV (ci := 11) hSS hR hS g8 (by decide) rfl [.int x1, .int 1]) rfl rfl hl.1 rfl (lv_room (Nat.le_of_ble_eq_true rfl)) dX10_isOn_23 ⟨Nat.zero_le _, Nat.zero_le _⟩) ?_
      refine w_iload_n hx hb dX10_isOn_26 rfl (lv_at hl 2 rfl) ?_
      refine w_icmp_ne (tgt := 34) hx hb dX10_isOn_27 (by decide) (fun c6 => ?_) (fun c6 => ?_)
      · rw [if_pos c6] at h
        refine w_iconst (v := 1) hx hb dX10_isOn_30 (by decide) ?_
        refine w_goto (tgt := 35) hx hb dX10_isOn_31 (by decide) ?_
        obtain rfl := Option.some.inj h
        rw [hQ]
        exact v_zret (x := 1) hx hb hr hlk rfl dX10_isOn_35
      · rw [if_neg c6] at h
        refine w_iconst (v := 0) hx hb dX10_isOn_34 (by decide) ?_
        obtain rfl := Option.some.inj h
        rw [hQ]
        exact v_zret (x := 0) hx hb hr hlk rfl dX10_isOn_35
    · rw [if_neg c4] at h
      refine w_iconst (v := 0) hx hb dX10_isOn_34 (by decide) ?_
      obtain rfl := Option.some.inj h
      rw [hQ]
      exact v_zret (x := 0) hx hb hr hlk rfl dX10_isOn_35
  · rw [if_neg c2] at h
    refine w_iconst (v := 0) hx hb dX10_isOn_34 (by decide) ?_
    obtain rfl := Option.some.inj h
    rw [hQ]
    exact v_zret (x := 0) hx hb hr hlk rfl dX10_isOn_35

def tX10_orders_J86_4 (rec : Int32 → Int32 → vMe → Option (Int32 × vMe)) (x0 : Nat) (x1 : Int32) (x2 : Int32) (x3 : Int32) (Mj : vMe) : Option (Int32 × vMe) :=
  rec x2 (x3 + 1) Mj
def tX10_orders_L25 (x0 : Nat) (x1 : Int32) (x2 : Int32) (x3 : Int32) : Nat → Int32 → vMe → Option (Int32 × vMe)
  | 0, _, _ => none
  | f + 1, x4, Mi =>
  if x4 ≤ 0 then
  (some (x4, Mi))
else
  ((gA Mi x0 12 17).bind fun a41 =>
  (aI Mi a41 101 (x4 - 1)).bind fun v42 =>
  if (Mi.1 x0).1 = 12 then
  ((tX10_ofCursor x0 v42 2 Mi).bind fun z43 =>
  if (Mi.1 x0).1 = 12 then
  ((tX10_ofCursor x0 x3 2 Mi).bind fun z44 =>
  if z43 ≤ z44 then
  (some (x4, Mi))
else
  ((gA Mi x0 12 17).bind fun a46 =>
  (gA Mi x0 12 17).bind fun a47 =>
  (aI Mi a47 101 (x4 - 1)).bind fun v48 =>
  (sA Mi a46 101 x4 (.int v48)).bind fun M49 =>
  tX10_orders_L25 x0 x1 x2 x3 f (x4 + (-1)) M49))
else none)
else none)
def tX10_orders_J75_4 (rec : Int32 → Int32 → vMe → Option (Int32 × vMe)) (x0 : Nat) (x1 : Int32) (x2 : Int32) (x3 : Int32) (x4 : Int32) (Mj : vMe) : Option (Int32 × vMe) :=
  (gA Mj x0 12 17).bind fun a51 =>
  (sA Mj a51 101 x4 (.int x3)).bind fun M52 =>
  tX10_orders_J86_4 (rec) x0 x1 (x2 + 1) x3 M52
def tX10_orders_L4 (x0 : Nat) (x1 : Int32) : Nat → Int32 → Int32 → vMe → Option (Int32 × vMe)
  | 0, _, _, _ => none
  | f + 1, x2, x3, Mi =>
  if (6 : Int32) ≤ x3 then
  (some (x2, Mi))
else
  (if (Mi.1 x0).1 = 12 then
  ((tX10_isOn x0 x3 x1 Mi).bind fun z28 =>
  if z28 = 0 then
  (tX10_orders_J86_4 (tX10_orders_L4 x0 x1 f) x0 x1 x2 x3 Mi)
else
  ((tX10_orders_L25 x0 x1 x2 x3 vF x2 Mi).bind fun z50 =>
  tX10_orders_J75_4 (tX10_orders_L4 x0 x1 f) x0 x1 x2 x3 z50.1 z50.2))
else none)
def tX10_orders (x0 : Nat) (x1 : Int32) (M : vMe) : Option (Int32 × vMe) :=
  (tX10_orders_L4 x0 x1 vF 0 0 M).bind fun z53 =>
  some (z53.1, z53.2)
def rmX10_orders : Room := { frames := 3, cells := 0, slots := 0, locals := 44 }
set_option maxHeartbeats 4000000 in
set_option maxRecDepth 100000 in
theorem mX10_orders (l : Launch) (hfl : l.stackTraces = false) (D : vD) (x0 : Nat) (x1 : Int32) (M : vMe) (z : (Int32 × vMe)) (h : tX10_orders x0 x1 M = some z) : Met l yX10_orders (Cond.code yX10_orders cX10_orders 5 (some .int) :: TB) rmX10_orders (va_Pc [.ref x0, .int x1] (vPre D M)) (qW D (some (.int z.1)) z.2) 0 0 (vA D) := by
  refine v_ofW (cc := cX10_orders) (maxL := 5) (ret := (some .int)) (by decide) (Nat.le_of_ble_eq_true rfl) ?_
  intro p e s m args below meth c Q hx hb hr hml hown hts hlk hnm hSS hR0 hQ ls hl
  have hK := hSS.1
  have hl : lv_has ls 5 [(0, .ref x0), (1, .int x1)] := hl
  unfold tX10_orders at h
  have X10_orders_L25p : ∀ (x0 : Nat) (x1 : Int32) (x2 : Int32) (x3 : Int32), ∀ (f : Nat) (x4 : Int32) (Mi : vMe) (ls : Array Slot) (z : (Int32 × vMe)), lv_has ls 5 [(0, .ref x0), (1, .int x1), (2, .int x2), (3, .int x3), (4, .int x4)] → tX10_orders_L25 x0 x1 x2 x3 f x4 Mi = some z → (∀ ls : Array Slot, lv_has ls 5 [(0, .ref x0), (1, .int x1), (2, .int x2), (3, .int x3), (4, .int z.1)] → vV D p l e rmX10_orders s m args below meth c 0 0 Q z.2 (F0 m 75 ls [])) → vV D p l e rmX10_orders s m args below meth c 0 0 Q Mi (F0 m 25 ls []) := by
    intro x0 x1 x2 x3 f
    induction f with
    | zero =>
      intro x4 Mi ls z hl h
      exact absurd h (by simp [tX10_orders_L25])
    | succ f ih =>
      intro x4 Mi ls z hl h KX
      rw [tX10_orders_L25] at h
      refine w_iload hx hb dX10_orders_25 (lv_at hl 4 rfl) ?_
      refine w_if_le (tgt := 75) hx hb dX10_orders_27 (by decide) (fun c40 => ?_) (fun c40 => ?_)
      · rw [if_pos c40] at h
        obtain rfl := Option.some.inj h
        exact KX ls (lv_sub hl [0, 1, 2, 3, 4] rfl)
      · rw [if_neg c40] at h
        refine w_aload_n hx hb dX10_orders_30 rfl (lv_at hl 0 rfl) ?_
        refine w_aload_n hx hb dX10_orders_31 rfl (lv_at hl 0 rfl) ?_
        obtain ⟨a41, ea41, h⟩ := v_bnd h
        refine v_gA (ci := 11) hx hb hts iwX10 hown hK 17 ea41 rfl (by decide) (Or.inl (hts _ kw1352)) (fun _ h9 => h9) dX10_orders_32 ?_
        refine w_iload hx hb dX10_orders_35 (lv_at hl 4 rfl) ?_
        refine w_iconst (v := 1) hx hb dX10_orders_37 (by decide) ?_
        refine w_isub hx hb dX10_orders_38 ?_
        obtain ⟨v42, ev42, h⟩ := v_bnd h
        refine v_iald hx hb hK ev42 dX10_orders_39 ?_
        refine w_iconst (v := 2) hx hb dX10_orders_40 (by decide) ?_
        obtain ⟨g8, h⟩ := v_ifs h
        obtain ⟨z43, ez43, h⟩ := v_bnd h
        refine v_call1 (v := .int z43) (M1 := Mi) (mc := 0) (ms := 0) (fun H locs hR hS => va_runV (As := [.int v42, .int 2]) (rest := []) ⟨hx, hb, hml, hown, hts⟩ (mX10_ofCursor l hfl D x0 v42 2 Mi z43 ez43) (cwV 2 hts (gdV kw1547 kw1549 kw56 kw85 kw1550) rfl rfl rfl (by decide +kernel) ⟨Nat.le_of_ble_eq_true rfl, Nat.le_of_ble_eq_true rfl⟩) (v_preV (ci := 11) hSS hR hS g8 (by decide) rfl [.int v42, .int 2]) rfl rfl hl.1 rfl (lv_room (Nat.le_of_ble_eq_true rfl)) dX10_orders_41 ⟨Nat.zero_le _, Nat.zero_le _⟩) ?_
        refine w_aload_n hx hb dX10_orders_44 rfl (lv_at hl 0 rfl) ?_
        refine w_iload_n hx hb dX10_orders_45 rfl (lv_at hl 3 rfl) ?_
        refine w_iconst (v := 2) hx hb dX10_orders_46 (by decide) ?_
        obtain ⟨g8, h⟩ := v_ifs h
        obtain ⟨z44, ez44, h⟩ := v_bnd h
        refine v_call1 (v := .int z44) (M1 := Mi) (mc := 0) (ms := 0) (fun H locs hR hS => va_runV (As := [.int x3, .int 2]) (rest := [.int z43]) ⟨hx, hb, hml, hown, hts⟩ (mX10_ofCursor l hfl D x0 x3 2 Mi z44 ez44) (cwV 2 hts (gdV kw1547 kw1549 kw56 kw85 kw1550) rfl rfl rfl (by decide +kernel) ⟨Nat.le_of_ble_eq_true rfl, Nat.le_of_ble_eq_true rfl⟩) (v_preV (ci := 11) hSS hR hS g8 (by decide) rfl [.int x3, .int 2]) rfl rfl hl.1 rfl (lv_room (Nat.le_of_ble_eq_true rfl)) dX10_orders_47 ⟨Nat.zero_le _, Nat.zero_le _⟩) ?_
        refine w_icmp_le (tgt := 75) hx hb dX10_orders_50 (by decide) (fun c45 => ?_) (fun c45 => ?_)
        · rw [if_pos c45] at h
          obtain rfl := Option.some.inj h
          exact KX ls (lv_sub hl [0, 1, 2, 3, 4] rfl)
        · rw [if_neg c45] at h
          refine w_aload_n hx hb dX10_orders_53 rfl (lv_at hl 0 rfl) ?_
          obtain ⟨a46, ea46, h⟩ := v_bnd h
          refine v_gA (ci := 11) hx hb hts iwX10 hown hK 17 ea46 rfl (by decide) (Or.inl (hts _ kw1352)) (fun _ h9 => h9) dX10_orders_54 ?_
          refine w_iload hx hb dX10_orders_57 (lv_at hl 4 rfl) ?_
          refine w_aload_n hx hb dX10_orders_59 rfl (lv_at hl 0 rfl) ?_
          obtain ⟨a47, ea47, h⟩ := v_bnd h
          refine v_gA (ci := 11) hx hb hts iwX10 hown hK 17 ea47 rfl (by decide) (Or.inl (hts _ kw1352)) (fun _ h9 => h9) dX10_orders_60 ?_
          refine w_iload hx hb dX10_orders_63 (lv_at hl 4 rfl) ?_
          refine w_iconst (v := 1) hx hb dX10_orders_65 (by decide) ?_
          refine w_isub hx hb dX10_orders_66 ?_
          obtain ⟨v48, ev48, h⟩ := v_bnd h
          refine v_iald hx hb hK ev48 dX10_orders_67 ?_
          obtain ⟨M49, eM49, h⟩ := v_bnd h
          refine v_iast hx hb hK eM49 dX10_orders_68 ?_
          refine w_iinc (v := x4 + (-1)) (lv' := [(4, .int (x4 + (-1))), (0, .ref x0), (1, .int x1), (2, .int x2), (3, .int x3)]) hx hb dX10_orders_69 hl (j := 4) rfl rfl (by decide) rfl (fun ls hl => ?_)
          have hl : lv_has ls 5 [(0, .ref x0), (1, .int x1), (2, .int x2), (3, .int x3), (4, .int (x4 + (-1)))] := lv_sub hl [1, 2, 3, 4, 0] rfl
          refine w_goto (tgt := 25) hx hb dX10_orders_72 (by decide) ?_
          exact ih (x4 + (-1)) M49 ls z (lv_sub hl [0, 1, 2, 3, 4] rfl) h KX
  have X10_orders_L4p : ∀ (x0 : Nat) (x1 : Int32), ∀ (f : Nat) (x2 : Int32) (x3 : Int32) (Mi : vMe) (ls : Array Slot) (z : (Int32 × vMe)), lv_has ls 5 [(0, .ref x0), (1, .int x1), (2, .int x2), (3, .int x3)] → tX10_orders_L4 x0 x1 f x2 x3 Mi = some z → (∀ ls : Array Slot, lv_has ls 5 [(2, .int z.1)] → vV D p l e rmX10_orders s m args below meth c 0 0 Q z.2 (F0 m 92 ls [])) → vV D p l e rmX10_orders s m args below meth c 0 0 Q Mi (F0 m 4 ls []) := by
    intro x0 x1 f
    induction f with
    | zero =>
      intro x2 x3 Mi ls z hl h
      exact absurd h (by simp [tX10_orders_L4])
    | succ f ih =>
      intro x2 x3 Mi ls z hl h KX
      rw [tX10_orders_L4] at h
      have X10_orders_J86_4p : ∀ (x2 : Int32) (x3 : Int32) (Mj : vMe) (ls : Array Slot), lv_has ls 5 [(0, .ref x0), (1, .int x1), (2, .int x2), (3, .int x3)] → tX10_orders_J86_4 (tX10_orders_L4 x0 x1 f) x0 x1 x2 x3 Mj = some z → vV D p l e rmX10_orders s m args below meth c 0 0 Q Mj (F0 m 86 ls []) := by
        intro x2 x3 Mj ls hl h
        unfold tX10_orders_J86_4 at h
        refine w_iinc (v := x3 + 1) (lv' := [(3, .int (x3 + 1)), (0, .ref x0), (1, .int x1), (2, .int x2)]) hx hb dX10_orders_86 hl (j := 3) rfl rfl (by decide) rfl (fun ls hl => ?_)
        have hl : lv_has ls 5 [(0, .ref x0), (1, .int x1), (2, .int x2), (3, .int (x3 + 1))] := lv_sub hl [1, 2, 3, 0] rfl
        refine w_goto (tgt := 4) hx hb dX10_orders_89 (by decide) ?_
        exact ih x2 (x3 + 1) Mj ls z (lv_sub hl [0, 1, 2, 3] rfl) h KX
      have X10_orders_J75_4p : ∀ (x2 : Int32) (x3 : Int32) (x4 : Int32) (Mj : vMe) (ls : Array Slot), lv_has ls 5 [(0, .ref x0), (1, .int x1), (2, .int x2), (3, .int x3), (4, .int x4)] → tX10_orders_J75_4 (tX10_orders_L4 x0 x1 f) x0 x1 x2 x3 x4 Mj = some z → vV D p l e rmX10_orders s m args below meth c 0 0 Q Mj (F0 m 75 ls []) := by
        intro x2 x3 x4 Mj ls hl h
        unfold tX10_orders_J75_4 at h
        refine w_aload_n hx hb dX10_orders_75 rfl (lv_at hl 0 rfl) ?_
        obtain ⟨a51, ea51, h⟩ := v_bnd h
        refine v_gA (ci := 11) hx hb hts iwX10 hown hK 17 ea51 rfl (by decide) (Or.inl (hts _ kw1352)) (fun _ h9 => h9) dX10_orders_76 ?_
        refine w_iload hx hb dX10_orders_79 (lv_at hl 4 rfl) ?_
        refine w_iload_n hx hb dX10_orders_81 rfl (lv_at hl 3 rfl) ?_
        obtain ⟨M52, eM52, h⟩ := v_bnd h
        refine v_iast hx hb hK eM52 dX10_orders_82 ?_
        refine w_iinc (v := x2 + 1) (lv' := [(2, .int (x2 + 1)), (0, .ref x0), (1, .int x1), (3, .int x3), (4, .int x4)]) hx hb dX10_orders_83 hl (j := 2) rfl rfl (by decide) rfl (fun ls hl => ?_)
        have hl : lv_has ls 5 [(0, .ref x0), (1, .int x1), (2, .int (x2 + 1)), (3, .int x3), (4, .int x4)] := lv_sub hl [1, 2, 0, 3, 4] rfl
        exact X10_orders_J86_4p (x2 + 1) x3 M52 ls (lv_sub hl [0, 1, 2, 3] rfl) h
      refine w_iload_n hx hb dX10_orders_4 rfl (lv_at hl 3 rfl) ?_
      refine w_bipush (v := 6) hx hb dX10_orders_5 (by decide) ?_
      refine w_icmp_ge (tgt := 92) hx hb dX10_orders_7 (by decide) (fun c27 => ?_) (fun c27 => ?_)
      · rw [if_pos c27] at h
        obtain rfl := Option.some.inj h
        exact KX ls (lv_sub hl [2] rfl)
      · rw [if_neg c27] at h
        refine w_aload_n hx hb dX10_orders_10 rfl (lv_at hl 0 rfl) ?_
        refine w_iload_n hx hb dX10_orders_11 rfl (lv_at hl 3 rfl) ?_
        refine w_iload_n hx hb dX10_orders_12 rfl (lv_at hl 1 rfl) ?_
        obtain ⟨g8, h⟩ := v_ifs h
        obtain ⟨z28, ez28, h⟩ := v_bnd h
        refine v_call1 (v := .int z28) (M1 := Mi) (mc := 0) (ms := 0) (fun H locs hR hS => va_runV (As := [.int x3, .int x1]) (rest := []) ⟨hx, hb, hml, hown, hts⟩ (mX10_isOn l hfl D x0 x3 x1 Mi z28 ez28) (cwV 2 hts (gdV kw1543 kw1545 kw55 kw85 kw1546) rfl rfl rfl (by decide +kernel) ⟨Nat.le_of_ble_eq_true rfl, Nat.le_of_ble_eq_true rfl⟩) (v_preV (ci := 11) hSS hR hS g8 (by decide) rfl [.int x3, .int x1]) rfl rfl hl.1 rfl (lv_room (Nat.le_of_ble_eq_true rfl)) dX10_orders_13 ⟨Nat.zero_le _, Nat.zero_le _⟩) ?_
        refine w_if_ne (tgt := 22) hx hb dX10_orders_16 (by decide) (fun c29 => ?_) (fun c29 => ?_)
        · rw [if_pos c29] at h
          refine w_goto (tgt := 86) hx hb dX10_orders_19 (by decide) ?_
          exact X10_orders_J86_4p x2 x3 Mi ls (lv_sub hl [0, 1, 2, 3] rfl) h
        · rw [if_neg c29] at h
          refine w_iload_n hx hb dX10_orders_22 rfl (lv_at hl 2 rfl) ?_
          refine w_istore (lv' := [(4, .int x2), (0, .ref x0), (1, .int x1), (2, .int x2), (3, .int x3)]) hx hb dX10_orders_23 hl (by decide) rfl (fun ls hl => ?_)
          have hl : lv_has ls 5 [(0, .ref x0), (1, .int x1), (2, .int x2), (3, .int x3), (4, .int x2)] := lv_sub hl [1, 2, 3, 4, 0] rfl
          obtain ⟨z50, ez50, h⟩ := v_bnd h
          refine X10_orders_L25p x0 x1 x2 x3 vF x2 Mi ls z50 (lv_sub hl [0, 1, 2, 3, 4] rfl) ez50 (fun ls hl => ?_)
          exact X10_orders_J75_4p x2 x3 z50.1 z50.2 ls (lv_sub hl [0, 1, 2, 3, 4] rfl) h
  refine w_iconst (v := 0) hx hb dX10_orders_0 (by decide) ?_
  refine w_istore_n (lv' := [(2, .int 0), (0, .ref x0), (1, .int x1)]) hx hb dX10_orders_1 rfl hl (by decide) rfl (fun ls hl => ?_)
  have hl : lv_has ls 5 [(0, .ref x0), (1, .int x1), (2, .int 0)] := lv_sub hl [1, 2, 0] rfl
  refine w_iconst (v := 0) hx hb dX10_orders_2 (by decide) ?_
  refine w_istore_n (lv' := [(3, .int 0), (0, .ref x0), (1, .int x1), (2, .int 0)]) hx hb dX10_orders_3 rfl hl (by decide) rfl (fun ls hl => ?_)
  have hl : lv_has ls 5 [(0, .ref x0), (1, .int x1), (2, .int 0), (3, .int 0)] := lv_sub hl [1, 2, 3, 0] rfl
  obtain ⟨z53, ez53, h⟩ := v_bnd h
  refine X10_orders_L4p x0 x1 vF 0 0 M ls z53 (lv_sub hl [0, 1, 2, 3] rfl) ez53 (fun ls hl => ?_)
  refine w_iload_n hx hb dX10_orders_92 rfl (lv_at hl 0 rfl) ?_
  obtain rfl := Option.some.inj h
  rw [hQ]
  exact v_iret hx hb hr hlk dX10_orders_93

def tX10_fills (x0 : Nat) (x1 : Int32) (x2 : Int32) (x3 : Int32) (M : vMe) : Option (Unit × vMe) :=
  if x3 = x2 then
  (some ((), M))
else
  (if (M.1 x0).1 = 12 then
  ((tX10_of x0 x1 (6 + x3) M).bind fun z2 =>
  if (M.1 x0).1 = 12 then
  ((tX10_lay x0 x1 z2 x2 M).bind fun z3 =>
  some ((), z3.2))
else none)
else none)
def rmX10_fills : Room := { frames := 3, cells := 0, slots := 0, locals := 46 }
set_option maxHeartbeats 4000000 in
set_option maxRecDepth 100000 in
theorem mX10_fills (l : Launch) (hfl : l.stackTraces = false) (D : vD) (x0 : Nat) (x1 : Int32) (x2 : Int32) (x3 : Int32) (M : vMe) (z : (Unit × vMe)) (h : tX10_fills x0 x1 x2 x3 M = some z) : Met l yX10_fills (Cond.code yX10_fills cX10_fills 4 none :: TB) rmX10_fills (va_Pc [.ref x0, .int x1, .int x2, .int x3] (vPre D M)) (qW D none z.2) 0 0 (vA D) := by
  refine v_ofW (cc := cX10_fills) (maxL := 4) (ret := none) (by decide) (Nat.le_of_ble_eq_true rfl) ?_
  intro p e s m args below meth c Q hx hb hr hml hown hts hlk hnm hSS hR0 hQ ls hl
  have hK := hSS.1
  have hl : lv_has ls 4 [(0, .ref x0), (1, .int x1), (2, .int x2), (3, .int x3)] := hl
  unfold tX10_fills at h
  refine w_iload_n hx hb dX10_fills_0 rfl (lv_at hl 3 rfl) ?_
  refine w_iload_n hx hb dX10_fills_1 rfl (lv_at hl 2 rfl) ?_
  refine w_icmp_eq (tgt := 20) hx hb dX10_fills_2 (by decide) (fun c1 => ?_) (fun c1 => ?_)
  · rw [if_pos c1] at h
    obtain rfl := Option.some.inj h
    rw [hQ]
    exact v_vret hx hb hr hlk dX10_fills_20
  · rw [if_neg c1] at h
    refine w_aload_n hx hb dX10_fills_5 rfl (lv_at hl 0 rfl) ?_
    refine w_iload_n hx hb dX10_fills_6 rfl (lv_at hl 1 rfl) ?_
    refine w_aload_n hx hb dX10_fills_7 rfl (lv_at hl 0 rfl) ?_
    refine w_iload_n hx hb dX10_fills_8 rfl (lv_at hl 1 rfl) ?_
    refine w_bipush (v := 6) hx hb dX10_fills_9 (by decide) ?_
    refine w_iload_n hx hb dX10_fills_11 rfl (lv_at hl 3 rfl) ?_
    refine w_iadd hx hb dX10_fills_12 ?_
    obtain ⟨g8, h⟩ := v_ifs h
    obtain ⟨z2, ez2, h⟩ := v_bnd h
    refine v_call1 (v := .int z2) (M1 := M) (mc := 0) (ms := 0) (fun H locs hR hS => va_runV (As := [.int x1, .int (6 + x3)]) (rest := [.int x1, .ref x0]) ⟨hx, hb, hml, hown, hts⟩ (mX10_of l hfl D x0 x1 (6 + x3) M z2 ez2) (cwV 2 hts (gdV kw1497 kw1499 kw44 kw85 kw1500) rfl rfl rfl (by decide +kernel) ⟨Nat.le_of_ble_eq_true rfl, Nat.le_of_ble_eq_true rfl⟩) (v_preV (ci := 11) hSS hR hS g8 (by decide) rfl [.int x1, .int (6 + x3)]) rfl rfl hl.1 rfl (lv_room (Nat.le_of_ble_eq_true rfl)) dX10_fills_13 ⟨Nat.zero_le _, Nat.zero_le _⟩) ?_
    refine w_iload_n hx hb dX10_fills_16 rfl (lv_at hl 2 rfl) ?_
    obtain ⟨g8, h⟩ := v_ifs h
    obtain ⟨z3, ez3, h⟩ := v_bnd h
    refine v_call0 (M1 := z3.2) (mc := 0) (ms := 0) (fun H locs hR hS => va_runV (As := [.int x1, .int z2, .int x2]) (rest := []) ⟨hx, hb, hml, hown, hts⟩ (mX10_lay l hfl D x0 x1 z2 x2 M z3 ez3) (cwV 3 hts (gdV kw1501 kw1503 kw45 kw85 kw1504) rfl rfl rfl (by decide +kernel) ⟨Nat.le_of_ble_eq_true rfl, Nat.le_of_ble_eq_true rfl⟩) (v_preV (ci := 11) hSS hR hS g8 (by decide) rfl [.int x1, .int z2, .int x2]) rfl rfl hl.1 rfl (lv_room (Nat.le_of_ble_eq_true rfl)) dX10_fills_17 ⟨Nat.zero_le _, Nat.zero_le _⟩) ?_
    obtain rfl := Option.some.inj h
    rw [hQ]
    exact v_vret hx hb hr hlk dX10_fills_20

def tX10_setsCursor (x0 : Nat) (x1 : Int32) (x2 : Int32) (x3 : Int32) (M : vMe) : Option (Unit × vMe) :=
  (gA M x0 12 1).bind fun a1 =>
  (sA M a1 101 ((14 + (8 * x1)) + x2) (.int x3)).bind fun M2 =>
  some ((), M2)
def rmX10_setsCursor : Room := { frames := 1, cells := 0, slots := 0, locals := 0 }
set_option maxHeartbeats 4000000 in
set_option maxRecDepth 100000 in
theorem mX10_setsCursor (l : Launch) (hfl : l.stackTraces = false) (D : vD) (x0 : Nat) (x1 : Int32) (x2 : Int32) (x3 : Int32) (M : vMe) (z : (Unit × vMe)) (h : tX10_setsCursor x0 x1 x2 x3 M = some z) : Met l yX10_setsCursor (Cond.code yX10_setsCursor cX10_setsCursor 4 none :: TB) rmX10_setsCursor (va_Pc [.ref x0, .int x1, .int x2, .int x3] (vPre D M)) (qW D none z.2) 0 0 (vA D) := by
  refine v_ofW (cc := cX10_setsCursor) (maxL := 4) (ret := none) (by decide) (Nat.le_of_ble_eq_true rfl) ?_
  intro p e s m args below meth c Q hx hb hr hml hown hts hlk hnm hSS hR0 hQ ls hl
  have hK := hSS.1
  have hl : lv_has ls 4 [(0, .ref x0), (1, .int x1), (2, .int x2), (3, .int x3)] := hl
  unfold tX10_setsCursor at h
  refine w_aload_n hx hb dX10_setsCursor_0 rfl (lv_at hl 0 rfl) ?_
  obtain ⟨a1, ea1, h⟩ := v_bnd h
  refine v_gA (ci := 11) hx hb hts iwX10 hown hK 1 ea1 rfl (by decide) (Or.inl (hts _ kw1336)) (fun _ h9 => h9) dX10_setsCursor_1 ?_
  refine w_bipush (v := 14) hx hb dX10_setsCursor_4 (by decide) ?_
  refine w_bipush (v := 8) hx hb dX10_setsCursor_6 (by decide) ?_
  refine w_iload_n hx hb dX10_setsCursor_8 rfl (lv_at hl 1 rfl) ?_
  refine w_imul hx hb dX10_setsCursor_9 ?_
  refine w_iadd hx hb dX10_setsCursor_10 ?_
  refine w_iload_n hx hb dX10_setsCursor_11 rfl (lv_at hl 2 rfl) ?_
  refine w_iadd hx hb dX10_setsCursor_12 ?_
  refine w_iload_n hx hb dX10_setsCursor_13 rfl (lv_at hl 3 rfl) ?_
  obtain ⟨M2, eM2, h⟩ := v_bnd h
  refine v_iast hx hb hK eM2 dX10_setsCursor_14 ?_
  obtain rfl := Option.some.inj h
  rw [hQ]
  exact v_vret hx hb hr hlk dX10_setsCursor_15

def tX10_goes_J81_20 (rec : Int32 → Int32 → vMe → Option (Int32 × vMe)) (x0 : Nat) (x1 : Int32) (x2 : Int32) (x3 : Int32) (x4 : Int32) (x5 : Int32) (Mj : vMe) : Option (Int32 × vMe) :=
  rec x3 (x5 + 1) Mj
def tX10_goes_L20 (x0 : Nat) (x1 : Int32) (x2 : Int32) (x4 : Int32) : Nat → Int32 → Int32 → vMe → Option (Int32 × vMe)
  | 0, _, _, _ => none
  | f + 1, x3, x5, Mi =>
  if x4 ≤ x5 then
  (some (x3, Mi))
else
  ((gA Mi x0 12 17).bind fun a13 =>
  (aI Mi a13 101 x5).bind fun v14 =>
  if (Mi.1 x0).1 = 12 then
  ((tX10_ofCursor x0 v14 2 Mi).bind fun z15 =>
  if x3 < z15 then
  (if (Mi.1 x0).1 = 12 then
  ((tX10_fills x0 x1 x3 (z15 - 1) Mi).bind fun z17 =>
  (gA z17.2 x0 12 17).bind fun a18 =>
  (aI z17.2 a18 101 x5).bind fun v19 =>
  if (z17.2.1 x0).1 = 12 then
  ((tX10_setsCursor x0 v19 2 (z15 - 1) z17.2).bind fun z20 =>
  tX10_goes_J81_20 (tX10_goes_L20 x0 x1 x2 x4 f) x0 x1 x2 (z15 - 1) x4 x5 z20.2)
else none)
else none)
else
  (tX10_goes_J81_20 (tX10_goes_L20 x0 x1 x2 x4 f) x0 x1 x2 x3 x4 x5 Mi))
else none)
def tX10_goes (x0 : Nat) (x1 : Int32) (x2 : Int32) (M : vMe) : Option (Unit × vMe) :=
  if (M.1 x0).1 = 12 then
  ((tX10_of x0 x1 (70 + x2) M).bind fun z1 =>
  if (M.1 x0).1 = 12 then
  ((tX10_orders x0 x1 M).bind fun z2 =>
  (tX10_goes_L20 x0 x1 x2 z2.1 vF z1 0 z2.2).bind fun z21 =>
  if (z21.2.1 x0).1 = 12 then
  ((tX10_of x0 x1 0 z21.2).bind fun z22 =>
  if (z21.2.1 x0).1 = 12 then
  ((tX10_fills x0 x1 z21.1 (z22 - 1) z21.2).bind fun z23 =>
  if (z23.2.1 x0).1 = 12 then
  ((tX10_sets x0 x1 0 (z22 - 1) z23.2).bind fun z24 =>
  if (z24.2.1 x0).1 = 12 then
  ((tX10_happens x0 x1 x2 1 z24.2).bind fun z25 =>
  some ((), z25.2))
else none)
else none)
else none)
else none)
else none)
else none
def rmX10_goes : Room := { frames := 6, cells := 0, slots := 0, locals := 121 }
set_option maxHeartbeats 4000000 in
set_option maxRecDepth 100000 in
theorem mX10_goes (l : Launch) (hfl : l.stackTraces = false) (D : vD) (x0 : Nat) (x1 : Int32) (x2 : Int32) (M : vMe) (z : (Unit × vMe)) (h : tX10_goes x0 x1 x2 M = some z) : Met l yX10_goes (Cond.code yX10_goes cX10_goes 7 none :: TB) rmX10_goes (va_Pc [.ref x0, .int x1, .int x2] (vPre D M)) (qW D none z.2) 0 0 (vA D) := by
  refine v_ofW (cc := cX10_goes) (maxL := 7) (ret := none) (by decide) (Nat.le_of_ble_eq_true rfl) ?_
  intro p e s m args below meth c Q hx hb hr hml hown hts hlk hnm hSS hR0 hQ ls hl
  have hK := hSS.1
  have hl : lv_has ls 7 [(0, .ref x0), (1, .int x1), (2, .int x2)] := hl
  unfold tX10_goes at h
  have X10_goes_L20p : ∀ (x0 : Nat) (x1 : Int32) (x2 : Int32) (x4 : Int32), ∀ (f : Nat) (x3 : Int32) (x5 : Int32) (Mi : vMe) (ls : Array Slot) (z : (Int32 × vMe)), lv_has ls 7 [(0, .ref x0), (1, .int x1), (2, .int x2), (3, .int x3), (4, .int x4), (5, .int x5)] → tX10_goes_L20 x0 x1 x2 x4 f x3 x5 Mi = some z → (∀ ls : Array Slot, lv_has ls 7 [(0, .ref x0), (1, .int x1), (2, .int x2), (3, .int z.1)] → vV D p l e rmX10_goes s m args below meth c 0 0 Q z.2 (F0 m 87 ls [])) → vV D p l e rmX10_goes s m args below meth c 0 0 Q Mi (F0 m 20 ls []) := by
    intro x0 x1 x2 x4 f
    induction f with
    | zero =>
      intro x3 x5 Mi ls z hl h
      exact absurd h (by simp [tX10_goes_L20])
    | succ f ih =>
      intro x3 x5 Mi ls z hl h KX
      rw [tX10_goes_L20] at h
      have X10_goes_J81_20p : ∀ (x3 : Int32) (x5 : Int32) (Mj : vMe) (ls : Array Slot), lv_has ls 7 [(0, .ref x0), (1, .int x1), (2, .int x2), (3, .int x3), (4, .int x4), (5, .int x5)] → tX10_goes_J81_20 (tX10_goes_L20 x0 x1 x2 x4 f) x0 x1 x2 x3 x4 x5 Mj = some z → vV D p l e rmX10_goes s m args below meth c 0 0 Q Mj (F0 m 81 ls []) := by
        intro x3 x5 Mj ls hl h
        unfold tX10_goes_J81_20 at h
        refine w_iinc (v := x5 + 1) (lv' := [(5, .int (x5 + 1)), (0, .ref x0), (1, .int x1), (2, .int x2), (3, .int x3), (4, .int x4)]) hx hb dX10_goes_81 hl (j := 5) rfl rfl (by decide) rfl (fun ls hl => ?_)
        have hl : lv_has ls 7 [(0, .ref x0), (1, .int x1), (2, .int x2), (3, .int x3), (4, .int x4), (5, .int (x5 + 1))] := lv_sub hl [1, 2, 3, 4, 5, 0] rfl
        refine w_goto (tgt := 20) hx hb dX10_goes_84 (by decide) ?_
        exact ih x3 (x5 + 1) Mj ls z (lv_sub hl [0, 1, 2, 3, 4, 5] rfl) h KX
      refine w_iload hx hb dX10_goes_20 (lv_at hl 5 rfl) ?_
      refine w_iload hx hb dX10_goes_22 (lv_at hl 4 rfl) ?_
      refine w_icmp_ge (tgt := 87) hx hb dX10_goes_24 (by decide) (fun c12 => ?_) (fun c12 => ?_)
      · rw [if_pos c12] at h
        obtain rfl := Option.some.inj h
        exact KX ls (lv_sub hl [0, 1, 2, 3] rfl)
      · rw [if_neg c12] at h
        refine w_aload_n hx hb dX10_goes_27 rfl (lv_at hl 0 rfl) ?_
        refine w_aload_n hx hb dX10_goes_28 rfl (lv_at hl 0 rfl) ?_
        obtain ⟨a13, ea13, h⟩ := v_bnd h
        refine v_gA (ci := 11) hx hb hts iwX10 hown hK 17 ea13 rfl (by decide) (Or.inl (hts _ kw1352)) (fun _ h9 => h9) dX10_goes_29 ?_
        refine w_iload hx hb dX10_goes_32 (lv_at hl 5 rfl) ?_
        obtain ⟨v14, ev14, h⟩ := v_bnd h
        refine v_iald hx hb hK ev14 dX10_goes_34 ?_
        refine w_iconst (v := 2) hx hb dX10_goes_35 (by decide) ?_
        obtain ⟨g8, h⟩ := v_ifs h
        obtain ⟨z15, ez15, h⟩ := v_bnd h
        refine v_call1 (v := .int z15) (M1 := Mi) (mc := 0) (ms := 0) (fun H locs hR hS => va_runV (As := [.int v14, .int 2]) (rest := []) ⟨hx, hb, hml, hown, hts⟩ (mX10_ofCursor l hfl D x0 v14 2 Mi z15 ez15) (cwV 2 hts (gdV kw1547 kw1549 kw56 kw85 kw1550) rfl rfl rfl (by decide +kernel) ⟨Nat.le_of_ble_eq_true rfl, Nat.le_of_ble_eq_true rfl⟩) (v_preV (ci := 11) hSS hR hS g8 (by decide) rfl [.int v14, .int 2]) rfl rfl hl.1 rfl (lv_room (Nat.le_of_ble_eq_true rfl)) dX10_goes_36 ⟨Nat.zero_le _, Nat.zero_le _⟩) ?_
        refine w_istore (lv' := [(6, .int z15), (0, .ref x0), (1, .int x1), (2, .int x2), (3, .int x3), (4, .int x4), (5, .int x5)]) hx hb dX10_goes_39 hl (by decide) rfl (fun ls hl => ?_)
        have hl : lv_has ls 7 [(0, .ref x0), (1, .int x1), (2, .int x2), (3, .int x3), (4, .int x4), (5, .int x5), (6, .int z15)] := lv_sub hl [1, 2, 3, 4, 5, 6, 0] rfl
        refine w_iload hx hb dX10_goes_41 (lv_at hl 6 rfl) ?_
        refine w_iload_n hx hb dX10_goes_43 rfl (lv_at hl 3 rfl) ?_
        refine w_icmp_gt (tgt := 50) hx hb dX10_goes_44 (by decide) (fun c16 => ?_) (fun c16 => ?_)
        · rw [if_pos c16] at h
          refine w_aload_n hx hb dX10_goes_50 rfl (lv_at hl 0 rfl) ?_
          refine w_iload_n hx hb dX10_goes_51 rfl (lv_at hl 1 rfl) ?_
          refine w_iload_n hx hb dX10_goes_52 rfl (lv_at hl 3 rfl) ?_
          refine w_iload hx hb dX10_goes_53 (lv_at hl 6 rfl) ?_
          refine w_iconst (v := 1) hx hb dX10_goes_55 (by decide) ?_
          refine w_isub hx hb dX10_goes_56 ?_
          obtain ⟨g8, h⟩ := v_ifs h
          obtain ⟨z17, ez17, h⟩ := v_bnd h
          refine v_call0 (M1 := z17.2) (mc := 0) (ms := 0) (fun H locs hR hS => va_runV (As := [.int x1, .int x3, .int (z15 - 1)]) (rest := []) ⟨hx, hb, hml, hown, hts⟩ (mX10_fills l hfl D x0 x1 x3 (z15 - 1) Mi z17 ez17) (cwV 3 hts (gdV kw1551 kw1553 kw57 kw85 kw1554) rfl rfl rfl (by decide +kernel) ⟨Nat.le_of_ble_eq_true rfl, Nat.le_of_ble_eq_true rfl⟩) (v_preV (ci := 11) hSS hR hS g8 (by decide) rfl [.int x1, .int x3, .int (z15 - 1)]) rfl rfl hl.1 rfl (lv_room (Nat.le_of_ble_eq_true rfl)) dX10_goes_57 ⟨Nat.zero_le _, Nat.zero_le _⟩) ?_
          refine w_iload hx hb dX10_goes_60 (lv_at hl 6 rfl) ?_
          refine w_iconst (v := 1) hx hb dX10_goes_62 (by decide) ?_
          refine w_isub hx hb dX10_goes_63 ?_
          refine w_istore_n (lv' := [(3, .int (z15 - 1)), (0, .ref x0), (1, .int x1), (2, .int x2), (4, .int x4), (5, .int x5), (6, .int z15)]) hx hb dX10_goes_64 rfl hl (by decide) rfl (fun ls hl => ?_)
          have hl : lv_has ls 7 [(0, .ref x0), (1, .int x1), (2, .int x2), (3, .int (z15 - 1)), (4, .int x4), (5, .int x5), (6, .int z15)] := lv_sub hl [1, 2, 3, 0, 4, 5, 6] rfl
          refine w_aload_n hx hb dX10_goes_65 rfl (lv_at hl 0 rfl) ?_
          refine w_aload_n hx hb dX10_goes_66 rfl (lv_at hl 0 rfl) ?_
          obtain ⟨a18, ea18, h⟩ := v_bnd h
          refine v_gA (ci := 11) hx hb hts iwX10 hown hK 17 ea18 rfl (by decide) (Or.inl (hts _ kw1352)) (fun _ h9 => h9) dX10_goes_67 ?_
          refine w_iload hx hb dX10_goes_70 (lv_at hl 5 rfl) ?_
          obtain ⟨v19, ev19, h⟩ := v_bnd h
          refine v_iald hx hb hK ev19 dX10_goes_72 ?_
          refine w_iconst (v := 2) hx hb dX10_goes_73 (by decide) ?_
          refine w_iload hx hb dX10_goes_74 (lv_at hl 6 rfl) ?_
          refine w_iconst (v := 1) hx hb dX10_goes_76 (by decide) ?_
          refine w_isub hx hb dX10_goes_77 ?_
          obtain ⟨g8, h⟩ := v_ifs h
          obtain ⟨z20, ez20, h⟩ := v_bnd h
          refine v_call0 (M1 := z20.2) (mc := 0) (ms := 0) (fun H locs hR hS => va_runV (As := [.int v19, .int 2, .int (z15 - 1)]) (rest := []) ⟨hx, hb, hml, hown, hts⟩ (mX10_setsCursor l hfl D x0 v19 2 (z15 - 1) z17.2 z20 ez20) (cwV 3 hts (gdV kw1555 kw1557 kw58 kw85 kw1558) rfl rfl rfl (by decide +kernel) ⟨Nat.le_of_ble_eq_true rfl, Nat.le_of_ble_eq_true rfl⟩) (v_preV (ci := 11) hSS hR hS g8 (by decide) rfl [.int v19, .int 2, .int (z15 - 1)]) rfl rfl hl.1 rfl (lv_room (Nat.le_of_ble_eq_true rfl)) dX10_goes_78 ⟨Nat.zero_le _, Nat.zero_le _⟩) ?_
          exact X10_goes_J81_20p (z15 - 1) x5 z20.2 ls (lv_sub hl [0, 1, 2, 3, 4, 5] rfl) h
        · rw [if_neg c16] at h
          refine w_goto (tgt := 81) hx hb dX10_goes_47 (by decide) ?_
          exact X10_goes_J81_20p x3 x5 Mi ls (lv_sub hl [0, 1, 2, 3, 4, 5] rfl) h
  refine w_aload_n hx hb dX10_goes_0 rfl (lv_at hl 0 rfl) ?_
  refine w_iload_n hx hb dX10_goes_1 rfl (lv_at hl 1 rfl) ?_
  refine w_bipush (v := 70) hx hb dX10_goes_2 (by decide) ?_
  refine w_iload_n hx hb dX10_goes_4 rfl (lv_at hl 2 rfl) ?_
  refine w_iadd hx hb dX10_goes_5 ?_
  obtain ⟨g8, h⟩ := v_ifs h
  obtain ⟨z1, ez1, h⟩ := v_bnd h
  refine v_call1 (v := .int z1) (M1 := M) (mc := 0) (ms := 0) (fun H locs hR hS => va_runV (As := [.int x1, .int (70 + x2)]) (rest := []) ⟨hx, hb, hml, hown, hts⟩ (mX10_of l hfl D x0 x1 (70 + x2) M z1 ez1) (cwV 2 hts (gdV kw1497 kw1499 kw44 kw85 kw1500) rfl rfl rfl (by decide +kernel) ⟨Nat.le_of_ble_eq_true rfl, Nat.le_of_ble_eq_true rfl⟩) (v_preV (ci := 11) hSS hR hS g8 (by decide) rfl [.int x1, .int (70 + x2)]) rfl rfl hl.1 rfl (lv_room (Nat.le_of_ble_eq_true rfl)) dX10_goes_6 ⟨Nat.zero_le _, Nat.zero_le _⟩) ?_
  refine w_istore_n (lv' := [(3, .int z1), (0, .ref x0), (1, .int x1), (2, .int x2)]) hx hb dX10_goes_9 rfl hl (by decide) rfl (fun ls hl => ?_)
  have hl : lv_has ls 7 [(0, .ref x0), (1, .int x1), (2, .int x2), (3, .int z1)] := lv_sub hl [1, 2, 3, 0] rfl
  refine w_aload_n hx hb dX10_goes_10 rfl (lv_at hl 0 rfl) ?_
  refine w_iload_n hx hb dX10_goes_11 rfl (lv_at hl 1 rfl) ?_
  obtain ⟨g8, h⟩ := v_ifs h
  obtain ⟨z2, ez2, h⟩ := v_bnd h
  refine v_call1 (v := .int z2.1) (M1 := z2.2) (mc := 0) (ms := 0) (fun H locs hR hS => va_runV (As := [.int x1]) (rest := []) ⟨hx, hb, hml, hown, hts⟩ (mX10_orders l hfl D x0 x1 M z2 ez2) (cwV 1 hts (gdV kw1539 kw1541 kw54 kw85 kw1542) rfl rfl rfl (by decide +kernel) ⟨Nat.le_of_ble_eq_true rfl, Nat.le_of_ble_eq_true rfl⟩) (v_preV (ci := 11) hSS hR hS g8 (by decide) rfl [.int x1]) rfl rfl hl.1 rfl (lv_room (Nat.le_of_ble_eq_true rfl)) dX10_goes_12 ⟨Nat.zero_le _, Nat.zero_le _⟩) ?_
  refine w_istore (lv' := [(4, .int z2.1), (0, .ref x0), (1, .int x1), (2, .int x2), (3, .int z1)]) hx hb dX10_goes_15 hl (by decide) rfl (fun ls hl => ?_)
  have hl : lv_has ls 7 [(0, .ref x0), (1, .int x1), (2, .int x2), (3, .int z1), (4, .int z2.1)] := lv_sub hl [1, 2, 3, 4, 0] rfl
  refine w_iconst (v := 0) hx hb dX10_goes_17 (by decide) ?_
  refine w_istore (lv' := [(5, .int 0), (0, .ref x0), (1, .int x1), (2, .int x2), (3, .int z1), (4, .int z2.1)]) hx hb dX10_goes_18 hl (by decide) rfl (fun ls hl => ?_)
  have hl : lv_has ls 7 [(0, .ref x0), (1, .int x1), (2, .int x2), (3, .int z1), (4, .int z2.1), (5, .int 0)] := lv_sub hl [1, 2, 3, 4, 5, 0] rfl
  obtain ⟨z21, ez21, h⟩ := v_bnd h
  refine X10_goes_L20p x0 x1 x2 z2.1 vF z1 0 z2.2 ls z21 (lv_sub hl [0, 1, 2, 3, 4, 5] rfl) ez21 (fun ls hl => ?_)
  refine w_aload_n hx hb dX10_goes_87 rfl (lv_at hl 0 rfl) ?_
  refine w_iload_n hx hb dX10_goes_88 rfl (lv_at hl 1 rfl) ?_
  refine w_iconst (v := 0) hx hb dX10_goes_89 (by decide) ?_
  obtain ⟨g8, h⟩ := v_ifs h
  obtain ⟨z22, ez22, h⟩ := v_bnd h
  refine v_call1 (v := .int z22) (M1 := z21.2) (mc := 0) (ms := 0) (fun H locs hR hS => va_runV (As := [.int x1, .int 0]) (rest := []) ⟨hx, hb, hml, hown, hts⟩ (mX10_of l hfl D x0 x1 0 z21.2 z22 ez22) (cwV 2 hts (gdV kw1497 kw1499 kw44 kw85 kw1500) rfl rfl rfl (by decide +kernel) ⟨Nat.le_of_ble_eq_true rfl, Nat.le_of_ble_eq_true rfl⟩) (v_preV (ci := 11) hSS hR hS g8 (by decide) rfl [.int x1, .int 0]) rfl rfl hl.1 rfl (lv_room (Nat.le_of_ble_eq_true rfl)) dX10_goes_90 ⟨Nat.zero_le _, Nat.zero_le _⟩) ?_
  refine w_iconst (v := 1) hx hb dX10_goes_93 (by decide) ?_
  refine w_isub hx hb dX10_goes_94 ?_
  refine w_istore (lv' := [(5, .int (z22 - 1)), (0, .ref x0), (1, .int x1), (2, .int x2), (3, .int z21.1)]) hx hb dX10_goes_95 hl (by decide) rfl (fun ls hl => ?_)
  have hl : lv_has ls 7 [(0, .ref x0), (1, .int x1), (2, .int x2), (3, .int z21.1), (5, .int (z22 - 1))] := lv_sub hl [1, 2, 3, 4, 0] rfl
  refine w_aload_n hx hb dX10_goes_97 rfl (lv_at hl 0 rfl) ?_
  refine w_iload_n hx hb dX10_goes_98 rfl (lv_at hl 1 rfl) ?_
  refine w_iload_n hx hb dX10_goes_99 rfl (lv_at hl 3 rfl) ?_
  refine w_iload hx hb dX10_goes_100 (lv_at hl 4 rfl) ?_
  obtain ⟨g8, h⟩ := v_ifs h
  obtain ⟨z23, ez23, h⟩ := v_bnd h
  refine v_call0 (M1 := z23.2) (mc := 0) (ms := 0) (fun H locs hR hS => va_runV (As := [.int x1, .int z21.1, .int (z22 - 1)]) (rest := []) ⟨hx, hb, hml, hown, hts⟩ (mX10_fills l hfl D x0 x1 z21.1 (z22 - 1) z21.2 z23 ez23) (cwV 3 hts (gdV kw1551 kw1553 kw57 kw85 kw1554) rfl rfl rfl (by decide +kernel) ⟨Nat.le_of_ble_eq_true rfl, Nat.le_of_ble_eq_true rfl⟩) (v_preV (ci := 11) hSS hR hS g8 (by decide) rfl [.int x1, .int z21.1, .int (z22 - 1)]) rfl rfl hl.1 rfl (lv_room (Nat.le_of_ble_eq_true rfl)) dX10_goes_102 ⟨Nat.zero_le _, Nat.zero_le _⟩) ?_
  refine w_aload_n hx hb dX10_goes_105 rfl (lv_at hl 0 rfl) ?_
  refine w_iload_n hx hb dX10_goes_106 rfl (lv_at hl 1 rfl) ?_
  refine w_iconst (v := 0) hx hb dX10_goes_107 (by decide) ?_
  refine w_iload hx hb dX10_goes_108 (lv_at hl 4 rfl) ?_
  obtain ⟨g8, h⟩ := v_ifs h
  obtain ⟨z24, ez24, h⟩ := v_bnd h
  refine v_call0 (M1 := z24.2) (mc := 0) (ms := 0) (fun H locs hR hS => va_runV (As := [.int x1, .int 0, .int (z22 - 1)]) (rest := []) ⟨hx, hb, hml, hown, hts⟩ (mX10_sets l hfl D x0 x1 0 (z22 - 1) z23.2 z24 ez24) (cwV 3 hts (gdV kw1505 kw1507 kw46 kw85 kw1508) rfl rfl rfl (by decide +kernel) ⟨Nat.le_of_ble_eq_true rfl, Nat.le_of_ble_eq_true rfl⟩) (v_preV (ci := 11) hSS hR hS g8 (by decide) rfl [.int x1, .int 0, .int (z22 - 1)]) rfl rfl hl.1 rfl (lv_room (Nat.le_of_ble_eq_true rfl)) dX10_goes_110 ⟨Nat.zero_le _, Nat.zero_le _⟩) ?_
  refine w_aload_n hx hb dX10_goes_113 rfl (lv_at hl 0 rfl) ?_
  refine w_iload_n hx hb dX10_goes_114 rfl (lv_at hl 1 rfl) ?_
  refine w_iload_n hx hb dX10_goes_115 rfl (lv_at hl 2 rfl) ?_
  refine w_iconst (v := 1) hx hb dX10_goes_116 (by decide) ?_
  obtain ⟨g8, h⟩ := v_ifs h
  obtain ⟨z25, ez25, h⟩ := v_bnd h
  refine v_call0 (M1 := z25.2) (mc := 0) (ms := 0) (fun H locs hR hS => va_runV (As := [.int x1, .int x2, .int 1]) (rest := []) ⟨hx, hb, hml, hown, hts⟩ (mX10_happens l hfl D x0 x1 x2 1 z24.2 z25 ez25) (cwV 3 hts (gdV kw1509 kw1511 kw47 kw85 kw1512) rfl rfl rfl (by decide +kernel) ⟨Nat.le_of_ble_eq_true rfl, Nat.le_of_ble_eq_true rfl⟩) (v_preV (ci := 11) hSS hR hS g8 (by decide) rfl [.int x1, .int x2, .int 1]) rfl rfl hl.1 rfl (lv_room (Nat.le_of_ble_eq_true rfl)) dX10_goes_117 ⟨Nat.zero_le _, Nat.zero_le _⟩) ?_
  obtain rfl := Option.some.inj h
  rw [hQ]
  exact v_vret hx hb hr hlk dX10_goes_120

def tX10_membersLine_J87_11 (rec : Int32 → vMe → Option ((Int32 ⊕ Unit) × vMe)) (x0 : Nat) (x1 : Int32) (Mj : vMe) : Option ((Int32 ⊕ Unit) × vMe) :=
  rec 0 Mj
def tX10_membersLine_J23_11 (rec : Int32 → vMe → Option ((Int32 ⊕ Unit) × vMe)) (x0 : Nat) (x1 : Int32) (Mj : vMe) : Option ((Int32 ⊕ Unit) × vMe) :=
  (gA Mj x0 12 1).bind fun a24 =>
  (aI Mj a24 101 1).bind fun v25 =>
  if (Mj.1 x0).1 = 12 then
  ((tX10_takes x0 0 (v25 - 1) Mj).bind fun z26 =>
  if z26.1 = 0 then
  (some (Sum.inl 0, z26.2))
else
  (if x1 = 0 then
  ((gI z26.2 x0 12 16).bind fun v29 =>
  (gI z26.2 x0 12 13).bind fun v30 =>
  if (z26.2.1 x0).1 = 12 then
  ((tX10_isMember x0 v29 v30 z26.2).bind fun z31 =>
  if z31 = 0 then
  (tX10_membersLine_J87_11 (rec) x0 x1 z26.2)
else
  ((gI z26.2 x0 12 16).bind fun v33 =>
  (gI z26.2 x0 12 13).bind fun v34 =>
  if (z26.2.1 x0).1 = 12 then
  ((tX10_goes x0 v33 v34 z26.2).bind fun z35 =>
  tX10_membersLine_J87_11 (rec) x0 x1 z35.2)
else none))
else none)
else
  ((gI z26.2 x0 12 16).bind fun v36 =>
  (gI z26.2 x0 12 13).bind fun v37 =>
  if (z26.2.1 x0).1 = 12 then
  ((tX10_comes x0 v36 v37 z26.2).bind fun z38 =>
  tX10_membersLine_J87_11 (rec) x0 x1 z38.2)
else none)))
else none
def tX10_membersLine_L11 (x0 : Nat) (x1 : Int32) : Nat → Int32 → vMe → Option ((Int32 ⊕ Unit) × vMe)
  | 0, _, _ => none
  | f + 1, x2, Mi =>
  if x2 = 0 then
  ((gI Mi x0 12 8).bind fun v22 =>
  if v22 = (2 : Int32) then
  (tX10_membersLine_J23_11 (tX10_membersLine_L11 x0 x1 f) x0 x1 Mi)
else
  (some (Sum.inr (()), Mi)))
else
  (tX10_membersLine_J23_11 (tX10_membersLine_L11 x0 x1 f) x0 x1 Mi)
def tX10_membersLine (x0 : Nat) (x1 : Int32) (M : vMe) : Option (Int32 × vMe) :=
  if (M.1 x0).1 = 12 then
  ((tX10_takesSet x0 M).bind fun z1 =>
  if z1.1 = 0 then
  (some (0, z1.2))
else
  ((tX10_membersLine_L11 x0 x1 vF 1 z1.2).bind fun z39 =>
  Sum.elim (fun r41 => some (r41, z39.2)) (fun w40 =>
  some (1, z39.2)) z39.1))
else none
def rmX10_membersLine : Room := { frames := 7, cells := 0, slots := 0, locals := 147 }
set_option maxHeartbeats 4000000 in
set_option maxRecDepth 100000 in
theorem mX10_membersLine (l : Launch) (hfl : l.stackTraces = false) (D : vD) (x0 : Nat) (x1 : Int32) (M : vMe) (z : (Int32 × vMe)) (h : tX10_membersLine x0 x1 M = some z) : Met l yX10_membersLine (Cond.code yX10_membersLine cX10_membersLine 3 (some .boolean) :: TB) rmX10_membersLine (va_Pc [.ref x0, .int x1] (vPre D M)) (qW D (some (.int z.1)) z.2) 0 0 (vA D) := by
  refine v_ofW (cc := cX10_membersLine) (maxL := 3) (ret := (some .boolean)) (by decide) (Nat.le_of_ble_eq_true rfl) ?_
  intro p e s m args below meth c Q hx hb hr hml hown hts hlk hnm hSS hR0 hQ ls hl
  have hK := hSS.1
  have hl : lv_has ls 3 [(0, .ref x0), (1, .int x1)] := hl
  unfold tX10_membersLine at h
  have X10_membersLine_L11p : ∀ (x0 : Nat) (x1 : Int32), ∀ (f : Nat) (x2 : Int32) (Mi : vMe) (ls : Array Slot) (z : ((Int32 ⊕ Unit) × vMe)), lv_has ls 3 [(0, .ref x0), (1, .int x1), (2, .int x2)] → tX10_membersLine_L11 x0 x1 f x2 Mi = some z → (∀ w, z.1 = Sum.inr w → ∀ ls : Array Slot, lv_has ls 3 [] → vV D p l e rmX10_membersLine s m args below meth c 0 0 Q z.2 (F0 m 92 ls [])) → (∀ r9, z.1 = Sum.inl r9 → Q = MQ below (qW D (some (.int r9)) z.2) args s 0 0 (vA D)) → vV D p l e rmX10_membersLine s m args below meth c 0 0 Q Mi (F0 m 11 ls []) := by
    intro x0 x1 f
    induction f with
    | zero =>
      intro x2 Mi ls z hl h
      exact absurd h (by simp [tX10_membersLine_L11])
    | succ f ih =>
      intro x2 Mi ls z hl h KX KR
      rw [tX10_membersLine_L11] at h
      have X10_membersLine_J87_11p : ∀  (Mj : vMe) (ls : Array Slot), lv_has ls 3 [(0, .ref x0), (1, .int x1)] → tX10_membersLine_J87_11 (tX10_membersLine_L11 x0 x1 f) x0 x1 Mj = some z → vV D p l e rmX10_membersLine s m args below meth c 0 0 Q Mj (F0 m 87 ls []) := by
        intro  Mj ls hl h
        unfold tX10_membersLine_J87_11 at h
        refine w_iconst (v := 0) hx hb dX10_membersLine_87 (by decide) ?_
        refine w_istore_n (lv' := [(2, .int 0), (0, .ref x0), (1, .int x1)]) hx hb dX10_membersLine_88 rfl hl (by decide) rfl (fun ls hl => ?_)
        have hl : lv_has ls 3 [(0, .ref x0), (1, .int x1), (2, .int 0)] := lv_sub hl [1, 2, 0] rfl
        refine w_goto (tgt := 11) hx hb dX10_membersLine_89 (by decide) ?_
        exact ih 0 Mj ls z (lv_sub hl [0, 1, 2] rfl) h KX KR
      have X10_membersLine_J23_11p : ∀  (Mj : vMe) (ls : Array Slot), lv_has ls 3 [(0, .ref x0), (1, .int x1)] → tX10_membersLine_J23_11 (tX10_membersLine_L11 x0 x1 f) x0 x1 Mj = some z → vV D p l e rmX10_membersLine s m args below meth c 0 0 Q Mj (F0 m 23 ls []) := by
        intro  Mj ls hl h
        unfold tX10_membersLine_J23_11 at h
        refine w_aload_n hx hb dX10_membersLine_23 rfl (lv_at hl 0 rfl) ?_
        refine w_iconst (v := 0) hx hb dX10_membersLine_24 (by decide) ?_
        refine w_aload_n hx hb dX10_membersLine_25 rfl (lv_at hl 0 rfl) ?_
        obtain ⟨a24, ea24, h⟩ := v_bnd h
        refine v_gA (ci := 11) hx hb hts iwX10 hown hK 1 ea24 rfl (by decide) (Or.inl (hts _ kw1336)) (fun _ h9 => h9) dX10_membersLine_26 ?_
        refine w_iconst (v := 1) hx hb dX10_membersLine_29 (by decide) ?_
        obtain ⟨v25, ev25, h⟩ := v_bnd h
        refine v_iald hx hb hK ev25 dX10_membersLine_30 ?_
        refine w_iconst (v := 1) hx hb dX10_membersLine_31 (by decide) ?_
        refine w_isub hx hb dX10_membersLine_32 ?_
        obtain ⟨g8, h⟩ := v_ifs h
        obtain ⟨z26, ez26, h⟩ := v_bnd h
        refine v_call1 (v := .int z26.1) (M1 := z26.2) (mc := 0) (ms := 0) (fun H locs hR hS => va_runV (As := [.int 0, .int (v25 - 1)]) (rest := []) ⟨hx, hb, hml, hown, hts⟩ (mX10_takes l hfl D x0 0 (v25 - 1) Mj z26 ez26) (cwV 2 hts (gdV kw1460 kw1462 kw36 kw85 kw1463) rfl rfl rfl (by decide +kernel) ⟨Nat.le_of_ble_eq_true rfl, Nat.le_of_ble_eq_true rfl⟩) (v_preV (ci := 11) hSS hR hS g8 (by decide) rfl [.int 0, .int (v25 - 1)]) rfl rfl hl.1 rfl (lv_room (Nat.le_of_ble_eq_true rfl)) dX10_membersLine_33 ⟨Nat.zero_le _, Nat.zero_le _⟩) ?_
        refine w_if_ne (tgt := 41) hx hb dX10_membersLine_36 (by decide) (fun c27 => ?_) (fun c27 => ?_)
        · rw [if_pos c27] at h
          refine w_iconst (v := 0) hx hb dX10_membersLine_39 (by decide) ?_
          obtain rfl := Option.some.inj h
          rw [KR _ rfl]
          exact v_zret (x := 0) hx hb hr hlk rfl dX10_membersLine_40
        · rw [if_neg c27] at h
          refine w_iload_n hx hb dX10_membersLine_41 rfl (lv_at hl 1 rfl) ?_
          refine w_if_eq (tgt := 60) hx hb dX10_membersLine_42 (by decide) (fun c28 => ?_) (fun c28 => ?_)
          · rw [if_pos c28] at h
            refine w_aload_n hx hb dX10_membersLine_60 rfl (lv_at hl 0 rfl) ?_
            refine w_aload_n hx hb dX10_membersLine_61 rfl (lv_at hl 0 rfl) ?_
            obtain ⟨v29, ev29, h⟩ := v_bnd h
            refine v_gI (ci := 11) hx hb hts iwX10 hown hK 16 ev29 rfl (by decide) (Or.inl (hts _ kw1351)) (fun _ h9 => h9) dX10_membersLine_62 ?_
            refine w_aload_n hx hb dX10_membersLine_65 rfl (lv_at hl 0 rfl) ?_
            obtain ⟨v30, ev30, h⟩ := v_bnd h
            refine v_gI (ci := 11) hx hb hts iwX10 hown hK 13 ev30 rfl (by decide) (Or.inl (hts _ kw1348)) (fun _ h9 => h9) dX10_membersLine_66 ?_
            obtain ⟨g8, h⟩ := v_ifs h
            obtain ⟨z31, ez31, h⟩ := v_bnd h
            refine v_call1 (v := .int z31) (M1 := z26.2) (mc := 0) (ms := 0) (fun H locs hR hS => va_runV (As := [.int v29, .int v30]) (rest := []) ⟨hx, hb, hml, hown, hts⟩ (mX10_isMember l hfl D x0 v29 v30 z26.2 z31 ez31) (cwV 2 hts (gdV kw1493 kw1495 kw43 kw85 kw1496) rfl rfl rfl (by decide +kernel) ⟨Nat.le_of_ble_eq_true rfl, Nat.le_of_ble_eq_true rfl⟩) (v_preV (ci := 11) hSS hR hS g8 (by decide) rfl [.int v29, .int v30]) rfl rfl hl.1 rfl (lv_room (Nat.le_of_ble_eq_true rfl)) dX10_membersLine_69 ⟨Nat.zero_le _, Nat.zero_le _⟩) ?_
            refine w_if_eq (tgt := 87) hx hb dX10_membersLine_72 (by decide) (fun c32 => ?_) (fun c32 => ?_)
            · rw [if_pos c32] at h
              exact X10_membersLine_J87_11p  z26.2 ls (lv_sub hl [0, 1] rfl) h
            · rw [if_neg c32] at h
              refine w_aload_n hx hb dX10_membersLine_75 rfl (lv_at hl 0 rfl) ?_
              refine w_aload_n hx hb dX10_membersLine_76 rfl (lv_at hl 0 rfl) ?_
              obtain ⟨v33, ev33, h⟩ := v_bnd h
              refine v_gI (ci := 11) hx hb hts iwX10 hown hK 16 ev33 rfl (by decide) (Or.inl (hts _ kw1351)) (fun _ h9 => h9) dX10_membersLine_77 ?_
              refine w_aload_n hx hb dX10_membersLine_80 rfl (lv_at hl 0 rfl) ?_
              obtain ⟨v34, ev34, h⟩ := v_bnd h
              refine v_gI (ci := 11) hx hb hts iwX10 hown hK 13 ev34 rfl (by decide) (Or.inl (hts _ kw1348)) (fun _ h9 => h9) dX10_membersLine_81 ?_
              obtain ⟨g8, h⟩ := v_ifs h
              obtain ⟨z35, ez35, h⟩ := v_bnd h
              refine v_call0 (M1 := z35.2) (mc := 0) (ms := 0) (fun H locs hR hS => va_runV (As := [.int v33, .int v34]) (rest := []) ⟨hx, hb, hml, hown, hts⟩ (mX10_goes l hfl D x0 v33 v34 z26.2 z35 ez35) (cwV 2 hts (gdV kw1535 kw1537 kw53 kw85 kw1538) rfl rfl rfl (by decide +kernel) ⟨Nat.le_of_ble_eq_true rfl, Nat.le_of_ble_eq_true rfl⟩) (v_preV (ci := 11) hSS hR hS g8 (by decide) rfl [.int v33, .int v34]) rfl rfl hl.1 rfl (lv_room (Nat.le_of_ble_eq_true rfl)) dX10_membersLine_84 ⟨Nat.zero_le _, Nat.zero_le _⟩) ?_
              exact X10_membersLine_J87_11p  z35.2 ls (lv_sub hl [0, 1] rfl) h
          · rw [if_neg c28] at h
            refine w_aload_n hx hb dX10_membersLine_45 rfl (lv_at hl 0 rfl) ?_
            refine w_aload_n hx hb dX10_membersLine_46 rfl (lv_at hl 0 rfl) ?_
            obtain ⟨v36, ev36, h⟩ := v_bnd h
            refine v_gI (ci := 11) hx hb hts iwX10 hown hK 16 ev36 rfl (by decide) (Or.inl (hts _ kw1351)) (fun _ h9 => h9) dX10_membersLine_47 ?_
            refine w_aload_n hx hb dX10_membersLine_50 rfl (lv_at hl 0 rfl) ?_
            obtain ⟨v37, ev37, h⟩ := v_bnd h
            refine v_gI (ci := 11) hx hb hts iwX10 hown hK 13 ev37 rfl (by decide) (Or.inl (hts _ kw1348)) (fun _ h9 => h9) dX10_membersLine_51 ?_
            obtain ⟨g8, h⟩ := v_ifs h
            obtain ⟨z38, ez38, h⟩ := v_bnd h
            refine v_call0 (M1 := z38.2) (mc := 0) (ms := 0) (fun H locs hR hS => va_runV (As := [.int v36, .int v37]) (rest := []) ⟨hx, hb, hml, hown, hts⟩ (mX10_comes l hfl D x0 v36 v37 z26.2 z38 ez38) (cwV 2 hts (gdV kw1489 kw1491 kw42 kw85 kw1492) rfl rfl rfl (by decide +kernel) ⟨Nat.le_of_ble_eq_true rfl, Nat.le_of_ble_eq_true rfl⟩) (v_preV (ci := 11) hSS hR hS g8 (by decide) rfl [.int v36, .int v37]) rfl rfl hl.1 rfl (lv_room (Nat.le_of_ble_eq_true rfl)) dX10_membersLine_54 ⟨Nat.zero_le _, Nat.zero_le _⟩) ?_
            refine w_goto (tgt := 87) hx hb dX10_membersLine_57 (by decide) ?_
            exact X10_membersLine_J87_11p  z38.2 ls (lv_sub hl [0, 1] rfl) h
      refine w_iload_n hx hb dX10_membersLine_11 rfl (lv_at hl 2 rfl) ?_
      refine w_if_ne (tgt := 23) hx hb dX10_membersLine_12 (by decide) (fun c21 => ?_) (fun c21 => ?_)
      · rw [if_pos c21] at h
        refine w_aload_n hx hb dX10_membersLine_15 rfl (lv_at hl 0 rfl) ?_
        obtain ⟨v22, ev22, h⟩ := v_bnd h
        refine v_gI (ci := 11) hx hb hts iwX10 hown hK 8 ev22 rfl (by decide) (Or.inl (hts _ kw1343)) (fun _ h9 => h9) dX10_membersLine_16 ?_
        refine w_iconst (v := 2) hx hb dX10_membersLine_19 (by decide) ?_
        refine w_icmp_ne (tgt := 92) hx hb dX10_membersLine_20 (by decide) (fun c23 => ?_) (fun c23 => ?_)
        · rw [if_pos c23] at h
          exact X10_membersLine_J23_11p  Mi ls (lv_sub hl [0, 1] rfl) h
        · rw [if_neg c23] at h
          obtain rfl := Option.some.inj h
          exact KX _ rfl ls (lv_sub hl [] rfl)
      · rw [if_neg c21] at h
        exact X10_membersLine_J23_11p  Mi ls (lv_sub hl [0, 1] rfl) h
  refine w_aload_n hx hb dX10_membersLine_0 rfl (lv_at hl 0 rfl) ?_
  obtain ⟨g8, h⟩ := v_ifs h
  obtain ⟨z1, ez1, h⟩ := v_bnd h
  refine v_call1 (v := .int z1.1) (M1 := z1.2) (mc := 0) (ms := 0) (fun H locs hR hS => va_runV (As := []) (rest := []) ⟨hx, hb, hml, hown, hts⟩ (mX10_takesSet l hfl D x0 M z1 ez1) (cwV 0 hts (gdV kw1485 kw1487 kw41 kw85 kw1488) rfl rfl rfl (by decide +kernel) ⟨Nat.le_of_ble_eq_true rfl, Nat.le_of_ble_eq_true rfl⟩) (v_preV (ci := 11) hSS hR hS g8 (by decide) rfl []) rfl rfl hl.1 rfl (lv_room (Nat.le_of_ble_eq_true rfl)) dX10_membersLine_1 ⟨Nat.zero_le _, Nat.zero_le _⟩) ?_
  refine w_if_ne (tgt := 9) hx hb dX10_membersLine_4 (by decide) (fun c2 => ?_) (fun c2 => ?_)
  · rw [if_pos c2] at h
    refine w_iconst (v := 0) hx hb dX10_membersLine_7 (by decide) ?_
    obtain rfl := Option.some.inj h
    rw [hQ]
    exact v_zret (x := 0) hx hb hr hlk rfl dX10_membersLine_8
  · rw [if_neg c2] at h
    refine w_iconst (v := 1) hx hb dX10_membersLine_9 (by decide) ?_
    refine w_istore_n (lv' := [(2, .int 1), (0, .ref x0), (1, .int x1)]) hx hb dX10_membersLine_10 rfl hl (by decide) rfl (fun ls hl => ?_)
    have hl : lv_has ls 3 [(0, .ref x0), (1, .int x1), (2, .int 1)] := lv_sub hl [1, 2, 0] rfl
    obtain ⟨z39, ez39, h⟩ := v_bnd h
    refine X10_membersLine_L11p x0 x1 vF 1 z1.2 ls z39 (lv_sub hl [0, 1, 2] rfl) ez39 (fun w40 qw40 ls hl => ?_) (fun r41 qr41 => ?_)
    · replace h := v_inr qw40 h
      refine w_iconst (v := 1) hx hb dX10_membersLine_92 (by decide) ?_
      obtain rfl := Option.some.inj h
      rw [hQ]
      exact v_zret (x := 1) hx hb hr hlk rfl dX10_membersLine_93
    · replace h := v_inl qr41 h
      obtain rfl := Option.some.inj h
      exact hQ

def tX10_clears_J71_49 (rec : Int32 → vMe → Option (Unit × vMe)) (x0 : Nat) (x1 : Int32) (x2 : Int32) (Mj : vMe) : Option (Unit × vMe) :=
  rec (x2 + 1) Mj
def tX10_clears_L49 (x0 : Nat) (x1 : Int32) : Nat → Int32 → vMe → Option (Unit × vMe)
  | 0, _, _ => none
  | f + 1, x2, Mi =>
  if (6 : Int32) ≤ x2 then
  (some ((), Mi))
else
  (if (Mi.1 x0).1 = 12 then
  ((tX10_isOn x0 x2 x1 Mi).bind fun z14 =>
  if z14 = 0 then
  (tX10_clears_J71_49 (tX10_clears_L49 x0 x1 f) x0 x1 x2 Mi)
else
  (if (Mi.1 x0).1 = 12 then
  ((tX10_setsCursor x0 x2 3 0 Mi).bind fun z16 =>
  tX10_clears_J71_49 (tX10_clears_L49 x0 x1 f) x0 x1 x2 z16.2)
else none))
else none)
def tX10_clears_J26 (x0 : Nat) (x1 : Int32) (Mj : vMe) : Option (Unit × vMe) :=
  if (Mj.1 x0).1 = 12 then
  ((tX10_sets x0 x1 0 0 Mj).bind fun z6 =>
  if (z6.2.1 x0).1 = 12 then
  ((tX10_of x0 x1 1 z6.2).bind fun z7 =>
  if (z6.2.1 x0).1 = 12 then
  ((tX10_sets x0 x1 1 (z7 + 1) z6.2).bind fun z8 =>
  (tX10_clears_L49 x0 x1 vF 0 z8.2).bind fun z17 =>
  some ((), z17.2))
else none)
else none)
else none
def tX10_clears (x0 : Nat) (x1 : Int32) (M : vMe) : Option (Unit × vMe) :=
  (gA M x0 12 1).bind fun a1 =>
  (aI M a1 101 5).bind fun v2 =>
  (sA M a1 101 5 (.int (v2 + 1))).bind fun M3 =>
  if (M3.1 x0).1 = 12 then
  ((tX10_of x0 x1 0 M3).bind fun z4 =>
  if z4 ≤ 0 then
  (tX10_clears_J26 x0 x1 M3)
else
  (if (M3.1 x0).1 = 12 then
  ((tX10_happens x0 x1 ((-1)) 2 M3).bind fun z18 =>
  tX10_clears_J26 x0 x1 z18.2)
else none))
else none
def rmX10_clears : Room := { frames := 6, cells := 0, slots := 0, locals := 121 }
set_option maxHeartbeats 4000000 in
set_option maxRecDepth 100000 in
theorem mX10_clears (l : Launch) (hfl : l.stackTraces = false) (D : vD) (x0 : Nat) (x1 : Int32) (M : vMe) (z : (Unit × vMe)) (h : tX10_clears x0 x1 M = some z) : Met l yX10_clears (Cond.code yX10_clears cX10_clears 3 none :: TB) rmX10_clears (va_Pc [.ref x0, .int x1] (vPre D M)) (qW D none z.2) 0 0 (vA D) := by
  refine v_ofW (cc := cX10_clears) (maxL := 3) (ret := none) (by decide) (Nat.le_of_ble_eq_true rfl) ?_
  intro p e s m args below meth c Q hx hb hr hml hown hts hlk hnm hSS hR0 hQ ls hl
  have hK := hSS.1
  have hl : lv_has ls 3 [(0, .ref x0), (1, .int x1)] := hl
  unfold tX10_clears at h
  have X10_clears_L49p : ∀ (x0 : Nat) (x1 : Int32), ∀ (f : Nat) (x2 : Int32) (Mi : vMe) (ls : Array Slot) (z : (Unit × vMe)), lv_has ls 3 [(0, .ref x0), (1, .int x1), (2, .int x2)] → tX10_clears_L49 x0 x1 f x2 Mi = some z → (∀ ls : Array Slot, lv_has ls 3 [] → vV D p l e rmX10_clears s m args below meth c 0 0 Q z.2 (F0 m 77 ls [])) → vV D p l e rmX10_clears s m args below meth c 0 0 Q Mi (F0 m 49 ls []) := by
    intro x0 x1 f
    induction f with
    | zero =>
      intro x2 Mi ls z hl h
      exact absurd h (by simp [tX10_clears_L49])
    | succ f ih =>
      intro x2 Mi ls z hl h KX
      rw [tX10_clears_L49] at h
      have X10_clears_J71_49p : ∀ (x2 : Int32) (Mj : vMe) (ls : Array Slot), lv_has ls 3 [(0, .ref x0), (1, .int x1), (2, .int x2)] → tX10_clears_J71_49 (tX10_clears_L49 x0 x1 f) x0 x1 x2 Mj = some z → vV D p l e rmX10_clears s m args below meth c 0 0 Q Mj (F0 m 71 ls []) := by
        intro x2 Mj ls hl h
        unfold tX10_clears_J71_49 at h
        refine w_iinc (v := x2 + 1) (lv' := [(2, .int (x2 + 1)), (0, .ref x0), (1, .int x1)]) hx hb dX10_clears_71 hl (j := 2) rfl rfl (by decide) rfl (fun ls hl => ?_)
        have hl : lv_has ls 3 [(0, .ref x0), (1, .int x1), (2, .int (x2 + 1))] := lv_sub hl [1, 2, 0] rfl
        refine w_goto (tgt := 49) hx hb dX10_clears_74 (by decide) ?_
        exact ih (x2 + 1) Mj ls z (lv_sub hl [0, 1, 2] rfl) h KX
      refine w_iload_n hx hb dX10_clears_49 rfl (lv_at hl 2 rfl) ?_
      refine w_bipush (v := 6) hx hb dX10_clears_50 (by decide) ?_
      refine w_icmp_ge (tgt := 77) hx hb dX10_clears_52 (by decide) (fun c13 => ?_) (fun c13 => ?_)
      · rw [if_pos c13] at h
        obtain rfl := Option.some.inj h
        exact KX ls (lv_sub hl [] rfl)
      · rw [if_neg c13] at h
        refine w_aload_n hx hb dX10_clears_55 rfl (lv_at hl 0 rfl) ?_
        refine w_iload_n hx hb dX10_clears_56 rfl (lv_at hl 2 rfl) ?_
        refine w_iload_n hx hb dX10_clears_57 rfl (lv_at hl 1 rfl) ?_
        obtain ⟨g8, h⟩ := v_ifs h
        obtain ⟨z14, ez14, h⟩ := v_bnd h
        refine v_call1 (v := .int z14) (M1 := Mi) (mc := 0) (ms := 0) (fun H locs hR hS => va_runV (As := [.int x2, .int x1]) (rest := []) ⟨hx, hb, hml, hown, hts⟩ (mX10_isOn l hfl D x0 x2 x1 Mi z14 ez14) (cwV 2 hts (gdV kw1543 kw1545 kw55 kw85 kw1546) rfl rfl rfl (by decide +kernel) ⟨Nat.le_of_ble_eq_true rfl, Nat.le_of_ble_eq_true rfl⟩) (v_preV (ci := 11) hSS hR hS g8 (by decide) rfl [.int x2, .int x1]) rfl rfl hl.1 rfl (lv_room (Nat.le_of_ble_eq_true rfl)) dX10_clears_58 ⟨Nat.zero_le _, Nat.zero_le _⟩) ?_
        refine w_if_eq (tgt := 71) hx hb dX10_clears_61 (by decide) (fun c15 => ?_) (fun c15 => ?_)
        · rw [if_pos c15] at h
          exact X10_clears_J71_49p x2 Mi ls (lv_sub hl [0, 1, 2] rfl) h
        · rw [if_neg c15] at h
          refine w_aload_n hx hb dX10_clears_64 rfl (lv_at hl 0 rfl) ?_
          refine w_iload_n hx hb dX10_clears_65 rfl (lv_at hl 2 rfl) ?_
          refine w_iconst (v := 3) hx hb dX10_clears_66 (by decide) ?_
          refine w_iconst (v := 0) hx hb dX10_clears_67 (by decide) ?_
          obtain ⟨g8, h⟩ := v_ifs h
          obtain ⟨z16, ez16, h⟩ := v_bnd h
          refine v_call0 (M1 := z16.2) (mc := 0) (ms := 0) (fun H locs hR hS => va_runV (As := [.int x2, .int 3, .int 0]) (rest := []) ⟨hx, hb, hml, hown, hts⟩ (mX10_setsCursor l hfl D x0 x2 3 0 Mi z16 ez16) (cwV 3 hts (gdV kw1555 kw1557 kw58 kw85 kw1558) rfl rfl rfl (by decide +kernel) ⟨Nat.le_of_ble_eq_true rfl, Nat.le_of_ble_eq_true rfl⟩) (v_preV (ci := 11) hSS hR hS g8 (by decide) rfl [.int x2, .int 3, .int 0]) rfl rfl hl.1 rfl (lv_room (Nat.le_of_ble_eq_true rfl)) dX10_clears_68 ⟨Nat.zero_le _, Nat.zero_le _⟩) ?_
          exact X10_clears_J71_49p x2 z16.2 ls (lv_sub hl [0, 1, 2] rfl) h
  have X10_clears_J26p : ∀ (x0 : Nat) (x1 : Int32) (Mj : vMe) (ls : Array Slot), lv_has ls 3 [(0, .ref x0), (1, .int x1)] → tX10_clears_J26 x0 x1 Mj = some z → vV D p l e rmX10_clears s m args below meth c 0 0 Q Mj (F0 m 26 ls []) := by
    intro x0 x1 Mj ls hl h
    unfold tX10_clears_J26 at h
    refine w_aload_n hx hb dX10_clears_26 rfl (lv_at hl 0 rfl) ?_
    refine w_iload_n hx hb dX10_clears_27 rfl (lv_at hl 1 rfl) ?_
    refine w_iconst (v := 0) hx hb dX10_clears_28 (by decide) ?_
    refine w_iconst (v := 0) hx hb dX10_clears_29 (by decide) ?_
    obtain ⟨g8, h⟩ := v_ifs h
    obtain ⟨z6, ez6, h⟩ := v_bnd h
    refine v_call0 (M1 := z6.2) (mc := 0) (ms := 0) (fun H locs hR hS => va_runV (As := [.int x1, .int 0, .int 0]) (rest := []) ⟨hx, hb, hml, hown, hts⟩ (mX10_sets l hfl D x0 x1 0 0 Mj z6 ez6) (cwV 3 hts (gdV kw1505 kw1507 kw46 kw85 kw1508) rfl rfl rfl (by decide +kernel) ⟨Nat.le_of_ble_eq_true rfl, Nat.le_of_ble_eq_true rfl⟩) (v_preV (ci := 11) hSS hR hS g8 (by decide) rfl [.int x1, .int 0, .int 0]) rfl rfl hl.1 rfl (lv_room (Nat.le_of_ble_eq_true rfl)) dX10_clears_30 ⟨Nat.zero_le _, Nat.zero_le _⟩) ?_
    refine w_aload_n hx hb dX10_clears_33 rfl (lv_at hl 0 rfl) ?_
    refine w_iload_n hx hb dX10_clears_34 rfl (lv_at hl 1 rfl) ?_
    refine w_iconst (v := 1) hx hb dX10_clears_35 (by decide) ?_
    refine w_aload_n hx hb dX10_clears_36 rfl (lv_at hl 0 rfl) ?_
    refine w_iload_n hx hb dX10_clears_37 rfl (lv_at hl 1 rfl) ?_
    refine w_iconst (v := 1) hx hb dX10_clears_38 (by decide) ?_
    obtain ⟨g8, h⟩ := v_ifs h
    obtain ⟨z7, ez7, h⟩ := v_bnd h
    refine v_call1 (v := .int z7) (M1 := z6.2) (mc := 0) (ms := 0) (fun H locs hR hS => va_runV (As := [.int x1, .int 1]) (rest := [.int 1, .int x1, .ref x0]) ⟨hx, hb, hml, hown, hts⟩ (mX10_of l hfl D x0 x1 1 z6.2 z7 ez7) (cwV 2 hts (gdV kw1497 kw1499 kw44 kw85 kw1500) rfl rfl rfl (by decide +kernel) ⟨Nat.le_of_ble_eq_true rfl, Nat.le_of_ble_eq_true rfl⟩) (v_preV (ci := 11) hSS hR hS g8 (by decide) rfl [.int x1, .int 1]) rfl rfl hl.1 rfl (lv_room (Nat.le_of_ble_eq_true rfl)) dX10_clears_39 ⟨Nat.zero_le _, Nat.zero_le _⟩) ?_
    refine w_iconst (v := 1) hx hb dX10_clears_42 (by decide) ?_
    refine w_iadd hx hb dX10_clears_43 ?_
    obtain ⟨g8, h⟩ := v_ifs h
    obtain ⟨z8, ez8, h⟩ := v_bnd h
    refine v_call0 (M1 := z8.2) (mc := 0) (ms := 0) (fun H locs hR hS => va_runV (As := [.int x1, .int 1, .int (z7 + 1)]) (rest := []) ⟨hx, hb, hml, hown, hts⟩ (mX10_sets l hfl D x0 x1 1 (z7 + 1) z6.2 z8 ez8) (cwV 3 hts (gdV kw1505 kw1507 kw46 kw85 kw1508) rfl rfl rfl (by decide +kernel) ⟨Nat.le_of_ble_eq_true rfl, Nat.le_of_ble_eq_true rfl⟩) (v_preV (ci := 11) hSS hR hS g8 (by decide) rfl [.int x1, .int 1, .int (z7 + 1)]) rfl rfl hl.1 rfl (lv_room (Nat.le_of_ble_eq_true rfl)) dX10_clears_44 ⟨Nat.zero_le _, Nat.zero_le _⟩) ?_
    refine w_iconst (v := 0) hx hb dX10_clears_47 (by decide) ?_
    refine w_istore_n (lv' := [(2, .int 0), (0, .ref x0), (1, .int x1)]) hx hb dX10_clears_48 rfl hl (by decide) rfl (fun ls hl => ?_)
    have hl : lv_has ls 3 [(0, .ref x0), (1, .int x1), (2, .int 0)] := lv_sub hl [1, 2, 0] rfl
    obtain ⟨z17, ez17, h⟩ := v_bnd h
    refine X10_clears_L49p x0 x1 vF 0 z8.2 ls z17 (lv_sub hl [0, 1, 2] rfl) ez17 (fun ls hl => ?_)
    obtain rfl := Option.some.inj h
    rw [hQ]
    exact v_vret hx hb hr hlk dX10_clears_77
  refine w_aload_n hx hb dX10_clears_0 rfl (lv_at hl 0 rfl) ?_
  obtain ⟨a1, ea1, h⟩ := v_bnd h
  refine v_gA (ci := 11) hx hb hts iwX10 hown hK 1 ea1 rfl (by decide) (Or.inl (hts _ kw1336)) (fun _ h9 => h9) dX10_clears_1 ?_
  refine w_iconst (v := 5) hx hb dX10_clears_4 (by decide) ?_
  refine w_dup2_11 hx hb dX10_clears_5 rfl rfl ?_
  obtain ⟨v2, ev2, h⟩ := v_bnd h
  refine v_iald hx hb hK ev2 dX10_clears_6 ?_
  refine w_iconst (v := 1) hx hb dX10_clears_7 (by decide) ?_
  refine w_iadd hx hb dX10_clears_8 ?_
  obtain ⟨M3, eM3, h⟩ := v_bnd h
  refine v_iast hx hb hK eM3 dX10_clears_9 ?_
  refine w_aload_n hx hb dX10_clears_10 rfl (lv_at hl 0 rfl) ?_
  refine w_iload_n hx hb dX10_clears_11 rfl (lv_at hl 1 rfl) ?_
  refine w_iconst (v := 0) hx hb dX10_clears_12 (by decide) ?_
  obtain ⟨g8, h⟩ := v_ifs h
  obtain ⟨z4, ez4, h⟩ := v_bnd h
  refine v_call1 (v := .int z4) (M1 := M3) (mc := 0) (ms := 0) (fun H locs hR hS => va_runV (As := [.int x1, .int 0]) (rest := []) ⟨hx, hb, hml, hown, hts⟩ (mX10_of l hfl D x0 x1 0 M3 z4 ez4) (cwV 2 hts (gdV kw1497 kw1499 kw44 kw85 kw1500) rfl rfl rfl (by decide +kernel) ⟨Nat.le_of_ble_eq_true rfl, Nat.le_of_ble_eq_true rfl⟩) (v_preV (ci := 11) hSS hR hS g8 (by decide) rfl [.int x1, .int 0]) rfl rfl hl.1 rfl (lv_room (Nat.le_of_ble_eq_true rfl)) dX10_clears_13 ⟨Nat.zero_le _, Nat.zero_le _⟩) ?_
  refine w_if_le (tgt := 26) hx hb dX10_clears_16 (by decide) (fun c5 => ?_) (fun c5 => ?_)
  · rw [if_pos c5] at h
    exact X10_clears_J26p x0 x1 M3 ls (lv_sub hl [0, 1] rfl) h
  · rw [if_neg c5] at h
    refine w_aload_n hx hb dX10_clears_19 rfl (lv_at hl 0 rfl) ?_
    refine w_iload_n hx hb dX10_clears_20 rfl (lv_at hl 1 rfl) ?_
    refine w_iconst (v := (-1)) hx hb dX10_clears_21 (by decide) ?_
    refine w_iconst (v := 2) hx hb dX10_clears_22 (by decide) ?_
    obtain ⟨g8, h⟩ := v_ifs h
    obtain ⟨z18, ez18, h⟩ := v_bnd h
    refine v_call0 (M1 := z18.2) (mc := 0) (ms := 0) (fun H locs hR hS => va_runV (As := [.int x1, .int ((-1)), .int 2]) (rest := []) ⟨hx, hb, hml, hown, hts⟩ (mX10_happens l hfl D x0 x1 ((-1)) 2 M3 z18 ez18) (cwV 3 hts (gdV kw1509 kw1511 kw47 kw85 kw1512) rfl rfl rfl (by decide +kernel) ⟨Nat.le_of_ble_eq_true rfl, Nat.le_of_ble_eq_true rfl⟩) (v_preV (ci := 11) hSS hR hS g8 (by decide) rfl [.int x1, .int ((-1)), .int 2]) rfl rfl hl.1 rfl (lv_room (Nat.le_of_ble_eq_true rfl)) dX10_clears_23 ⟨Nat.zero_le _, Nat.zero_le _⟩) ?_
    exact X10_clears_J26p x0 x1 z18.2 ls (lv_sub hl [0, 1] rfl) h

def tX10_clearLine (x0 : Nat) (M : vMe) : Option (Int32 × vMe) :=
  if (M.1 x0).1 = 12 then
  ((tX10_takesSet x0 M).bind fun z1 =>
  if z1.1 = 0 then
  (some (0, z1.2))
else
  ((gI z1.2 x0 12 16).bind fun v3 =>
  if (z1.2.1 x0).1 = 12 then
  ((tX10_clears x0 v3 z1.2).bind fun z4 =>
  some (1, z4.2))
else none))
else none
def rmX10_clearLine : Room := { frames := 7, cells := 0, slots := 0, locals := 143 }
set_option maxHeartbeats 4000000 in
set_option maxRecDepth 100000 in
theorem mX10_clearLine (l : Launch) (hfl : l.stackTraces = false) (D : vD) (x0 : Nat) (M : vMe) (z : (Int32 × vMe)) (h : tX10_clearLine x0 M = some z) : Met l yX10_clearLine (Cond.code yX10_clearLine cX10_clearLine 1 (some .boolean) :: TB) rmX10_clearLine (va_Pc [.ref x0] (vPre D M)) (qW D (some (.int z.1)) z.2) 0 0 (vA D) := by
  refine v_ofW (cc := cX10_clearLine) (maxL := 1) (ret := (some .boolean)) (by decide) (Nat.le_of_ble_eq_true rfl) ?_
  intro p e s m args below meth c Q hx hb hr hml hown hts hlk hnm hSS hR0 hQ ls hl
  have hK := hSS.1
  have hl : lv_has ls 1 [(0, .ref x0)] := hl
  unfold tX10_clearLine at h
  refine w_aload_n hx hb dX10_clearLine_0 rfl (lv_at hl 0 rfl) ?_
  obtain ⟨g8, h⟩ := v_ifs h
  obtain ⟨z1, ez1, h⟩ := v_bnd h
  refine v_call1 (v := .int z1.1) (M1 := z1.2) (mc := 0) (ms := 0) (fun H locs hR hS => va_runV (As := []) (rest := []) ⟨hx, hb, hml, hown, hts⟩ (mX10_takesSet l hfl D x0 M z1 ez1) (cwV 0 hts (gdV kw1485 kw1487 kw41 kw85 kw1488) rfl rfl rfl (by decide +kernel) ⟨Nat.le_of_ble_eq_true rfl, Nat.le_of_ble_eq_true rfl⟩) (v_preV (ci := 11) hSS hR hS g8 (by decide) rfl []) rfl rfl hl.1 rfl (lv_room (Nat.le_of_ble_eq_true rfl)) dX10_clearLine_1 ⟨Nat.zero_le _, Nat.zero_le _⟩) ?_
  refine w_if_ne (tgt := 9) hx hb dX10_clearLine_4 (by decide) (fun c2 => ?_) (fun c2 => ?_)
  · rw [if_pos c2] at h
    refine w_iconst (v := 0) hx hb dX10_clearLine_7 (by decide) ?_
    obtain rfl := Option.some.inj h
    rw [hQ]
    exact v_zret (x := 0) hx hb hr hlk rfl dX10_clearLine_8
  · rw [if_neg c2] at h
    refine w_aload_n hx hb dX10_clearLine_9 rfl (lv_at hl 0 rfl) ?_
    refine w_aload_n hx hb dX10_clearLine_10 rfl (lv_at hl 0 rfl) ?_
    obtain ⟨v3, ev3, h⟩ := v_bnd h
    refine v_gI (ci := 11) hx hb hts iwX10 hown hK 16 ev3 rfl (by decide) (Or.inl (hts _ kw1351)) (fun _ h9 => h9) dX10_clearLine_11 ?_
    obtain ⟨g8, h⟩ := v_ifs h
    obtain ⟨z4, ez4, h⟩ := v_bnd h
    refine v_call0 (M1 := z4.2) (mc := 0) (ms := 0) (fun H locs hR hS => va_runV (As := [.int v3]) (rest := []) ⟨hx, hb, hml, hown, hts⟩ (mX10_clears l hfl D x0 v3 z1.2 z4 ez4) (cwV 1 hts (gdV kw1565 kw1567 kw60 kw85 kw1568) rfl rfl rfl (by decide +kernel) ⟨Nat.le_of_ble_eq_true rfl, Nat.le_of_ble_eq_true rfl⟩) (v_preV (ci := 11) hSS hR hS g8 (by decide) rfl [.int v3]) rfl rfl hl.1 rfl (lv_room (Nat.le_of_ble_eq_true rfl)) dX10_clearLine_14 ⟨Nat.zero_le _, Nat.zero_le _⟩) ?_
    refine w_iconst (v := 1) hx hb dX10_clearLine_17 (by decide) ?_
    obtain rfl := Option.some.inj h
    rw [hQ]
    exact v_zret (x := 1) hx hb hr hlk rfl dX10_clearLine_18

def tX10_marks (x0 : Nat) (M : vMe) : Option (Int32 × vMe) :=
  (gA M x0 12 1).bind fun a1 =>
  (aI M a1 101 4).bind fun v2 =>
  (gA M x0 12 1).bind fun a3 =>
  (gA M x0 12 1).bind fun a4 =>
  (aI M a4 101 3).bind fun v5 =>
  (sA M a3 101 (6 + v2) (.int v5)).bind fun M6 =>
  (gA M6 x0 12 1).bind fun a7 =>
  (aI M6 a7 101 4).bind fun v8 =>
  (sA M6 a7 101 4 (.int (v8 + 1))).bind fun M9 =>
  some (v2, M9)
def rmX10_marks : Room := { frames := 1, cells := 0, slots := 0, locals := 0 }
set_option maxHeartbeats 4000000 in
set_option maxRecDepth 100000 in
theorem mX10_marks (l : Launch) (hfl : l.stackTraces = false) (D : vD) (x0 : Nat) (M : vMe) (z : (Int32 × vMe)) (h : tX10_marks x0 M = some z) : Met l yX10_marks (Cond.code yX10_marks cX10_marks 2 (some .int) :: TB) rmX10_marks (va_Pc [.ref x0] (vPre D M)) (qW D (some (.int z.1)) z.2) 0 0 (vA D) := by
  refine v_ofW (cc := cX10_marks) (maxL := 2) (ret := (some .int)) (by decide) (Nat.le_of_ble_eq_true rfl) ?_
  intro p e s m args below meth c Q hx hb hr hml hown hts hlk hnm hSS hR0 hQ ls hl
  have hK := hSS.1
  have hl : lv_has ls 2 [(0, .ref x0)] := hl
  unfold tX10_marks at h
  refine w_aload_n hx hb dX10_marks_0 rfl (lv_at hl 0 rfl) ?_
  obtain ⟨a1, ea1, h⟩ := v_bnd h
  refine v_gA (ci := 11) hx hb hts iwX10 hown hK 1 ea1 rfl (by decide) (Or.inl (hts _ kw1336)) (fun _ h9 => h9) dX10_marks_1 ?_
  refine w_iconst (v := 4) hx hb dX10_marks_4 (by decide) ?_
  obtain ⟨v2, ev2, h⟩ := v_bnd h
  refine v_iald hx hb hK ev2 dX10_marks_5 ?_
  refine w_istore_n (lv' := [(1, .int v2), (0, .ref x0)]) hx hb dX10_marks_6 rfl hl (by decide) rfl (fun ls hl => ?_)
  have hl : lv_has ls 2 [(0, .ref x0), (1, .int v2)] := lv_sub hl [1, 0] rfl
  refine w_aload_n hx hb dX10_marks_7 rfl (lv_at hl 0 rfl) ?_
  obtain ⟨a3, ea3, h⟩ := v_bnd h
  refine v_gA (ci := 11) hx hb hts iwX10 hown hK 1 ea3 rfl (by decide) (Or.inl (hts _ kw1336)) (fun _ h9 => h9) dX10_marks_8 ?_
  refine w_bipush (v := 6) hx hb dX10_marks_11 (by decide) ?_
  refine w_iload_n hx hb dX10_marks_13 rfl (lv_at hl 1 rfl) ?_
  refine w_iadd hx hb dX10_marks_14 ?_
  refine w_aload_n hx hb dX10_marks_15 rfl (lv_at hl 0 rfl) ?_
  obtain ⟨a4, ea4, h⟩ := v_bnd h
  refine v_gA (ci := 11) hx hb hts iwX10 hown hK 1 ea4 rfl (by decide) (Or.inl (hts _ kw1336)) (fun _ h9 => h9) dX10_marks_16 ?_
  refine w_iconst (v := 3) hx hb dX10_marks_19 (by decide) ?_
  obtain ⟨v5, ev5, h⟩ := v_bnd h
  refine v_iald hx hb hK ev5 dX10_marks_20 ?_
  obtain ⟨M6, eM6, h⟩ := v_bnd h
  refine v_iast hx hb hK eM6 dX10_marks_21 ?_
  refine w_aload_n hx hb dX10_marks_22 rfl (lv_at hl 0 rfl) ?_
  obtain ⟨a7, ea7, h⟩ := v_bnd h
  refine v_gA (ci := 11) hx hb hts iwX10 hown hK 1 ea7 rfl (by decide) (Or.inl (hts _ kw1336)) (fun _ h9 => h9) dX10_marks_23 ?_
  refine w_iconst (v := 4) hx hb dX10_marks_26 (by decide) ?_
  refine w_dup2_11 hx hb dX10_marks_27 rfl rfl ?_
  obtain ⟨v8, ev8, h⟩ := v_bnd h
  refine v_iald hx hb hK ev8 dX10_marks_28 ?_
  refine w_iconst (v := 1) hx hb dX10_marks_29 (by decide) ?_
  refine w_iadd hx hb dX10_marks_30 ?_
  obtain ⟨M9, eM9, h⟩ := v_bnd h
  refine v_iast hx hb hK eM9 dX10_marks_31 ?_
  refine w_iload_n hx hb dX10_marks_32 rfl (lv_at hl 1 rfl) ?_
  obtain rfl := Option.some.inj h
  rw [hQ]
  exact v_iret hx hb hr hlk dX10_marks_33

def tX10_markLine_J18 (x0 : Nat) (y0 : Nat) (y1 : Int32) (y2 : Int32) (Mj : vMe) : Option (Int32 × vMe) :=
  if (Mj.1 y0).1 = 12 then
  ((tX10_starts y0 y1 y2 Mj).bind fun z4 =>
  if z4.1 = 0 then
  (some (0, z4.2))
else
  (if (z4.2.1 x0).1 = 12 then
  ((tX10_marks x0 z4.2).bind fun z6 =>
  some (1, z6.2))
else none))
else none
def tX10_markLine (x0 : Nat) (M : vMe) : Option (Int32 × vMe) :=
  (gA M x0 12 1).bind fun a1 =>
  (aI M a1 101 4).bind fun v2 =>
  if (8 : Int32) ≤ v2 then
  (tX10_markLine_J18 x0 x0 5 0 M)
else
  (tX10_markLine_J18 x0 x0 5 1 M)
def rmX10_markLine : Room := { frames := 5, cells := 0, slots := 0, locals := 85 }
set_option maxHeartbeats 4000000 in
set_option maxRecDepth 100000 in
theorem mX10_markLine (l : Launch) (hfl : l.stackTraces = false) (D : vD) (x0 : Nat) (M : vMe) (z : (Int32 × vMe)) (h : tX10_markLine x0 M = some z) : Met l yX10_markLine (Cond.code yX10_markLine cX10_markLine 1 (some .boolean) :: TB) rmX10_markLine (va_Pc [.ref x0] (vPre D M)) (qW D (some (.int z.1)) z.2) 0 0 (vA D) := by
  refine v_ofW (cc := cX10_markLine) (maxL := 1) (ret := (some .boolean)) (by decide) (Nat.le_of_ble_eq_true rfl) ?_
  intro p e s m args below meth c Q hx hb hr hml hown hts hlk hnm hSS hR0 hQ ls hl
  have hK := hSS.1
  have hl : lv_has ls 1 [(0, .ref x0)] := hl
  unfold tX10_markLine at h
  have X10_markLine_J18p : ∀ (x0 : Nat) (y0 : Nat) (y1 : Int32) (y2 : Int32) (Mj : vMe) (ls : Array Slot), lv_has ls 1 [(0, .ref x0)] → tX10_markLine_J18 x0 y0 y1 y2 Mj = some z → vV D p l e rmX10_markLine s m args below meth c 0 0 Q Mj (F0 m 18 ls [.int y2, .int y1, .ref y0]) := by
    intro x0 y0 y1 y2 Mj ls hl h
    unfold tX10_markLine_J18 at h
    obtain ⟨g8, h⟩ := v_ifs h
    obtain ⟨z4, ez4, h⟩ := v_bnd h
    refine v_call1 (v := .int z4.1) (M1 := z4.2) (mc := 0) (ms := 0) (fun H locs hR hS => va_runV (As := [.int y1, .int y2]) (rest := []) ⟨hx, hb, hml, hown, hts⟩ (mX10_starts l hfl D y0 y1 y2 Mj z4 ez4) (cwV 2 hts (gdV kw1448 kw1450 kw33 kw85 kw1451) rfl rfl rfl (by decide +kernel) ⟨Nat.le_of_ble_eq_true rfl, Nat.le_of_ble_eq_true rfl⟩) (v_preV (ci := 11) hSS hR hS g8 (by decide) rfl [.int y1, .int y2]) rfl rfl hl.1 rfl (lv_room (Nat.le_of_ble_eq_true rfl)) dX10_markLine_18 ⟨Nat.zero_le _, Nat.zero_le _⟩) ?_
    refine w_if_ne (tgt := 26) hx hb dX10_markLine_21 (by decide) (fun c5 => ?_) (fun c5 => ?_)
    · rw [if_pos c5] at h
      refine w_iconst (v := 0) hx hb dX10_markLine_24 (by decide) ?_
      obtain rfl := Option.some.inj h
      rw [hQ]
      exact v_zret (x := 0) hx hb hr hlk rfl dX10_markLine_25
    · rw [if_neg c5] at h
      refine w_aload_n hx hb dX10_markLine_26 rfl (lv_at hl 0 rfl) ?_
      obtain ⟨g8, h⟩ := v_ifs h
      obtain ⟨z6, ez6, h⟩ := v_bnd h
      refine v_call1 (v := .int z6.1) (M1 := z6.2) (mc := 0) (ms := 0) (fun H locs hR hS => va_runV (As := []) (rest := []) ⟨hx, hb, hml, hown, hts⟩ (mX10_marks l hfl D x0 z4.2 z6 ez6) (cwV 0 hts (gdV kw1574 kw1576 kw62 kw85 kw1577) rfl rfl rfl (by decide +kernel) ⟨Nat.le_of_ble_eq_true rfl, Nat.le_of_ble_eq_true rfl⟩) (v_preV (ci := 11) hSS hR hS g8 (by decide) rfl []) rfl rfl hl.1 rfl (lv_room (Nat.le_of_ble_eq_true rfl)) dX10_markLine_27 ⟨Nat.zero_le _, Nat.zero_le _⟩) ?_
      refine w_pop hx hb dX10_markLine_30 rfl ?_
      refine w_iconst (v := 1) hx hb dX10_markLine_31 (by decide) ?_
      obtain rfl := Option.some.inj h
      rw [hQ]
      exact v_zret (x := 1) hx hb hr hlk rfl dX10_markLine_32
  refine w_aload_n hx hb dX10_markLine_0 rfl (lv_at hl 0 rfl) ?_
  refine w_iconst (v := 5) hx hb dX10_markLine_1 (by decide) ?_
  refine w_aload_n hx hb dX10_markLine_2 rfl (lv_at hl 0 rfl) ?_
  obtain ⟨a1, ea1, h⟩ := v_bnd h
  refine v_gA (ci := 11) hx hb hts iwX10 hown hK 1 ea1 rfl (by decide) (Or.inl (hts _ kw1336)) (fun _ h9 => h9) dX10_markLine_3 ?_
  refine w_iconst (v := 4) hx hb dX10_markLine_6 (by decide) ?_
  obtain ⟨v2, ev2, h⟩ := v_bnd h
  refine v_iald hx hb hK ev2 dX10_markLine_7 ?_
  refine w_bipush (v := 8) hx hb dX10_markLine_8 (by decide) ?_
  refine w_icmp_ge (tgt := 17) hx hb dX10_markLine_10 (by decide) (fun c3 => ?_) (fun c3 => ?_)
  · rw [if_pos c3] at h
    refine w_iconst (v := 0) hx hb dX10_markLine_17 (by decide) ?_
    exact X10_markLine_J18p x0 x0 5 0 M ls (lv_sub hl [0] rfl) h
  · rw [if_neg c3] at h
    refine w_iconst (v := 1) hx hb dX10_markLine_13 (by decide) ?_
    refine w_goto (tgt := 18) hx hb dX10_markLine_14 (by decide) ?_
    exact X10_markLine_J18p x0 x0 5 1 M ls (lv_sub hl [0] rfl) h

def tX10_statement (G : Nat → Nat) (x0 : Nat) (M : vMe) : Option (Int32 × vMe) :=
  if (M.1 x0).1 = 12 then
  ((tX10_isWord G x0 (G 20) M).bind fun z1 =>
  if z1.1 = 0 then
  (if (z1.2.1 x0).1 = 12 then
  ((tX10_isWord G x0 (G 21) z1.2).bind fun z3 =>
  if z3.1 = 0 then
  (if (z3.2.1 x0).1 = 12 then
  ((tX10_isWord G x0 (G 22) z3.2).bind fun z5 =>
  if z5.1 = 0 then
  (if (z5.2.1 x0).1 = 12 then
  ((tX10_isWord G x0 (G 23) z5.2).bind fun z7 =>
  if z7.1 = 0 then
  (if (z7.2.1 x0).1 = 12 then
  ((tX10_isWord G x0 (G 24) z7.2).bind fun z9 =>
  if z9.1 = 0 then
  (if (z9.2.1 x0).1 = 12 then
  ((tX10_fails x0 1 z9.2).bind fun z11 =>
  if fits .boolean (.int z11.1) = true then some (z11.1, z11.2) else none)
else none)
else
  (if (z9.2.1 x0).1 = 12 then
  ((tX10_markLine x0 z9.2).bind fun z12 =>
  if fits .boolean (.int z12.1) = true then some (z12.1, z12.2) else none)
else none))
else none)
else
  (if (z7.2.1 x0).1 = 12 then
  ((tX10_clearLine x0 z7.2).bind fun z13 =>
  if fits .boolean (.int z13.1) = true then some (z13.1, z13.2) else none)
else none))
else none)
else
  (if (z5.2.1 x0).1 = 12 then
  ((tX10_membersLine x0 0 z5.2).bind fun z14 =>
  if fits .boolean (.int z14.1) = true then some (z14.1, z14.2) else none)
else none))
else none)
else
  (if (z3.2.1 x0).1 = 12 then
  ((tX10_membersLine x0 1 z3.2).bind fun z15 =>
  if fits .boolean (.int z15.1) = true then some (z15.1, z15.2) else none)
else none))
else none)
else
  (if (z1.2.1 x0).1 = 12 then
  ((tX10_setLine x0 z1.2).bind fun z16 =>
  if fits .boolean (.int z16.1) = true then some (z16.1, z16.2) else none)
else none))
else none
def rmX10_statement : Room := { frames := 8, cells := 0, slots := 0, locals := 169 }
set_option maxHeartbeats 4000000 in
set_option maxRecDepth 100000 in
theorem mX10_statement (l : Launch) (hfl : l.stackTraces = false) (D : vD) (x0 : Nat) (M : vMe) (z : (Int32 × vMe)) (h : tX10_statement D.2.2.2.2 x0 M = some z) : Met l yX10_statement (Cond.code yX10_statement cX10_statement 1 (some .boolean) :: TB) rmX10_statement (va_Pc [.ref x0] (vPre D M)) (qW D (some (.int z.1)) z.2) 0 0 (vA D) := by
  refine v_ofW (cc := cX10_statement) (maxL := 1) (ret := (some .boolean)) (by decide) (Nat.le_of_ble_eq_true rfl) ?_
  intro p e s m args below meth c Q hx hb hr hml hown hts hlk hnm hSS hR0 hQ ls hl
  have hK := hSS.1
  have hl : lv_has ls 1 [(0, .ref x0)] := hl
  unfold tX10_statement at h
  refine w_aload_n hx hb dX10_statement_0 rfl (lv_at hl 0 rfl) ?_
  refine w_ldcS hx hb hown (hSS.2.2.1 20 _ rfl) dX10_statement_1 ?_
  obtain ⟨g8, h⟩ := v_ifs h
  obtain ⟨z1, ez1, h⟩ := v_bnd h
  refine v_call1 (v := .int z1.1) (M1 := z1.2) (mc := 0) (ms := 0) (fun H locs hR hS => va_runV (As := [.ref (D.2.2.2.2 20)]) (rest := []) ⟨hx, hb, hml, hown, hts⟩ (mX10_isWord l hfl D x0 (D.2.2.2.2 20) M z1 ez1) (cwV 1 hts (gdV kw1442 kw1444 kw32 kw85 kw1445) rfl rfl rfl (by decide +kernel) ⟨Nat.le_of_ble_eq_true rfl, Nat.le_of_ble_eq_true rfl⟩) (v_preV (ci := 11) hSS hR hS g8 (by decide) rfl [.ref (D.2.2.2.2 20)]) rfl rfl hl.1 rfl (lv_room (Nat.le_of_ble_eq_true rfl)) dX10_statement_3 ⟨Nat.zero_le _, Nat.zero_le _⟩) ?_
  refine w_if_eq (tgt := 14) hx hb dX10_statement_6 (by decide) (fun c2 => ?_) (fun c2 => ?_)
  · rw [if_pos c2] at h
    refine w_aload_n hx hb dX10_statement_14 rfl (lv_at hl 0 rfl) ?_
    refine w_ldcS hx hb hown (hSS.2.2.1 21 _ rfl) dX10_statement_15 ?_
    obtain ⟨g8, h⟩ := v_ifs h
    obtain ⟨z3, ez3, h⟩ := v_bnd h
    refine v_call1 (v := .int z3.1) (M1 := z3.2) (mc := 0) (ms := 0) (fun H locs hR hS => va_runV (As := [.ref (D.2.2.2.2 21)]) (rest := []) ⟨hx, hb, hml, hown, hts⟩ (mX10_isWord l hfl D x0 (D.2.2.2.2 21) z1.2 z3 ez3) (cwV 1 hts (gdV kw1442 kw1444 kw32 kw85 kw1445) rfl rfl rfl (by decide +kernel) ⟨Nat.le_of_ble_eq_true rfl, Nat.le_of_ble_eq_true rfl⟩) (v_preV (ci := 11) hSS hR hS g8 (by decide) rfl [.ref (D.2.2.2.2 21)]) rfl rfl hl.1 rfl (lv_room (Nat.le_of_ble_eq_true rfl)) dX10_statement_17 ⟨Nat.zero_le _, Nat.zero_le _⟩) ?_
    refine w_if_eq (tgt := 29) hx hb dX10_statement_20 (by decide) (fun c4 => ?_) (fun c4 => ?_)
    · rw [if_pos c4] at h
      refine w_aload_n hx hb dX10_statement_29 rfl (lv_at hl 0 rfl) ?_
      refine w_ldcS hx hb hown (hSS.2.2.1 22 _ rfl) dX10_statement_30 ?_
      obtain ⟨g8, h⟩ := v_ifs h
      obtain ⟨z5, ez5, h⟩ := v_bnd h
      refine v_call1 (v := .int z5.1) (M1 := z5.2) (mc := 0) (ms := 0) (fun H locs hR hS => va_runV (As := [.ref (D.2.2.2.2 22)]) (rest := []) ⟨hx, hb, hml, hown, hts⟩ (mX10_isWord l hfl D x0 (D.2.2.2.2 22) z3.2 z5 ez5) (cwV 1 hts (gdV kw1442 kw1444 kw32 kw85 kw1445) rfl rfl rfl (by decide +kernel) ⟨Nat.le_of_ble_eq_true rfl, Nat.le_of_ble_eq_true rfl⟩) (v_preV (ci := 11) hSS hR hS g8 (by decide) rfl [.ref (D.2.2.2.2 22)]) rfl rfl hl.1 rfl (lv_room (Nat.le_of_ble_eq_true rfl)) dX10_statement_32 ⟨Nat.zero_le _, Nat.zero_le _⟩) ?_
      refine w_if_eq (tgt := 44) hx hb dX10_statement_35 (by decide) (fun c6 => ?_) (fun c6 => ?_)
      · rw [if_pos c6] at h
        refine w_aload_n hx hb dX10_statement_44 rfl (lv_at hl 0 rfl) ?_
        refine w_ldcS hx hb hown (hSS.2.2.1 23 _ rfl) dX10_statement_45 ?_
        obtain ⟨g8, h⟩ := v_ifs h
        obtain ⟨z7, ez7, h⟩ := v_bnd h
        refine v_call1 (v := .int z7.1) (M1 := z7.2) (mc := 0) (ms := 0) (fun H locs hR hS => va_runV (As := [.ref (D.2.2.2.2 23)]) (rest := []) ⟨hx, hb, hml, hown, hts⟩ (mX10_isWord l hfl D x0 (D.2.2.2.2 23) z5.2 z7 ez7) (cwV 1 hts (gdV kw1442 kw1444 kw32 kw85 kw1445) rfl rfl rfl (by decide +kernel) ⟨Nat.le_of_ble_eq_true rfl, Nat.le_of_ble_eq_true rfl⟩) (v_preV (ci := 11) hSS hR hS g8 (by decide) rfl [.ref (D.2.2.2.2 23)]) rfl rfl hl.1 rfl (lv_room (Nat.le_of_ble_eq_true rfl)) dX10_statement_47 ⟨Nat.zero_le _, Nat.zero_le _⟩) ?_
        refine w_if_eq (tgt := 60) hx hb dX10_statement_50 (by decide) (fun c8 => ?_) (fun c8 => ?_)
        · rw [if_pos c8] at h
          refine w_aload_n hx hb dX10_statement_60 rfl (lv_at hl 0 rfl) ?_
          refine w_ldcS hx hb hown (hSS.2.2.1 24 _ rfl) dX10_statement_61 ?_
          obtain ⟨g8, h⟩ := v_ifs h
          obtain ⟨z9, ez9, h⟩ := v_bnd h
          refine v_call1 (v := .int z9.1) (M1 := z9.2) (mc := 0) (ms := 0) (fun H locs hR hS => va_runV (As := [.ref (D.2.2.2.2 24)]) (rest := []) ⟨hx, hb, hml, hown, hts⟩ (mX10_isWord l hfl D x0 (D.2.2.2.2 24) z7.2 z9 ez9) (cwV 1 hts (gdV kw1442 kw1444 kw32 kw85 kw1445) rfl rfl rfl (by decide +kernel) ⟨Nat.le_of_ble_eq_true rfl, Nat.le_of_ble_eq_true rfl⟩) (v_preV (ci := 11) hSS hR hS g8 (by decide) rfl [.ref (D.2.2.2.2 24)]) rfl rfl hl.1 rfl (lv_room (Nat.le_of_ble_eq_true rfl)) dX10_statement_63 ⟨Nat.zero_le _, Nat.zero_le _⟩) ?_
          refine w_if_eq (tgt := 76) hx hb dX10_statement_66 (by decide) (fun c10 => ?_) (fun c10 => ?_)
          · rw [if_pos c10] at h
            refine w_aload_n hx hb dX10_statement_76 rfl (lv_at hl 0 rfl) ?_
            refine w_iconst (v := 1) hx hb dX10_statement_77 (by decide) ?_
            obtain ⟨g8, h⟩ := v_ifs h
            obtain ⟨z11, ez11, h⟩ := v_bnd h
            refine v_call1 (v := .int z11.1) (M1 := z11.2) (mc := 0) (ms := 0) (fun H locs hR hS => va_runV (As := [.int 1]) (rest := []) ⟨hx, hb, hml, hown, hts⟩ (mX10_fails l hfl D x0 1 z9.2 z11 ez11) (cwV 1 hts (gdV kw1452 kw1454 kw34 kw85 kw1455) rfl rfl rfl (by decide +kernel) ⟨Nat.le_of_ble_eq_true rfl, Nat.le_of_ble_eq_true rfl⟩) (v_preV (ci := 11) hSS hR hS g8 (by decide) rfl [.int 1]) rfl rfl hl.1 rfl (lv_room (Nat.le_of_ble_eq_true rfl)) dX10_statement_78 ⟨Nat.zero_le _, Nat.zero_le _⟩) ?_
            obtain ⟨g6, h⟩ := v_ifs h
            obtain rfl := Option.some.inj h
            rw [hQ]
            exact v_zret hx hb hr hlk (v_narZ g6) dX10_statement_81
          · rw [if_neg c10] at h
            refine w_aload_n hx hb dX10_statement_69 rfl (lv_at hl 0 rfl) ?_
            obtain ⟨g8, h⟩ := v_ifs h
            obtain ⟨z12, ez12, h⟩ := v_bnd h
            refine v_call1 (v := .int z12.1) (M1 := z12.2) (mc := 0) (ms := 0) (fun H locs hR hS => va_runV (As := []) (rest := []) ⟨hx, hb, hml, hown, hts⟩ (mX10_markLine l hfl D x0 z9.2 z12 ez12) (cwV 0 hts (gdV kw1570 kw1572 kw61 kw85 kw1573) rfl rfl rfl (by decide +kernel) ⟨Nat.le_of_ble_eq_true rfl, Nat.le_of_ble_eq_true rfl⟩) (v_preV (ci := 11) hSS hR hS g8 (by decide) rfl []) rfl rfl hl.1 rfl (lv_room (Nat.le_of_ble_eq_true rfl)) dX10_statement_70 ⟨Nat.zero_le _, Nat.zero_le _⟩) ?_
            refine w_goto (tgt := 81) hx hb dX10_statement_73 (by decide) ?_
            obtain ⟨g6, h⟩ := v_ifs h
            obtain rfl := Option.some.inj h
            rw [hQ]
            exact v_zret hx hb hr hlk (v_narZ g6) dX10_statement_81
        · rw [if_neg c8] at h
          refine w_aload_n hx hb dX10_statement_53 rfl (lv_at hl 0 rfl) ?_
          obtain ⟨g8, h⟩ := v_ifs h
          obtain ⟨z13, ez13, h⟩ := v_bnd h
          refine v_call1 (v := .int z13.1) (M1 := z13.2) (mc := 0) (ms := 0) (fun H locs hR hS => va_runV (As := []) (rest := []) ⟨hx, hb, hml, hown, hts⟩ (mX10_clearLine l hfl D x0 z7.2 z13 ez13) (cwV 0 hts (gdV kw1561 kw1563 kw59 kw85 kw1564) rfl rfl rfl (by decide +kernel) ⟨Nat.le_of_ble_eq_true rfl, Nat.le_of_ble_eq_true rfl⟩) (v_preV (ci := 11) hSS hR hS g8 (by decide) rfl []) rfl rfl hl.1 rfl (lv_room (Nat.le_of_ble_eq_true rfl)) dX10_statement_54 ⟨Nat.zero_le _, Nat.zero_le _⟩) ?_
          refine w_goto (tgt := 81) hx hb dX10_statement_57 (by decide) ?_
          obtain ⟨g6, h⟩ := v_ifs h
          obtain rfl := Option.some.inj h
          rw [hQ]
          exact v_zret hx hb hr hlk (v_narZ g6) dX10_statement_81
      · rw [if_neg c6] at h
        refine w_aload_n hx hb dX10_statement_38 rfl (lv_at hl 0 rfl) ?_
        refine w_iconst (v := 0) hx hb dX10_statement_39 (by decide) ?_
        obtain ⟨g8, h⟩ := v_ifs h
        obtain ⟨z14, ez14, h⟩ := v_bnd h
        refine v_call1 (v := .int z14.1) (M1 := z14.2) (mc := 0) (ms := 0) (fun H locs hR hS => va_runV (As := [.int 0]) (rest := []) ⟨hx, hb, hml, hown, hts⟩ (mX10_membersLine l hfl D x0 0 z5.2 z14 ez14) (cwV 1 hts (gdV kw1481 kw1483 kw40 kw85 kw1484) rfl rfl rfl (by decide +kernel) ⟨Nat.le_of_ble_eq_true rfl, Nat.le_of_ble_eq_true rfl⟩) (v_preV (ci := 11) hSS hR hS g8 (by decide) rfl [.int 0]) rfl rfl hl.1 rfl (lv_room (Nat.le_of_ble_eq_true rfl)) dX10_statement_40 ⟨Nat.zero_le _, Nat.zero_le _⟩) ?_
        obtain ⟨g6, h⟩ := v_ifs h
        obtain rfl := Option.some.inj h
        rw [hQ]
        exact v_zret hx hb hr hlk (v_narZ g6) dX10_statement_43
    · rw [if_neg c4] at h
      refine w_aload_n hx hb dX10_statement_23 rfl (lv_at hl 0 rfl) ?_
      refine w_iconst (v := 1) hx hb dX10_statement_24 (by decide) ?_
      obtain ⟨g8, h⟩ := v_ifs h
      obtain ⟨z15, ez15, h⟩ := v_bnd h
      refine v_call1 (v := .int z15.1) (M1 := z15.2) (mc := 0) (ms := 0) (fun H locs hR hS => va_runV (As := [.int 1]) (rest := []) ⟨hx, hb, hml, hown, hts⟩ (mX10_membersLine l hfl D x0 1 z3.2 z15 ez15) (cwV 1 hts (gdV kw1481 kw1483 kw40 kw85 kw1484) rfl rfl rfl (by decide +kernel) ⟨Nat.le_of_ble_eq_true rfl, Nat.le_of_ble_eq_true rfl⟩) (v_preV (ci := 11) hSS hR hS g8 (by decide) rfl [.int 1]) rfl rfl hl.1 rfl (lv_room (Nat.le_of_ble_eq_true rfl)) dX10_statement_25 ⟨Nat.zero_le _, Nat.zero_le _⟩) ?_
      obtain ⟨g6, h⟩ := v_ifs h
      obtain rfl := Option.some.inj h
      rw [hQ]
      exact v_zret hx hb hr hlk (v_narZ g6) dX10_statement_28
  · rw [if_neg c2] at h
    refine w_aload_n hx hb dX10_statement_9 rfl (lv_at hl 0 rfl) ?_
    obtain ⟨g8, h⟩ := v_ifs h
    obtain ⟨z16, ez16, h⟩ := v_bnd h
    refine v_call1 (v := .int z16.1) (M1 := z16.2) (mc := 0) (ms := 0) (fun H locs hR hS => va_runV (As := []) (rest := []) ⟨hx, hb, hml, hown, hts⟩ (mX10_setLine l hfl D x0 z1.2 z16 ez16) (cwV 0 hts (gdV kw1473 kw1475 kw39 kw85 kw1476) rfl rfl rfl (by decide +kernel) ⟨Nat.le_of_ble_eq_true rfl, Nat.le_of_ble_eq_true rfl⟩) (v_preV (ci := 11) hSS hR hS g8 (by decide) rfl []) rfl rfl hl.1 rfl (lv_room (Nat.le_of_ble_eq_true rfl)) dX10_statement_10 ⟨Nat.zero_le _, Nat.zero_le _⟩) ?_
    obtain ⟨g6, h⟩ := v_ifs h
    obtain rfl := Option.some.inj h
    rw [hQ]
    exact v_zret hx hb hr hlk (v_narZ g6) dX10_statement_13

def tX10_copies_L3 (x0 : Nat) (x1 : Int32) (x2 : Nat) (x3 : Int32) : Nat → Int32 → vMe → Option (Unit × vMe)
  | 0, _, _ => none
  | f + 1, x4, Mi =>
  if (1952 : Int32) ≤ x4 then
  (some ((), Mi))
else
  ((aI Mi x0 101 (x1 + x4)).bind fun v5 =>
  (sA Mi x2 101 (x3 + x4) (.int v5)).bind fun M6 =>
  tX10_copies_L3 x0 x1 x2 x3 f (x4 + 1) M6)
def tX10_copies (x0 : Nat) (x1 : Int32) (x2 : Nat) (x3 : Int32) (M : vMe) : Option (Unit × vMe) :=
  (tX10_copies_L3 x0 x1 x2 x3 vF 0 M).bind fun z7 =>
  some ((), z7.2)
def rmX10_copies : Room := { frames := 1, cells := 0, slots := 0, locals := 0 }
set_option maxHeartbeats 4000000 in
set_option maxRecDepth 100000 in
theorem mX10_copies (l : Launch) (hfl : l.stackTraces = false) (D : vD) (x0 : Nat) (x1 : Int32) (x2 : Nat) (x3 : Int32) (M : vMe) (z : (Unit × vMe)) (h : tX10_copies x0 x1 x2 x3 M = some z) : Met l yX10_copies (Cond.code yX10_copies cX10_copies 5 none :: TB) rmX10_copies (va_Pc [.ref x0, .int x1, .ref x2, .int x3] (vPre D M)) (qW D none z.2) 0 0 (vA D) := by
  refine v_ofW (cc := cX10_copies) (maxL := 5) (ret := none) (by decide) (Nat.le_of_ble_eq_true rfl) ?_
  intro p e s m args below meth c Q hx hb hr hml hown hts hlk hnm hSS hR0 hQ ls hl
  have hK := hSS.1
  have hl : lv_has ls 5 [(0, .ref x0), (1, .int x1), (2, .ref x2), (3, .int x3)] := hl
  unfold tX10_copies at h
  have X10_copies_L3p : ∀ (x0 : Nat) (x1 : Int32) (x2 : Nat) (x3 : Int32), ∀ (f : Nat) (x4 : Int32) (Mi : vMe) (ls : Array Slot) (z : (Unit × vMe)), lv_has ls 5 [(0, .ref x0), (1, .int x1), (2, .ref x2), (3, .int x3), (4, .int x4)] → tX10_copies_L3 x0 x1 x2 x3 f x4 Mi = some z → (∀ ls : Array Slot, lv_has ls 5 [] → vV D p l e rmX10_copies s m args below meth c 0 0 Q z.2 (F0 m 29 ls [])) → vV D p l e rmX10_copies s m args below meth c 0 0 Q Mi (F0 m 3 ls []) := by
    intro x0 x1 x2 x3 f
    induction f with
    | zero =>
      intro x4 Mi ls z hl h
      exact absurd h (by simp [tX10_copies_L3])
    | succ f ih =>
      intro x4 Mi ls z hl h KX
      rw [tX10_copies_L3] at h
      refine w_iload hx hb dX10_copies_3 (lv_at hl 4 rfl) ?_
      refine w_sipush (v := 1952) hx hb dX10_copies_5 (by decide) ?_
      refine w_icmp_ge (tgt := 29) hx hb dX10_copies_8 (by decide) (fun c4 => ?_) (fun c4 => ?_)
      · rw [if_pos c4] at h
        obtain rfl := Option.some.inj h
        exact KX ls (lv_sub hl [] rfl)
      · rw [if_neg c4] at h
        refine w_aload_n hx hb dX10_copies_11 rfl (lv_at hl 2 rfl) ?_
        refine w_iload_n hx hb dX10_copies_12 rfl (lv_at hl 3 rfl) ?_
        refine w_iload hx hb dX10_copies_13 (lv_at hl 4 rfl) ?_
        refine w_iadd hx hb dX10_copies_15 ?_
        refine w_aload_n hx hb dX10_copies_16 rfl (lv_at hl 0 rfl) ?_
        refine w_iload_n hx hb dX10_copies_17 rfl (lv_at hl 1 rfl) ?_
        refine w_iload hx hb dX10_copies_18 (lv_at hl 4 rfl) ?_
        refine w_iadd hx hb dX10_copies_20 ?_
        obtain ⟨v5, ev5, h⟩ := v_bnd h
        refine v_iald hx hb hK ev5 dX10_copies_21 ?_
        obtain ⟨M6, eM6, h⟩ := v_bnd h
        refine v_iast hx hb hK eM6 dX10_copies_22 ?_
        refine w_iinc (v := x4 + 1) (lv' := [(4, .int (x4 + 1)), (0, .ref x0), (1, .int x1), (2, .ref x2), (3, .int x3)]) hx hb dX10_copies_23 hl (j := 4) rfl rfl (by decide) rfl (fun ls hl => ?_)
        have hl : lv_has ls 5 [(0, .ref x0), (1, .int x1), (2, .ref x2), (3, .int x3), (4, .int (x4 + 1))] := lv_sub hl [1, 2, 3, 4, 0] rfl
        refine w_goto (tgt := 3) hx hb dX10_copies_26 (by decide) ?_
        exact ih (x4 + 1) M6 ls z (lv_sub hl [0, 1, 2, 3, 4] rfl) h KX
  refine w_iconst (v := 0) hx hb dX10_copies_0 (by decide) ?_
  refine w_istore (lv' := [(4, .int 0), (0, .ref x0), (1, .int x1), (2, .ref x2), (3, .int x3)]) hx hb dX10_copies_1 hl (by decide) rfl (fun ls hl => ?_)
  have hl : lv_has ls 5 [(0, .ref x0), (1, .int x1), (2, .ref x2), (3, .int x3), (4, .int 0)] := lv_sub hl [1, 2, 3, 4, 0] rfl
  obtain ⟨z7, ez7, h⟩ := v_bnd h
  refine X10_copies_L3p x0 x1 x2 x3 vF 0 M ls z7 (lv_sub hl [0, 1, 2, 3, 4] rfl) ez7 (fun ls hl => ?_)
  obtain rfl := Option.some.inj h
  rw [hQ]
  exact v_vret hx hb hr hlk dX10_copies_29

def tX10_parse_L72 (x0 : Nat) : Nat → Int32 → vMe → Option (Unit × vMe)
  | 0, _, _ => none
  | f + 1, x2, Mi =>
  if (1952 : Int32) ≤ x2 then
  (some ((), Mi))
else
  ((gA Mi x0 12 1).bind fun a19 =>
  (sA Mi a19 101 x2 (.int 0)).bind fun M20 =>
  tX10_parse_L72 x0 f (x2 + 1) M20)
def tX10_parse_J175_145 (rec : Int32 → vMe → Option (Int32 × vMe)) (x0 : Nat) (y0 : Int32) (Mj : vMe) : Option (Int32 × vMe) :=
  rec y0 Mj
def tX10_parse_J174_145 (rec : Int32 → vMe → Option (Int32 × vMe)) (x0 : Nat) (Mj : vMe) : Option (Int32 × vMe) :=
  tX10_parse_J175_145 (rec) x0 0 Mj
def tX10_parse_L145 (G : Nat → Nat) (x0 : Nat) : Nat → Int32 → vMe → Option (Int32 × vMe)
  | 0, _, _ => none
  | f + 1, x2, Mi =>
  if x2 = 0 then
  (some (x2, Mi))
else
  ((gI Mi x0 12 8).bind fun v27 =>
  if v27 = 0 then
  (some (x2, Mi))
else
  (if (Mi.1 x0).1 = 12 then
  ((tX10_statement G x0 Mi).bind fun z29 =>
  if z29.1 = 0 then
  (tX10_parse_J174_145 (tX10_parse_L145 G x0 f) x0 z29.2)
else
  (if (z29.2.1 x0).1 = 12 then
  ((tX10_closes x0 z29.2).bind fun z31 =>
  if z31.1 = 0 then
  (tX10_parse_J174_145 (tX10_parse_L145 G x0 f) x0 z31.2)
else
  (tX10_parse_J175_145 (tX10_parse_L145 G x0 f) x0 1 z31.2))
else none))
else none))
def tX10_parse_L203 (x0 : Nat) : Nat → Int32 → vMe → Option (Unit × vMe)
  | 0, _, _ => none
  | f + 1, x3, Mi =>
  if (5 : Int32) ≤ x3 then
  (some ((), Mi))
else
  ((gA Mi x0 12 2).bind fun a45 =>
  (gA Mi x0 12 15).bind fun a46 =>
  (aJ Mi a46 104 x3).bind fun v47 =>
  (sA Mi a45 104 x3 (.long v47)).bind fun M48 =>
  tX10_parse_L203 x0 f (x3 + 1) M48)
def tX10_parse_J179 (x0 : Nat) (x2 : Int32) (Mj : vMe) : Option (Int32 × vMe) :=
  if x2 = 0 then
  ((gA Mj x0 12 14).bind fun a35 =>
  (gA Mj x0 12 1).bind fun a36 =>
  (tX10_copies a35 0 a36 0 Mj).bind fun z37 =>
  (gI z37.2 x0 12 11).bind fun v38 =>
  some (v38, z37.2))
else
  ((tX10_parse_L203 x0 vF 0 Mj).bind fun z49 =>
  (sV z49.2 x0 12 18 (.int 0)).bind fun M50 =>
  (gA M50 x0 12 21).bind fun a51 =>
  (sA M50 a51 103 0 (.int (0 &&& 1))).bind fun M52 =>
  (gA M52 x0 12 21).bind fun a53 =>
  (sA M52 a53 103 1 (.int (0 &&& 1))).bind fun M54 =>
  some (0, M54))
def tX10_parse_J144 (G : Nat → Nat) (x0 : Nat) (y0 : Int32) (Mj : vMe) : Option (Int32 × vMe) :=
  (tX10_parse_L145 G x0 vF y0 Mj).bind fun z33 =>
  tX10_parse_J179 x0 z33.1 z33.2
def tX10_parse_J143 (G : Nat → Nat) (x0 : Nat) (Mj : vMe) : Option (Int32 × vMe) :=
  tX10_parse_J144 G x0 0 Mj
def tX10_parse_J23 (G : Nat → Nat) (x0 : Nat) (x1 : Int32) (y0 : Nat) (y1 : Int32) (Mj : vMe) : Option (Int32 × vMe) :=
  if (Mj.1 y0).1 = 12 then
  ((tX10_throwsIf y0 y1 1 Mj).bind fun z5 =>
  if z5.1 = 0 then
  ((sV z5.2 x0 12 5 (.int x1)).bind fun M7 =>
  (sV M7 x0 12 4 (.int 0)).bind fun M8 =>
  (sV M8 x0 12 7 (.int 0)).bind fun M9 =>
  (sV M9 x0 12 11 (.int 0)).bind fun M10 =>
  (sV M10 x0 12 12 (.int ((-1)))).bind fun M11 =>
  (gA M11 x0 12 1).bind fun a12 =>
  (gA M11 x0 12 14).bind fun a13 =>
  (tX10_copies a12 0 a13 0 M11).bind fun z14 =>
  (tX10_parse_L72 x0 vF 0 z14.2).bind fun z21 =>
  if (z21.2.1 x0).1 = 12 then
  ((tX10_advance x0 z21.2).bind fun z22 =>
  if (z22.2.1 x0).1 = 12 then
  ((tX10_isWord G x0 (G 25) z22.2).bind fun z23 =>
  if (z23.2.1 x0).1 = 12 then
  ((tX10_starts x0 1 z23.1 z23.2).bind fun z24 =>
  if z24.1 = 0 then
  (tX10_parse_J143 G x0 z24.2)
else
  (if (z24.2.1 x0).1 = 12 then
  ((tX10_lays x0 1 1 64 z24.2).bind fun z55 =>
  if z55.1 = 0 then
  (tX10_parse_J143 G x0 z55.2)
else
  (if (z55.2.1 x0).1 = 12 then
  ((tX10_lays x0 2 1 60 z55.2).bind fun z57 =>
  if z57.1 = 0 then
  (tX10_parse_J143 G x0 z57.2)
else
  (if (z57.2.1 x0).1 = 12 then
  ((tX10_closes x0 z57.2).bind fun z59 =>
  if z59.1 = 0 then
  (tX10_parse_J143 G x0 z59.2)
else
  (tX10_parse_J144 G x0 1 z59.2))
else none))
else none))
else none))
else none)
else none)
else none)
else
  (some (0, z5.2)))
else none
def tX10_parse (G : Nat → Nat) (x0 : Nat) (x1 : Int32) (M : vMe) : Option (Int32 × vMe) :=
  (sV M x0 12 0 (.int 0)).bind fun M1 =>
  (gI M1 x0 12 4).bind fun v2 =>
  (tX10_within x1 0 v2 M1).bind fun z3 =>
  if z3 = 0 then
  (tX10_parse_J23 G x0 x1 x0 1 M1)
else
  (tX10_parse_J23 G x0 x1 x0 0 M1)
def rmX10_parse : Room := { frames := 9, cells := 0, slots := 0, locals := 189 }
set_option maxHeartbeats 4000000 in
set_option maxRecDepth 100000 in
theorem mX10_parse (l : Launch) (hfl : l.stackTraces = false) (D : vD) (x0 : Nat) (x1 : Int32) (M : vMe) (z : (Int32 × vMe)) (h : tX10_parse D.2.2.2.2 x0 x1 M = some z) : Met l yX10_parse (Cond.code yX10_parse cX10_parse 4 (some .int) :: TB) rmX10_parse (va_Pc [.ref x0, .int x1] (vPre D M)) (qW D (some (.int z.1)) z.2) 0 0 (vA D) := by
  refine v_ofW (cc := cX10_parse) (maxL := 4) (ret := (some .int)) (by decide) (Nat.le_of_ble_eq_true rfl) ?_
  intro p e s m args below meth c Q hx hb hr hml hown hts hlk hnm hSS hR0 hQ ls hl
  have hK := hSS.1
  have hl : lv_has ls 4 [(0, .ref x0), (1, .int x1)] := hl
  unfold tX10_parse at h
  have X10_parse_L72p : ∀ (x0 : Nat), ∀ (f : Nat) (x2 : Int32) (Mi : vMe) (ls : Array Slot) (z : (Unit × vMe)), lv_has ls 4 [(0, .ref x0), (2, .int x2)] → tX10_parse_L72 x0 f x2 Mi = some z → (∀ ls : Array Slot, lv_has ls 4 [(0, .ref x0)] → vV D p l e rmX10_parse s m args below meth c 0 0 Q z.2 (F0 m 92 ls [])) → vV D p l e rmX10_parse s m args below meth c 0 0 Q Mi (F0 m 72 ls []) := by
    intro x0 f
    induction f with
    | zero =>
      intro x2 Mi ls z hl h
      exact absurd h (by simp [tX10_parse_L72])
    | succ f ih =>
      intro x2 Mi ls z hl h KX
      rw [tX10_parse_L72] at h
      refine w_iload_n hx hb dX10_parse_72 rfl (lv_at hl 1 rfl) ?_
      refine w_sipush (v := 1952) hx hb dX10_parse_73 (by decide) ?_
      refine w_icmp_ge (tgt := 92) hx hb dX10_parse_76 (by decide) (fun c18 => ?_) (fun c18 => ?_)
      · rw [if_pos c18] at h
        obtain rfl := Option.some.inj h
        exact KX ls (lv_sub hl [0] rfl)
      · rw [if_neg c18] at h
        refine w_aload_n hx hb dX10_parse_79 rfl (lv_at hl 0 rfl) ?_
        obtain ⟨a19, ea19, h⟩ := v_bnd h
        refine v_gA (ci := 11) hx hb hts iwX10 hown hK 1 ea19 rfl (by decide) (Or.inl (hts _ kw1336)) (fun _ h9 => h9) dX10_parse_80 ?_
        refine w_iload_n hx hb dX10_parse_83 rfl (lv_at hl 1 rfl) ?_
        refine w_iconst (v := 0) hx hb dX10_parse_84 (by decide) ?_
        obtain ⟨M20, eM20, h⟩ := v_bnd h
        refine v_iast hx hb hK eM20 dX10_parse_85 ?_
        refine w_iinc (v := x2 + 1) (lv' := [(2, .int (x2 + 1)), (0, .ref x0)]) hx hb dX10_parse_86 hl (j := 1) rfl rfl (by decide) rfl (fun ls hl => ?_)
        have hl : lv_has ls 4 [(0, .ref x0), (2, .int (x2 + 1))] := lv_sub hl [1, 0] rfl
        refine w_goto (tgt := 72) hx hb dX10_parse_89 (by decide) ?_
        exact ih (x2 + 1) M20 ls z (lv_sub hl [0, 1] rfl) h KX
  have X10_parse_L145p : ∀ (x0 : Nat), ∀ (f : Nat) (x2 : Int32) (Mi : vMe) (ls : Array Slot) (z : (Int32 × vMe)), lv_has ls 4 [(0, .ref x0), (2, .int x2)] → tX10_parse_L145 D.2.2.2.2 x0 f x2 Mi = some z → (∀ ls : Array Slot, lv_has ls 4 [(0, .ref x0), (2, .int z.1)] → vV D p l e rmX10_parse s m args below meth c 0 0 Q z.2 (F0 m 179 ls [])) → vV D p l e rmX10_parse s m args below meth c 0 0 Q Mi (F0 m 145 ls []) := by
    intro x0 f
    induction f with
    | zero =>
      intro x2 Mi ls z hl h
      exact absurd h (by simp [tX10_parse_L145])
    | succ f ih =>
      intro x2 Mi ls z hl h KX
      rw [tX10_parse_L145] at h
      have X10_parse_J175_145p : ∀ (y0 : Int32) (Mj : vMe) (ls : Array Slot), lv_has ls 4 [(0, .ref x0)] → tX10_parse_J175_145 (tX10_parse_L145 D.2.2.2.2 x0 f) x0 y0 Mj = some z → vV D p l e rmX10_parse s m args below meth c 0 0 Q Mj (F0 m 175 ls [.int y0]) := by
        intro y0 Mj ls hl h
        unfold tX10_parse_J175_145 at h
        refine w_istore_n (lv' := [(2, .int y0), (0, .ref x0)]) hx hb dX10_parse_175 rfl hl (by decide) rfl (fun ls hl => ?_)
        have hl : lv_has ls 4 [(0, .ref x0), (2, .int y0)] := lv_sub hl [1, 0] rfl
        refine w_goto (tgt := 145) hx hb dX10_parse_176 (by decide) ?_
        exact ih y0 Mj ls z (lv_sub hl [0, 1] rfl) h KX
      have X10_parse_J174_145p : ∀  (Mj : vMe) (ls : Array Slot), lv_has ls 4 [(0, .ref x0)] → tX10_parse_J174_145 (tX10_parse_L145 D.2.2.2.2 x0 f) x0 Mj = some z → vV D p l e rmX10_parse s m args below meth c 0 0 Q Mj (F0 m 174 ls []) := by
        intro  Mj ls hl h
        unfold tX10_parse_J174_145 at h
        refine w_iconst (v := 0) hx hb dX10_parse_174 (by decide) ?_
        exact X10_parse_J175_145p 0 Mj ls (lv_sub hl [0] rfl) h
      refine w_iload_n hx hb dX10_parse_145 rfl (lv_at hl 1 rfl) ?_
      refine w_if_eq (tgt := 179) hx hb dX10_parse_146 (by decide) (fun c26 => ?_) (fun c26 => ?_)
      · rw [if_pos c26] at h
        obtain rfl := Option.some.inj h
        exact KX ls (lv_sub hl [0, 1] rfl)
      · rw [if_neg c26] at h
        refine w_aload_n hx hb dX10_parse_149 rfl (lv_at hl 0 rfl) ?_
        obtain ⟨v27, ev27, h⟩ := v_bnd h
        refine v_gI (ci := 11) hx hb hts iwX10 hown hK 8 ev27 rfl (by decide) (Or.inl (hts _ kw1343)) (fun _ h9 => h9) dX10_parse_150 ?_
        refine w_if_eq (tgt := 179) hx hb dX10_parse_153 (by decide) (fun c28 => ?_) (fun c28 => ?_)
        · rw [if_pos c28] at h
          obtain rfl := Option.some.inj h
          exact KX ls (lv_sub hl [0, 1] rfl)
        · rw [if_neg c28] at h
          refine w_aload_n hx hb dX10_parse_156 rfl (lv_at hl 0 rfl) ?_
          obtain ⟨g8, h⟩ := v_ifs h
          obtain ⟨z29, ez29, h⟩ := v_bnd h
          refine v_call1 (v := .int z29.1) (M1 := z29.2) (mc := 0) (ms := 0) (fun H locs hR hS => va_runV (As := []) (rest := []) ⟨hx, hb, hml, hown, hts⟩ (mX10_statement l hfl D x0 Mi z29 ez29) (cwV 0 hts (gdV kw1468 kw1470 kw38 kw85 kw1471) rfl rfl rfl (by decide +kernel) ⟨Nat.le_of_ble_eq_true rfl, Nat.le_of_ble_eq_true rfl⟩) (v_preV (ci := 11) hSS hR hS g8 (by decide) rfl []) rfl rfl hl.1 rfl (lv_room (Nat.le_of_ble_eq_true rfl)) dX10_parse_157 ⟨Nat.zero_le _, Nat.zero_le _⟩) ?_
          refine w_if_eq (tgt := 174) hx hb dX10_parse_160 (by decide) (fun c30 => ?_) (fun c30 => ?_)
          · rw [if_pos c30] at h
            exact X10_parse_J174_145p  z29.2 ls (lv_sub hl [0] rfl) h
          · rw [if_neg c30] at h
            refine w_aload_n hx hb dX10_parse_163 rfl (lv_at hl 0 rfl) ?_
            obtain ⟨g8, h⟩ := v_ifs h
            obtain ⟨z31, ez31, h⟩ := v_bnd h
            refine v_call1 (v := .int z31.1) (M1 := z31.2) (mc := 0) (ms := 0) (fun H locs hR hS => va_runV (As := []) (rest := []) ⟨hx, hb, hml, hown, hts⟩ (mX10_closes l hfl D x0 z29.2 z31 ez31) (cwV 0 hts (gdV kw1464 kw1466 kw37 kw85 kw1467) rfl rfl rfl (by decide +kernel) ⟨Nat.le_of_ble_eq_true rfl, Nat.le_of_ble_eq_true rfl⟩) (v_preV (ci := 11) hSS hR hS g8 (by decide) rfl []) rfl rfl hl.1 rfl (lv_room (Nat.le_of_ble_eq_true rfl)) dX10_parse_164 ⟨Nat.zero_le _, Nat.zero_le _⟩) ?_
            refine w_if_eq (tgt := 174) hx hb dX10_parse_167 (by decide) (fun c32 => ?_) (fun c32 => ?_)
            · rw [if_pos c32] at h
              exact X10_parse_J174_145p  z31.2 ls (lv_sub hl [0] rfl) h
            · rw [if_neg c32] at h
              refine w_iconst (v := 1) hx hb dX10_parse_170 (by decide) ?_
              refine w_goto (tgt := 175) hx hb dX10_parse_171 (by decide) ?_
              exact X10_parse_J175_145p 1 z31.2 ls (lv_sub hl [0] rfl) h
  have X10_parse_L203p : ∀ (x0 : Nat), ∀ (f : Nat) (x3 : Int32) (Mi : vMe) (ls : Array Slot) (z : (Unit × vMe)), lv_has ls 4 [(0, .ref x0), (3, .int x3)] → tX10_parse_L203 x0 f x3 Mi = some z → (∀ ls : Array Slot, lv_has ls 4 [(0, .ref x0)] → vV D p l e rmX10_parse s m args below meth c 0 0 Q z.2 (F0 m 226 ls [])) → vV D p l e rmX10_parse s m args below meth c 0 0 Q Mi (F0 m 203 ls []) := by
    intro x0 f
    induction f with
    | zero =>
      intro x3 Mi ls z hl h
      exact absurd h (by simp [tX10_parse_L203])
    | succ f ih =>
      intro x3 Mi ls z hl h KX
      rw [tX10_parse_L203] at h
      refine w_iload_n hx hb dX10_parse_203 rfl (lv_at hl 1 rfl) ?_
      refine w_iconst (v := 5) hx hb dX10_parse_204 (by decide) ?_
      refine w_icmp_ge (tgt := 226) hx hb dX10_parse_205 (by decide) (fun c44 => ?_) (fun c44 => ?_)
      · rw [if_pos c44] at h
        obtain rfl := Option.some.inj h
        exact KX ls (lv_sub hl [0] rfl)
      · rw [if_neg c44] at h
        refine w_aload_n hx hb dX10_parse_208 rfl (lv_at hl 0 rfl) ?_
        obtain ⟨a45, ea45, h⟩ := v_bnd h
        refine v_gA (ci := 11) hx hb hts iwX10 hown hK 2 ea45 rfl (by decide) (Or.inl (hts _ kw1337)) (fun _ h9 => h9) dX10_parse_209 ?_
        refine w_iload_n hx hb dX10_parse_212 rfl (lv_at hl 1 rfl) ?_
        refine w_aload_n hx hb dX10_parse_213 rfl (lv_at hl 0 rfl) ?_
        obtain ⟨a46, ea46, h⟩ := v_bnd h
        refine v_gA (ci := 11) hx hb hts iwX10 hown hK 15 ea46 rfl (by decide) (Or.inl (hts _ kw1350)) (fun _ h9 => h9) dX10_parse_214 ?_
        refine w_iload_n hx hb dX10_parse_217 rfl (lv_at hl 1 rfl) ?_
        obtain ⟨v47, ev47, h⟩ := v_bnd h
        refine v_lald hx hb hK ev47 dX10_parse_218 ?_
        obtain ⟨M48, eM48, h⟩ := v_bnd h
        refine v_last hx hb hK eM48 dX10_parse_219 ?_
        refine w_iinc (v := x3 + 1) (lv' := [(3, .int (x3 + 1)), (0, .ref x0)]) hx hb dX10_parse_220 hl (j := 1) rfl rfl (by decide) rfl (fun ls hl => ?_)
        have hl : lv_has ls 4 [(0, .ref x0), (3, .int (x3 + 1))] := lv_sub hl [1, 0] rfl
        refine w_goto (tgt := 203) hx hb dX10_parse_223 (by decide) ?_
        exact ih (x3 + 1) M48 ls z (lv_sub hl [0, 1] rfl) h KX
  have X10_parse_J179p : ∀ (x0 : Nat) (x2 : Int32) (Mj : vMe) (ls : Array Slot), lv_has ls 4 [(0, .ref x0), (2, .int x2)] → tX10_parse_J179 x0 x2 Mj = some z → vV D p l e rmX10_parse s m args below meth c 0 0 Q Mj (F0 m 179 ls []) := by
    intro x0 x2 Mj ls hl h
    unfold tX10_parse_J179 at h
    refine w_iload_n hx hb dX10_parse_179 rfl (lv_at hl 1 rfl) ?_
    refine w_if_ne (tgt := 201) hx hb dX10_parse_180 (by decide) (fun c34 => ?_) (fun c34 => ?_)
    · rw [if_pos c34] at h
      refine w_aload_n hx hb dX10_parse_183 rfl (lv_at hl 0 rfl) ?_
      obtain ⟨a35, ea35, h⟩ := v_bnd h
      refine v_gA (ci := 11) hx hb hts iwX10 hown hK 14 ea35 rfl (by decide) (Or.inl (hts _ kw1349)) (fun _ h9 => h9) dX10_parse_184 ?_
      refine w_iconst (v := 0) hx hb dX10_parse_187 (by decide) ?_
      refine w_aload_n hx hb dX10_parse_188 rfl (lv_at hl 0 rfl) ?_
      obtain ⟨a36, ea36, h⟩ := v_bnd h
      refine v_gA (ci := 11) hx hb hts iwX10 hown hK 1 ea36 rfl (by decide) (Or.inl (hts _ kw1336)) (fun _ h9 => h9) dX10_parse_189 ?_
      refine w_iconst (v := 0) hx hb dX10_parse_192 (by decide) ?_
      obtain ⟨z37, ez37, h⟩ := v_bnd h
      refine v_call0 (M1 := z37.2) (mc := 0) (ms := 0) (fun H locs hR hS => va_runS (As := [.ref a35, .int 0, .ref a36, .int 0]) (rest := []) ⟨hx, hb, hml, hown, hts⟩ (mX10_copies l hfl D a35 0 a36 0 Mj z37 ez37) (va_cwS 4 hts (gdS kw1426 kw1427 kw85 kw1428) rfl rfl rfl (by decide +kernel) ⟨Nat.le_of_ble_eq_true rfl, Nat.le_of_ble_eq_true rfl⟩) (v_preS hSS hR hS [.ref a35, .int 0, .ref a36, .int 0]) rfl rfl hl.1 rfl (lv_room (Nat.le_of_ble_eq_true rfl)) dX10_parse_193 ⟨Nat.zero_le _, Nat.zero_le _⟩) ?_
      refine w_aload_n hx hb dX10_parse_196 rfl (lv_at hl 0 rfl) ?_
      obtain ⟨v38, ev38, h⟩ := v_bnd h
      refine v_gI (ci := 11) hx hb hts iwX10 hown hK 11 ev38 rfl (by decide) (Or.inl (hts _ kw1346)) (fun _ h9 => h9) dX10_parse_197 ?_
      obtain rfl := Option.some.inj h
      rw [hQ]
      exact v_iret hx hb hr hlk dX10_parse_200
    · rw [if_neg c34] at h
      refine w_iconst (v := 0) hx hb dX10_parse_201 (by decide) ?_
      refine w_istore_n (lv' := [(3, .int 0), (0, .ref x0), (2, .int x2)]) hx hb dX10_parse_202 rfl hl (by decide) rfl (fun ls hl => ?_)
      have hl : lv_has ls 4 [(0, .ref x0), (2, .int x2), (3, .int 0)] := lv_sub hl [1, 2, 0] rfl
      obtain ⟨z49, ez49, h⟩ := v_bnd h
      refine X10_parse_L203p x0 vF 0 Mj ls z49 (lv_sub hl [0, 2] rfl) ez49 (fun ls hl => ?_)
      refine w_aload_n hx hb dX10_parse_226 rfl (lv_at hl 0 rfl) ?_
      refine w_iconst (v := 0) hx hb dX10_parse_227 (by decide) ?_
      obtain ⟨M50, eM50, h⟩ := v_bnd h
      refine v_putf (ci := 11) hx hb hts iwX10 hown hK tyX10_ok nmX10 18 eM50 rfl (by decide) (Or.inl (hts _ kw1353)) (fun _ h9 => h9) (Or.inl rfl) rfl rfl dX10_parse_228 ?_
      refine w_aload_n hx hb dX10_parse_231 rfl (lv_at hl 0 rfl) ?_
      obtain ⟨a51, ea51, h⟩ := v_bnd h
      refine v_gA (ci := 11) hx hb hts iwX10 hown hK 21 ea51 rfl (by decide) (Or.inl (hts _ kw1356)) (fun _ h9 => h9) dX10_parse_232 ?_
      refine w_iconst (v := 0) hx hb dX10_parse_235 (by decide) ?_
      refine w_iconst (v := 0) hx hb dX10_parse_236 (by decide) ?_
      obtain ⟨M52, eM52, h⟩ := v_bnd h
      refine v_zast hx hb hK eM52 dX10_parse_237 ?_
      refine w_aload_n hx hb dX10_parse_238 rfl (lv_at hl 0 rfl) ?_
      obtain ⟨a53, ea53, h⟩ := v_bnd h
      refine v_gA (ci := 11) hx hb hts iwX10 hown hK 21 ea53 rfl (by decide) (Or.inl (hts _ kw1356)) (fun _ h9 => h9) dX10_parse_239 ?_
      refine w_iconst (v := 1) hx hb dX10_parse_242 (by decide) ?_
      refine w_iconst (v := 0) hx hb dX10_parse_243 (by decide) ?_
      obtain ⟨M54, eM54, h⟩ := v_bnd h
      refine v_zast hx hb hK eM54 dX10_parse_244 ?_
      refine w_iconst (v := 0) hx hb dX10_parse_245 (by decide) ?_
      obtain rfl := Option.some.inj h
      rw [hQ]
      exact v_iret hx hb hr hlk dX10_parse_246
  have X10_parse_J144p : ∀ (x0 : Nat) (y0 : Int32) (Mj : vMe) (ls : Array Slot), lv_has ls 4 [(0, .ref x0)] → tX10_parse_J144 D.2.2.2.2 x0 y0 Mj = some z → vV D p l e rmX10_parse s m args below meth c 0 0 Q Mj (F0 m 144 ls [.int y0]) := by
    intro x0 y0 Mj ls hl h
    unfold tX10_parse_J144 at h
    refine w_istore_n (lv' := [(2, .int y0), (0, .ref x0)]) hx hb dX10_parse_144 rfl hl (by decide) rfl (fun ls hl => ?_)
    have hl : lv_has ls 4 [(0, .ref x0), (2, .int y0)] := lv_sub hl [1, 0] rfl
    obtain ⟨z33, ez33, h⟩ := v_bnd h
    refine X10_parse_L145p x0 vF y0 Mj ls z33 (lv_sub hl [0, 1] rfl) ez33 (fun ls hl => ?_)
    exact X10_parse_J179p x0 z33.1 z33.2 ls (lv_sub hl [0, 1] rfl) h
  have X10_parse_J143p : ∀ (x0 : Nat) (Mj : vMe) (ls : Array Slot), lv_has ls 4 [(0, .ref x0)] → tX10_parse_J143 D.2.2.2.2 x0 Mj = some z → vV D p l e rmX10_parse s m args below meth c 0 0 Q Mj (F0 m 143 ls []) := by
    intro x0 Mj ls hl h
    unfold tX10_parse_J143 at h
    refine w_iconst (v := 0) hx hb dX10_parse_143 (by decide) ?_
    exact X10_parse_J144p x0 0 Mj ls (lv_sub hl [0] rfl) h
  have X10_parse_J23p : ∀ (x0 : Nat) (x1 : Int32) (y0 : Nat) (y1 : Int32) (Mj : vMe) (ls : Array Slot), lv_has ls 4 [(0, .ref x0), (1, .int x1)] → tX10_parse_J23 D.2.2.2.2 x0 x1 y0 y1 Mj = some z → vV D p l e rmX10_parse s m args below meth c 0 0 Q Mj (F0 m 23 ls [.int y1, .ref y0]) := by
    intro x0 x1 y0 y1 Mj ls hl h
    unfold tX10_parse_J23 at h
    refine w_iconst (v := 1) hx hb dX10_parse_23 (by decide) ?_
    obtain ⟨g8, h⟩ := v_ifs h
    obtain ⟨z5, ez5, h⟩ := v_bnd h
    refine v_call1 (v := .int z5.1) (M1 := z5.2) (mc := 0) (ms := 0) (fun H locs hR hS => va_runV (As := [.int y1, .int 1]) (rest := []) ⟨hx, hb, hml, hown, hts⟩ (mX10_throwsIf l hfl D y0 y1 1 Mj z5 ez5) (cwV 2 hts (gdV kw1422 kw1424 kw28 kw85 kw1425) rfl rfl rfl (by decide +kernel) ⟨Nat.le_of_ble_eq_true rfl, Nat.le_of_ble_eq_true rfl⟩) (v_preV (ci := 11) hSS hR hS g8 (by decide) rfl [.int y1, .int 1]) rfl rfl hl.1 rfl (lv_room (Nat.le_of_ble_eq_true rfl)) dX10_parse_24 ⟨Nat.zero_le _, Nat.zero_le _⟩) ?_
    refine w_if_eq (tgt := 32) hx hb dX10_parse_27 (by decide) (fun c6 => ?_) (fun c6 => ?_)
    · rw [if_pos c6] at h
      refine w_aload_n hx hb dX10_parse_32 rfl (lv_at hl 0 rfl) ?_
      refine w_iload_n hx hb dX10_parse_33 rfl (lv_at hl 1 rfl) ?_
      obtain ⟨M7, eM7, h⟩ := v_bnd h
      refine v_putf (ci := 11) hx hb hts iwX10 hown hK tyX10_ok nmX10 5 eM7 rfl (by decide) (Or.inl (hts _ kw1340)) (fun _ h9 => h9) (Or.inl rfl) rfl rfl dX10_parse_34 ?_
      refine w_aload_n hx hb dX10_parse_37 rfl (lv_at hl 0 rfl) ?_
      refine w_iconst (v := 0) hx hb dX10_parse_38 (by decide) ?_
      obtain ⟨M8, eM8, h⟩ := v_bnd h
      refine v_putf (ci := 11) hx hb hts iwX10 hown hK tyX10_ok nmX10 4 eM8 rfl (by decide) (Or.inl (hts _ kw1339)) (fun _ h9 => h9) (Or.inl rfl) rfl rfl dX10_parse_39 ?_
      refine w_aload_n hx hb dX10_parse_42 rfl (lv_at hl 0 rfl) ?_
      refine w_iconst (v := 0) hx hb dX10_parse_43 (by decide) ?_
      obtain ⟨M9, eM9, h⟩ := v_bnd h
      refine v_putf (ci := 11) hx hb hts iwX10 hown hK tyX10_ok nmX10 7 eM9 rfl (by decide) (Or.inl (hts _ kw1342)) (fun _ h9 => h9) (Or.inl rfl) rfl rfl dX10_parse_44 ?_
      refine w_aload_n hx hb dX10_parse_47 rfl (lv_at hl 0 rfl) ?_
      refine w_iconst (v := 0) hx hb dX10_parse_48 (by decide) ?_
      obtain ⟨M10, eM10, h⟩ := v_bnd h
      refine v_putf (ci := 11) hx hb hts iwX10 hown hK tyX10_ok nmX10 11 eM10 rfl (by decide) (Or.inl (hts _ kw1346)) (fun _ h9 => h9) (Or.inl rfl) rfl rfl dX10_parse_49 ?_
      refine w_aload_n hx hb dX10_parse_52 rfl (lv_at hl 0 rfl) ?_
      refine w_iconst (v := (-1)) hx hb dX10_parse_53 (by decide) ?_
      obtain ⟨M11, eM11, h⟩ := v_bnd h
      refine v_putf (ci := 11) hx hb hts iwX10 hown hK tyX10_ok nmX10 12 eM11 rfl (by decide) (Or.inl (hts _ kw1347)) (fun _ h9 => h9) (Or.inl rfl) rfl rfl dX10_parse_54 ?_
      refine w_aload_n hx hb dX10_parse_57 rfl (lv_at hl 0 rfl) ?_
      obtain ⟨a12, ea12, h⟩ := v_bnd h
      refine v_gA (ci := 11) hx hb hts iwX10 hown hK 1 ea12 rfl (by decide) (Or.inl (hts _ kw1336)) (fun _ h9 => h9) dX10_parse_58 ?_
      refine w_iconst (v := 0) hx hb dX10_parse_61 (by decide) ?_
      refine w_aload_n hx hb dX10_parse_62 rfl (lv_at hl 0 rfl) ?_
      obtain ⟨a13, ea13, h⟩ := v_bnd h
      refine v_gA (ci := 11) hx hb hts iwX10 hown hK 14 ea13 rfl (by decide) (Or.inl (hts _ kw1349)) (fun _ h9 => h9) dX10_parse_63 ?_
      refine w_iconst (v := 0) hx hb dX10_parse_66 (by decide) ?_
      obtain ⟨z14, ez14, h⟩ := v_bnd h
      refine v_call0 (M1 := z14.2) (mc := 0) (ms := 0) (fun H locs hR hS => va_runS (As := [.ref a12, .int 0, .ref a13, .int 0]) (rest := []) ⟨hx, hb, hml, hown, hts⟩ (mX10_copies l hfl D a12 0 a13 0 M11 z14 ez14) (va_cwS 4 hts (gdS kw1426 kw1427 kw85 kw1428) rfl rfl rfl (by decide +kernel) ⟨Nat.le_of_ble_eq_true rfl, Nat.le_of_ble_eq_true rfl⟩) (v_preS hSS hR hS [.ref a12, .int 0, .ref a13, .int 0]) rfl rfl hl.1 rfl (lv_room (Nat.le_of_ble_eq_true rfl)) dX10_parse_67 ⟨Nat.zero_le _, Nat.zero_le _⟩) ?_
      refine w_iconst (v := 0) hx hb dX10_parse_70 (by decide) ?_
      refine w_istore_n (lv' := [(2, .int 0), (0, .ref x0), (1, .int x1)]) hx hb dX10_parse_71 rfl hl (by decide) rfl (fun ls hl => ?_)
      have hl : lv_has ls 4 [(0, .ref x0), (1, .int x1), (2, .int 0)] := lv_sub hl [1, 2, 0] rfl
      obtain ⟨z21, ez21, h⟩ := v_bnd h
      refine X10_parse_L72p x0 vF 0 z14.2 ls z21 (lv_sub hl [0, 2] rfl) ez21 (fun ls hl => ?_)
      refine w_aload_n hx hb dX10_parse_92 rfl (lv_at hl 0 rfl) ?_
      obtain ⟨g8, h⟩ := v_ifs h
      obtain ⟨z22, ez22, h⟩ := v_bnd h
      refine v_call0 (M1 := z22.2) (mc := 0) (ms := 0) (fun H locs hR hS => va_runV (As := []) (rest := []) ⟨hx, hb, hml, hown, hts⟩ (mX10_advance l hfl D x0 z21.2 z22 ez22) (cwV 0 hts (gdV kw1429 kw1431 kw29 kw85 kw1432) rfl rfl rfl (by decide +kernel) ⟨Nat.le_of_ble_eq_true rfl, Nat.le_of_ble_eq_true rfl⟩) (v_preV (ci := 11) hSS hR hS g8 (by decide) rfl []) rfl rfl hl.1 rfl (lv_room (Nat.le_of_ble_eq_true rfl)) dX10_parse_93 ⟨Nat.zero_le _, Nat.zero_le _⟩) ?_
      refine w_aload_n hx hb dX10_parse_96 rfl (lv_at hl 0 rfl) ?_
      refine w_iconst (v := 1) hx hb dX10_parse_97 (by decide) ?_
      refine w_aload_n hx hb dX10_parse_98 rfl (lv_at hl 0 rfl) ?_
      refine w_ldcS hx hb hown (hSS.2.2.1 25 _ rfl) dX10_parse_99 ?_
      obtain ⟨g8, h⟩ := v_ifs h
      obtain ⟨z23, ez23, h⟩ := v_bnd h
      refine v_call1 (v := .int z23.1) (M1 := z23.2) (mc := 0) (ms := 0) (fun H locs hR hS => va_runV (As := [.ref (D.2.2.2.2 25)]) (rest := [.int 1, .ref x0]) ⟨hx, hb, hml, hown, hts⟩ (mX10_isWord l hfl D x0 (D.2.2.2.2 25) z22.2 z23 ez23) (cwV 1 hts (gdV kw1442 kw1444 kw32 kw85 kw1445) rfl rfl rfl (by decide +kernel) ⟨Nat.le_of_ble_eq_true rfl, Nat.le_of_ble_eq_true rfl⟩) (v_preV (ci := 11) hSS hR hS g8 (by decide) rfl [.ref (D.2.2.2.2 25)]) rfl rfl hl.1 rfl (lv_room (Nat.le_of_ble_eq_true rfl)) dX10_parse_101 ⟨Nat.zero_le _, Nat.zero_le _⟩) ?_
      obtain ⟨g8, h⟩ := v_ifs h
      obtain ⟨z24, ez24, h⟩ := v_bnd h
      refine v_call1 (v := .int z24.1) (M1 := z24.2) (mc := 0) (ms := 0) (fun H locs hR hS => va_runV (As := [.int 1, .int z23.1]) (rest := []) ⟨hx, hb, hml, hown, hts⟩ (mX10_starts l hfl D x0 1 z23.1 z23.2 z24 ez24) (cwV 2 hts (gdV kw1448 kw1450 kw33 kw85 kw1451) rfl rfl rfl (by decide +kernel) ⟨Nat.le_of_ble_eq_true rfl, Nat.le_of_ble_eq_true rfl⟩) (v_preV (ci := 11) hSS hR hS g8 (by decide) rfl [.int 1, .int z23.1]) rfl rfl hl.1 rfl (lv_room (Nat.le_of_ble_eq_true rfl)) dX10_parse_104 ⟨Nat.zero_le _, Nat.zero_le _⟩) ?_
      refine w_if_eq (tgt := 143) hx hb dX10_parse_107 (by decide) (fun c25 => ?_) (fun c25 => ?_)
      · rw [if_pos c25] at h
        exact X10_parse_J143p x0 z24.2 ls (lv_sub hl [0] rfl) h
      · rw [if_neg c25] at h
        refine w_aload_n hx hb dX10_parse_110 rfl (lv_at hl 0 rfl) ?_
        refine w_iconst (v := 1) hx hb dX10_parse_111 (by decide) ?_
        refine w_iconst (v := 1) hx hb dX10_parse_112 (by decide) ?_
        refine w_bipush (v := 64) hx hb dX10_parse_113 (by decide) ?_
        obtain ⟨g8, h⟩ := v_ifs h
        obtain ⟨z55, ez55, h⟩ := v_bnd h
        refine v_call1 (v := .int z55.1) (M1 := z55.2) (mc := 0) (ms := 0) (fun H locs hR hS => va_runV (As := [.int 1, .int 1, .int 64]) (rest := []) ⟨hx, hb, hml, hown, hts⟩ (mX10_lays l hfl D x0 1 1 64 z24.2 z55 ez55) (cwV 3 hts (gdV kw1456 kw1458 kw35 kw85 kw1459) rfl rfl rfl (by decide +kernel) ⟨Nat.le_of_ble_eq_true rfl, Nat.le_of_ble_eq_true rfl⟩) (v_preV (ci := 11) hSS hR hS g8 (by decide) rfl [.int 1, .int 1, .int 64]) rfl rfl hl.1 rfl (lv_room (Nat.le_of_ble_eq_true rfl)) dX10_parse_115 ⟨Nat.zero_le _, Nat.zero_le _⟩) ?_
        refine w_if_eq (tgt := 143) hx hb dX10_parse_118 (by decide) (fun c56 => ?_) (fun c56 => ?_)
        · rw [if_pos c56] at h
          exact X10_parse_J143p x0 z55.2 ls (lv_sub hl [0] rfl) h
        · rw [if_neg c56] at h
          refine w_aload_n hx hb dX10_parse_121 rfl (lv_at hl 0 rfl) ?_
          refine w_iconst (v := 2) hx hb dX10_parse_122 (by decide) ?_
          refine w_iconst (v := 1) hx hb dX10_parse_123 (by decide) ?_
          refine w_bipush (v := 60) hx hb dX10_parse_124 (by decide) ?_
          obtain ⟨g8, h⟩ := v_ifs h
          obtain ⟨z57, ez57, h⟩ := v_bnd h
          refine v_call1 (v := .int z57.1) (M1 := z57.2) (mc := 0) (ms := 0) (fun H locs hR hS => va_runV (As := [.int 2, .int 1, .int 60]) (rest := []) ⟨hx, hb, hml, hown, hts⟩ (mX10_lays l hfl D x0 2 1 60 z55.2 z57 ez57) (cwV 3 hts (gdV kw1456 kw1458 kw35 kw85 kw1459) rfl rfl rfl (by decide +kernel) ⟨Nat.le_of_ble_eq_true rfl, Nat.le_of_ble_eq_true rfl⟩) (v_preV (ci := 11) hSS hR hS g8 (by decide) rfl [.int 2, .int 1, .int 60]) rfl rfl hl.1 rfl (lv_room (Nat.le_of_ble_eq_true rfl)) dX10_parse_126 ⟨Nat.zero_le _, Nat.zero_le _⟩) ?_
          refine w_if_eq (tgt := 143) hx hb dX10_parse_129 (by decide) (fun c58 => ?_) (fun c58 => ?_)
          · rw [if_pos c58] at h
            exact X10_parse_J143p x0 z57.2 ls (lv_sub hl [0] rfl) h
          · rw [if_neg c58] at h
            refine w_aload_n hx hb dX10_parse_132 rfl (lv_at hl 0 rfl) ?_
            obtain ⟨g8, h⟩ := v_ifs h
            obtain ⟨z59, ez59, h⟩ := v_bnd h
            refine v_call1 (v := .int z59.1) (M1 := z59.2) (mc := 0) (ms := 0) (fun H locs hR hS => va_runV (As := []) (rest := []) ⟨hx, hb, hml, hown, hts⟩ (mX10_closes l hfl D x0 z57.2 z59 ez59) (cwV 0 hts (gdV kw1464 kw1466 kw37 kw85 kw1467) rfl rfl rfl (by decide +kernel) ⟨Nat.le_of_ble_eq_true rfl, Nat.le_of_ble_eq_true rfl⟩) (v_preV (ci := 11) hSS hR hS g8 (by decide) rfl []) rfl rfl hl.1 rfl (lv_room (Nat.le_of_ble_eq_true rfl)) dX10_parse_133 ⟨Nat.zero_le _, Nat.zero_le _⟩) ?_
            refine w_if_eq (tgt := 143) hx hb dX10_parse_136 (by decide) (fun c60 => ?_) (fun c60 => ?_)
            · rw [if_pos c60] at h
              exact X10_parse_J143p x0 z59.2 ls (lv_sub hl [0] rfl) h
            · rw [if_neg c60] at h
              refine w_iconst (v := 1) hx hb dX10_parse_139 (by decide) ?_
              refine w_goto (tgt := 144) hx hb dX10_parse_140 (by decide) ?_
              exact X10_parse_J144p x0 1 z59.2 ls (lv_sub hl [0] rfl) h
    · rw [if_neg c6] at h
      refine w_iconst (v := 0) hx hb dX10_parse_30 (by decide) ?_
      obtain rfl := Option.some.inj h
      rw [hQ]
      exact v_iret hx hb hr hlk dX10_parse_31
  refine w_aload_n hx hb dX10_parse_0 rfl (lv_at hl 0 rfl) ?_
  refine w_iconst (v := 0) hx hb dX10_parse_1 (by decide) ?_
  obtain ⟨M1, eM1, h⟩ := v_bnd h
  refine v_putf (ci := 11) hx hb hts iwX10 hown hK tyX10_ok nmX10 0 eM1 rfl (by decide) (Or.inl (hts _ kw1335)) (fun _ h9 => h9) (Or.inl rfl) rfl rfl dX10_parse_2 ?_
  refine w_aload_n hx hb dX10_parse_5 rfl (lv_at hl 0 rfl) ?_
  refine w_iload_n hx hb dX10_parse_6 rfl (lv_at hl 1 rfl) ?_
  refine w_iconst (v := 0) hx hb dX10_parse_7 (by decide) ?_
  refine w_aload_n hx hb dX10_parse_8 rfl (lv_at hl 0 rfl) ?_
  obtain ⟨v2, ev2, h⟩ := v_bnd h
  refine v_gI (ci := 11) hx hb hts iwX10 hown hK 4 ev2 rfl (by decide) (Or.inl (hts _ kw1339)) (fun _ h9 => h9) dX10_parse_9 ?_
  obtain ⟨z3, ez3, h⟩ := v_bnd h
  refine v_call1 (v := .int z3) (M1 := M1) (mc := 0) (ms := 0) (fun H locs hR hS => va_runS (As := [.int x1, .int 0, .int v2]) (rest := [.ref x0]) ⟨hx, hb, hml, hown, hts⟩ (mX10_within l hfl D x1 0 v2 M1 z3 ez3) (va_cwS 3 hts (gdS kw1419 kw1420 kw85 kw1421) rfl rfl rfl (by decide +kernel) ⟨Nat.le_of_ble_eq_true rfl, Nat.le_of_ble_eq_true rfl⟩) (v_preS hSS hR hS [.int x1, .int 0, .int v2]) rfl rfl hl.1 rfl (lv_room (Nat.le_of_ble_eq_true rfl)) dX10_parse_12 ⟨Nat.zero_le _, Nat.zero_le _⟩) ?_
  refine w_if_ne (tgt := 22) hx hb dX10_parse_15 (by decide) (fun c4 => ?_) (fun c4 => ?_)
  · rw [if_pos c4] at h
    refine w_iconst (v := 1) hx hb dX10_parse_18 (by decide) ?_
    refine w_goto (tgt := 23) hx hb dX10_parse_19 (by decide) ?_
    exact X10_parse_J23p x0 x1 x0 1 M1 ls (lv_sub hl [0, 1] rfl) h
  · rw [if_neg c4] at h
    refine w_iconst (v := 0) hx hb dX10_parse_22 (by decide) ?_
    exact X10_parse_J23p x0 x1 x0 0 M1 ls (lv_sub hl [0, 1] rfl) h

def tX10_errorPosition (x0 : Nat) (M : vMe) : Option (Int32 × vMe) :=
  (sV M x0 12 0 (.int 0)).bind fun M1 =>
  (gI M1 x0 12 12).bind fun v2 =>
  some (v2, M1)
def rmX10_errorPosition : Room := { frames := 1, cells := 0, slots := 0, locals := 0 }
set_option maxHeartbeats 4000000 in
set_option maxRecDepth 100000 in
theorem mX10_errorPosition (l : Launch) (hfl : l.stackTraces = false) (D : vD) (x0 : Nat) (M : vMe) (z : (Int32 × vMe)) (h : tX10_errorPosition x0 M = some z) : Met l yX10_errorPosition (Cond.code yX10_errorPosition cX10_errorPosition 1 (some .int) :: TB) rmX10_errorPosition (va_Pc [.ref x0] (vPre D M)) (qW D (some (.int z.1)) z.2) 0 0 (vA D) := by
  refine v_ofW (cc := cX10_errorPosition) (maxL := 1) (ret := (some .int)) (by decide) (Nat.le_of_ble_eq_true rfl) ?_
  intro p e s m args below meth c Q hx hb hr hml hown hts hlk hnm hSS hR0 hQ ls hl
  have hK := hSS.1
  have hl : lv_has ls 1 [(0, .ref x0)] := hl
  unfold tX10_errorPosition at h
  refine w_aload_n hx hb dX10_errorPosition_0 rfl (lv_at hl 0 rfl) ?_
  refine w_iconst (v := 0) hx hb dX10_errorPosition_1 (by decide) ?_
  obtain ⟨M1, eM1, h⟩ := v_bnd h
  refine v_putf (ci := 11) hx hb hts iwX10 hown hK tyX10_ok nmX10 0 eM1 rfl (by decide) (Or.inl (hts _ kw1335)) (fun _ h9 => h9) (Or.inl rfl) rfl rfl dX10_errorPosition_2 ?_
  refine w_aload_n hx hb dX10_errorPosition_5 rfl (lv_at hl 0 rfl) ?_
  obtain ⟨v2, ev2, h⟩ := v_bnd h
  refine v_gI (ci := 11) hx hb hts iwX10 hown hK 12 ev2 rfl (by decide) (Or.inl (hts _ kw1347)) (fun _ h9 => h9) dX10_errorPosition_6 ?_
  obtain rfl := Option.some.inj h
  rw [hQ]
  exact v_iret hx hb hr hlk dX10_errorPosition_9

def tX10_find_L37 (x0 : Nat) (x1 : Int32) : Nat → vMe → Option (Unit × vMe)
  | 0, _ => none
  | f + 1, Mi =>
  (gI Mi x0 12 7).bind fun v14 =>
  if (Mi.1 x0).1 = 12 then
  ((tX10_byteAt x0 v14 Mi).bind fun z15 =>
  if z15 = (32 : Int32) then
  ((gI Mi x0 12 7).bind fun v17 =>
  (sV Mi x0 12 7 (.int (v17 + 1))).bind fun M18 =>
  tX10_find_L37 x0 x1 f M18)
else
  (some ((), Mi)))
else none
def tX10_find (x0 : Nat) (M : vMe) : Option (Int32 × vMe) :=
  (sV M x0 12 0 (.int 0)).bind fun M1 =>
  (gI M1 x0 12 4).bind fun v2 =>
  (sV M1 x0 12 5 (.int v2)).bind fun M3 =>
  (sV M3 x0 12 4 (.int 0)).bind fun M4 =>
  (sV M4 x0 12 6 (.int 0)).bind fun M5 =>
  (sV M5 x0 12 7 (.int 0)).bind fun M6 =>
  if (M6.1 x0).1 = 12 then
  ((tX10_takesLetters x0 M6).bind fun z7 =>
  (gI z7.2 x0 12 7).bind fun v8 =>
  (tX10_find_L37 x0 v8 vF z7.2).bind fun z19 =>
  if v8 = 0 then
  (some ((-1), z19.2))
else
  (if (8 : Int32) < v8 then
  (some ((-1), z19.2))
else
  ((gI z19.2 x0 12 7).bind fun v22 =>
  (gI z19.2 x0 12 5).bind fun v23 =>
  if v23 ≤ v22 then
  ((gA z19.2 x0 12 2).bind fun a25 =>
  (gA z19.2 x0 12 1).bind fun a26 =>
  (aI z19.2 a26 101 0).bind fun v27 =>
  (gJ z19.2 x0 12 10).bind fun v28 =>
  (tX10_named a25 v27 v28 z19.2).bind fun z29 =>
  some (z29, z19.2))
else
  (some ((-1), z19.2)))))
else none
def rmX10_find : Room := { frames := 3, cells := 0, slots := 0, locals := 42 }
set_option maxHeartbeats 4000000 in
set_option maxRecDepth 100000 in
theorem mX10_find (l : Launch) (hfl : l.stackTraces = false) (D : vD) (x0 : Nat) (M : vMe) (z : (Int32 × vMe)) (h : tX10_find x0 M = some z) : Met l yX10_find (Cond.code yX10_find cX10_find 2 (some .int) :: TB) rmX10_find (va_Pc [.ref x0] (vPre D M)) (qW D (some (.int z.1)) z.2) 0 0 (vA D) := by
  refine v_ofW (cc := cX10_find) (maxL := 2) (ret := (some .int)) (by decide) (Nat.le_of_ble_eq_true rfl) ?_
  intro p e s m args below meth c Q hx hb hr hml hown hts hlk hnm hSS hR0 hQ ls hl
  have hK := hSS.1
  have hl : lv_has ls 2 [(0, .ref x0)] := hl
  unfold tX10_find at h
  have X10_find_L37p : ∀ (x0 : Nat) (x1 : Int32), ∀ (f : Nat) (Mi : vMe) (ls : Array Slot) (z : (Unit × vMe)), lv_has ls 2 [(0, .ref x0), (1, .int x1)] → tX10_find_L37 x0 x1 f Mi = some z → (∀ ls : Array Slot, lv_has ls 2 [(0, .ref x0), (1, .int x1)] → vV D p l e rmX10_find s m args below meth c 0 0 Q z.2 (F0 m 63 ls [])) → vV D p l e rmX10_find s m args below meth c 0 0 Q Mi (F0 m 37 ls []) := by
    intro x0 x1 f
    induction f with
    | zero =>
      intro  Mi ls z hl h
      exact absurd h (by simp [tX10_find_L37])
    | succ f ih =>
      intro  Mi ls z hl h KX
      rw [tX10_find_L37] at h
      refine w_aload_n hx hb dX10_find_37 rfl (lv_at hl 0 rfl) ?_
      refine w_aload_n hx hb dX10_find_38 rfl (lv_at hl 0 rfl) ?_
      obtain ⟨v14, ev14, h⟩ := v_bnd h
      refine v_gI (ci := 11) hx hb hts iwX10 hown hK 7 ev14 rfl (by decide) (Or.inl (hts _ kw1342)) (fun _ h9 => h9) dX10_find_39 ?_
      obtain ⟨g8, h⟩ := v_ifs h
      obtain ⟨z15, ez15, h⟩ := v_bnd h
      refine v_call1 (v := .int z15) (M1 := Mi) (mc := 0) (ms := 0) (fun H locs hR hS => va_runV (As := [.int v14]) (rest := []) ⟨hx, hb, hml, hown, hts⟩ (mX10_byteAt l hfl D x0 v14 Mi z15 ez15) (cwV 1 hts (gdV kw1433 kw1435 kw30 kw85 kw1436) rfl rfl rfl (by decide +kernel) ⟨Nat.le_of_ble_eq_true rfl, Nat.le_of_ble_eq_true rfl⟩) (v_preV (ci := 11) hSS hR hS g8 (by decide) rfl [.int v14]) rfl rfl hl.1 rfl (lv_room (Nat.le_of_ble_eq_true rfl)) dX10_find_42 ⟨Nat.zero_le _, Nat.zero_le _⟩) ?_
      refine w_bipush (v := 32) hx hb dX10_find_45 (by decide) ?_
      refine w_icmp_ne (tgt := 63) hx hb dX10_find_47 (by decide) (fun c16 => ?_) (fun c16 => ?_)
      · rw [if_pos c16] at h
        refine w_aload_n hx hb dX10_find_50 rfl (lv_at hl 0 rfl) ?_
        refine w_dup hx hb dX10_find_51 rfl ?_
        obtain ⟨v17, ev17, h⟩ := v_bnd h
        refine v_gI (ci := 11) hx hb hts iwX10 hown hK 7 ev17 rfl (by decide) (Or.inl (hts _ kw1342)) (fun _ h9 => h9) dX10_find_52 ?_
        refine w_iconst (v := 1) hx hb dX10_find_55 (by decide) ?_
        refine w_iadd hx hb dX10_find_56 ?_
        obtain ⟨M18, eM18, h⟩ := v_bnd h
        refine v_putf (ci := 11) hx hb hts iwX10 hown hK tyX10_ok nmX10 7 eM18 rfl (by decide) (Or.inl (hts _ kw1342)) (fun _ h9 => h9) (Or.inl rfl) rfl rfl dX10_find_57 ?_
        refine w_goto (tgt := 37) hx hb dX10_find_60 (by decide) ?_
        exact ih M18 ls z (lv_sub hl [0, 1] rfl) h KX
      · rw [if_neg c16] at h
        obtain rfl := Option.some.inj h
        exact KX ls (lv_sub hl [0, 1] rfl)
  refine w_aload_n hx hb dX10_find_0 rfl (lv_at hl 0 rfl) ?_
  refine w_iconst (v := 0) hx hb dX10_find_1 (by decide) ?_
  obtain ⟨M1, eM1, h⟩ := v_bnd h
  refine v_putf (ci := 11) hx hb hts iwX10 hown hK tyX10_ok nmX10 0 eM1 rfl (by decide) (Or.inl (hts _ kw1335)) (fun _ h9 => h9) (Or.inl rfl) rfl rfl dX10_find_2 ?_
  refine w_aload_n hx hb dX10_find_5 rfl (lv_at hl 0 rfl) ?_
  refine w_aload_n hx hb dX10_find_6 rfl (lv_at hl 0 rfl) ?_
  obtain ⟨v2, ev2, h⟩ := v_bnd h
  refine v_gI (ci := 11) hx hb hts iwX10 hown hK 4 ev2 rfl (by decide) (Or.inl (hts _ kw1339)) (fun _ h9 => h9) dX10_find_7 ?_
  obtain ⟨M3, eM3, h⟩ := v_bnd h
  refine v_putf (ci := 11) hx hb hts iwX10 hown hK tyX10_ok nmX10 5 eM3 rfl (by decide) (Or.inl (hts _ kw1340)) (fun _ h9 => h9) (Or.inl rfl) rfl rfl dX10_find_10 ?_
  refine w_aload_n hx hb dX10_find_13 rfl (lv_at hl 0 rfl) ?_
  refine w_iconst (v := 0) hx hb dX10_find_14 (by decide) ?_
  obtain ⟨M4, eM4, h⟩ := v_bnd h
  refine v_putf (ci := 11) hx hb hts iwX10 hown hK tyX10_ok nmX10 4 eM4 rfl (by decide) (Or.inl (hts _ kw1339)) (fun _ h9 => h9) (Or.inl rfl) rfl rfl dX10_find_15 ?_
  refine w_aload_n hx hb dX10_find_18 rfl (lv_at hl 0 rfl) ?_
  refine w_iconst (v := 0) hx hb dX10_find_19 (by decide) ?_
  obtain ⟨M5, eM5, h⟩ := v_bnd h
  refine v_putf (ci := 11) hx hb hts iwX10 hown hK tyX10_ok nmX10 6 eM5 rfl (by decide) (Or.inl (hts _ kw1341)) (fun _ h9 => h9) (Or.inl rfl) rfl rfl dX10_find_20 ?_
  refine w_aload_n hx hb dX10_find_23 rfl (lv_at hl 0 rfl) ?_
  refine w_iconst (v := 0) hx hb dX10_find_24 (by decide) ?_
  obtain ⟨M6, eM6, h⟩ := v_bnd h
  refine v_putf (ci := 11) hx hb hts iwX10 hown hK tyX10_ok nmX10 7 eM6 rfl (by decide) (Or.inl (hts _ kw1342)) (fun _ h9 => h9) (Or.inl rfl) rfl rfl dX10_find_25 ?_
  refine w_aload_n hx hb dX10_find_28 rfl (lv_at hl 0 rfl) ?_
  obtain ⟨g8, h⟩ := v_ifs h
  obtain ⟨z7, ez7, h⟩ := v_bnd h
  refine v_call0 (M1 := z7.2) (mc := 0) (ms := 0) (fun H locs hR hS => va_runV (As := []) (rest := []) ⟨hx, hb, hml, hown, hts⟩ (mX10_takesLetters l hfl D x0 M6 z7 ez7) (cwV 0 hts (gdV kw1437 kw1439 kw31 kw85 kw1440) rfl rfl rfl (by decide +kernel) ⟨Nat.le_of_ble_eq_true rfl, Nat.le_of_ble_eq_true rfl⟩) (v_preV (ci := 11) hSS hR hS g8 (by decide) rfl []) rfl rfl hl.1 rfl (lv_room (Nat.le_of_ble_eq_true rfl)) dX10_find_29 ⟨Nat.zero_le _, Nat.zero_le _⟩) ?_
  refine w_aload_n hx hb dX10_find_32 rfl (lv_at hl 0 rfl) ?_
  obtain ⟨v8, ev8, h⟩ := v_bnd h
  refine v_gI (ci := 11) hx hb hts iwX10 hown hK 7 ev8 rfl (by decide) (Or.inl (hts _ kw1342)) (fun _ h9 => h9) dX10_find_33 ?_
  refine w_istore_n (lv' := [(1, .int v8), (0, .ref x0)]) hx hb dX10_find_36 rfl hl (by decide) rfl (fun ls hl => ?_)
  have hl : lv_has ls 2 [(0, .ref x0), (1, .int v8)] := lv_sub hl [1, 0] rfl
  obtain ⟨z19, ez19, h⟩ := v_bnd h
  refine X10_find_L37p x0 v8 vF  z7.2 ls z19 (lv_sub hl [0, 1] rfl) ez19 (fun ls hl => ?_)
  refine w_iload_n hx hb dX10_find_63 rfl (lv_at hl 1 rfl) ?_
  refine w_if_eq (tgt := 84) hx hb dX10_find_64 (by decide) (fun c20 => ?_) (fun c20 => ?_)
  · rw [if_pos c20] at h
    refine w_iconst (v := (-1)) hx hb dX10_find_84 (by decide) ?_
    refine w_goto (tgt := 105) hx hb dX10_find_85 (by decide) ?_
    obtain rfl := Option.some.inj h
    rw [hQ]
    exact v_iret hx hb hr hlk dX10_find_105
  · rw [if_neg c20] at h
    refine w_iload_n hx hb dX10_find_67 rfl (lv_at hl 1 rfl) ?_
    refine w_bipush (v := 8) hx hb dX10_find_68 (by decide) ?_
    refine w_icmp_gt (tgt := 84) hx hb dX10_find_70 (by decide) (fun c21 => ?_) (fun c21 => ?_)
    · rw [if_pos c21] at h
      refine w_iconst (v := (-1)) hx hb dX10_find_84 (by decide) ?_
      refine w_goto (tgt := 105) hx hb dX10_find_85 (by decide) ?_
      obtain rfl := Option.some.inj h
      rw [hQ]
      exact v_iret hx hb hr hlk dX10_find_105
    · rw [if_neg c21] at h
      refine w_aload_n hx hb dX10_find_73 rfl (lv_at hl 0 rfl) ?_
      obtain ⟨v22, ev22, h⟩ := v_bnd h
      refine v_gI (ci := 11) hx hb hts iwX10 hown hK 7 ev22 rfl (by decide) (Or.inl (hts _ kw1342)) (fun _ h9 => h9) dX10_find_74 ?_
      refine w_aload_n hx hb dX10_find_77 rfl (lv_at hl 0 rfl) ?_
      obtain ⟨v23, ev23, h⟩ := v_bnd h
      refine v_gI (ci := 11) hx hb hts iwX10 hown hK 5 ev23 rfl (by decide) (Or.inl (hts _ kw1340)) (fun _ h9 => h9) dX10_find_78 ?_
      refine w_icmp_ge (tgt := 88) hx hb dX10_find_81 (by decide) (fun c24 => ?_) (fun c24 => ?_)
      · rw [if_pos c24] at h
        refine w_aload_n hx hb dX10_find_88 rfl (lv_at hl 0 rfl) ?_
        obtain ⟨a25, ea25, h⟩ := v_bnd h
        refine v_gA (ci := 11) hx hb hts iwX10 hown hK 2 ea25 rfl (by decide) (Or.inl (hts _ kw1337)) (fun _ h9 => h9) dX10_find_89 ?_
        refine w_aload_n hx hb dX10_find_92 rfl (lv_at hl 0 rfl) ?_
        obtain ⟨a26, ea26, h⟩ := v_bnd h
        refine v_gA (ci := 11) hx hb hts iwX10 hown hK 1 ea26 rfl (by decide) (Or.inl (hts _ kw1336)) (fun _ h9 => h9) dX10_find_93 ?_
        refine w_iconst (v := 0) hx hb dX10_find_96 (by decide) ?_
        obtain ⟨v27, ev27, h⟩ := v_bnd h
        refine v_iald hx hb hK ev27 dX10_find_97 ?_
        refine w_aload_n hx hb dX10_find_98 rfl (lv_at hl 0 rfl) ?_
        obtain ⟨v28, ev28, h⟩ := v_bnd h
        refine v_gJ (ci := 11) hx hb hts iwX10 hown hK 10 ev28 rfl (by decide) (Or.inl (hts _ kw1345)) (fun _ h9 => h9) dX10_find_99 ?_
        obtain ⟨z29, ez29, h⟩ := v_bnd h
        refine v_call1 (v := .int z29) (M1 := z19.2) (mc := 0) (ms := 0) (fun H locs hR hS => va_runS (As := [.ref a25, .int v27, .long v28]) (rest := []) ⟨hx, hb, hml, hown, hts⟩ (mX10_named l hfl D a25 v27 v28 z19.2 z29 ez29) (va_cwS 3 hts (gdS kw1477 kw1478 kw85 kw1479) rfl rfl rfl (by decide +kernel) ⟨Nat.le_of_ble_eq_true rfl, Nat.le_of_ble_eq_true rfl⟩) (v_preS hSS hR hS [.ref a25, .int v27, .long v28]) rfl rfl hl.1 rfl (lv_room (Nat.le_of_ble_eq_true rfl)) dX10_find_102 ⟨Nat.zero_le _, Nat.zero_le _⟩) ?_
        obtain rfl := Option.some.inj h
        rw [hQ]
        exact v_iret hx hb hr hlk dX10_find_105
      · rw [if_neg c24] at h
        refine w_iconst (v := (-1)) hx hb dX10_find_84 (by decide) ?_
        refine w_goto (tgt := 105) hx hb dX10_find_85 (by decide) ?_
        obtain rfl := Option.some.inj h
        rw [hQ]
        exact v_iret hx hb hr hlk dX10_find_105

def tX10_contentAt_L9 (x0 : Nat) (x1 : Int32) (x2 : Int32) (M : vMe) : Nat → Int64 → Int32 → Option Int64
  | 0, _, _ => none
  | f + 1, x3, x5 =>
  if (M.1 x0).1 = 12 then
  ((tX10_of x0 x1 3 M).bind fun z7 =>
  if z7 ≤ x5 then
  (some x3)
else
  (if (M.1 x0).1 = 12 then
  ((tX10_ofEvent x0 x1 x5 0 M).bind fun z9 =>
  if x2 < z9 then
  (some x3)
else
  (if (M.1 x0).1 = 12 then
  ((tX10_behind x0 x3 x1 x5 M).bind fun z11 =>
  tX10_contentAt_L9 x0 x1 x2 M f z11 (x5 + 1))
else none))
else none))
else none
def tX10_contentAt (x0 : Nat) (x1 : Int32) (x2 : Int32) (M : vMe) : Option Int64 :=
  if (M.1 x0).1 = 12 then
  ((tX10_base x0 x1 M).bind fun z1 =>
  (tX10_contentAt_L9 x0 x1 x2 M vF z1 0).bind fun z12 =>
  some z12)
else none
def rmX10_contentAt : Room := { frames := 4, cells := 0, slots := 0, locals := 72 }
set_option maxHeartbeats 4000000 in
set_option maxRecDepth 100000 in
theorem mX10_contentAt (l : Launch) (hfl : l.stackTraces = false) (D : vD) (x0 : Nat) (x1 : Int32) (x2 : Int32) (M : vMe) (z : Int64) (h : tX10_contentAt x0 x1 x2 M = some z) : Met l yX10_contentAt (Cond.code yX10_contentAt cX10_contentAt 6 (some .long) :: TB) rmX10_contentAt (va_Pc [.ref x0, .int x1, .int x2] (vPre D M)) (qW D (some (.long z)) M) 0 0 (vA D) := by
  refine v_ofW (cc := cX10_contentAt) (maxL := 6) (ret := (some .long)) (by decide) (Nat.le_of_ble_eq_true rfl) ?_
  intro p e s m args below meth c Q hx hb hr hml hown hts hlk hnm hSS hR0 hQ ls hl
  have hK := hSS.1
  have hl : lv_has ls 6 [(0, .ref x0), (1, .int x1), (2, .int x2)] := hl
  unfold tX10_contentAt at h
  have X10_contentAt_L9p : ∀ (x0 : Nat) (x1 : Int32) (x2 : Int32), ∀ (f : Nat) (x3 : Int64) (x5 : Int32) (ls : Array Slot) (z : Int64), lv_has ls 6 [(0, .ref x0), (1, .int x1), (2, .int x2), (3, .long x3), (5, .int x5)] → tX10_contentAt_L9 x0 x1 x2 M f x3 x5 = some z → (∀ ls : Array Slot, lv_has ls 6 [(3, .long z)] → vV D p l e rmX10_contentAt s m args below meth c 0 0 Q M (F0 m 47 ls [])) → vV D p l e rmX10_contentAt s m args below meth c 0 0 Q M (F0 m 9 ls []) := by
    intro x0 x1 x2 f
    induction f with
    | zero =>
      intro x3 x5 ls z hl h
      exact absurd h (by simp [tX10_contentAt_L9])
    | succ f ih =>
      intro x3 x5 ls z hl h KX
      rw [tX10_contentAt_L9] at h
      refine w_iload hx hb dX10_contentAt_9 (lv_at hl 4 rfl) ?_
      refine w_aload_n hx hb dX10_contentAt_11 rfl (lv_at hl 0 rfl) ?_
      refine w_iload_n hx hb dX10_contentAt_12 rfl (lv_at hl 1 rfl) ?_
      refine w_iconst (v := 3) hx hb dX10_contentAt_13 (by decide) ?_
      obtain ⟨g8, h⟩ := v_ifs h
      obtain ⟨z7, ez7, h⟩ := v_bnd h
      refine v_call1 (v := .int z7) (M1 := M) (mc := 0) (ms := 0) (fun H locs hR hS => va_runV (As := [.int x1, .int 3]) (rest := [.int x5]) ⟨hx, hb, hml, hown, hts⟩ (mX10_of l hfl D x0 x1 3 M z7 ez7) (cwV 2 hts (gdV kw1497 kw1499 kw44 kw85 kw1500) rfl rfl rfl (by decide +kernel) ⟨Nat.le_of_ble_eq_true rfl, Nat.le_of_ble_eq_true rfl⟩) (v_preV (ci := 11) hSS hR hS g8 (by decide) rfl [.int x1, .int 3]) rfl rfl hl.1 rfl (lv_room (Nat.le_of_ble_eq_true rfl)) dX10_contentAt_14 ⟨Nat.zero_le _, Nat.zero_le _⟩) ?_
      refine w_icmp_ge (tgt := 47) hx hb dX10_contentAt_17 (by decide) (fun c8 => ?_) (fun c8 => ?_)
      · rw [if_pos c8] at h
        obtain rfl := Option.some.inj h
        exact KX ls (lv_sub hl [3] rfl)
      · rw [if_neg c8] at h
        refine w_aload_n hx hb dX10_contentAt_20 rfl (lv_at hl 0 rfl) ?_
        refine w_iload_n hx hb dX10_contentAt_21 rfl (lv_at hl 1 rfl) ?_
        refine w_iload hx hb dX10_contentAt_22 (lv_at hl 4 rfl) ?_
        refine w_iconst (v := 0) hx hb dX10_contentAt_24 (by decide) ?_
        obtain ⟨g8, h⟩ := v_ifs h
        obtain ⟨z9, ez9, h⟩ := v_bnd h
        refine v_call1 (v := .int z9) (M1 := M) (mc := 0) (ms := 0) (fun H locs hR hS => va_runV (As := [.int x1, .int x5, .int 0]) (rest := []) ⟨hx, hb, hml, hown, hts⟩ (mX10_ofEvent l hfl D x0 x1 x5 0 M z9 ez9) (cwV 3 hts (gdV kw1526 kw1528 kw51 kw85 kw1529) rfl rfl rfl (by decide +kernel) ⟨Nat.le_of_ble_eq_true rfl, Nat.le_of_ble_eq_true rfl⟩) (v_preV (ci := 11) hSS hR hS g8 (by decide) rfl [.int x1, .int x5, .int 0]) rfl rfl hl.1 rfl (lv_room (Nat.le_of_ble_eq_true rfl)) dX10_contentAt_25 ⟨Nat.zero_le _, Nat.zero_le _⟩) ?_
        refine w_iload_n hx hb dX10_contentAt_28 rfl (lv_at hl 2 rfl) ?_
        refine w_icmp_gt (tgt := 47) hx hb dX10_contentAt_29 (by decide) (fun c10 => ?_) (fun c10 => ?_)
        · rw [if_pos c10] at h
          obtain rfl := Option.some.inj h
          exact KX ls (lv_sub hl [3] rfl)
        · rw [if_neg c10] at h
          refine w_aload_n hx hb dX10_contentAt_32 rfl (lv_at hl 0 rfl) ?_
          refine w_lload_n hx hb dX10_contentAt_33 rfl (lv_at hl 3 rfl) ?_
          refine w_iload_n hx hb dX10_contentAt_34 rfl (lv_at hl 1 rfl) ?_
          refine w_iload hx hb dX10_contentAt_35 (lv_at hl 4 rfl) ?_
          obtain ⟨g8, h⟩ := v_ifs h
          obtain ⟨z11, ez11, h⟩ := v_bnd h
          refine v_call1 (v := .long z11) (M1 := M) (mc := 0) (ms := 0) (fun H locs hR hS => va_runV (As := [.long x3, .int x1, .int x5]) (rest := []) ⟨hx, hb, hml, hown, hts⟩ (mX10_behind l hfl D x0 x3 x1 x5 M z11 ez11) (cwV 3 hts (gdV kw1522 kw1524 kw50 kw85 kw1525) rfl rfl rfl (by decide +kernel) ⟨Nat.le_of_ble_eq_true rfl, Nat.le_of_ble_eq_true rfl⟩) (v_preV (ci := 11) hSS hR hS g8 (by decide) rfl [.long x3, .int x1, .int x5]) rfl rfl hl.1 rfl (lv_room (Nat.le_of_ble_eq_true rfl)) dX10_contentAt_37 ⟨Nat.zero_le _, Nat.zero_le _⟩) ?_
          refine w_lstore_n (lv' := [(3, .long z11), (0, .ref x0), (1, .int x1), (2, .int x2), (5, .int x5)]) hx hb dX10_contentAt_40 rfl hl (by decide) rfl (fun ls hl => ?_)
          have hl : lv_has ls 6 [(0, .ref x0), (1, .int x1), (2, .int x2), (3, .long z11), (5, .int x5)] := lv_sub hl [1, 2, 3, 0, 4] rfl
          refine w_iinc (v := x5 + 1) (lv' := [(5, .int (x5 + 1)), (0, .ref x0), (1, .int x1), (2, .int x2), (3, .long z11)]) hx hb dX10_contentAt_41 hl (j := 4) rfl rfl (by decide) rfl (fun ls hl => ?_)
          have hl : lv_has ls 6 [(0, .ref x0), (1, .int x1), (2, .int x2), (3, .long z11), (5, .int (x5 + 1))] := lv_sub hl [1, 2, 3, 4, 0] rfl
          refine w_goto (tgt := 9) hx hb dX10_contentAt_44 (by decide) ?_
          exact ih z11 (x5 + 1) ls z (lv_sub hl [0, 1, 2, 3, 4] rfl) h KX
  refine w_aload_n hx hb dX10_contentAt_0 rfl (lv_at hl 0 rfl) ?_
  refine w_iload_n hx hb dX10_contentAt_1 rfl (lv_at hl 1 rfl) ?_
  obtain ⟨g8, h⟩ := v_ifs h
  obtain ⟨z1, ez1, h⟩ := v_bnd h
  refine v_call1 (v := .long z1) (M1 := M) (mc := 0) (ms := 0) (fun H locs hR hS => va_runV (As := [.int x1]) (rest := []) ⟨hx, hb, hml, hown, hts⟩ (mX10_base l hfl D x0 x1 M z1 ez1) (cwV 1 hts (gdV kw1517 kw1519 kw49 kw85 kw1520) rfl rfl rfl (by decide +kernel) ⟨Nat.le_of_ble_eq_true rfl, Nat.le_of_ble_eq_true rfl⟩) (v_preV (ci := 11) hSS hR hS g8 (by decide) rfl [.int x1]) rfl rfl hl.1 rfl (lv_room (Nat.le_of_ble_eq_true rfl)) dX10_contentAt_2 ⟨Nat.zero_le _, Nat.zero_le _⟩) ?_
  refine w_lstore_n (lv' := [(3, .long z1), (0, .ref x0), (1, .int x1), (2, .int x2)]) hx hb dX10_contentAt_5 rfl hl (by decide) rfl (fun ls hl => ?_)
  have hl : lv_has ls 6 [(0, .ref x0), (1, .int x1), (2, .int x2), (3, .long z1)] := lv_sub hl [1, 2, 3, 0] rfl
  refine w_iconst (v := 0) hx hb dX10_contentAt_6 (by decide) ?_
  refine w_istore (lv' := [(5, .int 0), (0, .ref x0), (1, .int x1), (2, .int x2), (3, .long z1)]) hx hb dX10_contentAt_7 hl (by decide) rfl (fun ls hl => ?_)
  have hl : lv_has ls 6 [(0, .ref x0), (1, .int x1), (2, .int x2), (3, .long z1), (5, .int 0)] := lv_sub hl [1, 2, 3, 4, 0] rfl
  obtain ⟨z12, ez12, h⟩ := v_bnd h
  refine X10_contentAt_L9p x0 x1 x2 vF z1 0 ls z12 (lv_sub hl [0, 1, 2, 3, 4] rfl) ez12 (fun ls hl => ?_)
  refine w_lload_n hx hb dX10_contentAt_47 rfl (lv_at hl 0 rfl) ?_
  obtain rfl := Option.some.inj h
  rw [hQ]
  exact v_lret hx hb hr hlk dX10_contentAt_48

def tX10_ones_L4  (M : vMe) : Nat → Int32 → Int64 → Option Int32
  | 0, _, _ => none
  | f + 1, x2, x3 =>
  if (lg_cmp x3 0) = 0 then
  (some x2)
else
  (tX10_ones_L4 M f (x2 + 1) (x3 &&& (x3 - 1)))
def tX10_ones (x0 : Int64) (M : vMe) : Option Int32 :=
  (tX10_ones_L4 M vF 0 x0).bind fun z3 =>
  some z3
def rmX10_ones : Room := { frames := 1, cells := 0, slots := 0, locals := 0 }
set_option maxHeartbeats 4000000 in
set_option maxRecDepth 100000 in
theorem mX10_ones (l : Launch) (hfl : l.stackTraces = false) (D : vD) (x0 : Int64) (M : vMe) (z : Int32) (h : tX10_ones x0 M = some z) : Met l yX10_ones (Cond.code yX10_ones cX10_ones 5 (some .int) :: TB) rmX10_ones (va_Pc [.long x0] (vPre D M)) (qW D (some (.int z)) M) 0 0 (vA D) := by
  refine v_ofW (cc := cX10_ones) (maxL := 5) (ret := (some .int)) (by decide) (Nat.le_of_ble_eq_true rfl) ?_
  intro p e s m args below meth c Q hx hb hr hml hown hts hlk hnm hSS hR0 hQ ls hl
  have hK := hSS.1
  have hl : lv_has ls 5 [(0, .long x0)] := hl
  unfold tX10_ones at h
  have X10_ones_L4p : ∀ (f : Nat) (x2 : Int32) (x3 : Int64) (ls : Array Slot) (z : Int32), lv_has ls 5 [(2, .int x2), (3, .long x3)] → tX10_ones_L4 M f x2 x3 = some z → (∀ ls : Array Slot, lv_has ls 5 [(2, .int z)] → vV D p l e rmX10_ones s m args below meth c 0 0 Q M (F0 m 22 ls [])) → vV D p l e rmX10_ones s m args below meth c 0 0 Q M (F0 m 4 ls []) := by
    intro f
    induction f with
    | zero =>
      intro x2 x3 ls z hl h
      exact absurd h (by simp [tX10_ones_L4])
    | succ f ih =>
      intro x2 x3 ls z hl h KX
      rw [tX10_ones_L4] at h
      refine w_lload_n hx hb dX10_ones_4 rfl (lv_at hl 1 rfl) ?_
      refine w_lconst (v := 0) hx hb dX10_ones_5 (by decide) ?_
      refine w_lcmp hx hb dX10_ones_6 ?_
      refine w_if_eq (tgt := 22) hx hb dX10_ones_7 (by decide) (fun c2 => ?_) (fun c2 => ?_)
      · rw [if_pos c2] at h
        obtain rfl := Option.some.inj h
        exact KX ls (lv_sub hl [0] rfl)
      · rw [if_neg c2] at h
        refine w_iinc (v := x2 + 1) (lv' := [(2, .int (x2 + 1)), (3, .long x3)]) hx hb dX10_ones_10 hl (j := 0) rfl rfl (by decide) rfl (fun ls hl => ?_)
        have hl : lv_has ls 5 [(2, .int (x2 + 1)), (3, .long x3)] := lv_sub hl [0, 1] rfl
        refine w_lload_n hx hb dX10_ones_13 rfl (lv_at hl 1 rfl) ?_
        refine w_lload_n hx hb dX10_ones_14 rfl (lv_at hl 1 rfl) ?_
        refine w_lconst (v := 1) hx hb dX10_ones_15 (by decide) ?_
        refine w_lsub hx hb dX10_ones_16 ?_
        refine w_land hx hb dX10_ones_17 ?_
        refine w_lstore_n (lv' := [(3, .long (x3 &&& (x3 - 1))), (2, .int (x2 + 1))]) hx hb dX10_ones_18 rfl hl (by decide) rfl (fun ls hl => ?_)
        have hl : lv_has ls 5 [(2, .int (x2 + 1)), (3, .long (x3 &&& (x3 - 1)))] := lv_sub hl [1, 0] rfl
        refine w_goto (tgt := 4) hx hb dX10_ones_19 (by decide) ?_
        exact ih (x2 + 1) (x3 &&& (x3 - 1)) ls z (lv_sub hl [0, 1] rfl) h KX
  refine w_iconst (v := 0) hx hb dX10_ones_0 (by decide) ?_
  refine w_istore_n (lv' := [(2, .int 0), (0, .long x0)]) hx hb dX10_ones_1 rfl hl (by decide) rfl (fun ls hl => ?_)
  have hl : lv_has ls 5 [(0, .long x0), (2, .int 0)] := lv_sub hl [1, 0] rfl
  refine w_lload_n hx hb dX10_ones_2 rfl (lv_at hl 0 rfl) ?_
  refine w_lstore_n (lv' := [(3, .long x0), (0, .long x0), (2, .int 0)]) hx hb dX10_ones_3 rfl hl (by decide) rfl (fun ls hl => ?_)
  have hl : lv_has ls 5 [(0, .long x0), (2, .int 0), (3, .long x0)] := lv_sub hl [1, 2, 0] rfl
  obtain ⟨z3, ez3, h⟩ := v_bnd h
  refine X10_ones_L4p  vF 0 x0 ls z3 (lv_sub hl [1, 2] rfl) ez3 (fun ls hl => ?_)
  refine w_iload_n hx hb dX10_ones_22 rfl (lv_at hl 0 rfl) ?_
  obtain rfl := Option.some.inj h
  rw [hQ]
  exact v_iret hx hb hr hlk dX10_ones_23

def tX10_cursorsMany_L4 (x0 : Nat) (M : vMe) : Nat → Int32 → Int32 → Option Int32
  | 0, _, _ => none
  | f + 1, x1, x2 =>
  if (6 : Int32) ≤ x2 then
  (some x1)
else
  (if (M.1 x0).1 = 12 then
  ((tX10_ofCursor x0 x2 0 M).bind fun z4 =>
  tX10_cursorsMany_L4 x0 M f (x1 + z4) (x2 + 1))
else none)
def tX10_cursorsMany (x0 : Nat) (M : vMe) : Option Int32 :=
  (tX10_cursorsMany_L4 x0 M vF 0 0).bind fun z5 =>
  some z5
def rmX10_cursorsMany : Room := { frames := 2, cells := 0, slots := 0, locals := 22 }
set_option maxHeartbeats 4000000 in
set_option maxRecDepth 100000 in
theorem mX10_cursorsMany (l : Launch) (hfl : l.stackTraces = false) (D : vD) (x0 : Nat) (M : vMe) (z : Int32) (h : tX10_cursorsMany x0 M = some z) : Met l yX10_cursorsMany (Cond.code yX10_cursorsMany cX10_cursorsMany 3 (some .int) :: TB) rmX10_cursorsMany (va_Pc [.ref x0] (vPre D M)) (qW D (some (.int z)) M) 0 0 (vA D) := by
  refine v_ofW (cc := cX10_cursorsMany) (maxL := 3) (ret := (some .int)) (by decide) (Nat.le_of_ble_eq_true rfl) ?_
  intro p e s m args below meth c Q hx hb hr hml hown hts hlk hnm hSS hR0 hQ ls hl
  have hK := hSS.1
  have hl : lv_has ls 3 [(0, .ref x0)] := hl
  unfold tX10_cursorsMany at h
  have X10_cursorsMany_L4p : ∀ (x0 : Nat), ∀ (f : Nat) (x1 : Int32) (x2 : Int32) (ls : Array Slot) (z : Int32), lv_has ls 3 [(0, .ref x0), (1, .int x1), (2, .int x2)] → tX10_cursorsMany_L4 x0 M f x1 x2 = some z → (∀ ls : Array Slot, lv_has ls 3 [(1, .int z)] → vV D p l e rmX10_cursorsMany s m args below meth c 0 0 Q M (F0 m 25 ls [])) → vV D p l e rmX10_cursorsMany s m args below meth c 0 0 Q M (F0 m 4 ls []) := by
    intro x0 f
    induction f with
    | zero =>
      intro x1 x2 ls z hl h
      exact absurd h (by simp [tX10_cursorsMany_L4])
    | succ f ih =>
      intro x1 x2 ls z hl h KX
      rw [tX10_cursorsMany_L4] at h
      refine w_iload_n hx hb dX10_cursorsMany_4 rfl (lv_at hl 2 rfl) ?_
      refine w_bipush (v := 6) hx hb dX10_cursorsMany_5 (by decide) ?_
      refine w_icmp_ge (tgt := 25) hx hb dX10_cursorsMany_7 (by decide) (fun c3 => ?_) (fun c3 => ?_)
      · rw [if_pos c3] at h
        obtain rfl := Option.some.inj h
        exact KX ls (lv_sub hl [1] rfl)
      · rw [if_neg c3] at h
        refine w_iload_n hx hb dX10_cursorsMany_10 rfl (lv_at hl 1 rfl) ?_
        refine w_aload_n hx hb dX10_cursorsMany_11 rfl (lv_at hl 0 rfl) ?_
        refine w_iload_n hx hb dX10_cursorsMany_12 rfl (lv_at hl 2 rfl) ?_
        refine w_iconst (v := 0) hx hb dX10_cursorsMany_13 (by decide) ?_
        obtain ⟨g8, h⟩ := v_ifs h
        obtain ⟨z4, ez4, h⟩ := v_bnd h
        refine v_call1 (v := .int z4) (M1 := M) (mc := 0) (ms := 0) (fun H locs hR hS => va_runV (As := [.int x2, .int 0]) (rest := [.int x1]) ⟨hx, hb, hml, hown, hts⟩ (mX10_ofCursor l hfl D x0 x2 0 M z4 ez4) (cwV 2 hts (gdV kw1547 kw1549 kw56 kw85 kw1550) rfl rfl rfl (by decide +kernel) ⟨Nat.le_of_ble_eq_true rfl, Nat.le_of_ble_eq_true rfl⟩) (v_preV (ci := 11) hSS hR hS g8 (by decide) rfl [.int x2, .int 0]) rfl rfl hl.1 rfl (lv_room (Nat.le_of_ble_eq_true rfl)) dX10_cursorsMany_14 ⟨Nat.zero_le _, Nat.zero_le _⟩) ?_
        refine w_iadd hx hb dX10_cursorsMany_17 ?_
        refine w_istore_n (lv' := [(1, .int (x1 + z4)), (0, .ref x0), (2, .int x2)]) hx hb dX10_cursorsMany_18 rfl hl (by decide) rfl (fun ls hl => ?_)
        have hl : lv_has ls 3 [(0, .ref x0), (1, .int (x1 + z4)), (2, .int x2)] := lv_sub hl [1, 0, 2] rfl
        refine w_iinc (v := x2 + 1) (lv' := [(2, .int (x2 + 1)), (0, .ref x0), (1, .int (x1 + z4))]) hx hb dX10_cursorsMany_19 hl (j := 2) rfl rfl (by decide) rfl (fun ls hl => ?_)
        have hl : lv_has ls 3 [(0, .ref x0), (1, .int (x1 + z4)), (2, .int (x2 + 1))] := lv_sub hl [1, 2, 0] rfl
        refine w_goto (tgt := 4) hx hb dX10_cursorsMany_22 (by decide) ?_
        exact ih (x1 + z4) (x2 + 1) ls z (lv_sub hl [0, 1, 2] rfl) h KX
  refine w_iconst (v := 0) hx hb dX10_cursorsMany_0 (by decide) ?_
  refine w_istore_n (lv' := [(1, .int 0), (0, .ref x0)]) hx hb dX10_cursorsMany_1 rfl hl (by decide) rfl (fun ls hl => ?_)
  have hl : lv_has ls 3 [(0, .ref x0), (1, .int 0)] := lv_sub hl [1, 0] rfl
  refine w_iconst (v := 0) hx hb dX10_cursorsMany_2 (by decide) ?_
  refine w_istore_n (lv' := [(2, .int 0), (0, .ref x0), (1, .int 0)]) hx hb dX10_cursorsMany_3 rfl hl (by decide) rfl (fun ls hl => ?_)
  have hl : lv_has ls 3 [(0, .ref x0), (1, .int 0), (2, .int 0)] := lv_sub hl [1, 2, 0] rfl
  obtain ⟨z5, ez5, h⟩ := v_bnd h
  refine X10_cursorsMany_L4p x0 vF 0 0 ls z5 (lv_sub hl [0, 1, 2] rfl) ez5 (fun ls hl => ?_)
  refine w_iload_n hx hb dX10_cursorsMany_25 rfl (lv_at hl 0 rfl) ?_
  obtain rfl := Option.some.inj h
  rw [hQ]
  exact v_iret hx hb hr hlk dX10_cursorsMany_26

def tX10_size_J21 (x0 : Nat) (x1 : Int32) (y0 : Nat) (y1 : Int32) (Mj : vMe) : Option (Int32 × vMe) :=
  if (Mj.1 y0).1 = 12 then
  ((tX10_throwsIf y0 y1 1 Mj).bind fun z4 =>
  if z4.1 = 0 then
  (if (5 : Int32) ≤ x1 then
  (if x1 = (5 : Int32) then
  (if (z4.2.1 x0).1 = 12 then
  ((tX10_cursorsMany x0 z4.2).bind fun z8 =>
  some (z8, z4.2))
else none)
else
  (if x1 = (6 : Int32) then
  ((gA z4.2 x0 12 1).bind fun a10 =>
  (aI z4.2 a10 101 5).bind fun v11 =>
  some (v11, z4.2))
else
  ((gI z4.2 x0 12 18).bind fun v12 =>
  some (v12, z4.2))))
else
  ((gA z4.2 x0 12 1).bind fun a13 =>
  (aI z4.2 a13 101 x1).bind fun v14 =>
  some (v14, z4.2)))
else
  (some (0, z4.2)))
else none
def tX10_size (x0 : Nat) (x1 : Int32) (M : vMe) : Option (Int32 × vMe) :=
  (sV M x0 12 0 (.int 0)).bind fun M1 =>
  (tX10_within x1 0 7 M1).bind fun z2 =>
  if z2 = 0 then
  (tX10_size_J21 x0 x1 x0 1 M1)
else
  (tX10_size_J21 x0 x1 x0 0 M1)
def rmX10_size : Room := { frames := 3, cells := 0, slots := 0, locals := 44 }
set_option maxHeartbeats 4000000 in
set_option maxRecDepth 100000 in
theorem mX10_size (l : Launch) (hfl : l.stackTraces = false) (D : vD) (x0 : Nat) (x1 : Int32) (M : vMe) (z : (Int32 × vMe)) (h : tX10_size x0 x1 M = some z) : Met l yX10_size (Cond.code yX10_size cX10_size 2 (some .int) :: TB) rmX10_size (va_Pc [.ref x0, .int x1] (vPre D M)) (qW D (some (.int z.1)) z.2) 0 0 (vA D) := by
  refine v_ofW (cc := cX10_size) (maxL := 2) (ret := (some .int)) (by decide) (Nat.le_of_ble_eq_true rfl) ?_
  intro p e s m args below meth c Q hx hb hr hml hown hts hlk hnm hSS hR0 hQ ls hl
  have hK := hSS.1
  have hl : lv_has ls 2 [(0, .ref x0), (1, .int x1)] := hl
  unfold tX10_size at h
  have X10_size_J21p : ∀ (x0 : Nat) (x1 : Int32) (y0 : Nat) (y1 : Int32) (Mj : vMe) (ls : Array Slot), lv_has ls 2 [(0, .ref x0), (1, .int x1)] → tX10_size_J21 x0 x1 y0 y1 Mj = some z → vV D p l e rmX10_size s m args below meth c 0 0 Q Mj (F0 m 21 ls [.int y1, .ref y0]) := by
    intro x0 x1 y0 y1 Mj ls hl h
    unfold tX10_size_J21 at h
    refine w_iconst (v := 1) hx hb dX10_size_21 (by decide) ?_
    obtain ⟨g8, h⟩ := v_ifs h
    obtain ⟨z4, ez4, h⟩ := v_bnd h
    refine v_call1 (v := .int z4.1) (M1 := z4.2) (mc := 0) (ms := 0) (fun H locs hR hS => va_runV (As := [.int y1, .int 1]) (rest := []) ⟨hx, hb, hml, hown, hts⟩ (mX10_throwsIf l hfl D y0 y1 1 Mj z4 ez4) (cwV 2 hts (gdV kw1422 kw1424 kw28 kw85 kw1425) rfl rfl rfl (by decide +kernel) ⟨Nat.le_of_ble_eq_true rfl, Nat.le_of_ble_eq_true rfl⟩) (v_preV (ci := 11) hSS hR hS g8 (by decide) rfl [.int y1, .int 1]) rfl rfl hl.1 rfl (lv_room (Nat.le_of_ble_eq_true rfl)) dX10_size_22 ⟨Nat.zero_le _, Nat.zero_le _⟩) ?_
    refine w_if_eq (tgt := 30) hx hb dX10_size_25 (by decide) (fun c5 => ?_) (fun c5 => ?_)
    · rw [if_pos c5] at h
      refine w_iload_n hx hb dX10_size_30 rfl (lv_at hl 1 rfl) ?_
      refine w_iconst (v := 5) hx hb dX10_size_31 (by decide) ?_
      refine w_icmp_ge (tgt := 44) hx hb dX10_size_32 (by decide) (fun c6 => ?_) (fun c6 => ?_)
      · rw [if_pos c6] at h
        refine w_iload_n hx hb dX10_size_44 rfl (lv_at hl 1 rfl) ?_
        refine w_iconst (v := 5) hx hb dX10_size_45 (by decide) ?_
        refine w_icmp_ne (tgt := 56) hx hb dX10_size_46 (by decide) (fun c7 => ?_) (fun c7 => ?_)
        · rw [if_pos c7] at h
          refine w_aload_n hx hb dX10_size_49 rfl (lv_at hl 0 rfl) ?_
          obtain ⟨g8, h⟩ := v_ifs h
          obtain ⟨z8, ez8, h⟩ := v_bnd h
          refine v_call1 (v := .int z8) (M1 := z4.2) (mc := 0) (ms := 0) (fun H locs hR hS => va_runV (As := []) (rest := []) ⟨hx, hb, hml, hown, hts⟩ (mX10_cursorsMany l hfl D x0 z4.2 z8 ez8) (cwV 0 hts (gdV kw1590 kw1592 kw63 kw85 kw1593) rfl rfl rfl (by decide +kernel) ⟨Nat.le_of_ble_eq_true rfl, Nat.le_of_ble_eq_true rfl⟩) (v_preV (ci := 11) hSS hR hS g8 (by decide) rfl []) rfl rfl hl.1 rfl (lv_room (Nat.le_of_ble_eq_true rfl)) dX10_size_50 ⟨Nat.zero_le _, Nat.zero_le _⟩) ?_
          refine w_goto (tgt := 75) hx hb dX10_size_53 (by decide) ?_
          obtain rfl := Option.some.inj h
          rw [hQ]
          exact v_iret hx hb hr hlk dX10_size_75
        · rw [if_neg c7] at h
          refine w_iload_n hx hb dX10_size_56 rfl (lv_at hl 1 rfl) ?_
          refine w_bipush (v := 6) hx hb dX10_size_57 (by decide) ?_
          refine w_icmp_ne (tgt := 71) hx hb dX10_size_59 (by decide) (fun c9 => ?_) (fun c9 => ?_)
          · rw [if_pos c9] at h
            refine w_aload_n hx hb dX10_size_62 rfl (lv_at hl 0 rfl) ?_
            obtain ⟨a10, ea10, h⟩ := v_bnd h
            refine v_gA (ci := 11) hx hb hts iwX10 hown hK 1 ea10 rfl (by decide) (Or.inl (hts _ kw1336)) (fun _ h9 => h9) dX10_size_63 ?_
            refine w_iconst (v := 5) hx hb dX10_size_66 (by decide) ?_
            obtain ⟨v11, ev11, h⟩ := v_bnd h
            refine v_iald hx hb hK ev11 dX10_size_67 ?_
            refine w_goto (tgt := 75) hx hb dX10_size_68 (by decide) ?_
            obtain rfl := Option.some.inj h
            rw [hQ]
            exact v_iret hx hb hr hlk dX10_size_75
          · rw [if_neg c9] at h
            refine w_aload_n hx hb dX10_size_71 rfl (lv_at hl 0 rfl) ?_
            obtain ⟨v12, ev12, h⟩ := v_bnd h
            refine v_gI (ci := 11) hx hb hts iwX10 hown hK 18 ev12 rfl (by decide) (Or.inl (hts _ kw1353)) (fun _ h9 => h9) dX10_size_72 ?_
            obtain rfl := Option.some.inj h
            rw [hQ]
            exact v_iret hx hb hr hlk dX10_size_75
      · rw [if_neg c6] at h
        refine w_aload_n hx hb dX10_size_35 rfl (lv_at hl 0 rfl) ?_
        obtain ⟨a13, ea13, h⟩ := v_bnd h
        refine v_gA (ci := 11) hx hb hts iwX10 hown hK 1 ea13 rfl (by decide) (Or.inl (hts _ kw1336)) (fun _ h9 => h9) dX10_size_36 ?_
        refine w_iload_n hx hb dX10_size_39 rfl (lv_at hl 1 rfl) ?_
        obtain ⟨v14, ev14, h⟩ := v_bnd h
        refine v_iald hx hb hK ev14 dX10_size_40 ?_
        refine w_goto (tgt := 75) hx hb dX10_size_41 (by decide) ?_
        obtain rfl := Option.some.inj h
        rw [hQ]
        exact v_iret hx hb hr hlk dX10_size_75
    · rw [if_neg c5] at h
      refine w_iconst (v := 0) hx hb dX10_size_28 (by decide) ?_
      obtain rfl := Option.some.inj h
      rw [hQ]
      exact v_iret hx hb hr hlk dX10_size_29
  refine w_aload_n hx hb dX10_size_0 rfl (lv_at hl 0 rfl) ?_
  refine w_iconst (v := 0) hx hb dX10_size_1 (by decide) ?_
  obtain ⟨M1, eM1, h⟩ := v_bnd h
  refine v_putf (ci := 11) hx hb hts iwX10 hown hK tyX10_ok nmX10 0 eM1 rfl (by decide) (Or.inl (hts _ kw1335)) (fun _ h9 => h9) (Or.inl rfl) rfl rfl dX10_size_2 ?_
  refine w_aload_n hx hb dX10_size_5 rfl (lv_at hl 0 rfl) ?_
  refine w_iload_n hx hb dX10_size_6 rfl (lv_at hl 1 rfl) ?_
  refine w_iconst (v := 0) hx hb dX10_size_7 (by decide) ?_
  refine w_bipush (v := 7) hx hb dX10_size_8 (by decide) ?_
  obtain ⟨z2, ez2, h⟩ := v_bnd h
  refine v_call1 (v := .int z2) (M1 := M1) (mc := 0) (ms := 0) (fun H locs hR hS => va_runS (As := [.int x1, .int 0, .int 7]) (rest := [.ref x0]) ⟨hx, hb, hml, hown, hts⟩ (mX10_within l hfl D x1 0 7 M1 z2 ez2) (va_cwS 3 hts (gdS kw1419 kw1420 kw85 kw1421) rfl rfl rfl (by decide +kernel) ⟨Nat.le_of_ble_eq_true rfl, Nat.le_of_ble_eq_true rfl⟩) (v_preS hSS hR hS [.int x1, .int 0, .int 7]) rfl rfl hl.1 rfl (lv_room (Nat.le_of_ble_eq_true rfl)) dX10_size_10 ⟨Nat.zero_le _, Nat.zero_le _⟩) ?_
  refine w_if_ne (tgt := 20) hx hb dX10_size_13 (by decide) (fun c3 => ?_) (fun c3 => ?_)
  · rw [if_pos c3] at h
    refine w_iconst (v := 1) hx hb dX10_size_16 (by decide) ?_
    refine w_goto (tgt := 21) hx hb dX10_size_17 (by decide) ?_
    exact X10_size_J21p x0 x1 x0 1 M1 ls (lv_sub hl [0, 1] rfl) h
  · rw [if_neg c3] at h
    refine w_iconst (v := 0) hx hb dX10_size_20 (by decide) ?_
    exact X10_size_J21p x0 x1 x0 0 M1 ls (lv_sub hl [0, 1] rfl) h

def tX10_marked (x0 : Nat) (x1 : Int32) (M : vMe) : Option (Int32 × vMe) :=
  (sV M x0 12 0 (.int 0)).bind fun M1 =>
  (gA M1 x0 12 1).bind fun a2 =>
  (aI M1 a2 101 4).bind fun v3 =>
  (tX10_within x1 0 (v3 - 1) M1).bind fun z4 =>
  if z4 = 0 then
  (some ((-1), M1))
else
  ((gA M1 x0 12 1).bind fun a6 =>
  (aI M1 a6 101 (6 + x1)).bind fun v7 =>
  some (v7, M1))
def rmX10_marked : Room := { frames := 2, cells := 0, slots := 0, locals := 22 }
set_option maxHeartbeats 4000000 in
set_option maxRecDepth 100000 in
theorem mX10_marked (l : Launch) (hfl : l.stackTraces = false) (D : vD) (x0 : Nat) (x1 : Int32) (M : vMe) (z : (Int32 × vMe)) (h : tX10_marked x0 x1 M = some z) : Met l yX10_marked (Cond.code yX10_marked cX10_marked 2 (some .int) :: TB) rmX10_marked (va_Pc [.ref x0, .int x1] (vPre D M)) (qW D (some (.int z.1)) z.2) 0 0 (vA D) := by
  refine v_ofW (cc := cX10_marked) (maxL := 2) (ret := (some .int)) (by decide) (Nat.le_of_ble_eq_true rfl) ?_
  intro p e s m args below meth c Q hx hb hr hml hown hts hlk hnm hSS hR0 hQ ls hl
  have hK := hSS.1
  have hl : lv_has ls 2 [(0, .ref x0), (1, .int x1)] := hl
  unfold tX10_marked at h
  refine w_aload_n hx hb dX10_marked_0 rfl (lv_at hl 0 rfl) ?_
  refine w_iconst (v := 0) hx hb dX10_marked_1 (by decide) ?_
  obtain ⟨M1, eM1, h⟩ := v_bnd h
  refine v_putf (ci := 11) hx hb hts iwX10 hown hK tyX10_ok nmX10 0 eM1 rfl (by decide) (Or.inl (hts _ kw1335)) (fun _ h9 => h9) (Or.inl rfl) rfl rfl dX10_marked_2 ?_
  refine w_iload_n hx hb dX10_marked_5 rfl (lv_at hl 1 rfl) ?_
  refine w_iconst (v := 0) hx hb dX10_marked_6 (by decide) ?_
  refine w_aload_n hx hb dX10_marked_7 rfl (lv_at hl 0 rfl) ?_
  obtain ⟨a2, ea2, h⟩ := v_bnd h
  refine v_gA (ci := 11) hx hb hts iwX10 hown hK 1 ea2 rfl (by decide) (Or.inl (hts _ kw1336)) (fun _ h9 => h9) dX10_marked_8 ?_
  refine w_iconst (v := 4) hx hb dX10_marked_11 (by decide) ?_
  obtain ⟨v3, ev3, h⟩ := v_bnd h
  refine v_iald hx hb hK ev3 dX10_marked_12 ?_
  refine w_iconst (v := 1) hx hb dX10_marked_13 (by decide) ?_
  refine w_isub hx hb dX10_marked_14 ?_
  obtain ⟨z4, ez4, h⟩ := v_bnd h
  refine v_call1 (v := .int z4) (M1 := M1) (mc := 0) (ms := 0) (fun H locs hR hS => va_runS (As := [.int x1, .int 0, .int (v3 - 1)]) (rest := []) ⟨hx, hb, hml, hown, hts⟩ (mX10_within l hfl D x1 0 (v3 - 1) M1 z4 ez4) (va_cwS 3 hts (gdS kw1419 kw1420 kw85 kw1421) rfl rfl rfl (by decide +kernel) ⟨Nat.le_of_ble_eq_true rfl, Nat.le_of_ble_eq_true rfl⟩) (v_preS hSS hR hS [.int x1, .int 0, .int (v3 - 1)]) rfl rfl hl.1 rfl (lv_room (Nat.le_of_ble_eq_true rfl)) dX10_marked_15 ⟨Nat.zero_le _, Nat.zero_le _⟩) ?_
  refine w_if_eq (tgt := 33) hx hb dX10_marked_18 (by decide) (fun c5 => ?_) (fun c5 => ?_)
  · rw [if_pos c5] at h
    refine w_iconst (v := (-1)) hx hb dX10_marked_33 (by decide) ?_
    obtain rfl := Option.some.inj h
    rw [hQ]
    exact v_iret hx hb hr hlk dX10_marked_34
  · rw [if_neg c5] at h
    refine w_aload_n hx hb dX10_marked_21 rfl (lv_at hl 0 rfl) ?_
    obtain ⟨a6, ea6, h⟩ := v_bnd h
    refine v_gA (ci := 11) hx hb hts iwX10 hown hK 1 ea6 rfl (by decide) (Or.inl (hts _ kw1336)) (fun _ h9 => h9) dX10_marked_22 ?_
    refine w_bipush (v := 6) hx hb dX10_marked_25 (by decide) ?_
    refine w_iload_n hx hb dX10_marked_27 rfl (lv_at hl 1 rfl) ?_
    refine w_iadd hx hb dX10_marked_28 ?_
    obtain ⟨v7, ev7, h⟩ := v_bnd h
    refine v_iald hx hb hK ev7 dX10_marked_29 ?_
    refine w_goto (tgt := 34) hx hb dX10_marked_30 (by decide) ?_
    obtain rfl := Option.some.inj h
    rw [hQ]
    exact v_iret hx hb hr hlk dX10_marked_34

def tX10_no_J17 (y0 : Nat) (y1 : Int32) (Mj : vMe) : Option (Int32 × vMe) :=
  if (Mj.1 y0).1 = 12 then
  ((tX10_throwsIf y0 y1 1 Mj).bind fun z3 =>
  if fits .boolean (.int z3.1) = true then some (z3.1, z3.2) else none)
else none
def tX10_no (x0 : Nat) (x1 : Int32) (x2 : Int32) (M : vMe) : Option (Int32 × vMe) :=
  (tX10_within x1 0 (x2 - 1) M).bind fun z1 =>
  if z1 = 0 then
  (tX10_no_J17 x0 1 M)
else
  (tX10_no_J17 x0 0 M)
def rmX10_no : Room := { frames := 2, cells := 0, slots := 0, locals := 22 }
set_option maxHeartbeats 4000000 in
set_option maxRecDepth 100000 in
theorem mX10_no (l : Launch) (hfl : l.stackTraces = false) (D : vD) (x0 : Nat) (x1 : Int32) (x2 : Int32) (M : vMe) (z : (Int32 × vMe)) (h : tX10_no x0 x1 x2 M = some z) : Met l yX10_no (Cond.code yX10_no cX10_no 3 (some .boolean) :: TB) rmX10_no (va_Pc [.ref x0, .int x1, .int x2] (vPre D M)) (qW D (some (.int z.1)) z.2) 0 0 (vA D) := by
  refine v_ofW (cc := cX10_no) (maxL := 3) (ret := (some .boolean)) (by decide) (Nat.le_of_ble_eq_true rfl) ?_
  intro p e s m args below meth c Q hx hb hr hml hown hts hlk hnm hSS hR0 hQ ls hl
  have hK := hSS.1
  have hl : lv_has ls 3 [(0, .ref x0), (1, .int x1), (2, .int x2)] := hl
  unfold tX10_no at h
  have X10_no_J17p : ∀ (y0 : Nat) (y1 : Int32) (Mj : vMe) (ls : Array Slot), lv_has ls 3 [] → tX10_no_J17 y0 y1 Mj = some z → vV D p l e rmX10_no s m args below meth c 0 0 Q Mj (F0 m 17 ls [.int y1, .ref y0]) := by
    intro y0 y1 Mj ls hl h
    unfold tX10_no_J17 at h
    refine w_iconst (v := 1) hx hb dX10_no_17 (by decide) ?_
    obtain ⟨g8, h⟩ := v_ifs h
    obtain ⟨z3, ez3, h⟩ := v_bnd h
    refine v_call1 (v := .int z3.1) (M1 := z3.2) (mc := 0) (ms := 0) (fun H locs hR hS => va_runV (As := [.int y1, .int 1]) (rest := []) ⟨hx, hb, hml, hown, hts⟩ (mX10_throwsIf l hfl D y0 y1 1 Mj z3 ez3) (cwV 2 hts (gdV kw1422 kw1424 kw28 kw85 kw1425) rfl rfl rfl (by decide +kernel) ⟨Nat.le_of_ble_eq_true rfl, Nat.le_of_ble_eq_true rfl⟩) (v_preV (ci := 11) hSS hR hS g8 (by decide) rfl [.int y1, .int 1]) rfl rfl hl.1 rfl (lv_room (Nat.le_of_ble_eq_true rfl)) dX10_no_18 ⟨Nat.zero_le _, Nat.zero_le _⟩) ?_
    obtain ⟨g6, h⟩ := v_ifs h
    obtain rfl := Option.some.inj h
    rw [hQ]
    exact v_zret hx hb hr hlk (v_narZ g6) dX10_no_21
  refine w_aload_n hx hb dX10_no_0 rfl (lv_at hl 0 rfl) ?_
  refine w_iload_n hx hb dX10_no_1 rfl (lv_at hl 1 rfl) ?_
  refine w_iconst (v := 0) hx hb dX10_no_2 (by decide) ?_
  refine w_iload_n hx hb dX10_no_3 rfl (lv_at hl 2 rfl) ?_
  refine w_iconst (v := 1) hx hb dX10_no_4 (by decide) ?_
  refine w_isub hx hb dX10_no_5 ?_
  obtain ⟨z1, ez1, h⟩ := v_bnd h
  refine v_call1 (v := .int z1) (M1 := M) (mc := 0) (ms := 0) (fun H locs hR hS => va_runS (As := [.int x1, .int 0, .int (x2 - 1)]) (rest := [.ref x0]) ⟨hx, hb, hml, hown, hts⟩ (mX10_within l hfl D x1 0 (x2 - 1) M z1 ez1) (va_cwS 3 hts (gdS kw1419 kw1420 kw85 kw1421) rfl rfl rfl (by decide +kernel) ⟨Nat.le_of_ble_eq_true rfl, Nat.le_of_ble_eq_true rfl⟩) (v_preS hSS hR hS [.int x1, .int 0, .int (x2 - 1)]) rfl rfl hl.1 rfl (lv_room (Nat.le_of_ble_eq_true rfl)) dX10_no_6 ⟨Nat.zero_le _, Nat.zero_le _⟩) ?_
  refine w_if_ne (tgt := 16) hx hb dX10_no_9 (by decide) (fun c2 => ?_) (fun c2 => ?_)
  · rw [if_pos c2] at h
    refine w_iconst (v := 1) hx hb dX10_no_12 (by decide) ?_
    refine w_goto (tgt := 17) hx hb dX10_no_13 (by decide) ?_
    exact X10_no_J17p x0 1 M ls (lv_sub hl [] rfl) h
  · rw [if_neg c2] at h
    refine w_iconst (v := 0) hx hb dX10_no_16 (by decide) ?_
    exact X10_no_J17p x0 0 M ls (lv_sub hl [] rfl) h

def tX10_noSet (x0 : Nat) (x1 : Int32) (M : vMe) : Option (Int32 × vMe) :=
  (sV M x0 12 0 (.int 0)).bind fun M1 =>
  (gA M1 x0 12 1).bind fun a2 =>
  (aI M1 a2 101 0).bind fun v3 =>
  if (M1.1 x0).1 = 12 then
  ((tX10_no x0 x1 v3 M1).bind fun z4 =>
  if fits .boolean (.int z4.1) = true then some (z4.1, z4.2) else none)
else none
def rmX10_noSet : Room := { frames := 3, cells := 0, slots := 0, locals := 44 }
set_option maxHeartbeats 4000000 in
set_option maxRecDepth 100000 in
theorem mX10_noSet (l : Launch) (hfl : l.stackTraces = false) (D : vD) (x0 : Nat) (x1 : Int32) (M : vMe) (z : (Int32 × vMe)) (h : tX10_noSet x0 x1 M = some z) : Met l yX10_noSet (Cond.code yX10_noSet cX10_noSet 2 (some .boolean) :: TB) rmX10_noSet (va_Pc [.ref x0, .int x1] (vPre D M)) (qW D (some (.int z.1)) z.2) 0 0 (vA D) := by
  refine v_ofW (cc := cX10_noSet) (maxL := 2) (ret := (some .boolean)) (by decide) (Nat.le_of_ble_eq_true rfl) ?_
  intro p e s m args below meth c Q hx hb hr hml hown hts hlk hnm hSS hR0 hQ ls hl
  have hK := hSS.1
  have hl : lv_has ls 2 [(0, .ref x0), (1, .int x1)] := hl
  unfold tX10_noSet at h
  refine w_aload_n hx hb dX10_noSet_0 rfl (lv_at hl 0 rfl) ?_
  refine w_iconst (v := 0) hx hb dX10_noSet_1 (by decide) ?_
  obtain ⟨M1, eM1, h⟩ := v_bnd h
  refine v_putf (ci := 11) hx hb hts iwX10 hown hK tyX10_ok nmX10 0 eM1 rfl (by decide) (Or.inl (hts _ kw1335)) (fun _ h9 => h9) (Or.inl rfl) rfl rfl dX10_noSet_2 ?_
  refine w_aload_n hx hb dX10_noSet_5 rfl (lv_at hl 0 rfl) ?_
  refine w_iload_n hx hb dX10_noSet_6 rfl (lv_at hl 1 rfl) ?_
  refine w_aload_n hx hb dX10_noSet_7 rfl (lv_at hl 0 rfl) ?_
  obtain ⟨a2, ea2, h⟩ := v_bnd h
  refine v_gA (ci := 11) hx hb hts iwX10 hown hK 1 ea2 rfl (by decide) (Or.inl (hts _ kw1336)) (fun _ h9 => h9) dX10_noSet_8 ?_
  refine w_iconst (v := 0) hx hb dX10_noSet_11 (by decide) ?_
  obtain ⟨v3, ev3, h⟩ := v_bnd h
  refine v_iald hx hb hK ev3 dX10_noSet_12 ?_
  obtain ⟨g8, h⟩ := v_ifs h
  obtain ⟨z4, ez4, h⟩ := v_bnd h
  refine v_call1 (v := .int z4.1) (M1 := z4.2) (mc := 0) (ms := 0) (fun H locs hR hS => va_runV (As := [.int x1, .int v3]) (rest := []) ⟨hx, hb, hml, hown, hts⟩ (mX10_no l hfl D x0 x1 v3 M1 z4 ez4) (cwV 2 hts (gdV kw1606 kw1608 kw65 kw85 kw1609) rfl rfl rfl (by decide +kernel) ⟨Nat.le_of_ble_eq_true rfl, Nat.le_of_ble_eq_true rfl⟩) (v_preV (ci := 11) hSS hR hS g8 (by decide) rfl [.int x1, .int v3]) rfl rfl hl.1 rfl (lv_room (Nat.le_of_ble_eq_true rfl)) dX10_noSet_13 ⟨Nat.zero_le _, Nat.zero_le _⟩) ?_
  obtain ⟨g6, h⟩ := v_ifs h
  obtain rfl := Option.some.inj h
  rw [hQ]
  exact v_zret hx hb hr hlk (v_narZ g6) dX10_noSet_16

def tX10_noCursor_J29 (y0 : Nat) (y1 : Int32) (Mj : vMe) : Option (Int32 × vMe) :=
  if (Mj.1 y0).1 = 12 then
  ((tX10_throwsIf y0 y1 1 Mj).bind fun z4 =>
  if fits .boolean (.int z4.1) = true then some (z4.1, z4.2) else none)
else none
def tX10_noCursor_J24 (y0 : Nat) (Mj : vMe) : Option (Int32 × vMe) :=
  tX10_noCursor_J29 y0 1 Mj
def tX10_noCursor (x0 : Nat) (x1 : Int32) (M : vMe) : Option (Int32 × vMe) :=
  (sV M x0 12 0 (.int 0)).bind fun M1 =>
  (tX10_within x1 0 5 M1).bind fun z2 =>
  if z2 = 0 then
  (tX10_noCursor_J24 x0 M1)
else
  (if (M1.1 x0).1 = 12 then
  ((tX10_ofCursor x0 x1 0 M1).bind fun z5 =>
  if z5 = 0 then
  (tX10_noCursor_J24 x0 M1)
else
  (tX10_noCursor_J29 x0 0 M1))
else none)
def rmX10_noCursor : Room := { frames := 2, cells := 0, slots := 0, locals := 22 }
set_option maxHeartbeats 4000000 in
set_option maxRecDepth 100000 in
theorem mX10_noCursor (l : Launch) (hfl : l.stackTraces = false) (D : vD) (x0 : Nat) (x1 : Int32) (M : vMe) (z : (Int32 × vMe)) (h : tX10_noCursor x0 x1 M = some z) : Met l yX10_noCursor (Cond.code yX10_noCursor cX10_noCursor 2 (some .boolean) :: TB) rmX10_noCursor (va_Pc [.ref x0, .int x1] (vPre D M)) (qW D (some (.int z.1)) z.2) 0 0 (vA D) := by
  refine v_ofW (cc := cX10_noCursor) (maxL := 2) (ret := (some .boolean)) (by decide) (Nat.le_of_ble_eq_true rfl) ?_
  intro p e s m args below meth c Q hx hb hr hml hown hts hlk hnm hSS hR0 hQ ls hl
  have hK := hSS.1
  have hl : lv_has ls 2 [(0, .ref x0), (1, .int x1)] := hl
  unfold tX10_noCursor at h
  have X10_noCursor_J29p : ∀ (y0 : Nat) (y1 : Int32) (Mj : vMe) (ls : Array Slot), lv_has ls 2 [] → tX10_noCursor_J29 y0 y1 Mj = some z → vV D p l e rmX10_noCursor s m args below meth c 0 0 Q Mj (F0 m 29 ls [.int y1, .ref y0]) := by
    intro y0 y1 Mj ls hl h
    unfold tX10_noCursor_J29 at h
    refine w_iconst (v := 1) hx hb dX10_noCursor_29 (by decide) ?_
    obtain ⟨g8, h⟩ := v_ifs h
    obtain ⟨z4, ez4, h⟩ := v_bnd h
    refine v_call1 (v := .int z4.1) (M1 := z4.2) (mc := 0) (ms := 0) (fun H locs hR hS => va_runV (As := [.int y1, .int 1]) (rest := []) ⟨hx, hb, hml, hown, hts⟩ (mX10_throwsIf l hfl D y0 y1 1 Mj z4 ez4) (cwV 2 hts (gdV kw1422 kw1424 kw28 kw85 kw1425) rfl rfl rfl (by decide +kernel) ⟨Nat.le_of_ble_eq_true rfl, Nat.le_of_ble_eq_true rfl⟩) (v_preV (ci := 11) hSS hR hS g8 (by decide) rfl [.int y1, .int 1]) rfl rfl hl.1 rfl (lv_room (Nat.le_of_ble_eq_true rfl)) dX10_noCursor_30 ⟨Nat.zero_le _, Nat.zero_le _⟩) ?_
    obtain ⟨g6, h⟩ := v_ifs h
    obtain rfl := Option.some.inj h
    rw [hQ]
    exact v_zret hx hb hr hlk (v_narZ g6) dX10_noCursor_33
  have X10_noCursor_J24p : ∀ (y0 : Nat) (Mj : vMe) (ls : Array Slot), lv_has ls 2 [] → tX10_noCursor_J24 y0 Mj = some z → vV D p l e rmX10_noCursor s m args below meth c 0 0 Q Mj (F0 m 24 ls [.ref y0]) := by
    intro y0 Mj ls hl h
    unfold tX10_noCursor_J24 at h
    refine w_iconst (v := 1) hx hb dX10_noCursor_24 (by decide) ?_
    refine w_goto (tgt := 29) hx hb dX10_noCursor_25 (by decide) ?_
    exact X10_noCursor_J29p y0 1 Mj ls (lv_sub hl [] rfl) h
  refine w_aload_n hx hb dX10_noCursor_0 rfl (lv_at hl 0 rfl) ?_
  refine w_iconst (v := 0) hx hb dX10_noCursor_1 (by decide) ?_
  obtain ⟨M1, eM1, h⟩ := v_bnd h
  refine v_putf (ci := 11) hx hb hts iwX10 hown hK tyX10_ok nmX10 0 eM1 rfl (by decide) (Or.inl (hts _ kw1335)) (fun _ h9 => h9) (Or.inl rfl) rfl rfl dX10_noCursor_2 ?_
  refine w_aload_n hx hb dX10_noCursor_5 rfl (lv_at hl 0 rfl) ?_
  refine w_iload_n hx hb dX10_noCursor_6 rfl (lv_at hl 1 rfl) ?_
  refine w_iconst (v := 0) hx hb dX10_noCursor_7 (by decide) ?_
  refine w_iconst (v := 5) hx hb dX10_noCursor_8 (by decide) ?_
  obtain ⟨z2, ez2, h⟩ := v_bnd h
  refine v_call1 (v := .int z2) (M1 := M1) (mc := 0) (ms := 0) (fun H locs hR hS => va_runS (As := [.int x1, .int 0, .int 5]) (rest := [.ref x0]) ⟨hx, hb, hml, hown, hts⟩ (mX10_within l hfl D x1 0 5 M1 z2 ez2) (va_cwS 3 hts (gdS kw1419 kw1420 kw85 kw1421) rfl rfl rfl (by decide +kernel) ⟨Nat.le_of_ble_eq_true rfl, Nat.le_of_ble_eq_true rfl⟩) (v_preS hSS hR hS [.int x1, .int 0, .int 5]) rfl rfl hl.1 rfl (lv_room (Nat.le_of_ble_eq_true rfl)) dX10_noCursor_9 ⟨Nat.zero_le _, Nat.zero_le _⟩) ?_
  refine w_if_eq (tgt := 24) hx hb dX10_noCursor_12 (by decide) (fun c3 => ?_) (fun c3 => ?_)
  · rw [if_pos c3] at h
    exact X10_noCursor_J24p x0 M1 ls (lv_sub hl [] rfl) h
  · rw [if_neg c3] at h
    refine w_aload_n hx hb dX10_noCursor_15 rfl (lv_at hl 0 rfl) ?_
    refine w_iload_n hx hb dX10_noCursor_16 rfl (lv_at hl 1 rfl) ?_
    refine w_iconst (v := 0) hx hb dX10_noCursor_17 (by decide) ?_
    obtain ⟨g8, h⟩ := v_ifs h
    obtain ⟨z5, ez5, h⟩ := v_bnd h
    refine v_call1 (v := .int z5) (M1 := M1) (mc := 0) (ms := 0) (fun H locs hR hS => va_runV (As := [.int x1, .int 0]) (rest := [.ref x0]) ⟨hx, hb, hml, hown, hts⟩ (mX10_ofCursor l hfl D x0 x1 0 M1 z5 ez5) (cwV 2 hts (gdV kw1547 kw1549 kw56 kw85 kw1550) rfl rfl rfl (by decide +kernel) ⟨Nat.le_of_ble_eq_true rfl, Nat.le_of_ble_eq_true rfl⟩) (v_preV (ci := 11) hSS hR hS g8 (by decide) rfl [.int x1, .int 0]) rfl rfl hl.1 rfl (lv_room (Nat.le_of_ble_eq_true rfl)) dX10_noCursor_18 ⟨Nat.zero_le _, Nat.zero_le _⟩) ?_
    refine w_if_ne (tgt := 28) hx hb dX10_noCursor_21 (by decide) (fun c6 => ?_) (fun c6 => ?_)
    · rw [if_pos c6] at h
      exact X10_noCursor_J24p x0 M1 ls (lv_sub hl [] rfl) h
    · rw [if_neg c6] at h
      refine w_iconst (v := 0) hx hb dX10_noCursor_28 (by decide) ?_
      exact X10_noCursor_J29p x0 0 M1 ls (lv_sub hl [] rfl) h

def tX10_openOn_J25_4 (rec : Int32 → Int32 → Option Int32) (x0 : Nat) (x1 : Int32) (x3 : Int32) (y0 : Int32) (y1 : Int32) (M : vMe) : Option Int32 :=
  rec (y0 + y1) (x3 + 1)
def tX10_openOn_L4 (x0 : Nat) (x1 : Int32) (M : vMe) : Nat → Int32 → Int32 → Option Int32
  | 0, _, _ => none
  | f + 1, x2, x3 =>
  if (6 : Int32) ≤ x3 then
  (some x2)
else
  (if (M.1 x0).1 = 12 then
  ((tX10_isOn x0 x3 x1 M).bind fun z5 =>
  if z5 = 0 then
  (tX10_openOn_J25_4 (tX10_openOn_L4 x0 x1 M f) x0 x1 x3 x2 0 M)
else
  (tX10_openOn_J25_4 (tX10_openOn_L4 x0 x1 M f) x0 x1 x3 x2 1 M))
else none)
def tX10_openOn (x0 : Nat) (x1 : Int32) (M : vMe) : Option Int32 :=
  (tX10_openOn_L4 x0 x1 M vF 0 0).bind fun z7 =>
  some z7
def rmX10_openOn : Room := { frames := 3, cells := 0, slots := 0, locals := 44 }
set_option maxHeartbeats 4000000 in
set_option maxRecDepth 100000 in
theorem mX10_openOn (l : Launch) (hfl : l.stackTraces = false) (D : vD) (x0 : Nat) (x1 : Int32) (M : vMe) (z : Int32) (h : tX10_openOn x0 x1 M = some z) : Met l yX10_openOn (Cond.code yX10_openOn cX10_openOn 4 (some .int) :: TB) rmX10_openOn (va_Pc [.ref x0, .int x1] (vPre D M)) (qW D (some (.int z)) M) 0 0 (vA D) := by
  refine v_ofW (cc := cX10_openOn) (maxL := 4) (ret := (some .int)) (by decide) (Nat.le_of_ble_eq_true rfl) ?_
  intro p e s m args below meth c Q hx hb hr hml hown hts hlk hnm hSS hR0 hQ ls hl
  have hK := hSS.1
  have hl : lv_has ls 4 [(0, .ref x0), (1, .int x1)] := hl
  unfold tX10_openOn at h
  have X10_openOn_L4p : ∀ (x0 : Nat) (x1 : Int32), ∀ (f : Nat) (x2 : Int32) (x3 : Int32) (ls : Array Slot) (z : Int32), lv_has ls 4 [(0, .ref x0), (1, .int x1), (2, .int x2), (3, .int x3)] → tX10_openOn_L4 x0 x1 M f x2 x3 = some z → (∀ ls : Array Slot, lv_has ls 4 [(2, .int z)] → vV D p l e rmX10_openOn s m args below meth c 0 0 Q M (F0 m 33 ls [])) → vV D p l e rmX10_openOn s m args below meth c 0 0 Q M (F0 m 4 ls []) := by
    intro x0 x1 f
    induction f with
    | zero =>
      intro x2 x3 ls z hl h
      exact absurd h (by simp [tX10_openOn_L4])
    | succ f ih =>
      intro x2 x3 ls z hl h KX
      rw [tX10_openOn_L4] at h
      have X10_openOn_J25_4p : ∀ (x3 : Int32) (y0 : Int32) (y1 : Int32) (ls : Array Slot), lv_has ls 4 [(0, .ref x0), (1, .int x1), (3, .int x3)] → tX10_openOn_J25_4 (tX10_openOn_L4 x0 x1 M f) x0 x1 x3 y0 y1 M = some z → vV D p l e rmX10_openOn s m args below meth c 0 0 Q M (F0 m 25 ls [.int y1, .int y0]) := by
        intro x3 y0 y1 ls hl h
        unfold tX10_openOn_J25_4 at h
        refine w_iadd hx hb dX10_openOn_25 ?_
        refine w_istore_n (lv' := [(2, .int (y0 + y1)), (0, .ref x0), (1, .int x1), (3, .int x3)]) hx hb dX10_openOn_26 rfl hl (by decide) rfl (fun ls hl => ?_)
        have hl : lv_has ls 4 [(0, .ref x0), (1, .int x1), (2, .int (y0 + y1)), (3, .int x3)] := lv_sub hl [1, 2, 0, 3] rfl
        refine w_iinc (v := x3 + 1) (lv' := [(3, .int (x3 + 1)), (0, .ref x0), (1, .int x1), (2, .int (y0 + y1))]) hx hb dX10_openOn_27 hl (j := 3) rfl rfl (by decide) rfl (fun ls hl => ?_)
        have hl : lv_has ls 4 [(0, .ref x0), (1, .int x1), (2, .int (y0 + y1)), (3, .int (x3 + 1))] := lv_sub hl [1, 2, 3, 0] rfl
        refine w_goto (tgt := 4) hx hb dX10_openOn_30 (by decide) ?_
        exact ih (y0 + y1) (x3 + 1) ls z (lv_sub hl [0, 1, 2, 3] rfl) h KX
      refine w_iload_n hx hb dX10_openOn_4 rfl (lv_at hl 3 rfl) ?_
      refine w_bipush (v := 6) hx hb dX10_openOn_5 (by decide) ?_
      refine w_icmp_ge (tgt := 33) hx hb dX10_openOn_7 (by decide) (fun c4 => ?_) (fun c4 => ?_)
      · rw [if_pos c4] at h
        obtain rfl := Option.some.inj h
        exact KX ls (lv_sub hl [2] rfl)
      · rw [if_neg c4] at h
        refine w_iload_n hx hb dX10_openOn_10 rfl (lv_at hl 2 rfl) ?_
        refine w_aload_n hx hb dX10_openOn_11 rfl (lv_at hl 0 rfl) ?_
        refine w_iload_n hx hb dX10_openOn_12 rfl (lv_at hl 3 rfl) ?_
        refine w_iload_n hx hb dX10_openOn_13 rfl (lv_at hl 1 rfl) ?_
        obtain ⟨g8, h⟩ := v_ifs h
        obtain ⟨z5, ez5, h⟩ := v_bnd h
        refine v_call1 (v := .int z5) (M1 := M) (mc := 0) (ms := 0) (fun H locs hR hS => va_runV (As := [.int x3, .int x1]) (rest := [.int x2]) ⟨hx, hb, hml, hown, hts⟩ (mX10_isOn l hfl D x0 x3 x1 M z5 ez5) (cwV 2 hts (gdV kw1543 kw1545 kw55 kw85 kw1546) rfl rfl rfl (by decide +kernel) ⟨Nat.le_of_ble_eq_true rfl, Nat.le_of_ble_eq_true rfl⟩) (v_preV (ci := 11) hSS hR hS g8 (by decide) rfl [.int x3, .int x1]) rfl rfl hl.1 rfl (lv_room (Nat.le_of_ble_eq_true rfl)) dX10_openOn_14 ⟨Nat.zero_le _, Nat.zero_le _⟩) ?_
        refine w_if_eq (tgt := 24) hx hb dX10_openOn_17 (by decide) (fun c6 => ?_) (fun c6 => ?_)
        · rw [if_pos c6] at h
          refine w_iconst (v := 0) hx hb dX10_openOn_24 (by decide) ?_
          exact X10_openOn_J25_4p x3 x2 0 ls (lv_sub hl [0, 1, 3] rfl) h
        · rw [if_neg c6] at h
          refine w_iconst (v := 1) hx hb dX10_openOn_20 (by decide) ?_
          refine w_goto (tgt := 25) hx hb dX10_openOn_21 (by decide) ?_
          exact X10_openOn_J25_4p x3 x2 1 ls (lv_sub hl [0, 1, 3] rfl) h
  refine w_iconst (v := 0) hx hb dX10_openOn_0 (by decide) ?_
  refine w_istore_n (lv' := [(2, .int 0), (0, .ref x0), (1, .int x1)]) hx hb dX10_openOn_1 rfl hl (by decide) rfl (fun ls hl => ?_)
  have hl : lv_has ls 4 [(0, .ref x0), (1, .int x1), (2, .int 0)] := lv_sub hl [1, 2, 0] rfl
  refine w_iconst (v := 0) hx hb dX10_openOn_2 (by decide) ?_
  refine w_istore_n (lv' := [(3, .int 0), (0, .ref x0), (1, .int x1), (2, .int 0)]) hx hb dX10_openOn_3 rfl hl (by decide) rfl (fun ls hl => ?_)
  have hl : lv_has ls 4 [(0, .ref x0), (1, .int x1), (2, .int 0), (3, .int 0)] := lv_sub hl [1, 2, 3, 0] rfl
  obtain ⟨z7, ez7, h⟩ := v_bnd h
  refine X10_openOn_L4p x0 x1 vF 0 0 ls z7 (lv_sub hl [0, 1, 2, 3] rfl) ez7 (fun ls hl => ?_)
  refine w_iload_n hx hb dX10_openOn_33 rfl (lv_at hl 0 rfl) ?_
  obtain rfl := Option.some.inj h
  rw [hQ]
  exact v_iret hx hb hr hlk dX10_openOn_34

def tX10_set_J23 (x0 : Nat) (x1 : Int32) (x2 : Int32) (y0 : Nat) (y1 : Int32) (Mj : vMe) : Option (Int32 × vMe) :=
  if (Mj.1 y0).1 = 12 then
  ((tX10_throwsIf y0 y1 2 Mj).bind fun z5 =>
  if z5.1 = 0 then
  (if x2 = (4 : Int32) then
  (if (z5.2.1 x0).1 = 12 then
  ((tX10_openOn x0 x1 z5.2).bind fun z8 =>
  some (z8, z5.2))
else none)
else
  (if (z5.2.1 x0).1 = 12 then
  ((tX10_of x0 x1 x2 z5.2).bind fun z9 =>
  some (z9, z5.2))
else none))
else
  (some (0, z5.2)))
else none
def tX10_set (x0 : Nat) (x1 : Int32) (x2 : Int32) (M : vMe) : Option (Int32 × vMe) :=
  if (M.1 x0).1 = 12 then
  ((tX10_noSet x0 x1 M).bind fun z1 =>
  if z1.1 = 0 then
  ((tX10_within x2 0 4 z1.2).bind fun z3 =>
  if z3 = 0 then
  (tX10_set_J23 x0 x1 x2 x0 1 z1.2)
else
  (tX10_set_J23 x0 x1 x2 x0 0 z1.2))
else
  (some (0, z1.2)))
else none
def rmX10_set : Room := { frames := 4, cells := 0, slots := 0, locals := 67 }
set_option maxHeartbeats 4000000 in
set_option maxRecDepth 100000 in
theorem mX10_set (l : Launch) (hfl : l.stackTraces = false) (D : vD) (x0 : Nat) (x1 : Int32) (x2 : Int32) (M : vMe) (z : (Int32 × vMe)) (h : tX10_set x0 x1 x2 M = some z) : Met l yX10_set (Cond.code yX10_set cX10_set 3 (some .int) :: TB) rmX10_set (va_Pc [.ref x0, .int x1, .int x2] (vPre D M)) (qW D (some (.int z.1)) z.2) 0 0 (vA D) := by
  refine v_ofW (cc := cX10_set) (maxL := 3) (ret := (some .int)) (by decide) (Nat.le_of_ble_eq_true rfl) ?_
  intro p e s m args below meth c Q hx hb hr hml hown hts hlk hnm hSS hR0 hQ ls hl
  have hK := hSS.1
  have hl : lv_has ls 3 [(0, .ref x0), (1, .int x1), (2, .int x2)] := hl
  unfold tX10_set at h
  have X10_set_J23p : ∀ (x0 : Nat) (x1 : Int32) (x2 : Int32) (y0 : Nat) (y1 : Int32) (Mj : vMe) (ls : Array Slot), lv_has ls 3 [(0, .ref x0), (1, .int x1), (2, .int x2)] → tX10_set_J23 x0 x1 x2 y0 y1 Mj = some z → vV D p l e rmX10_set s m args below meth c 0 0 Q Mj (F0 m 23 ls [.int y1, .ref y0]) := by
    intro x0 x1 x2 y0 y1 Mj ls hl h
    unfold tX10_set_J23 at h
    refine w_iconst (v := 2) hx hb dX10_set_23 (by decide) ?_
    obtain ⟨g8, h⟩ := v_ifs h
    obtain ⟨z5, ez5, h⟩ := v_bnd h
    refine v_call1 (v := .int z5.1) (M1 := z5.2) (mc := 0) (ms := 0) (fun H locs hR hS => va_runV (As := [.int y1, .int 2]) (rest := []) ⟨hx, hb, hml, hown, hts⟩ (mX10_throwsIf l hfl D y0 y1 2 Mj z5 ez5) (cwV 2 hts (gdV kw1422 kw1424 kw28 kw85 kw1425) rfl rfl rfl (by decide +kernel) ⟨Nat.le_of_ble_eq_true rfl, Nat.le_of_ble_eq_true rfl⟩) (v_preV (ci := 11) hSS hR hS g8 (by decide) rfl [.int y1, .int 2]) rfl rfl hl.1 rfl (lv_room (Nat.le_of_ble_eq_true rfl)) dX10_set_24 ⟨Nat.zero_le _, Nat.zero_le _⟩) ?_
    refine w_if_eq (tgt := 32) hx hb dX10_set_27 (by decide) (fun c6 => ?_) (fun c6 => ?_)
    · rw [if_pos c6] at h
      refine w_iload_n hx hb dX10_set_32 rfl (lv_at hl 2 rfl) ?_
      refine w_iconst (v := 4) hx hb dX10_set_33 (by decide) ?_
      refine w_icmp_ne (tgt := 45) hx hb dX10_set_34 (by decide) (fun c7 => ?_) (fun c7 => ?_)
      · rw [if_pos c7] at h
        refine w_aload_n hx hb dX10_set_37 rfl (lv_at hl 0 rfl) ?_
        refine w_iload_n hx hb dX10_set_38 rfl (lv_at hl 1 rfl) ?_
        obtain ⟨g8, h⟩ := v_ifs h
        obtain ⟨z8, ez8, h⟩ := v_bnd h
        refine v_call1 (v := .int z8) (M1 := z5.2) (mc := 0) (ms := 0) (fun H locs hR hS => va_runV (As := [.int x1]) (rest := []) ⟨hx, hb, hml, hown, hts⟩ (mX10_openOn l hfl D x0 x1 z5.2 z8 ez8) (cwV 1 hts (gdV kw1610 kw1612 kw66 kw85 kw1613) rfl rfl rfl (by decide +kernel) ⟨Nat.le_of_ble_eq_true rfl, Nat.le_of_ble_eq_true rfl⟩) (v_preV (ci := 11) hSS hR hS g8 (by decide) rfl [.int x1]) rfl rfl hl.1 rfl (lv_room (Nat.le_of_ble_eq_true rfl)) dX10_set_39 ⟨Nat.zero_le _, Nat.zero_le _⟩) ?_
        refine w_goto (tgt := 51) hx hb dX10_set_42 (by decide) ?_
        obtain rfl := Option.some.inj h
        rw [hQ]
        exact v_iret hx hb hr hlk dX10_set_51
      · rw [if_neg c7] at h
        refine w_aload_n hx hb dX10_set_45 rfl (lv_at hl 0 rfl) ?_
        refine w_iload_n hx hb dX10_set_46 rfl (lv_at hl 1 rfl) ?_
        refine w_iload_n hx hb dX10_set_47 rfl (lv_at hl 2 rfl) ?_
        obtain ⟨g8, h⟩ := v_ifs h
        obtain ⟨z9, ez9, h⟩ := v_bnd h
        refine v_call1 (v := .int z9) (M1 := z5.2) (mc := 0) (ms := 0) (fun H locs hR hS => va_runV (As := [.int x1, .int x2]) (rest := []) ⟨hx, hb, hml, hown, hts⟩ (mX10_of l hfl D x0 x1 x2 z5.2 z9 ez9) (cwV 2 hts (gdV kw1497 kw1499 kw44 kw85 kw1500) rfl rfl rfl (by decide +kernel) ⟨Nat.le_of_ble_eq_true rfl, Nat.le_of_ble_eq_true rfl⟩) (v_preV (ci := 11) hSS hR hS g8 (by decide) rfl [.int x1, .int x2]) rfl rfl hl.1 rfl (lv_room (Nat.le_of_ble_eq_true rfl)) dX10_set_48 ⟨Nat.zero_le _, Nat.zero_le _⟩) ?_
        obtain rfl := Option.some.inj h
        rw [hQ]
        exact v_iret hx hb hr hlk dX10_set_51
    · rw [if_neg c6] at h
      refine w_iconst (v := 0) hx hb dX10_set_30 (by decide) ?_
      obtain rfl := Option.some.inj h
      rw [hQ]
      exact v_iret hx hb hr hlk dX10_set_31
  refine w_aload_n hx hb dX10_set_0 rfl (lv_at hl 0 rfl) ?_
  refine w_iload_n hx hb dX10_set_1 rfl (lv_at hl 1 rfl) ?_
  obtain ⟨g8, h⟩ := v_ifs h
  obtain ⟨z1, ez1, h⟩ := v_bnd h
  refine v_call1 (v := .int z1.1) (M1 := z1.2) (mc := 0) (ms := 0) (fun H locs hR hS => va_runV (As := [.int x1]) (rest := []) ⟨hx, hb, hml, hown, hts⟩ (mX10_noSet l hfl D x0 x1 M z1 ez1) (cwV 1 hts (gdV kw1602 kw1604 kw64 kw85 kw1605) rfl rfl rfl (by decide +kernel) ⟨Nat.le_of_ble_eq_true rfl, Nat.le_of_ble_eq_true rfl⟩) (v_preV (ci := 11) hSS hR hS g8 (by decide) rfl [.int x1]) rfl rfl hl.1 rfl (lv_room (Nat.le_of_ble_eq_true rfl)) dX10_set_2 ⟨Nat.zero_le _, Nat.zero_le _⟩) ?_
  refine w_if_ne (tgt := 30) hx hb dX10_set_5 (by decide) (fun c2 => ?_) (fun c2 => ?_)
  · rw [if_pos c2] at h
    refine w_aload_n hx hb dX10_set_8 rfl (lv_at hl 0 rfl) ?_
    refine w_iload_n hx hb dX10_set_9 rfl (lv_at hl 2 rfl) ?_
    refine w_iconst (v := 0) hx hb dX10_set_10 (by decide) ?_
    refine w_iconst (v := 4) hx hb dX10_set_11 (by decide) ?_
    obtain ⟨z3, ez3, h⟩ := v_bnd h
    refine v_call1 (v := .int z3) (M1 := z1.2) (mc := 0) (ms := 0) (fun H locs hR hS => va_runS (As := [.int x2, .int 0, .int 4]) (rest := [.ref x0]) ⟨hx, hb, hml, hown, hts⟩ (mX10_within l hfl D x2 0 4 z1.2 z3 ez3) (va_cwS 3 hts (gdS kw1419 kw1420 kw85 kw1421) rfl rfl rfl (by decide +kernel) ⟨Nat.le_of_ble_eq_true rfl, Nat.le_of_ble_eq_true rfl⟩) (v_preS hSS hR hS [.int x2, .int 0, .int 4]) rfl rfl hl.1 rfl (lv_room (Nat.le_of_ble_eq_true rfl)) dX10_set_12 ⟨Nat.zero_le _, Nat.zero_le _⟩) ?_
    refine w_if_ne (tgt := 22) hx hb dX10_set_15 (by decide) (fun c4 => ?_) (fun c4 => ?_)
    · rw [if_pos c4] at h
      refine w_iconst (v := 1) hx hb dX10_set_18 (by decide) ?_
      refine w_goto (tgt := 23) hx hb dX10_set_19 (by decide) ?_
      exact X10_set_J23p x0 x1 x2 x0 1 z1.2 ls (lv_sub hl [0, 1, 2] rfl) h
    · rw [if_neg c4] at h
      refine w_iconst (v := 0) hx hb dX10_set_22 (by decide) ?_
      exact X10_set_J23p x0 x1 x2 x0 0 z1.2 ls (lv_sub hl [0, 1, 2] rfl) h
  · rw [if_neg c2] at h
    refine w_iconst (v := 0) hx hb dX10_set_30 (by decide) ?_
    obtain rfl := Option.some.inj h
    rw [hQ]
    exact v_iret hx hb hr hlk dX10_set_31

def tX10_isInside (x0 : Nat) (x1 : Int32) (M : vMe) : Option Int32 :=
  (gA M x0 12 1).bind fun a1 =>
  (aI M a1 101 1).bind fun v2 =>
  (tX10_within x1 0 (v2 - 1) M).bind fun z3 =>
  if fits .boolean (.int z3) = true then some z3 else none
def rmX10_isInside : Room := { frames := 2, cells := 0, slots := 0, locals := 22 }
set_option maxHeartbeats 4000000 in
set_option maxRecDepth 100000 in
theorem mX10_isInside (l : Launch) (hfl : l.stackTraces = false) (D : vD) (x0 : Nat) (x1 : Int32) (M : vMe) (z : Int32) (h : tX10_isInside x0 x1 M = some z) : Met l yX10_isInside (Cond.code yX10_isInside cX10_isInside 2 (some .boolean) :: TB) rmX10_isInside (va_Pc [.ref x0, .int x1] (vPre D M)) (qW D (some (.int z)) M) 0 0 (vA D) := by
  refine v_ofW (cc := cX10_isInside) (maxL := 2) (ret := (some .boolean)) (by decide) (Nat.le_of_ble_eq_true rfl) ?_
  intro p e s m args below meth c Q hx hb hr hml hown hts hlk hnm hSS hR0 hQ ls hl
  have hK := hSS.1
  have hl : lv_has ls 2 [(0, .ref x0), (1, .int x1)] := hl
  unfold tX10_isInside at h
  refine w_iload_n hx hb dX10_isInside_0 rfl (lv_at hl 1 rfl) ?_
  refine w_iconst (v := 0) hx hb dX10_isInside_1 (by decide) ?_
  refine w_aload_n hx hb dX10_isInside_2 rfl (lv_at hl 0 rfl) ?_
  obtain ⟨a1, ea1, h⟩ := v_bnd h
  refine v_gA (ci := 11) hx hb hts iwX10 hown hK 1 ea1 rfl (by decide) (Or.inl (hts _ kw1336)) (fun _ h9 => h9) dX10_isInside_3 ?_
  refine w_iconst (v := 1) hx hb dX10_isInside_6 (by decide) ?_
  obtain ⟨v2, ev2, h⟩ := v_bnd h
  refine v_iald hx hb hK ev2 dX10_isInside_7 ?_
  refine w_iconst (v := 1) hx hb dX10_isInside_8 (by decide) ?_
  refine w_isub hx hb dX10_isInside_9 ?_
  obtain ⟨z3, ez3, h⟩ := v_bnd h
  refine v_call1 (v := .int z3) (M1 := M) (mc := 0) (ms := 0) (fun H locs hR hS => va_runS (As := [.int x1, .int 0, .int (v2 - 1)]) (rest := []) ⟨hx, hb, hml, hown, hts⟩ (mX10_within l hfl D x1 0 (v2 - 1) M z3 ez3) (va_cwS 3 hts (gdS kw1419 kw1420 kw85 kw1421) rfl rfl rfl (by decide +kernel) ⟨Nat.le_of_ble_eq_true rfl, Nat.le_of_ble_eq_true rfl⟩) (v_preS hSS hR hS [.int x1, .int 0, .int (v2 - 1)]) rfl rfl hl.1 rfl (lv_room (Nat.le_of_ble_eq_true rfl)) dX10_isInside_10 ⟨Nat.zero_le _, Nat.zero_le _⟩) ?_
  obtain ⟨g6, h⟩ := v_ifs h
  obtain rfl := Option.some.inj h
  rw [hQ]
  exact v_zret hx hb hr hlk (v_narZ g6) dX10_isInside_13

def tX10_cell_J44 (x2 : Int32) (y0 : Nat) (y1 : Int32) (y2 : Int32) (Mj : vMe) : Option (Int32 × vMe) :=
  if (Mj.1 y0).1 = 12 then
  ((tX10_of y0 y1 (y2 + x2) Mj).bind fun z8 =>
  some (z8, Mj))
else none
def tX10_cell_J22 (x0 : Nat) (x1 : Int32) (x2 : Int32) (x3 : Int32) (y0 : Nat) (y1 : Int32) (Mj : vMe) : Option (Int32 × vMe) :=
  if (Mj.1 y0).1 = 12 then
  ((tX10_throwsIf y0 y1 2 Mj).bind fun z5 =>
  if z5.1 = 0 then
  (if x3 = 0 then
  (tX10_cell_J44 x2 x0 x1 6 z5.2)
else
  (tX10_cell_J44 x2 x0 x1 70 z5.2))
else
  (some (0, z5.2)))
else none
def tX10_cell (x0 : Nat) (x1 : Int32) (x2 : Int32) (x3 : Int32) (M : vMe) : Option (Int32 × vMe) :=
  if (M.1 x0).1 = 12 then
  ((tX10_noSet x0 x1 M).bind fun z1 =>
  if z1.1 = 0 then
  (if (z1.2.1 x0).1 = 12 then
  ((tX10_isInside x0 x2 z1.2).bind fun z3 =>
  if z3 = 0 then
  (tX10_cell_J22 x0 x1 x2 x3 x0 1 z1.2)
else
  (tX10_cell_J22 x0 x1 x2 x3 x0 0 z1.2))
else none)
else
  (some (0, z1.2)))
else none
def rmX10_cell : Room := { frames := 4, cells := 0, slots := 0, locals := 65 }
set_option maxHeartbeats 4000000 in
set_option maxRecDepth 100000 in
theorem mX10_cell (l : Launch) (hfl : l.stackTraces = false) (D : vD) (x0 : Nat) (x1 : Int32) (x2 : Int32) (x3 : Int32) (M : vMe) (z : (Int32 × vMe)) (h : tX10_cell x0 x1 x2 x3 M = some z) : Met l yX10_cell (Cond.code yX10_cell cX10_cell 4 (some .int) :: TB) rmX10_cell (va_Pc [.ref x0, .int x1, .int x2, .int x3] (vPre D M)) (qW D (some (.int z.1)) z.2) 0 0 (vA D) := by
  refine v_ofW (cc := cX10_cell) (maxL := 4) (ret := (some .int)) (by decide) (Nat.le_of_ble_eq_true rfl) ?_
  intro p e s m args below meth c Q hx hb hr hml hown hts hlk hnm hSS hR0 hQ ls hl
  have hK := hSS.1
  have hl : lv_has ls 4 [(0, .ref x0), (1, .int x1), (2, .int x2), (3, .int x3)] := hl
  unfold tX10_cell at h
  have X10_cell_J44p : ∀ (x2 : Int32) (y0 : Nat) (y1 : Int32) (y2 : Int32) (Mj : vMe) (ls : Array Slot), lv_has ls 4 [(2, .int x2)] → tX10_cell_J44 x2 y0 y1 y2 Mj = some z → vV D p l e rmX10_cell s m args below meth c 0 0 Q Mj (F0 m 44 ls [.int y2, .int y1, .ref y0]) := by
    intro x2 y0 y1 y2 Mj ls hl h
    unfold tX10_cell_J44 at h
    refine w_iload_n hx hb dX10_cell_44 rfl (lv_at hl 0 rfl) ?_
    refine w_iadd hx hb dX10_cell_45 ?_
    obtain ⟨g8, h⟩ := v_ifs h
    obtain ⟨z8, ez8, h⟩ := v_bnd h
    refine v_call1 (v := .int z8) (M1 := Mj) (mc := 0) (ms := 0) (fun H locs hR hS => va_runV (As := [.int y1, .int (y2 + x2)]) (rest := []) ⟨hx, hb, hml, hown, hts⟩ (mX10_of l hfl D y0 y1 (y2 + x2) Mj z8 ez8) (cwV 2 hts (gdV kw1497 kw1499 kw44 kw85 kw1500) rfl rfl rfl (by decide +kernel) ⟨Nat.le_of_ble_eq_true rfl, Nat.le_of_ble_eq_true rfl⟩) (v_preV (ci := 11) hSS hR hS g8 (by decide) rfl [.int y1, .int (y2 + x2)]) rfl rfl hl.1 rfl (lv_room (Nat.le_of_ble_eq_true rfl)) dX10_cell_46 ⟨Nat.zero_le _, Nat.zero_le _⟩) ?_
    obtain rfl := Option.some.inj h
    rw [hQ]
    exact v_iret hx hb hr hlk dX10_cell_49
  have X10_cell_J22p : ∀ (x0 : Nat) (x1 : Int32) (x2 : Int32) (x3 : Int32) (y0 : Nat) (y1 : Int32) (Mj : vMe) (ls : Array Slot), lv_has ls 4 [(0, .ref x0), (1, .int x1), (2, .int x2), (3, .int x3)] → tX10_cell_J22 x0 x1 x2 x3 y0 y1 Mj = some z → vV D p l e rmX10_cell s m args below meth c 0 0 Q Mj (F0 m 22 ls [.int y1, .ref y0]) := by
    intro x0 x1 x2 x3 y0 y1 Mj ls hl h
    unfold tX10_cell_J22 at h
    refine w_iconst (v := 2) hx hb dX10_cell_22 (by decide) ?_
    obtain ⟨g8, h⟩ := v_ifs h
    obtain ⟨z5, ez5, h⟩ := v_bnd h
    refine v_call1 (v := .int z5.1) (M1 := z5.2) (mc := 0) (ms := 0) (fun H locs hR hS => va_runV (As := [.int y1, .int 2]) (rest := []) ⟨hx, hb, hml, hown, hts⟩ (mX10_throwsIf l hfl D y0 y1 2 Mj z5 ez5) (cwV 2 hts (gdV kw1422 kw1424 kw28 kw85 kw1425) rfl rfl rfl (by decide +kernel) ⟨Nat.le_of_ble_eq_true rfl, Nat.le_of_ble_eq_true rfl⟩) (v_preV (ci := 11) hSS hR hS g8 (by decide) rfl [.int y1, .int 2]) rfl rfl hl.1 rfl (lv_room (Nat.le_of_ble_eq_true rfl)) dX10_cell_23 ⟨Nat.zero_le _, Nat.zero_le _⟩) ?_
    refine w_if_eq (tgt := 31) hx hb dX10_cell_26 (by decide) (fun c6 => ?_) (fun c6 => ?_)
    · rw [if_pos c6] at h
      refine w_aload_n hx hb dX10_cell_31 rfl (lv_at hl 0 rfl) ?_
      refine w_iload_n hx hb dX10_cell_32 rfl (lv_at hl 1 rfl) ?_
      refine w_iload_n hx hb dX10_cell_33 rfl (lv_at hl 3 rfl) ?_
      refine w_if_eq (tgt := 42) hx hb dX10_cell_34 (by decide) (fun c7 => ?_) (fun c7 => ?_)
      · rw [if_pos c7] at h
        refine w_bipush (v := 6) hx hb dX10_cell_42 (by decide) ?_
        exact X10_cell_J44p x2 x0 x1 6 z5.2 ls (lv_sub hl [2] rfl) h
      · rw [if_neg c7] at h
        refine w_bipush (v := 70) hx hb dX10_cell_37 (by decide) ?_
        refine w_goto (tgt := 44) hx hb dX10_cell_39 (by decide) ?_
        exact X10_cell_J44p x2 x0 x1 70 z5.2 ls (lv_sub hl [2] rfl) h
    · rw [if_neg c6] at h
      refine w_iconst (v := 0) hx hb dX10_cell_29 (by decide) ?_
      obtain rfl := Option.some.inj h
      rw [hQ]
      exact v_iret hx hb hr hlk dX10_cell_30
  refine w_aload_n hx hb dX10_cell_0 rfl (lv_at hl 0 rfl) ?_
  refine w_iload_n hx hb dX10_cell_1 rfl (lv_at hl 1 rfl) ?_
  obtain ⟨g8, h⟩ := v_ifs h
  obtain ⟨z1, ez1, h⟩ := v_bnd h
  refine v_call1 (v := .int z1.1) (M1 := z1.2) (mc := 0) (ms := 0) (fun H locs hR hS => va_runV (As := [.int x1]) (rest := []) ⟨hx, hb, hml, hown, hts⟩ (mX10_noSet l hfl D x0 x1 M z1 ez1) (cwV 1 hts (gdV kw1602 kw1604 kw64 kw85 kw1605) rfl rfl rfl (by decide +kernel) ⟨Nat.le_of_ble_eq_true rfl, Nat.le_of_ble_eq_true rfl⟩) (v_preV (ci := 11) hSS hR hS g8 (by decide) rfl [.int x1]) rfl rfl hl.1 rfl (lv_room (Nat.le_of_ble_eq_true rfl)) dX10_cell_2 ⟨Nat.zero_le _, Nat.zero_le _⟩) ?_
  refine w_if_ne (tgt := 29) hx hb dX10_cell_5 (by decide) (fun c2 => ?_) (fun c2 => ?_)
  · rw [if_pos c2] at h
    refine w_aload_n hx hb dX10_cell_8 rfl (lv_at hl 0 rfl) ?_
    refine w_aload_n hx hb dX10_cell_9 rfl (lv_at hl 0 rfl) ?_
    refine w_iload_n hx hb dX10_cell_10 rfl (lv_at hl 2 rfl) ?_
    obtain ⟨g8, h⟩ := v_ifs h
    obtain ⟨z3, ez3, h⟩ := v_bnd h
    refine v_call1 (v := .int z3) (M1 := z1.2) (mc := 0) (ms := 0) (fun H locs hR hS => va_runV (As := [.int x2]) (rest := [.ref x0]) ⟨hx, hb, hml, hown, hts⟩ (mX10_isInside l hfl D x0 x2 z1.2 z3 ez3) (cwV 1 hts (gdV kw1618 kw1620 kw67 kw85 kw1621) rfl rfl rfl (by decide +kernel) ⟨Nat.le_of_ble_eq_true rfl, Nat.le_of_ble_eq_true rfl⟩) (v_preV (ci := 11) hSS hR hS g8 (by decide) rfl [.int x2]) rfl rfl hl.1 rfl (lv_room (Nat.le_of_ble_eq_true rfl)) dX10_cell_11 ⟨Nat.zero_le _, Nat.zero_le _⟩) ?_
    refine w_if_ne (tgt := 21) hx hb dX10_cell_14 (by decide) (fun c4 => ?_) (fun c4 => ?_)
    · rw [if_pos c4] at h
      refine w_iconst (v := 1) hx hb dX10_cell_17 (by decide) ?_
      refine w_goto (tgt := 22) hx hb dX10_cell_18 (by decide) ?_
      exact X10_cell_J22p x0 x1 x2 x3 x0 1 z1.2 ls (lv_sub hl [0, 1, 2, 3] rfl) h
    · rw [if_neg c4] at h
      refine w_iconst (v := 0) hx hb dX10_cell_21 (by decide) ?_
      exact X10_cell_J22p x0 x1 x2 x3 x0 0 z1.2 ls (lv_sub hl [0, 1, 2, 3] rfl) h
  · rw [if_neg c2] at h
    refine w_iconst (v := 0) hx hb dX10_cell_29 (by decide) ?_
    obtain rfl := Option.some.inj h
    rw [hQ]
    exact v_iret hx hb hr hlk dX10_cell_30

def tX10_place (x0 : Nat) (x1 : Int32) (x2 : Int32) (M : vMe) : Option (Int32 × vMe) :=
  if (M.1 x0).1 = 12 then
  ((tX10_noSet x0 x1 M).bind fun z1 =>
  if z1.1 = 0 then
  (if (z1.2.1 x0).1 = 12 then
  ((tX10_isInside x0 x2 z1.2).bind fun z3 =>
  if z3 = 0 then
  (some ((-1), z1.2))
else
  (if (z1.2.1 x0).1 = 12 then
  ((tX10_isMember x0 x1 x2 z1.2).bind fun z5 =>
  if z5 = 0 then
  (some ((-1), z1.2))
else
  (if (z1.2.1 x0).1 = 12 then
  ((tX10_of x0 x1 (70 + x2) z1.2).bind fun z7 =>
  some (z7, z1.2))
else none))
else none))
else none)
else
  (some (0, z1.2)))
else none
def rmX10_place : Room := { frames := 4, cells := 0, slots := 0, locals := 65 }
set_option maxHeartbeats 4000000 in
set_option maxRecDepth 100000 in
theorem mX10_place (l : Launch) (hfl : l.stackTraces = false) (D : vD) (x0 : Nat) (x1 : Int32) (x2 : Int32) (M : vMe) (z : (Int32 × vMe)) (h : tX10_place x0 x1 x2 M = some z) : Met l yX10_place (Cond.code yX10_place cX10_place 3 (some .int) :: TB) rmX10_place (va_Pc [.ref x0, .int x1, .int x2] (vPre D M)) (qW D (some (.int z.1)) z.2) 0 0 (vA D) := by
  refine v_ofW (cc := cX10_place) (maxL := 3) (ret := (some .int)) (by decide) (Nat.le_of_ble_eq_true rfl) ?_
  intro p e s m args below meth c Q hx hb hr hml hown hts hlk hnm hSS hR0 hQ ls hl
  have hK := hSS.1
  have hl : lv_has ls 3 [(0, .ref x0), (1, .int x1), (2, .int x2)] := hl
  unfold tX10_place at h
  refine w_aload_n hx hb dX10_place_0 rfl (lv_at hl 0 rfl) ?_
  refine w_iload_n hx hb dX10_place_1 rfl (lv_at hl 1 rfl) ?_
  obtain ⟨g8, h⟩ := v_ifs h
  obtain ⟨z1, ez1, h⟩ := v_bnd h
  refine v_call1 (v := .int z1.1) (M1 := z1.2) (mc := 0) (ms := 0) (fun H locs hR hS => va_runV (As := [.int x1]) (rest := []) ⟨hx, hb, hml, hown, hts⟩ (mX10_noSet l hfl D x0 x1 M z1 ez1) (cwV 1 hts (gdV kw1602 kw1604 kw64 kw85 kw1605) rfl rfl rfl (by decide +kernel) ⟨Nat.le_of_ble_eq_true rfl, Nat.le_of_ble_eq_true rfl⟩) (v_preV (ci := 11) hSS hR hS g8 (by decide) rfl [.int x1]) rfl rfl hl.1 rfl (lv_room (Nat.le_of_ble_eq_true rfl)) dX10_place_2 ⟨Nat.zero_le _, Nat.zero_le _⟩) ?_
  refine w_if_eq (tgt := 12) hx hb dX10_place_5 (by decide) (fun c2 => ?_) (fun c2 => ?_)
  · rw [if_pos c2] at h
    refine w_aload_n hx hb dX10_place_12 rfl (lv_at hl 0 rfl) ?_
    refine w_iload_n hx hb dX10_place_13 rfl (lv_at hl 2 rfl) ?_
    obtain ⟨g8, h⟩ := v_ifs h
    obtain ⟨z3, ez3, h⟩ := v_bnd h
    refine v_call1 (v := .int z3) (M1 := z1.2) (mc := 0) (ms := 0) (fun H locs hR hS => va_runV (As := [.int x2]) (rest := []) ⟨hx, hb, hml, hown, hts⟩ (mX10_isInside l hfl D x0 x2 z1.2 z3 ez3) (cwV 1 hts (gdV kw1618 kw1620 kw67 kw85 kw1621) rfl rfl rfl (by decide +kernel) ⟨Nat.le_of_ble_eq_true rfl, Nat.le_of_ble_eq_true rfl⟩) (v_preV (ci := 11) hSS hR hS g8 (by decide) rfl [.int x2]) rfl rfl hl.1 rfl (lv_room (Nat.le_of_ble_eq_true rfl)) dX10_place_14 ⟨Nat.zero_le _, Nat.zero_le _⟩) ?_
    refine w_if_eq (tgt := 41) hx hb dX10_place_17 (by decide) (fun c4 => ?_) (fun c4 => ?_)
    · rw [if_pos c4] at h
      refine w_iconst (v := (-1)) hx hb dX10_place_41 (by decide) ?_
      obtain rfl := Option.some.inj h
      rw [hQ]
      exact v_iret hx hb hr hlk dX10_place_42
    · rw [if_neg c4] at h
      refine w_aload_n hx hb dX10_place_20 rfl (lv_at hl 0 rfl) ?_
      refine w_iload_n hx hb dX10_place_21 rfl (lv_at hl 1 rfl) ?_
      refine w_iload_n hx hb dX10_place_22 rfl (lv_at hl 2 rfl) ?_
      obtain ⟨g8, h⟩ := v_ifs h
      obtain ⟨z5, ez5, h⟩ := v_bnd h
      refine v_call1 (v := .int z5) (M1 := z1.2) (mc := 0) (ms := 0) (fun H locs hR hS => va_runV (As := [.int x1, .int x2]) (rest := []) ⟨hx, hb, hml, hown, hts⟩ (mX10_isMember l hfl D x0 x1 x2 z1.2 z5 ez5) (cwV 2 hts (gdV kw1493 kw1495 kw43 kw85 kw1496) rfl rfl rfl (by decide +kernel) ⟨Nat.le_of_ble_eq_true rfl, Nat.le_of_ble_eq_true rfl⟩) (v_preV (ci := 11) hSS hR hS g8 (by decide) rfl [.int x1, .int x2]) rfl rfl hl.1 rfl (lv_room (Nat.le_of_ble_eq_true rfl)) dX10_place_23 ⟨Nat.zero_le _, Nat.zero_le _⟩) ?_
      refine w_if_eq (tgt := 41) hx hb dX10_place_26 (by decide) (fun c6 => ?_) (fun c6 => ?_)
      · rw [if_pos c6] at h
        refine w_iconst (v := (-1)) hx hb dX10_place_41 (by decide) ?_
        obtain rfl := Option.some.inj h
        rw [hQ]
        exact v_iret hx hb hr hlk dX10_place_42
      · rw [if_neg c6] at h
        refine w_aload_n hx hb dX10_place_29 rfl (lv_at hl 0 rfl) ?_
        refine w_iload_n hx hb dX10_place_30 rfl (lv_at hl 1 rfl) ?_
        refine w_bipush (v := 70) hx hb dX10_place_31 (by decide) ?_
        refine w_iload_n hx hb dX10_place_33 rfl (lv_at hl 2 rfl) ?_
        refine w_iadd hx hb dX10_place_34 ?_
        obtain ⟨g8, h⟩ := v_ifs h
        obtain ⟨z7, ez7, h⟩ := v_bnd h
        refine v_call1 (v := .int z7) (M1 := z1.2) (mc := 0) (ms := 0) (fun H locs hR hS => va_runV (As := [.int x1, .int (70 + x2)]) (rest := []) ⟨hx, hb, hml, hown, hts⟩ (mX10_of l hfl D x0 x1 (70 + x2) z1.2 z7 ez7) (cwV 2 hts (gdV kw1497 kw1499 kw44 kw85 kw1500) rfl rfl rfl (by decide +kernel) ⟨Nat.le_of_ble_eq_true rfl, Nat.le_of_ble_eq_true rfl⟩) (v_preV (ci := 11) hSS hR hS g8 (by decide) rfl [.int x1, .int (70 + x2)]) rfl rfl hl.1 rfl (lv_room (Nat.le_of_ble_eq_true rfl)) dX10_place_35 ⟨Nat.zero_le _, Nat.zero_le _⟩) ?_
        refine w_goto (tgt := 42) hx hb dX10_place_38 (by decide) ?_
        obtain rfl := Option.some.inj h
        rw [hQ]
        exact v_iret hx hb hr hlk dX10_place_42
  · rw [if_neg c2] at h
    refine w_iconst (v := 0) hx hb dX10_place_8 (by decide) ?_
    refine w_goto (tgt := 42) hx hb dX10_place_9 (by decide) ?_
    obtain rfl := Option.some.inj h
    rw [hQ]
    exact v_iret hx hb hr hlk dX10_place_42

def tX10_stampOf (x0 : Nat) (x1 : Int32) (x2 : Int32) (M : vMe) : Option (Int32 × vMe) :=
  if (M.1 x0).1 = 12 then
  ((tX10_noSet x0 x1 M).bind fun z1 =>
  if z1.1 = 0 then
  (if (z1.2.1 x0).1 = 12 then
  ((tX10_isInside x0 x2 z1.2).bind fun z3 =>
  if z3 = 0 then
  (some ((-1), z1.2))
else
  (if (z1.2.1 x0).1 = 12 then
  ((tX10_isMember x0 x1 x2 z1.2).bind fun z5 =>
  if z5 = 0 then
  (some ((-1), z1.2))
else
  (if (z1.2.1 x0).1 = 12 then
  ((tX10_of x0 x1 (134 + x2) z1.2).bind fun z7 =>
  some (z7, z1.2))
else none))
else none))
else none)
else
  (some (0, z1.2)))
else none
def rmX10_stampOf : Room := { frames := 4, cells := 0, slots := 0, locals := 65 }
set_option maxHeartbeats 4000000 in
set_option maxRecDepth 100000 in
theorem mX10_stampOf (l : Launch) (hfl : l.stackTraces = false) (D : vD) (x0 : Nat) (x1 : Int32) (x2 : Int32) (M : vMe) (z : (Int32 × vMe)) (h : tX10_stampOf x0 x1 x2 M = some z) : Met l yX10_stampOf (Cond.code yX10_stampOf cX10_stampOf 3 (some .int) :: TB) rmX10_stampOf (va_Pc [.ref x0, .int x1, .int x2] (vPre D M)) (qW D (some (.int z.1)) z.2) 0 0 (vA D) := by
  refine v_ofW (cc := cX10_stampOf) (maxL := 3) (ret := (some .int)) (by decide) (Nat.le_of_ble_eq_true rfl) ?_
  intro p e s m args below meth c Q hx hb hr hml hown hts hlk hnm hSS hR0 hQ ls hl
  have hK := hSS.1
  have hl : lv_has ls 3 [(0, .ref x0), (1, .int x1), (2, .int x2)] := hl
  unfold tX10_stampOf at h
  refine w_aload_n hx hb dX10_stampOf_0 rfl (lv_at hl 0 rfl) ?_
  refine w_iload_n hx hb dX10_stampOf_1 rfl (lv_at hl 1 rfl) ?_
  obtain ⟨g8, h⟩ := v_ifs h
  obtain ⟨z1, ez1, h⟩ := v_bnd h
  refine v_call1 (v := .int z1.1) (M1 := z1.2) (mc := 0) (ms := 0) (fun H locs hR hS => va_runV (As := [.int x1]) (rest := []) ⟨hx, hb, hml, hown, hts⟩ (mX10_noSet l hfl D x0 x1 M z1 ez1) (cwV 1 hts (gdV kw1602 kw1604 kw64 kw85 kw1605) rfl rfl rfl (by decide +kernel) ⟨Nat.le_of_ble_eq_true rfl, Nat.le_of_ble_eq_true rfl⟩) (v_preV (ci := 11) hSS hR hS g8 (by decide) rfl [.int x1]) rfl rfl hl.1 rfl (lv_room (Nat.le_of_ble_eq_true rfl)) dX10_stampOf_2 ⟨Nat.zero_le _, Nat.zero_le _⟩) ?_
  refine w_if_eq (tgt := 12) hx hb dX10_stampOf_5 (by decide) (fun c2 => ?_) (fun c2 => ?_)
  · rw [if_pos c2] at h
    refine w_aload_n hx hb dX10_stampOf_12 rfl (lv_at hl 0 rfl) ?_
    refine w_iload_n hx hb dX10_stampOf_13 rfl (lv_at hl 2 rfl) ?_
    obtain ⟨g8, h⟩ := v_ifs h
    obtain ⟨z3, ez3, h⟩ := v_bnd h
    refine v_call1 (v := .int z3) (M1 := z1.2) (mc := 0) (ms := 0) (fun H locs hR hS => va_runV (As := [.int x2]) (rest := []) ⟨hx, hb, hml, hown, hts⟩ (mX10_isInside l hfl D x0 x2 z1.2 z3 ez3) (cwV 1 hts (gdV kw1618 kw1620 kw67 kw85 kw1621) rfl rfl rfl (by decide +kernel) ⟨Nat.le_of_ble_eq_true rfl, Nat.le_of_ble_eq_true rfl⟩) (v_preV (ci := 11) hSS hR hS g8 (by decide) rfl [.int x2]) rfl rfl hl.1 rfl (lv_room (Nat.le_of_ble_eq_true rfl)) dX10_stampOf_14 ⟨Nat.zero_le _, Nat.zero_le _⟩) ?_
    refine w_if_eq (tgt := 42) hx hb dX10_stampOf_17 (by decide) (fun c4 => ?_) (fun c4 => ?_)
    · rw [if_pos c4] at h
      refine w_iconst (v := (-1)) hx hb dX10_stampOf_42 (by decide) ?_
      obtain rfl := Option.some.inj h
      rw [hQ]
      exact v_iret hx hb hr hlk dX10_stampOf_43
    · rw [if_neg c4] at h
      refine w_aload_n hx hb dX10_stampOf_20 rfl (lv_at hl 0 rfl) ?_
      refine w_iload_n hx hb dX10_stampOf_21 rfl (lv_at hl 1 rfl) ?_
      refine w_iload_n hx hb dX10_stampOf_22 rfl (lv_at hl 2 rfl) ?_
      obtain ⟨g8, h⟩ := v_ifs h
      obtain ⟨z5, ez5, h⟩ := v_bnd h
      refine v_call1 (v := .int z5) (M1 := z1.2) (mc := 0) (ms := 0) (fun H locs hR hS => va_runV (As := [.int x1, .int x2]) (rest := []) ⟨hx, hb, hml, hown, hts⟩ (mX10_isMember l hfl D x0 x1 x2 z1.2 z5 ez5) (cwV 2 hts (gdV kw1493 kw1495 kw43 kw85 kw1496) rfl rfl rfl (by decide +kernel) ⟨Nat.le_of_ble_eq_true rfl, Nat.le_of_ble_eq_true rfl⟩) (v_preV (ci := 11) hSS hR hS g8 (by decide) rfl [.int x1, .int x2]) rfl rfl hl.1 rfl (lv_room (Nat.le_of_ble_eq_true rfl)) dX10_stampOf_23 ⟨Nat.zero_le _, Nat.zero_le _⟩) ?_
      refine w_if_eq (tgt := 42) hx hb dX10_stampOf_26 (by decide) (fun c6 => ?_) (fun c6 => ?_)
      · rw [if_pos c6] at h
        refine w_iconst (v := (-1)) hx hb dX10_stampOf_42 (by decide) ?_
        obtain rfl := Option.some.inj h
        rw [hQ]
        exact v_iret hx hb hr hlk dX10_stampOf_43
      · rw [if_neg c6] at h
        refine w_aload_n hx hb dX10_stampOf_29 rfl (lv_at hl 0 rfl) ?_
        refine w_iload_n hx hb dX10_stampOf_30 rfl (lv_at hl 1 rfl) ?_
        refine w_sipush (v := 134) hx hb dX10_stampOf_31 (by decide) ?_
        refine w_iload_n hx hb dX10_stampOf_34 rfl (lv_at hl 2 rfl) ?_
        refine w_iadd hx hb dX10_stampOf_35 ?_
        obtain ⟨g8, h⟩ := v_ifs h
        obtain ⟨z7, ez7, h⟩ := v_bnd h
        refine v_call1 (v := .int z7) (M1 := z1.2) (mc := 0) (ms := 0) (fun H locs hR hS => va_runV (As := [.int x1, .int (134 + x2)]) (rest := []) ⟨hx, hb, hml, hown, hts⟩ (mX10_of l hfl D x0 x1 (134 + x2) z1.2 z7 ez7) (cwV 2 hts (gdV kw1497 kw1499 kw44 kw85 kw1500) rfl rfl rfl (by decide +kernel) ⟨Nat.le_of_ble_eq_true rfl, Nat.le_of_ble_eq_true rfl⟩) (v_preV (ci := 11) hSS hR hS g8 (by decide) rfl [.int x1, .int (134 + x2)]) rfl rfl hl.1 rfl (lv_room (Nat.le_of_ble_eq_true rfl)) dX10_stampOf_36 ⟨Nat.zero_le _, Nat.zero_le _⟩) ?_
        refine w_goto (tgt := 43) hx hb dX10_stampOf_39 (by decide) ?_
        obtain rfl := Option.some.inj h
        rw [hQ]
        exact v_iret hx hb hr hlk dX10_stampOf_43
  · rw [if_neg c2] at h
    refine w_iconst (v := 0) hx hb dX10_stampOf_8 (by decide) ?_
    refine w_goto (tgt := 43) hx hb dX10_stampOf_9 (by decide) ?_
    obtain rfl := Option.some.inj h
    rw [hQ]
    exact v_iret hx hb hr hlk dX10_stampOf_43

def tX10_event_J23 (x0 : Nat) (x1 : Int32) (x2 : Int32) (x3 : Int32) (y0 : Nat) (y1 : Int32) (Mj : vMe) : Option (Int32 × vMe) :=
  if (Mj.1 y0).1 = 12 then
  ((tX10_throwsIf y0 y1 2 Mj).bind fun z5 =>
  if z5.1 = 0 then
  (if (z5.2.1 x0).1 = 12 then
  ((tX10_of x0 x1 3 z5.2).bind fun z7 =>
  (tX10_within x2 0 (z7 - 1) z5.2).bind fun z8 =>
  if z8 = 0 then
  (some ((-1), z5.2))
else
  (if (z5.2.1 x0).1 = 12 then
  ((tX10_ofEvent x0 x1 x2 x3 z5.2).bind fun z10 =>
  some (z10, z5.2))
else none))
else none)
else
  (some (0, z5.2)))
else none
def tX10_event (x0 : Nat) (x1 : Int32) (x2 : Int32) (x3 : Int32) (M : vMe) : Option (Int32 × vMe) :=
  if (M.1 x0).1 = 12 then
  ((tX10_noSet x0 x1 M).bind fun z1 =>
  if z1.1 = 0 then
  ((tX10_within x3 0 2 z1.2).bind fun z3 =>
  if z3 = 0 then
  (tX10_event_J23 x0 x1 x2 x3 x0 1 z1.2)
else
  (tX10_event_J23 x0 x1 x2 x3 x0 0 z1.2))
else
  (some (0, z1.2)))
else none
def rmX10_event : Room := { frames := 4, cells := 0, slots := 0, locals := 65 }
set_option maxHeartbeats 4000000 in
set_option maxRecDepth 100000 in
theorem mX10_event (l : Launch) (hfl : l.stackTraces = false) (D : vD) (x0 : Nat) (x1 : Int32) (x2 : Int32) (x3 : Int32) (M : vMe) (z : (Int32 × vMe)) (h : tX10_event x0 x1 x2 x3 M = some z) : Met l yX10_event (Cond.code yX10_event cX10_event 4 (some .int) :: TB) rmX10_event (va_Pc [.ref x0, .int x1, .int x2, .int x3] (vPre D M)) (qW D (some (.int z.1)) z.2) 0 0 (vA D) := by
  refine v_ofW (cc := cX10_event) (maxL := 4) (ret := (some .int)) (by decide) (Nat.le_of_ble_eq_true rfl) ?_
  intro p e s m args below meth c Q hx hb hr hml hown hts hlk hnm hSS hR0 hQ ls hl
  have hK := hSS.1
  have hl : lv_has ls 4 [(0, .ref x0), (1, .int x1), (2, .int x2), (3, .int x3)] := hl
  unfold tX10_event at h
  have X10_event_J23p : ∀ (x0 : Nat) (x1 : Int32) (x2 : Int32) (x3 : Int32) (y0 : Nat) (y1 : Int32) (Mj : vMe) (ls : Array Slot), lv_has ls 4 [(0, .ref x0), (1, .int x1), (2, .int x2), (3, .int x3)] → tX10_event_J23 x0 x1 x2 x3 y0 y1 Mj = some z → vV D p l e rmX10_event s m args below meth c 0 0 Q Mj (F0 m 23 ls [.int y1, .ref y0]) := by
    intro x0 x1 x2 x3 y0 y1 Mj ls hl h
    unfold tX10_event_J23 at h
    refine w_iconst (v := 2) hx hb dX10_event_23 (by decide) ?_
    obtain ⟨g8, h⟩ := v_ifs h
    obtain ⟨z5, ez5, h⟩ := v_bnd h
    refine v_call1 (v := .int z5.1) (M1 := z5.2) (mc := 0) (ms := 0) (fun H locs hR hS => va_runV (As := [.int y1, .int 2]) (rest := []) ⟨hx, hb, hml, hown, hts⟩ (mX10_throwsIf l hfl D y0 y1 2 Mj z5 ez5) (cwV 2 hts (gdV kw1422 kw1424 kw28 kw85 kw1425) rfl rfl rfl (by decide +kernel) ⟨Nat.le_of_ble_eq_true rfl, Nat.le_of_ble_eq_true rfl⟩) (v_preV (ci := 11) hSS hR hS g8 (by decide) rfl [.int y1, .int 2]) rfl rfl hl.1 rfl (lv_room (Nat.le_of_ble_eq_true rfl)) dX10_event_24 ⟨Nat.zero_le _, Nat.zero_le _⟩) ?_
    refine w_if_eq (tgt := 32) hx hb dX10_event_27 (by decide) (fun c6 => ?_) (fun c6 => ?_)
    · rw [if_pos c6] at h
      refine w_iload_n hx hb dX10_event_32 rfl (lv_at hl 2 rfl) ?_
      refine w_iconst (v := 0) hx hb dX10_event_33 (by decide) ?_
      refine w_aload_n hx hb dX10_event_34 rfl (lv_at hl 0 rfl) ?_
      refine w_iload_n hx hb dX10_event_35 rfl (lv_at hl 1 rfl) ?_
      refine w_iconst (v := 3) hx hb dX10_event_36 (by decide) ?_
      obtain ⟨g8, h⟩ := v_ifs h
      obtain ⟨z7, ez7, h⟩ := v_bnd h
      refine v_call1 (v := .int z7) (M1 := z5.2) (mc := 0) (ms := 0) (fun H locs hR hS => va_runV (As := [.int x1, .int 3]) (rest := [.int 0, .int x2]) ⟨hx, hb, hml, hown, hts⟩ (mX10_of l hfl D x0 x1 3 z5.2 z7 ez7) (cwV 2 hts (gdV kw1497 kw1499 kw44 kw85 kw1500) rfl rfl rfl (by decide +kernel) ⟨Nat.le_of_ble_eq_true rfl, Nat.le_of_ble_eq_true rfl⟩) (v_preV (ci := 11) hSS hR hS g8 (by decide) rfl [.int x1, .int 3]) rfl rfl hl.1 rfl (lv_room (Nat.le_of_ble_eq_true rfl)) dX10_event_37 ⟨Nat.zero_le _, Nat.zero_le _⟩) ?_
      refine w_iconst (v := 1) hx hb dX10_event_40 (by decide) ?_
      refine w_isub hx hb dX10_event_41 ?_
      obtain ⟨z8, ez8, h⟩ := v_bnd h
      refine v_call1 (v := .int z8) (M1 := z5.2) (mc := 0) (ms := 0) (fun H locs hR hS => va_runS (As := [.int x2, .int 0, .int (z7 - 1)]) (rest := []) ⟨hx, hb, hml, hown, hts⟩ (mX10_within l hfl D x2 0 (z7 - 1) z5.2 z8 ez8) (va_cwS 3 hts (gdS kw1419 kw1420 kw85 kw1421) rfl rfl rfl (by decide +kernel) ⟨Nat.le_of_ble_eq_true rfl, Nat.le_of_ble_eq_true rfl⟩) (v_preS hSS hR hS [.int x2, .int 0, .int (z7 - 1)]) rfl rfl hl.1 rfl (lv_room (Nat.le_of_ble_eq_true rfl)) dX10_event_42 ⟨Nat.zero_le _, Nat.zero_le _⟩) ?_
      refine w_if_eq (tgt := 58) hx hb dX10_event_45 (by decide) (fun c9 => ?_) (fun c9 => ?_)
      · rw [if_pos c9] at h
        refine w_iconst (v := (-1)) hx hb dX10_event_58 (by decide) ?_
        obtain rfl := Option.some.inj h
        rw [hQ]
        exact v_iret hx hb hr hlk dX10_event_59
      · rw [if_neg c9] at h
        refine w_aload_n hx hb dX10_event_48 rfl (lv_at hl 0 rfl) ?_
        refine w_iload_n hx hb dX10_event_49 rfl (lv_at hl 1 rfl) ?_
        refine w_iload_n hx hb dX10_event_50 rfl (lv_at hl 2 rfl) ?_
        refine w_iload_n hx hb dX10_event_51 rfl (lv_at hl 3 rfl) ?_
        obtain ⟨g8, h⟩ := v_ifs h
        obtain ⟨z10, ez10, h⟩ := v_bnd h
        refine v_call1 (v := .int z10) (M1 := z5.2) (mc := 0) (ms := 0) (fun H locs hR hS => va_runV (As := [.int x1, .int x2, .int x3]) (rest := []) ⟨hx, hb, hml, hown, hts⟩ (mX10_ofEvent l hfl D x0 x1 x2 x3 z5.2 z10 ez10) (cwV 3 hts (gdV kw1526 kw1528 kw51 kw85 kw1529) rfl rfl rfl (by decide +kernel) ⟨Nat.le_of_ble_eq_true rfl, Nat.le_of_ble_eq_true rfl⟩) (v_preV (ci := 11) hSS hR hS g8 (by decide) rfl [.int x1, .int x2, .int x3]) rfl rfl hl.1 rfl (lv_room (Nat.le_of_ble_eq_true rfl)) dX10_event_52 ⟨Nat.zero_le _, Nat.zero_le _⟩) ?_
        refine w_goto (tgt := 59) hx hb dX10_event_55 (by decide) ?_
        obtain rfl := Option.some.inj h
        rw [hQ]
        exact v_iret hx hb hr hlk dX10_event_59
    · rw [if_neg c6] at h
      refine w_iconst (v := 0) hx hb dX10_event_30 (by decide) ?_
      obtain rfl := Option.some.inj h
      rw [hQ]
      exact v_iret hx hb hr hlk dX10_event_31
  refine w_aload_n hx hb dX10_event_0 rfl (lv_at hl 0 rfl) ?_
  refine w_iload_n hx hb dX10_event_1 rfl (lv_at hl 1 rfl) ?_
  obtain ⟨g8, h⟩ := v_ifs h
  obtain ⟨z1, ez1, h⟩ := v_bnd h
  refine v_call1 (v := .int z1.1) (M1 := z1.2) (mc := 0) (ms := 0) (fun H locs hR hS => va_runV (As := [.int x1]) (rest := []) ⟨hx, hb, hml, hown, hts⟩ (mX10_noSet l hfl D x0 x1 M z1 ez1) (cwV 1 hts (gdV kw1602 kw1604 kw64 kw85 kw1605) rfl rfl rfl (by decide +kernel) ⟨Nat.le_of_ble_eq_true rfl, Nat.le_of_ble_eq_true rfl⟩) (v_preV (ci := 11) hSS hR hS g8 (by decide) rfl [.int x1]) rfl rfl hl.1 rfl (lv_room (Nat.le_of_ble_eq_true rfl)) dX10_event_2 ⟨Nat.zero_le _, Nat.zero_le _⟩) ?_
  refine w_if_ne (tgt := 30) hx hb dX10_event_5 (by decide) (fun c2 => ?_) (fun c2 => ?_)
  · rw [if_pos c2] at h
    refine w_aload_n hx hb dX10_event_8 rfl (lv_at hl 0 rfl) ?_
    refine w_iload_n hx hb dX10_event_9 rfl (lv_at hl 3 rfl) ?_
    refine w_iconst (v := 0) hx hb dX10_event_10 (by decide) ?_
    refine w_iconst (v := 2) hx hb dX10_event_11 (by decide) ?_
    obtain ⟨z3, ez3, h⟩ := v_bnd h
    refine v_call1 (v := .int z3) (M1 := z1.2) (mc := 0) (ms := 0) (fun H locs hR hS => va_runS (As := [.int x3, .int 0, .int 2]) (rest := [.ref x0]) ⟨hx, hb, hml, hown, hts⟩ (mX10_within l hfl D x3 0 2 z1.2 z3 ez3) (va_cwS 3 hts (gdS kw1419 kw1420 kw85 kw1421) rfl rfl rfl (by decide +kernel) ⟨Nat.le_of_ble_eq_true rfl, Nat.le_of_ble_eq_true rfl⟩) (v_preS hSS hR hS [.int x3, .int 0, .int 2]) rfl rfl hl.1 rfl (lv_room (Nat.le_of_ble_eq_true rfl)) dX10_event_12 ⟨Nat.zero_le _, Nat.zero_le _⟩) ?_
    refine w_if_ne (tgt := 22) hx hb dX10_event_15 (by decide) (fun c4 => ?_) (fun c4 => ?_)
    · rw [if_pos c4] at h
      refine w_iconst (v := 1) hx hb dX10_event_18 (by decide) ?_
      refine w_goto (tgt := 23) hx hb dX10_event_19 (by decide) ?_
      exact X10_event_J23p x0 x1 x2 x3 x0 1 z1.2 ls (lv_sub hl [0, 1, 2, 3] rfl) h
    · rw [if_neg c4] at h
      refine w_iconst (v := 0) hx hb dX10_event_22 (by decide) ?_
      exact X10_event_J23p x0 x1 x2 x3 x0 0 z1.2 ls (lv_sub hl [0, 1, 2, 3] rfl) h
  · rw [if_neg c2] at h
    refine w_iconst (v := 0) hx hb dX10_event_30 (by decide) ?_
    obtain rfl := Option.some.inj h
    rw [hQ]
    exact v_iret hx hb hr hlk dX10_event_31

def tX10_noStamp_J25 (y0 : Nat) (y1 : Int32) (Mj : vMe) : Option (Int32 × vMe) :=
  if (Mj.1 y0).1 = 12 then
  ((tX10_throwsIf y0 y1 2 Mj).bind fun z6 =>
  if fits .boolean (.int z6.1) = true then some (z6.1, z6.2) else none)
else none
def tX10_noStamp (x0 : Nat) (x1 : Int32) (x2 : Int32) (M : vMe) : Option (Int32 × vMe) :=
  if (M.1 x0).1 = 12 then
  ((tX10_of x0 x1 2 M).bind fun z1 =>
  (gA M x0 12 1).bind fun a2 =>
  (aI M a2 101 3).bind fun v3 =>
  (tX10_within x2 z1 v3 M).bind fun z4 =>
  if z4 = 0 then
  (tX10_noStamp_J25 x0 1 M)
else
  (tX10_noStamp_J25 x0 0 M))
else none
def rmX10_noStamp : Room := { frames := 2, cells := 0, slots := 0, locals := 22 }
set_option maxHeartbeats 4000000 in
set_option maxRecDepth 100000 in
theorem mX10_noStamp (l : Launch) (hfl : l.stackTraces = false) (D : vD) (x0 : Nat) (x1 : Int32) (x2 : Int32) (M : vMe) (z : (Int32 × vMe)) (h : tX10_noStamp x0 x1 x2 M = some z) : Met l yX10_noStamp (Cond.code yX10_noStamp cX10_noStamp 3 (some .boolean) :: TB) rmX10_noStamp (va_Pc [.ref x0, .int x1, .int x2] (vPre D M)) (qW D (some (.int z.1)) z.2) 0 0 (vA D) := by
  refine v_ofW (cc := cX10_noStamp) (maxL := 3) (ret := (some .boolean)) (by decide) (Nat.le_of_ble_eq_true rfl) ?_
  intro p e s m args below meth c Q hx hb hr hml hown hts hlk hnm hSS hR0 hQ ls hl
  have hK := hSS.1
  have hl : lv_has ls 3 [(0, .ref x0), (1, .int x1), (2, .int x2)] := hl
  unfold tX10_noStamp at h
  have X10_noStamp_J25p : ∀ (y0 : Nat) (y1 : Int32) (Mj : vMe) (ls : Array Slot), lv_has ls 3 [] → tX10_noStamp_J25 y0 y1 Mj = some z → vV D p l e rmX10_noStamp s m args below meth c 0 0 Q Mj (F0 m 25 ls [.int y1, .ref y0]) := by
    intro y0 y1 Mj ls hl h
    unfold tX10_noStamp_J25 at h
    refine w_iconst (v := 2) hx hb dX10_noStamp_25 (by decide) ?_
    obtain ⟨g8, h⟩ := v_ifs h
    obtain ⟨z6, ez6, h⟩ := v_bnd h
    refine v_call1 (v := .int z6.1) (M1 := z6.2) (mc := 0) (ms := 0) (fun H locs hR hS => va_runV (As := [.int y1, .int 2]) (rest := []) ⟨hx, hb, hml, hown, hts⟩ (mX10_throwsIf l hfl D y0 y1 2 Mj z6 ez6) (cwV 2 hts (gdV kw1422 kw1424 kw28 kw85 kw1425) rfl rfl rfl (by decide +kernel) ⟨Nat.le_of_ble_eq_true rfl, Nat.le_of_ble_eq_true rfl⟩) (v_preV (ci := 11) hSS hR hS g8 (by decide) rfl [.int y1, .int 2]) rfl rfl hl.1 rfl (lv_room (Nat.le_of_ble_eq_true rfl)) dX10_noStamp_26 ⟨Nat.zero_le _, Nat.zero_le _⟩) ?_
    obtain ⟨g6, h⟩ := v_ifs h
    obtain rfl := Option.some.inj h
    rw [hQ]
    exact v_zret hx hb hr hlk (v_narZ g6) dX10_noStamp_29
  refine w_aload_n hx hb dX10_noStamp_0 rfl (lv_at hl 0 rfl) ?_
  refine w_iload_n hx hb dX10_noStamp_1 rfl (lv_at hl 2 rfl) ?_
  refine w_aload_n hx hb dX10_noStamp_2 rfl (lv_at hl 0 rfl) ?_
  refine w_iload_n hx hb dX10_noStamp_3 rfl (lv_at hl 1 rfl) ?_
  refine w_iconst (v := 2) hx hb dX10_noStamp_4 (by decide) ?_
  obtain ⟨g8, h⟩ := v_ifs h
  obtain ⟨z1, ez1, h⟩ := v_bnd h
  refine v_call1 (v := .int z1) (M1 := M) (mc := 0) (ms := 0) (fun H locs hR hS => va_runV (As := [.int x1, .int 2]) (rest := [.int x2, .ref x0]) ⟨hx, hb, hml, hown, hts⟩ (mX10_of l hfl D x0 x1 2 M z1 ez1) (cwV 2 hts (gdV kw1497 kw1499 kw44 kw85 kw1500) rfl rfl rfl (by decide +kernel) ⟨Nat.le_of_ble_eq_true rfl, Nat.le_of_ble_eq_true rfl⟩) (v_preV (ci := 11) hSS hR hS g8 (by decide) rfl [.int x1, .int 2]) rfl rfl hl.1 rfl (lv_room (Nat.le_of_ble_eq_true rfl)) dX10_noStamp_5 ⟨Nat.zero_le _, Nat.zero_le _⟩) ?_
  refine w_aload_n hx hb dX10_noStamp_8 rfl (lv_at hl 0 rfl) ?_
  obtain ⟨a2, ea2, h⟩ := v_bnd h
  refine v_gA (ci := 11) hx hb hts iwX10 hown hK 1 ea2 rfl (by decide) (Or.inl (hts _ kw1336)) (fun _ h9 => h9) dX10_noStamp_9 ?_
  refine w_iconst (v := 3) hx hb dX10_noStamp_12 (by decide) ?_
  obtain ⟨v3, ev3, h⟩ := v_bnd h
  refine v_iald hx hb hK ev3 dX10_noStamp_13 ?_
  obtain ⟨z4, ez4, h⟩ := v_bnd h
  refine v_call1 (v := .int z4) (M1 := M) (mc := 0) (ms := 0) (fun H locs hR hS => va_runS (As := [.int x2, .int z1, .int v3]) (rest := [.ref x0]) ⟨hx, hb, hml, hown, hts⟩ (mX10_within l hfl D x2 z1 v3 M z4 ez4) (va_cwS 3 hts (gdS kw1419 kw1420 kw85 kw1421) rfl rfl rfl (by decide +kernel) ⟨Nat.le_of_ble_eq_true rfl, Nat.le_of_ble_eq_true rfl⟩) (v_preS hSS hR hS [.int x2, .int z1, .int v3]) rfl rfl hl.1 rfl (lv_room (Nat.le_of_ble_eq_true rfl)) dX10_noStamp_14 ⟨Nat.zero_le _, Nat.zero_le _⟩) ?_
  refine w_if_ne (tgt := 24) hx hb dX10_noStamp_17 (by decide) (fun c5 => ?_) (fun c5 => ?_)
  · rw [if_pos c5] at h
    refine w_iconst (v := 1) hx hb dX10_noStamp_20 (by decide) ?_
    refine w_goto (tgt := 25) hx hb dX10_noStamp_21 (by decide) ?_
    exact X10_noStamp_J25p x0 1 M ls (lv_sub hl [] rfl) h
  · rw [if_neg c5] at h
    refine w_iconst (v := 0) hx hb dX10_noStamp_24 (by decide) ?_
    exact X10_noStamp_J25p x0 0 M ls (lv_sub hl [] rfl) h

def tX10_at (x0 : Nat) (x1 : Int32) (x2 : Int32) (M : vMe) : Option (Int64 × vMe) :=
  if (M.1 x0).1 = 12 then
  ((tX10_noSet x0 x1 M).bind fun z1 =>
  if z1.1 = 0 then
  (if (z1.2.1 x0).1 = 12 then
  ((tX10_noStamp x0 x1 x2 z1.2).bind fun z3 =>
  if z3.1 = 0 then
  (if (z3.2.1 x0).1 = 12 then
  ((tX10_contentAt x0 x1 x2 z3.2).bind fun z5 =>
  some (z5, z3.2))
else none)
else
  (some (0, z3.2)))
else none)
else
  (some (0, z1.2)))
else none
def rmX10_at : Room := { frames := 5, cells := 0, slots := 0, locals := 97 }
set_option maxHeartbeats 4000000 in
set_option maxRecDepth 100000 in
theorem mX10_at (l : Launch) (hfl : l.stackTraces = false) (D : vD) (x0 : Nat) (x1 : Int32) (x2 : Int32) (M : vMe) (z : (Int64 × vMe)) (h : tX10_at x0 x1 x2 M = some z) : Met l yX10_at (Cond.code yX10_at cX10_at 3 (some .long) :: TB) rmX10_at (va_Pc [.ref x0, .int x1, .int x2] (vPre D M)) (qW D (some (.long z.1)) z.2) 0 0 (vA D) := by
  refine v_ofW (cc := cX10_at) (maxL := 3) (ret := (some .long)) (by decide) (Nat.le_of_ble_eq_true rfl) ?_
  intro p e s m args below meth c Q hx hb hr hml hown hts hlk hnm hSS hR0 hQ ls hl
  have hK := hSS.1
  have hl : lv_has ls 3 [(0, .ref x0), (1, .int x1), (2, .int x2)] := hl
  unfold tX10_at at h
  refine w_aload_n hx hb dX10_at_0 rfl (lv_at hl 0 rfl) ?_
  refine w_iload_n hx hb dX10_at_1 rfl (lv_at hl 1 rfl) ?_
  obtain ⟨g8, h⟩ := v_ifs h
  obtain ⟨z1, ez1, h⟩ := v_bnd h
  refine v_call1 (v := .int z1.1) (M1 := z1.2) (mc := 0) (ms := 0) (fun H locs hR hS => va_runV (As := [.int x1]) (rest := []) ⟨hx, hb, hml, hown, hts⟩ (mX10_noSet l hfl D x0 x1 M z1 ez1) (cwV 1 hts (gdV kw1602 kw1604 kw64 kw85 kw1605) rfl rfl rfl (by decide +kernel) ⟨Nat.le_of_ble_eq_true rfl, Nat.le_of_ble_eq_true rfl⟩) (v_preV (ci := 11) hSS hR hS g8 (by decide) rfl [.int x1]) rfl rfl hl.1 rfl (lv_room (Nat.le_of_ble_eq_true rfl)) dX10_at_2 ⟨Nat.zero_le _, Nat.zero_le _⟩) ?_
  refine w_if_ne (tgt := 17) hx hb dX10_at_5 (by decide) (fun c2 => ?_) (fun c2 => ?_)
  · rw [if_pos c2] at h
    refine w_aload_n hx hb dX10_at_8 rfl (lv_at hl 0 rfl) ?_
    refine w_iload_n hx hb dX10_at_9 rfl (lv_at hl 1 rfl) ?_
    refine w_iload_n hx hb dX10_at_10 rfl (lv_at hl 2 rfl) ?_
    obtain ⟨g8, h⟩ := v_ifs h
    obtain ⟨z3, ez3, h⟩ := v_bnd h
    refine v_call1 (v := .int z3.1) (M1 := z3.2) (mc := 0) (ms := 0) (fun H locs hR hS => va_runV (As := [.int x1, .int x2]) (rest := []) ⟨hx, hb, hml, hown, hts⟩ (mX10_noStamp l hfl D x0 x1 x2 z1.2 z3 ez3) (cwV 2 hts (gdV kw1638 kw1640 kw68 kw85 kw1641) rfl rfl rfl (by decide +kernel) ⟨Nat.le_of_ble_eq_true rfl, Nat.le_of_ble_eq_true rfl⟩) (v_preV (ci := 11) hSS hR hS g8 (by decide) rfl [.int x1, .int x2]) rfl rfl hl.1 rfl (lv_room (Nat.le_of_ble_eq_true rfl)) dX10_at_11 ⟨Nat.zero_le _, Nat.zero_le _⟩) ?_
    refine w_if_eq (tgt := 21) hx hb dX10_at_14 (by decide) (fun c4 => ?_) (fun c4 => ?_)
    · rw [if_pos c4] at h
      refine w_aload_n hx hb dX10_at_21 rfl (lv_at hl 0 rfl) ?_
      refine w_iload_n hx hb dX10_at_22 rfl (lv_at hl 1 rfl) ?_
      refine w_iload_n hx hb dX10_at_23 rfl (lv_at hl 2 rfl) ?_
      obtain ⟨g8, h⟩ := v_ifs h
      obtain ⟨z5, ez5, h⟩ := v_bnd h
      refine v_call1 (v := .long z5) (M1 := z3.2) (mc := 0) (ms := 0) (fun H locs hR hS => va_runV (As := [.int x1, .int x2]) (rest := []) ⟨hx, hb, hml, hown, hts⟩ (mX10_contentAt l hfl D x0 x1 x2 z3.2 z5 ez5) (cwV 2 hts (gdV kw1642 kw1644 kw69 kw85 kw1645) rfl rfl rfl (by decide +kernel) ⟨Nat.le_of_ble_eq_true rfl, Nat.le_of_ble_eq_true rfl⟩) (v_preV (ci := 11) hSS hR hS g8 (by decide) rfl [.int x1, .int x2]) rfl rfl hl.1 rfl (lv_room (Nat.le_of_ble_eq_true rfl)) dX10_at_24 ⟨Nat.zero_le _, Nat.zero_le _⟩) ?_
      obtain rfl := Option.some.inj h
      rw [hQ]
      exact v_lret hx hb hr hlk dX10_at_27
    · rw [if_neg c4] at h
      refine w_lconst (v := 0) hx hb dX10_at_17 (by decide) ?_
      refine w_goto (tgt := 27) hx hb dX10_at_18 (by decide) ?_
      obtain rfl := Option.some.inj h
      rw [hQ]
      exact v_lret hx hb hr hlk dX10_at_27
  · rw [if_neg c2] at h
    refine w_lconst (v := 0) hx hb dX10_at_17 (by decide) ?_
    refine w_goto (tgt := 27) hx hb dX10_at_18 (by decide) ?_
    obtain rfl := Option.some.inj h
    rw [hQ]
    exact v_lret hx hb hr hlk dX10_at_27

def tX10_differs_J70 (y0 : Int64) (Mj : vMe) : Option (Int32 × vMe) :=
  (tX10_ones y0 Mj).bind fun z10 =>
  some (z10, Mj)
def tX10_differs (x0 : Nat) (x1 : Int32) (x2 : Int32) (x3 : Int32) (x4 : Int32) (M : vMe) : Option (Int32 × vMe) :=
  if (M.1 x0).1 = 12 then
  ((tX10_noSet x0 x1 M).bind fun z1 =>
  if z1.1 = 0 then
  (if (z1.2.1 x0).1 = 12 then
  ((tX10_noStamp x0 x1 x2 z1.2).bind fun z3 =>
  if z3.1 = 0 then
  (if (z3.2.1 x0).1 = 12 then
  ((tX10_noStamp x0 x1 x3 z3.2).bind fun z5 =>
  if z5.1 = 0 then
  (if (z5.2.1 x0).1 = 12 then
  ((tX10_contentAt x0 x1 x2 z5.2).bind fun z7 =>
  if (z5.2.1 x0).1 = 12 then
  ((tX10_contentAt x0 x1 x3 z5.2).bind fun z8 =>
  if x4 = 0 then
  (tX10_differs_J70 (z7 &&& (z8 ^^^ ((-1)))) z5.2)
else
  (tX10_differs_J70 (z8 &&& (z7 ^^^ ((-1)))) z5.2))
else none)
else none)
else
  (some (0, z5.2)))
else none)
else
  (some (0, z3.2)))
else none)
else
  (some (0, z1.2)))
else none
def rmX10_differs : Room := { frames := 5, cells := 0, slots := 0, locals := 97 }
set_option maxHeartbeats 4000000 in
set_option maxRecDepth 100000 in
theorem mX10_differs (l : Launch) (hfl : l.stackTraces = false) (D : vD) (x0 : Nat) (x1 : Int32) (x2 : Int32) (x3 : Int32) (x4 : Int32) (M : vMe) (z : (Int32 × vMe)) (h : tX10_differs x0 x1 x2 x3 x4 M = some z) : Met l yX10_differs (Cond.code yX10_differs cX10_differs 9 (some .int) :: TB) rmX10_differs (va_Pc [.ref x0, .int x1, .int x2, .int x3, .int x4] (vPre D M)) (qW D (some (.int z.1)) z.2) 0 0 (vA D) := by
  refine v_ofW (cc := cX10_differs) (maxL := 9) (ret := (some .int)) (by decide) (Nat.le_of_ble_eq_true rfl) ?_
  intro p e s m args below meth c Q hx hb hr hml hown hts hlk hnm hSS hR0 hQ ls hl
  have hK := hSS.1
  have hl : lv_has ls 9 [(0, .ref x0), (1, .int x1), (2, .int x2), (3, .int x3), (4, .int x4)] := hl
  unfold tX10_differs at h
  have X10_differs_J70p : ∀ (y0 : Int64) (Mj : vMe) (ls : Array Slot), lv_has ls 9 [] → tX10_differs_J70 y0 Mj = some z → vV D p l e rmX10_differs s m args below meth c 0 0 Q Mj (F0 m 70 ls [.long y0]) := by
    intro y0 Mj ls hl h
    unfold tX10_differs_J70 at h
    obtain ⟨z10, ez10, h⟩ := v_bnd h
    refine v_call1 (v := .int z10) (M1 := Mj) (mc := 0) (ms := 0) (fun H locs hR hS => va_runS (As := [.long y0]) (rest := []) ⟨hx, hb, hml, hown, hts⟩ (mX10_ones l hfl D y0 Mj z10 ez10) (va_cwS 1 hts (gdS kw1650 kw1651 kw85 kw1652) rfl rfl rfl (by decide +kernel) ⟨Nat.le_of_ble_eq_true rfl, Nat.le_of_ble_eq_true rfl⟩) (v_preS hSS hR hS [.long y0]) rfl rfl hl.1 rfl (lv_room (Nat.le_of_ble_eq_true rfl)) dX10_differs_70 ⟨Nat.zero_le _, Nat.zero_le _⟩) ?_
    obtain rfl := Option.some.inj h
    rw [hQ]
    exact v_iret hx hb hr hlk dX10_differs_73
  refine w_aload_n hx hb dX10_differs_0 rfl (lv_at hl 0 rfl) ?_
  refine w_iload_n hx hb dX10_differs_1 rfl (lv_at hl 1 rfl) ?_
  obtain ⟨g8, h⟩ := v_ifs h
  obtain ⟨z1, ez1, h⟩ := v_bnd h
  refine v_call1 (v := .int z1.1) (M1 := z1.2) (mc := 0) (ms := 0) (fun H locs hR hS => va_runV (As := [.int x1]) (rest := []) ⟨hx, hb, hml, hown, hts⟩ (mX10_noSet l hfl D x0 x1 M z1 ez1) (cwV 1 hts (gdV kw1602 kw1604 kw64 kw85 kw1605) rfl rfl rfl (by decide +kernel) ⟨Nat.le_of_ble_eq_true rfl, Nat.le_of_ble_eq_true rfl⟩) (v_preV (ci := 11) hSS hR hS g8 (by decide) rfl [.int x1]) rfl rfl hl.1 rfl (lv_room (Nat.le_of_ble_eq_true rfl)) dX10_differs_2 ⟨Nat.zero_le _, Nat.zero_le _⟩) ?_
  refine w_if_ne (tgt := 26) hx hb dX10_differs_5 (by decide) (fun c2 => ?_) (fun c2 => ?_)
  · rw [if_pos c2] at h
    refine w_aload_n hx hb dX10_differs_8 rfl (lv_at hl 0 rfl) ?_
    refine w_iload_n hx hb dX10_differs_9 rfl (lv_at hl 1 rfl) ?_
    refine w_iload_n hx hb dX10_differs_10 rfl (lv_at hl 2 rfl) ?_
    obtain ⟨g8, h⟩ := v_ifs h
    obtain ⟨z3, ez3, h⟩ := v_bnd h
    refine v_call1 (v := .int z3.1) (M1 := z3.2) (mc := 0) (ms := 0) (fun H locs hR hS => va_runV (As := [.int x1, .int x2]) (rest := []) ⟨hx, hb, hml, hown, hts⟩ (mX10_noStamp l hfl D x0 x1 x2 z1.2 z3 ez3) (cwV 2 hts (gdV kw1638 kw1640 kw68 kw85 kw1641) rfl rfl rfl (by decide +kernel) ⟨Nat.le_of_ble_eq_true rfl, Nat.le_of_ble_eq_true rfl⟩) (v_preV (ci := 11) hSS hR hS g8 (by decide) rfl [.int x1, .int x2]) rfl rfl hl.1 rfl (lv_room (Nat.le_of_ble_eq_true rfl)) dX10_differs_11 ⟨Nat.zero_le _, Nat.zero_le _⟩) ?_
    refine w_if_ne (tgt := 26) hx hb dX10_differs_14 (by decide) (fun c4 => ?_) (fun c4 => ?_)
    · rw [if_pos c4] at h
      refine w_aload_n hx hb dX10_differs_17 rfl (lv_at hl 0 rfl) ?_
      refine w_iload_n hx hb dX10_differs_18 rfl (lv_at hl 1 rfl) ?_
      refine w_iload_n hx hb dX10_differs_19 rfl (lv_at hl 3 rfl) ?_
      obtain ⟨g8, h⟩ := v_ifs h
      obtain ⟨z5, ez5, h⟩ := v_bnd h
      refine v_call1 (v := .int z5.1) (M1 := z5.2) (mc := 0) (ms := 0) (fun H locs hR hS => va_runV (As := [.int x1, .int x3]) (rest := []) ⟨hx, hb, hml, hown, hts⟩ (mX10_noStamp l hfl D x0 x1 x3 z3.2 z5 ez5) (cwV 2 hts (gdV kw1638 kw1640 kw68 kw85 kw1641) rfl rfl rfl (by decide +kernel) ⟨Nat.le_of_ble_eq_true rfl, Nat.le_of_ble_eq_true rfl⟩) (v_preV (ci := 11) hSS hR hS g8 (by decide) rfl [.int x1, .int x3]) rfl rfl hl.1 rfl (lv_room (Nat.le_of_ble_eq_true rfl)) dX10_differs_20 ⟨Nat.zero_le _, Nat.zero_le _⟩) ?_
      refine w_if_eq (tgt := 28) hx hb dX10_differs_23 (by decide) (fun c6 => ?_) (fun c6 => ?_)
      · rw [if_pos c6] at h
        refine w_aload_n hx hb dX10_differs_28 rfl (lv_at hl 0 rfl) ?_
        refine w_iload_n hx hb dX10_differs_29 rfl (lv_at hl 1 rfl) ?_
        refine w_iload_n hx hb dX10_differs_30 rfl (lv_at hl 2 rfl) ?_
        obtain ⟨g8, h⟩ := v_ifs h
        obtain ⟨z7, ez7, h⟩ := v_bnd h
        refine v_call1 (v := .long z7) (M1 := z5.2) (mc := 0) (ms := 0) (fun H locs hR hS => va_runV (As := [.int x1, .int x2]) (rest := []) ⟨hx, hb, hml, hown, hts⟩ (mX10_contentAt l hfl D x0 x1 x2 z5.2 z7 ez7) (cwV 2 hts (gdV kw1642 kw1644 kw69 kw85 kw1645) rfl rfl rfl (by decide +kernel) ⟨Nat.le_of_ble_eq_true rfl, Nat.le_of_ble_eq_true rfl⟩) (v_preV (ci := 11) hSS hR hS g8 (by decide) rfl [.int x1, .int x2]) rfl rfl hl.1 rfl (lv_room (Nat.le_of_ble_eq_true rfl)) dX10_differs_31 ⟨Nat.zero_le _, Nat.zero_le _⟩) ?_
        refine w_lstore (lv' := [(5, .long z7), (0, .ref x0), (1, .int x1), (2, .int x2), (3, .int x3), (4, .int x4)]) hx hb dX10_differs_34 hl (by decide) rfl (fun ls hl => ?_)
        have hl : lv_has ls 9 [(0, .ref x0), (1, .int x1), (2, .int x2), (3, .int x3), (4, .int x4), (5, .long z7)] := lv_sub hl [1, 2, 3, 4, 5, 0] rfl
        refine w_aload_n hx hb dX10_differs_36 rfl (lv_at hl 0 rfl) ?_
        refine w_iload_n hx hb dX10_differs_37 rfl (lv_at hl 1 rfl) ?_
        refine w_iload_n hx hb dX10_differs_38 rfl (lv_at hl 3 rfl) ?_
        obtain ⟨g8, h⟩ := v_ifs h
        obtain ⟨z8, ez8, h⟩ := v_bnd h
        refine v_call1 (v := .long z8) (M1 := z5.2) (mc := 0) (ms := 0) (fun H locs hR hS => va_runV (As := [.int x1, .int x3]) (rest := []) ⟨hx, hb, hml, hown, hts⟩ (mX10_contentAt l hfl D x0 x1 x3 z5.2 z8 ez8) (cwV 2 hts (gdV kw1642 kw1644 kw69 kw85 kw1645) rfl rfl rfl (by decide +kernel) ⟨Nat.le_of_ble_eq_true rfl, Nat.le_of_ble_eq_true rfl⟩) (v_preV (ci := 11) hSS hR hS g8 (by decide) rfl [.int x1, .int x3]) rfl rfl hl.1 rfl (lv_room (Nat.le_of_ble_eq_true rfl)) dX10_differs_39 ⟨Nat.zero_le _, Nat.zero_le _⟩) ?_
        refine w_lstore (lv' := [(7, .long z8), (0, .ref x0), (1, .int x1), (2, .int x2), (3, .int x3), (4, .int x4), (5, .long z7)]) hx hb dX10_differs_42 hl (by decide) rfl (fun ls hl => ?_)
        have hl : lv_has ls 9 [(0, .ref x0), (1, .int x1), (2, .int x2), (3, .int x3), (4, .int x4), (5, .long z7), (7, .long z8)] := lv_sub hl [1, 2, 3, 4, 5, 6, 0] rfl
        refine w_iload hx hb dX10_differs_44 (lv_at hl 4 rfl) ?_
        refine w_if_eq (tgt := 61) hx hb dX10_differs_46 (by decide) (fun c9 => ?_) (fun c9 => ?_)
        · rw [if_pos c9] at h
          refine w_lload hx hb dX10_differs_61 (lv_at hl 5 rfl) ?_
          refine w_lload hx hb dX10_differs_63 (lv_at hl 6 rfl) ?_
          refine w_ldcL hx hb hown (hts _ kw1530) dX10_differs_65 ?_
          refine w_lxor hx hb dX10_differs_68 ?_
          refine w_land hx hb dX10_differs_69 ?_
          exact X10_differs_J70p (z7 &&& (z8 ^^^ ((-1)))) z5.2 ls (lv_sub hl [] rfl) h
        · rw [if_neg c9] at h
          refine w_lload hx hb dX10_differs_49 (lv_at hl 6 rfl) ?_
          refine w_lload hx hb dX10_differs_51 (lv_at hl 5 rfl) ?_
          refine w_ldcL hx hb hown (hts _ kw1530) dX10_differs_53 ?_
          refine w_lxor hx hb dX10_differs_56 ?_
          refine w_land hx hb dX10_differs_57 ?_
          refine w_goto (tgt := 70) hx hb dX10_differs_58 (by decide) ?_
          exact X10_differs_J70p (z8 &&& (z7 ^^^ ((-1)))) z5.2 ls (lv_sub hl [] rfl) h
      · rw [if_neg c6] at h
        refine w_iconst (v := 0) hx hb dX10_differs_26 (by decide) ?_
        obtain rfl := Option.some.inj h
        rw [hQ]
        exact v_iret hx hb hr hlk dX10_differs_27
    · rw [if_neg c4] at h
      refine w_iconst (v := 0) hx hb dX10_differs_26 (by decide) ?_
      obtain rfl := Option.some.inj h
      rw [hQ]
      exact v_iret hx hb hr hlk dX10_differs_27
  · rw [if_neg c2] at h
    refine w_iconst (v := 0) hx hb dX10_differs_26 (by decide) ?_
    obtain rfl := Option.some.inj h
    rw [hQ]
    exact v_iret hx hb hr hlk dX10_differs_27

def tX10_since_J91_43 (rec : Int32 → Int64 → Int32 → vMe → Option (Int32 × vMe)) (x0 : Nat) (x1 : Int32) (x2 : Int32) (x6 : Int32) (x7 : Int64) (y0 : Int32) (Mj : vMe) : Option (Int32 × vMe) :=
  rec y0 x7 (x6 + 1) Mj
def tX10_since_L43 (x0 : Nat) (x1 : Int32) (x2 : Int32) : Nat → Int32 → Int64 → Int32 → vMe → Option (Int32 × vMe)
  | 0, _, _, _, _ => none
  | f + 1, x3, x4, x6, Mi =>
  if (Mi.1 x0).1 = 12 then
  ((tX10_of x0 x1 3 Mi).bind fun z13 =>
  if z13 ≤ x6 then
  (some (x3, Mi))
else
  (if (Mi.1 x0).1 = 12 then
  ((tX10_behind x0 x4 x1 x6 Mi).bind fun z15 =>
  if (lg_cmp (((z15 ^^^ x4) >>> (x2.toInt64 &&& 63)) &&& 1) 1) = 0 then
  (if (Mi.1 x0).1 = 12 then
  ((tX10_ofEvent x0 x1 x6 0 Mi).bind fun z17 =>
  tX10_since_J91_43 (tX10_since_L43 x0 x1 x2 f) x0 x1 x2 x6 z15 z17 Mi)
else none)
else
  (tX10_since_J91_43 (tX10_since_L43 x0 x1 x2 f) x0 x1 x2 x6 z15 x3 Mi))
else none))
else none
def tX10_since_J22 (x0 : Nat) (x1 : Int32) (x2 : Int32) (y0 : Nat) (y1 : Int32) (Mj : vMe) : Option (Int32 × vMe) :=
  if (Mj.1 y0).1 = 12 then
  ((tX10_throwsIf y0 y1 2 Mj).bind fun z5 =>
  if z5.1 = 0 then
  (if (z5.2.1 x0).1 = 12 then
  ((tX10_base x0 x1 z5.2).bind fun z7 =>
  (tX10_since_L43 x0 x1 x2 vF ((-1)) z7 0 z5.2).bind fun z18 =>
  some (z18.1, z18.2))
else none)
else
  (some (0, z5.2)))
else none
def tX10_since (x0 : Nat) (x1 : Int32) (x2 : Int32) (M : vMe) : Option (Int32 × vMe) :=
  if (M.1 x0).1 = 12 then
  ((tX10_noSet x0 x1 M).bind fun z1 =>
  if z1.1 = 0 then
  (if (z1.2.1 x0).1 = 12 then
  ((tX10_isInside x0 x2 z1.2).bind fun z3 =>
  if z3 = 0 then
  (tX10_since_J22 x0 x1 x2 x0 1 z1.2)
else
  (tX10_since_J22 x0 x1 x2 x0 0 z1.2))
else none)
else
  (some (0, z1.2)))
else none
def rmX10_since : Room := { frames := 4, cells := 0, slots := 0, locals := 72 }
set_option maxHeartbeats 4000000 in
set_option maxRecDepth 100000 in
theorem mX10_since (l : Launch) (hfl : l.stackTraces = false) (D : vD) (x0 : Nat) (x1 : Int32) (x2 : Int32) (M : vMe) (z : (Int32 × vMe)) (h : tX10_since x0 x1 x2 M = some z) : Met l yX10_since (Cond.code yX10_since cX10_since 9 (some .int) :: TB) rmX10_since (va_Pc [.ref x0, .int x1, .int x2] (vPre D M)) (qW D (some (.int z.1)) z.2) 0 0 (vA D) := by
  refine v_ofW (cc := cX10_since) (maxL := 9) (ret := (some .int)) (by decide) (Nat.le_of_ble_eq_true rfl) ?_
  intro p e s m args below meth c Q hx hb hr hml hown hts hlk hnm hSS hR0 hQ ls hl
  have hK := hSS.1
  have hl : lv_has ls 9 [(0, .ref x0), (1, .int x1), (2, .int x2)] := hl
  unfold tX10_since at h
  have X10_since_L43p : ∀ (x0 : Nat) (x1 : Int32) (x2 : Int32), ∀ (f : Nat) (x3 : Int32) (x4 : Int64) (x6 : Int32) (Mi : vMe) (ls : Array Slot) (z : (Int32 × vMe)), lv_has ls 9 [(0, .ref x0), (1, .int x1), (2, .int x2), (3, .int x3), (4, .long x4), (6, .int x6)] → tX10_since_L43 x0 x1 x2 f x3 x4 x6 Mi = some z → (∀ ls : Array Slot, lv_has ls 9 [(3, .int z.1)] → vV D p l e rmX10_since s m args below meth c 0 0 Q z.2 (F0 m 102 ls [])) → vV D p l e rmX10_since s m args below meth c 0 0 Q Mi (F0 m 43 ls []) := by
    intro x0 x1 x2 f
    induction f with
    | zero =>
      intro x3 x4 x6 Mi ls z hl h
      exact absurd h (by simp [tX10_since_L43])
    | succ f ih =>
      intro x3 x4 x6 Mi ls z hl h KX
      rw [tX10_since_L43] at h
      have X10_since_J91_43p : ∀ (x6 : Int32) (x7 : Int64) (y0 : Int32) (Mj : vMe) (ls : Array Slot), lv_has ls 9 [(0, .ref x0), (1, .int x1), (2, .int x2), (6, .int x6), (7, .long x7)] → tX10_since_J91_43 (tX10_since_L43 x0 x1 x2 f) x0 x1 x2 x6 x7 y0 Mj = some z → vV D p l e rmX10_since s m args below meth c 0 0 Q Mj (F0 m 91 ls [.int y0]) := by
        intro x6 x7 y0 Mj ls hl h
        unfold tX10_since_J91_43 at h
        refine w_istore_n (lv' := [(3, .int y0), (0, .ref x0), (1, .int x1), (2, .int x2), (6, .int x6), (7, .long x7)]) hx hb dX10_since_91 rfl hl (by decide) rfl (fun ls hl => ?_)
        have hl : lv_has ls 9 [(0, .ref x0), (1, .int x1), (2, .int x2), (3, .int y0), (6, .int x6), (7, .long x7)] := lv_sub hl [1, 2, 3, 0, 4, 5] rfl
        refine w_lload hx hb dX10_since_92 (lv_at hl 5 rfl) ?_
        refine w_lstore (lv' := [(4, .long x7), (0, .ref x0), (1, .int x1), (2, .int x2), (3, .int y0), (6, .int x6), (7, .long x7)]) hx hb dX10_since_94 hl (by decide) rfl (fun ls hl => ?_)
        have hl : lv_has ls 9 [(0, .ref x0), (1, .int x1), (2, .int x2), (3, .int y0), (4, .long x7), (6, .int x6), (7, .long x7)] := lv_sub hl [1, 2, 3, 4, 0, 5, 6] rfl
        refine w_iinc (v := x6 + 1) (lv' := [(6, .int (x6 + 1)), (0, .ref x0), (1, .int x1), (2, .int x2), (3, .int y0), (4, .long x7), (7, .long x7)]) hx hb dX10_since_96 hl (j := 5) rfl rfl (by decide) rfl (fun ls hl => ?_)
        have hl : lv_has ls 9 [(0, .ref x0), (1, .int x1), (2, .int x2), (3, .int y0), (4, .long x7), (6, .int (x6 + 1)), (7, .long x7)] := lv_sub hl [1, 2, 3, 4, 5, 0, 6] rfl
        refine w_goto (tgt := 43) hx hb dX10_since_99 (by decide) ?_
        exact ih y0 x7 (x6 + 1) Mj ls z (lv_sub hl [0, 1, 2, 3, 4, 5] rfl) h KX
      refine w_iload hx hb dX10_since_43 (lv_at hl 5 rfl) ?_
      refine w_aload_n hx hb dX10_since_45 rfl (lv_at hl 0 rfl) ?_
      refine w_iload_n hx hb dX10_since_46 rfl (lv_at hl 1 rfl) ?_
      refine w_iconst (v := 3) hx hb dX10_since_47 (by decide) ?_
      obtain ⟨g8, h⟩ := v_ifs h
      obtain ⟨z13, ez13, h⟩ := v_bnd h
      refine v_call1 (v := .int z13) (M1 := Mi) (mc := 0) (ms := 0) (fun H locs hR hS => va_runV (As := [.int x1, .int 3]) (rest := [.int x6]) ⟨hx, hb, hml, hown, hts⟩ (mX10_of l hfl D x0 x1 3 Mi z13 ez13) (cwV 2 hts (gdV kw1497 kw1499 kw44 kw85 kw1500) rfl rfl rfl (by decide +kernel) ⟨Nat.le_of_ble_eq_true rfl, Nat.le_of_ble_eq_true rfl⟩) (v_preV (ci := 11) hSS hR hS g8 (by decide) rfl [.int x1, .int 3]) rfl rfl hl.1 rfl (lv_room (Nat.le_of_ble_eq_true rfl)) dX10_since_48 ⟨Nat.zero_le _, Nat.zero_le _⟩) ?_
      refine w_icmp_ge (tgt := 102) hx hb dX10_since_51 (by decide) (fun c14 => ?_) (fun c14 => ?_)
      · rw [if_pos c14] at h
        obtain rfl := Option.some.inj h
        exact KX ls (lv_sub hl [3] rfl)
      · rw [if_neg c14] at h
        refine w_aload_n hx hb dX10_since_54 rfl (lv_at hl 0 rfl) ?_
        refine w_lload hx hb dX10_since_55 (lv_at hl 4 rfl) ?_
        refine w_iload_n hx hb dX10_since_57 rfl (lv_at hl 1 rfl) ?_
        refine w_iload hx hb dX10_since_58 (lv_at hl 5 rfl) ?_
        obtain ⟨g8, h⟩ := v_ifs h
        obtain ⟨z15, ez15, h⟩ := v_bnd h
        refine v_call1 (v := .long z15) (M1 := Mi) (mc := 0) (ms := 0) (fun H locs hR hS => va_runV (As := [.long x4, .int x1, .int x6]) (rest := []) ⟨hx, hb, hml, hown, hts⟩ (mX10_behind l hfl D x0 x4 x1 x6 Mi z15 ez15) (cwV 3 hts (gdV kw1522 kw1524 kw50 kw85 kw1525) rfl rfl rfl (by decide +kernel) ⟨Nat.le_of_ble_eq_true rfl, Nat.le_of_ble_eq_true rfl⟩) (v_preV (ci := 11) hSS hR hS g8 (by decide) rfl [.long x4, .int x1, .int x6]) rfl rfl hl.1 rfl (lv_room (Nat.le_of_ble_eq_true rfl)) dX10_since_60 ⟨Nat.zero_le _, Nat.zero_le _⟩) ?_
        refine w_lstore (lv' := [(7, .long z15), (0, .ref x0), (1, .int x1), (2, .int x2), (3, .int x3), (4, .long x4), (6, .int x6)]) hx hb dX10_since_63 hl (by decide) rfl (fun ls hl => ?_)
        have hl : lv_has ls 9 [(0, .ref x0), (1, .int x1), (2, .int x2), (3, .int x3), (4, .long x4), (6, .int x6), (7, .long z15)] := lv_sub hl [1, 2, 3, 4, 5, 6, 0] rfl
        refine w_lload hx hb dX10_since_65 (lv_at hl 6 rfl) ?_
        refine w_lload hx hb dX10_since_67 (lv_at hl 4 rfl) ?_
        refine w_lxor hx hb dX10_since_69 ?_
        refine w_iload_n hx hb dX10_since_70 rfl (lv_at hl 2 rfl) ?_
        refine w_lshr hx hb dX10_since_71 ?_
        refine w_lconst (v := 1) hx hb dX10_since_72 (by decide) ?_
        refine w_land hx hb dX10_since_73 ?_
        refine w_lconst (v := 1) hx hb dX10_since_74 (by decide) ?_
        refine w_lcmp hx hb dX10_since_75 ?_
        refine w_if_ne (tgt := 90) hx hb dX10_since_76 (by decide) (fun c16 => ?_) (fun c16 => ?_)
        · rw [if_pos c16] at h
          refine w_aload_n hx hb dX10_since_79 rfl (lv_at hl 0 rfl) ?_
          refine w_iload_n hx hb dX10_since_80 rfl (lv_at hl 1 rfl) ?_
          refine w_iload hx hb dX10_since_81 (lv_at hl 5 rfl) ?_
          refine w_iconst (v := 0) hx hb dX10_since_83 (by decide) ?_
          obtain ⟨g8, h⟩ := v_ifs h
          obtain ⟨z17, ez17, h⟩ := v_bnd h
          refine v_call1 (v := .int z17) (M1 := Mi) (mc := 0) (ms := 0) (fun H locs hR hS => va_runV (As := [.int x1, .int x6, .int 0]) (rest := []) ⟨hx, hb, hml, hown, hts⟩ (mX10_ofEvent l hfl D x0 x1 x6 0 Mi z17 ez17) (cwV 3 hts (gdV kw1526 kw1528 kw51 kw85 kw1529) rfl rfl rfl (by decide +kernel) ⟨Nat.le_of_ble_eq_true rfl, Nat.le_of_ble_eq_true rfl⟩) (v_preV (ci := 11) hSS hR hS g8 (by decide) rfl [.int x1, .int x6, .int 0]) rfl rfl hl.1 rfl (lv_room (Nat.le_of_ble_eq_true rfl)) dX10_since_84 ⟨Nat.zero_le _, Nat.zero_le _⟩) ?_
          refine w_goto (tgt := 91) hx hb dX10_since_87 (by decide) ?_
          exact X10_since_J91_43p x6 z15 z17 Mi ls (lv_sub hl [0, 1, 2, 5, 6] rfl) h
        · rw [if_neg c16] at h
          refine w_iload_n hx hb dX10_since_90 rfl (lv_at hl 3 rfl) ?_
          exact X10_since_J91_43p x6 z15 x3 Mi ls (lv_sub hl [0, 1, 2, 5, 6] rfl) h
  have X10_since_J22p : ∀ (x0 : Nat) (x1 : Int32) (x2 : Int32) (y0 : Nat) (y1 : Int32) (Mj : vMe) (ls : Array Slot), lv_has ls 9 [(0, .ref x0), (1, .int x1), (2, .int x2)] → tX10_since_J22 x0 x1 x2 y0 y1 Mj = some z → vV D p l e rmX10_since s m args below meth c 0 0 Q Mj (F0 m 22 ls [.int y1, .ref y0]) := by
    intro x0 x1 x2 y0 y1 Mj ls hl h
    unfold tX10_since_J22 at h
    refine w_iconst (v := 2) hx hb dX10_since_22 (by decide) ?_
    obtain ⟨g8, h⟩ := v_ifs h
    obtain ⟨z5, ez5, h⟩ := v_bnd h
    refine v_call1 (v := .int z5.1) (M1 := z5.2) (mc := 0) (ms := 0) (fun H locs hR hS => va_runV (As := [.int y1, .int 2]) (rest := []) ⟨hx, hb, hml, hown, hts⟩ (mX10_throwsIf l hfl D y0 y1 2 Mj z5 ez5) (cwV 2 hts (gdV kw1422 kw1424 kw28 kw85 kw1425) rfl rfl rfl (by decide +kernel) ⟨Nat.le_of_ble_eq_true rfl, Nat.le_of_ble_eq_true rfl⟩) (v_preV (ci := 11) hSS hR hS g8 (by decide) rfl [.int y1, .int 2]) rfl rfl hl.1 rfl (lv_room (Nat.le_of_ble_eq_true rfl)) dX10_since_23 ⟨Nat.zero_le _, Nat.zero_le _⟩) ?_
    refine w_if_eq (tgt := 31) hx hb dX10_since_26 (by decide) (fun c6 => ?_) (fun c6 => ?_)
    · rw [if_pos c6] at h
      refine w_iconst (v := (-1)) hx hb dX10_since_31 (by decide) ?_
      refine w_istore_n (lv' := [(3, .int ((-1))), (0, .ref x0), (1, .int x1), (2, .int x2)]) hx hb dX10_since_32 rfl hl (by decide) rfl (fun ls hl => ?_)
      have hl : lv_has ls 9 [(0, .ref x0), (1, .int x1), (2, .int x2), (3, .int ((-1)))] := lv_sub hl [1, 2, 3, 0] rfl
      refine w_aload_n hx hb dX10_since_33 rfl (lv_at hl 0 rfl) ?_
      refine w_iload_n hx hb dX10_since_34 rfl (lv_at hl 1 rfl) ?_
      obtain ⟨g8, h⟩ := v_ifs h
      obtain ⟨z7, ez7, h⟩ := v_bnd h
      refine v_call1 (v := .long z7) (M1 := z5.2) (mc := 0) (ms := 0) (fun H locs hR hS => va_runV (As := [.int x1]) (rest := []) ⟨hx, hb, hml, hown, hts⟩ (mX10_base l hfl D x0 x1 z5.2 z7 ez7) (cwV 1 hts (gdV kw1517 kw1519 kw49 kw85 kw1520) rfl rfl rfl (by decide +kernel) ⟨Nat.le_of_ble_eq_true rfl, Nat.le_of_ble_eq_true rfl⟩) (v_preV (ci := 11) hSS hR hS g8 (by decide) rfl [.int x1]) rfl rfl hl.1 rfl (lv_room (Nat.le_of_ble_eq_true rfl)) dX10_since_35 ⟨Nat.zero_le _, Nat.zero_le _⟩) ?_
      refine w_lstore (lv' := [(4, .long z7), (0, .ref x0), (1, .int x1), (2, .int x2), (3, .int ((-1)))]) hx hb dX10_since_38 hl (by decide) rfl (fun ls hl => ?_)
      have hl : lv_has ls 9 [(0, .ref x0), (1, .int x1), (2, .int x2), (3, .int ((-1))), (4, .long z7)] := lv_sub hl [1, 2, 3, 4, 0] rfl
      refine w_iconst (v := 0) hx hb dX10_since_40 (by decide) ?_
      refine w_istore (lv' := [(6, .int 0), (0, .ref x0), (1, .int x1), (2, .int x2), (3, .int ((-1))), (4, .long z7)]) hx hb dX10_since_41 hl (by decide) rfl (fun ls hl => ?_)
      have hl : lv_has ls 9 [(0, .ref x0), (1, .int x1), (2, .int x2), (3, .int ((-1))), (4, .long z7), (6, .int 0)] := lv_sub hl [1, 2, 3, 4, 5, 0] rfl
      obtain ⟨z18, ez18, h⟩ := v_bnd h
      refine X10_since_L43p x0 x1 x2 vF ((-1)) z7 0 z5.2 ls z18 (lv_sub hl [0, 1, 2, 3, 4, 5] rfl) ez18 (fun ls hl => ?_)
      refine w_iload_n hx hb dX10_since_102 rfl (lv_at hl 0 rfl) ?_
      obtain rfl := Option.some.inj h
      rw [hQ]
      exact v_iret hx hb hr hlk dX10_since_103
    · rw [if_neg c6] at h
      refine w_iconst (v := 0) hx hb dX10_since_29 (by decide) ?_
      obtain rfl := Option.some.inj h
      rw [hQ]
      exact v_iret hx hb hr hlk dX10_since_30
  refine w_aload_n hx hb dX10_since_0 rfl (lv_at hl 0 rfl) ?_
  refine w_iload_n hx hb dX10_since_1 rfl (lv_at hl 1 rfl) ?_
  obtain ⟨g8, h⟩ := v_ifs h
  obtain ⟨z1, ez1, h⟩ := v_bnd h
  refine v_call1 (v := .int z1.1) (M1 := z1.2) (mc := 0) (ms := 0) (fun H locs hR hS => va_runV (As := [.int x1]) (rest := []) ⟨hx, hb, hml, hown, hts⟩ (mX10_noSet l hfl D x0 x1 M z1 ez1) (cwV 1 hts (gdV kw1602 kw1604 kw64 kw85 kw1605) rfl rfl rfl (by decide +kernel) ⟨Nat.le_of_ble_eq_true rfl, Nat.le_of_ble_eq_true rfl⟩) (v_preV (ci := 11) hSS hR hS g8 (by decide) rfl [.int x1]) rfl rfl hl.1 rfl (lv_room (Nat.le_of_ble_eq_true rfl)) dX10_since_2 ⟨Nat.zero_le _, Nat.zero_le _⟩) ?_
  refine w_if_ne (tgt := 29) hx hb dX10_since_5 (by decide) (fun c2 => ?_) (fun c2 => ?_)
  · rw [if_pos c2] at h
    refine w_aload_n hx hb dX10_since_8 rfl (lv_at hl 0 rfl) ?_
    refine w_aload_n hx hb dX10_since_9 rfl (lv_at hl 0 rfl) ?_
    refine w_iload_n hx hb dX10_since_10 rfl (lv_at hl 2 rfl) ?_
    obtain ⟨g8, h⟩ := v_ifs h
    obtain ⟨z3, ez3, h⟩ := v_bnd h
    refine v_call1 (v := .int z3) (M1 := z1.2) (mc := 0) (ms := 0) (fun H locs hR hS => va_runV (As := [.int x2]) (rest := [.ref x0]) ⟨hx, hb, hml, hown, hts⟩ (mX10_isInside l hfl D x0 x2 z1.2 z3 ez3) (cwV 1 hts (gdV kw1618 kw1620 kw67 kw85 kw1621) rfl rfl rfl (by decide +kernel) ⟨Nat.le_of_ble_eq_true rfl, Nat.le_of_ble_eq_true rfl⟩) (v_preV (ci := 11) hSS hR hS g8 (by decide) rfl [.int x2]) rfl rfl hl.1 rfl (lv_room (Nat.le_of_ble_eq_true rfl)) dX10_since_11 ⟨Nat.zero_le _, Nat.zero_le _⟩) ?_
    refine w_if_ne (tgt := 21) hx hb dX10_since_14 (by decide) (fun c4 => ?_) (fun c4 => ?_)
    · rw [if_pos c4] at h
      refine w_iconst (v := 1) hx hb dX10_since_17 (by decide) ?_
      refine w_goto (tgt := 22) hx hb dX10_since_18 (by decide) ?_
      exact X10_since_J22p x0 x1 x2 x0 1 z1.2 ls (lv_sub hl [0, 1, 2] rfl) h
    · rw [if_neg c4] at h
      refine w_iconst (v := 0) hx hb dX10_since_21 (by decide) ?_
      exact X10_since_J22p x0 x1 x2 x0 0 z1.2 ls (lv_sub hl [0, 1, 2] rfl) h
  · rw [if_neg c2] at h
    refine w_iconst (v := 0) hx hb dX10_since_29 (by decide) ?_
    obtain rfl := Option.some.inj h
    rw [hQ]
    exact v_iret hx hb hr hlk dX10_since_30

def tX10_fullest_J76_32 (rec : Int32 → Int64 → Int32 → Int32 → vMe → Option (Int32 × vMe)) (x0 : Nat) (x1 : Int32) (x2 : Int32) (x3 : Int64) (x5 : Int32) (x6 : Int32) (Mj : vMe) : Option (Int32 × vMe) :=
  rec x2 x3 x5 (x6 + 1) Mj
def tX10_fullest_L32 (x0 : Nat) (x1 : Int32) : Nat → Int32 → Int64 → Int32 → Int32 → vMe → Option (Int32 × vMe)
  | 0, _, _, _, _, _ => none
  | f + 1, x2, x3, x5, x6, Mi =>
  if (Mi.1 x0).1 = 12 then
  ((tX10_of x0 x1 3 Mi).bind fun z13 =>
  if z13 ≤ x6 then
  (some (x2, Mi))
else
  (if (Mi.1 x0).1 = 12 then
  ((tX10_behind x0 x3 x1 x6 Mi).bind fun z15 =>
  (tX10_ones z15 Mi).bind fun z16 =>
  if z16 ≤ x5 then
  (tX10_fullest_J76_32 (tX10_fullest_L32 x0 x1 f) x0 x1 x2 z15 x5 x6 Mi)
else
  ((tX10_ones z15 Mi).bind fun z18 =>
  if (Mi.1 x0).1 = 12 then
  ((tX10_ofEvent x0 x1 x6 0 Mi).bind fun z19 =>
  tX10_fullest_J76_32 (tX10_fullest_L32 x0 x1 f) x0 x1 z19 z15 z18 x6 Mi)
else none))
else none))
else none
def tX10_fullest (x0 : Nat) (x1 : Int32) (M : vMe) : Option (Int32 × vMe) :=
  if (M.1 x0).1 = 12 then
  ((tX10_noSet x0 x1 M).bind fun z1 =>
  if z1.1 = 0 then
  (if (z1.2.1 x0).1 = 12 then
  ((tX10_of x0 x1 2 z1.2).bind fun z3 =>
  if (z1.2.1 x0).1 = 12 then
  ((tX10_base x0 x1 z1.2).bind fun z4 =>
  (tX10_ones z4 z1.2).bind fun z5 =>
  (tX10_fullest_L32 x0 x1 vF z3 z4 z5 0 z1.2).bind fun z20 =>
  some (z20.1, z20.2))
else none)
else none)
else
  (some (0, z1.2)))
else none
def rmX10_fullest : Room := { frames := 4, cells := 0, slots := 0, locals := 72 }
set_option maxHeartbeats 4000000 in
set_option maxRecDepth 100000 in
theorem mX10_fullest (l : Launch) (hfl : l.stackTraces = false) (D : vD) (x0 : Nat) (x1 : Int32) (M : vMe) (z : (Int32 × vMe)) (h : tX10_fullest x0 x1 M = some z) : Met l yX10_fullest (Cond.code yX10_fullest cX10_fullest 7 (some .int) :: TB) rmX10_fullest (va_Pc [.ref x0, .int x1] (vPre D M)) (qW D (some (.int z.1)) z.2) 0 0 (vA D) := by
  refine v_ofW (cc := cX10_fullest) (maxL := 7) (ret := (some .int)) (by decide) (Nat.le_of_ble_eq_true rfl) ?_
  intro p e s m args below meth c Q hx hb hr hml hown hts hlk hnm hSS hR0 hQ ls hl
  have hK := hSS.1
  have hl : lv_has ls 7 [(0, .ref x0), (1, .int x1)] := hl
  unfold tX10_fullest at h
  have X10_fullest_L32p : ∀ (x0 : Nat) (x1 : Int32), ∀ (f : Nat) (x2 : Int32) (x3 : Int64) (x5 : Int32) (x6 : Int32) (Mi : vMe) (ls : Array Slot) (z : (Int32 × vMe)), lv_has ls 7 [(0, .ref x0), (1, .int x1), (2, .int x2), (3, .long x3), (5, .int x5), (6, .int x6)] → tX10_fullest_L32 x0 x1 f x2 x3 x5 x6 Mi = some z → (∀ ls : Array Slot, lv_has ls 7 [(2, .int z.1)] → vV D p l e rmX10_fullest s m args below meth c 0 0 Q z.2 (F0 m 82 ls [])) → vV D p l e rmX10_fullest s m args below meth c 0 0 Q Mi (F0 m 32 ls []) := by
    intro x0 x1 f
    induction f with
    | zero =>
      intro x2 x3 x5 x6 Mi ls z hl h
      exact absurd h (by simp [tX10_fullest_L32])
    | succ f ih =>
      intro x2 x3 x5 x6 Mi ls z hl h KX
      rw [tX10_fullest_L32] at h
      have X10_fullest_J76_32p : ∀ (x2 : Int32) (x3 : Int64) (x5 : Int32) (x6 : Int32) (Mj : vMe) (ls : Array Slot), lv_has ls 7 [(0, .ref x0), (1, .int x1), (2, .int x2), (3, .long x3), (5, .int x5), (6, .int x6)] → tX10_fullest_J76_32 (tX10_fullest_L32 x0 x1 f) x0 x1 x2 x3 x5 x6 Mj = some z → vV D p l e rmX10_fullest s m args below meth c 0 0 Q Mj (F0 m 76 ls []) := by
        intro x2 x3 x5 x6 Mj ls hl h
        unfold tX10_fullest_J76_32 at h
        refine w_iinc (v := x6 + 1) (lv' := [(6, .int (x6 + 1)), (0, .ref x0), (1, .int x1), (2, .int x2), (3, .long x3), (5, .int x5)]) hx hb dX10_fullest_76 hl (j := 5) rfl rfl (by decide) rfl (fun ls hl => ?_)
        have hl : lv_has ls 7 [(0, .ref x0), (1, .int x1), (2, .int x2), (3, .long x3), (5, .int x5), (6, .int (x6 + 1))] := lv_sub hl [1, 2, 3, 4, 5, 0] rfl
        refine w_goto (tgt := 32) hx hb dX10_fullest_79 (by decide) ?_
        exact ih x2 x3 x5 (x6 + 1) Mj ls z (lv_sub hl [0, 1, 2, 3, 4, 5] rfl) h KX
      refine w_iload hx hb dX10_fullest_32 (lv_at hl 5 rfl) ?_
      refine w_aload_n hx hb dX10_fullest_34 rfl (lv_at hl 0 rfl) ?_
      refine w_iload_n hx hb dX10_fullest_35 rfl (lv_at hl 1 rfl) ?_
      refine w_iconst (v := 3) hx hb dX10_fullest_36 (by decide) ?_
      obtain ⟨g8, h⟩ := v_ifs h
      obtain ⟨z13, ez13, h⟩ := v_bnd h
      refine v_call1 (v := .int z13) (M1 := Mi) (mc := 0) (ms := 0) (fun H locs hR hS => va_runV (As := [.int x1, .int 3]) (rest := [.int x6]) ⟨hx, hb, hml, hown, hts⟩ (mX10_of l hfl D x0 x1 3 Mi z13 ez13) (cwV 2 hts (gdV kw1497 kw1499 kw44 kw85 kw1500) rfl rfl rfl (by decide +kernel) ⟨Nat.le_of_ble_eq_true rfl, Nat.le_of_ble_eq_true rfl⟩) (v_preV (ci := 11) hSS hR hS g8 (by decide) rfl [.int x1, .int 3]) rfl rfl hl.1 rfl (lv_room (Nat.le_of_ble_eq_true rfl)) dX10_fullest_37 ⟨Nat.zero_le _, Nat.zero_le _⟩) ?_
      refine w_icmp_ge (tgt := 82) hx hb dX10_fullest_40 (by decide) (fun c14 => ?_) (fun c14 => ?_)
      · rw [if_pos c14] at h
        obtain rfl := Option.some.inj h
        exact KX ls (lv_sub hl [2] rfl)
      · rw [if_neg c14] at h
        refine w_aload_n hx hb dX10_fullest_43 rfl (lv_at hl 0 rfl) ?_
        refine w_lload_n hx hb dX10_fullest_44 rfl (lv_at hl 3 rfl) ?_
        refine w_iload_n hx hb dX10_fullest_45 rfl (lv_at hl 1 rfl) ?_
        refine w_iload hx hb dX10_fullest_46 (lv_at hl 5 rfl) ?_
        obtain ⟨g8, h⟩ := v_ifs h
        obtain ⟨z15, ez15, h⟩ := v_bnd h
        refine v_call1 (v := .long z15) (M1 := Mi) (mc := 0) (ms := 0) (fun H locs hR hS => va_runV (As := [.long x3, .int x1, .int x6]) (rest := []) ⟨hx, hb, hml, hown, hts⟩ (mX10_behind l hfl D x0 x3 x1 x6 Mi z15 ez15) (cwV 3 hts (gdV kw1522 kw1524 kw50 kw85 kw1525) rfl rfl rfl (by decide +kernel) ⟨Nat.le_of_ble_eq_true rfl, Nat.le_of_ble_eq_true rfl⟩) (v_preV (ci := 11) hSS hR hS g8 (by decide) rfl [.long x3, .int x1, .int x6]) rfl rfl hl.1 rfl (lv_room (Nat.le_of_ble_eq_true rfl)) dX10_fullest_48 ⟨Nat.zero_le _, Nat.zero_le _⟩) ?_
        refine w_lstore_n (lv' := [(3, .long z15), (0, .ref x0), (1, .int x1), (2, .int x2), (5, .int x5), (6, .int x6)]) hx hb dX10_fullest_51 rfl hl (by decide) rfl (fun ls hl => ?_)
        have hl : lv_has ls 7 [(0, .ref x0), (1, .int x1), (2, .int x2), (3, .long z15), (5, .int x5), (6, .int x6)] := lv_sub hl [1, 2, 3, 0, 4, 5] rfl
        refine w_lload_n hx hb dX10_fullest_52 rfl (lv_at hl 3 rfl) ?_
        obtain ⟨z16, ez16, h⟩ := v_bnd h
        refine v_call1 (v := .int z16) (M1 := Mi) (mc := 0) (ms := 0) (fun H locs hR hS => va_runS (As := [.long z15]) (rest := []) ⟨hx, hb, hml, hown, hts⟩ (mX10_ones l hfl D z15 Mi z16 ez16) (va_cwS 1 hts (gdS kw1650 kw1651 kw85 kw1652) rfl rfl rfl (by decide +kernel) ⟨Nat.le_of_ble_eq_true rfl, Nat.le_of_ble_eq_true rfl⟩) (v_preS hSS hR hS [.long z15]) rfl rfl hl.1 rfl (lv_room (Nat.le_of_ble_eq_true rfl)) dX10_fullest_53 ⟨Nat.zero_le _, Nat.zero_le _⟩) ?_
        refine w_iload hx hb dX10_fullest_56 (lv_at hl 4 rfl) ?_
        refine w_icmp_le (tgt := 76) hx hb dX10_fullest_58 (by decide) (fun c17 => ?_) (fun c17 => ?_)
        · rw [if_pos c17] at h
          exact X10_fullest_J76_32p x2 z15 x5 x6 Mi ls (lv_sub hl [0, 1, 2, 3, 4, 5] rfl) h
        · rw [if_neg c17] at h
          refine w_lload_n hx hb dX10_fullest_61 rfl (lv_at hl 3 rfl) ?_
          obtain ⟨z18, ez18, h⟩ := v_bnd h
          refine v_call1 (v := .int z18) (M1 := Mi) (mc := 0) (ms := 0) (fun H locs hR hS => va_runS (As := [.long z15]) (rest := []) ⟨hx, hb, hml, hown, hts⟩ (mX10_ones l hfl D z15 Mi z18 ez18) (va_cwS 1 hts (gdS kw1650 kw1651 kw85 kw1652) rfl rfl rfl (by decide +kernel) ⟨Nat.le_of_ble_eq_true rfl, Nat.le_of_ble_eq_true rfl⟩) (v_preS hSS hR hS [.long z15]) rfl rfl hl.1 rfl (lv_room (Nat.le_of_ble_eq_true rfl)) dX10_fullest_62 ⟨Nat.zero_le _, Nat.zero_le _⟩) ?_
          refine w_istore (lv' := [(5, .int z18), (0, .ref x0), (1, .int x1), (2, .int x2), (3, .long z15), (6, .int x6)]) hx hb dX10_fullest_65 hl (by decide) rfl (fun ls hl => ?_)
          have hl : lv_has ls 7 [(0, .ref x0), (1, .int x1), (2, .int x2), (3, .long z15), (5, .int z18), (6, .int x6)] := lv_sub hl [1, 2, 3, 4, 0, 5] rfl
          refine w_aload_n hx hb dX10_fullest_67 rfl (lv_at hl 0 rfl) ?_
          refine w_iload_n hx hb dX10_fullest_68 rfl (lv_at hl 1 rfl) ?_
          refine w_iload hx hb dX10_fullest_69 (lv_at hl 5 rfl) ?_
          refine w_iconst (v := 0) hx hb dX10_fullest_71 (by decide) ?_
          obtain ⟨g8, h⟩ := v_ifs h
          obtain ⟨z19, ez19, h⟩ := v_bnd h
          refine v_call1 (v := .int z19) (M1 := Mi) (mc := 0) (ms := 0) (fun H locs hR hS => va_runV (As := [.int x1, .int x6, .int 0]) (rest := []) ⟨hx, hb, hml, hown, hts⟩ (mX10_ofEvent l hfl D x0 x1 x6 0 Mi z19 ez19) (cwV 3 hts (gdV kw1526 kw1528 kw51 kw85 kw1529) rfl rfl rfl (by decide +kernel) ⟨Nat.le_of_ble_eq_true rfl, Nat.le_of_ble_eq_true rfl⟩) (v_preV (ci := 11) hSS hR hS g8 (by decide) rfl [.int x1, .int x6, .int 0]) rfl rfl hl.1 rfl (lv_room (Nat.le_of_ble_eq_true rfl)) dX10_fullest_72 ⟨Nat.zero_le _, Nat.zero_le _⟩) ?_
          refine w_istore_n (lv' := [(2, .int z19), (0, .ref x0), (1, .int x1), (3, .long z15), (5, .int z18), (6, .int x6)]) hx hb dX10_fullest_75 rfl hl (by decide) rfl (fun ls hl => ?_)
          have hl : lv_has ls 7 [(0, .ref x0), (1, .int x1), (2, .int z19), (3, .long z15), (5, .int z18), (6, .int x6)] := lv_sub hl [1, 2, 0, 3, 4, 5] rfl
          exact X10_fullest_J76_32p z19 z15 z18 x6 Mi ls (lv_sub hl [0, 1, 2, 3, 4, 5] rfl) h
  refine w_aload_n hx hb dX10_fullest_0 rfl (lv_at hl 0 rfl) ?_
  refine w_iload_n hx hb dX10_fullest_1 rfl (lv_at hl 1 rfl) ?_
  obtain ⟨g8, h⟩ := v_ifs h
  obtain ⟨z1, ez1, h⟩ := v_bnd h
  refine v_call1 (v := .int z1.1) (M1 := z1.2) (mc := 0) (ms := 0) (fun H locs hR hS => va_runV (As := [.int x1]) (rest := []) ⟨hx, hb, hml, hown, hts⟩ (mX10_noSet l hfl D x0 x1 M z1 ez1) (cwV 1 hts (gdV kw1602 kw1604 kw64 kw85 kw1605) rfl rfl rfl (by decide +kernel) ⟨Nat.le_of_ble_eq_true rfl, Nat.le_of_ble_eq_true rfl⟩) (v_preV (ci := 11) hSS hR hS g8 (by decide) rfl [.int x1]) rfl rfl hl.1 rfl (lv_room (Nat.le_of_ble_eq_true rfl)) dX10_fullest_2 ⟨Nat.zero_le _, Nat.zero_le _⟩) ?_
  refine w_if_eq (tgt := 10) hx hb dX10_fullest_5 (by decide) (fun c2 => ?_) (fun c2 => ?_)
  · rw [if_pos c2] at h
    refine w_aload_n hx hb dX10_fullest_10 rfl (lv_at hl 0 rfl) ?_
    refine w_iload_n hx hb dX10_fullest_11 rfl (lv_at hl 1 rfl) ?_
    refine w_iconst (v := 2) hx hb dX10_fullest_12 (by decide) ?_
    obtain ⟨g8, h⟩ := v_ifs h
    obtain ⟨z3, ez3, h⟩ := v_bnd h
    refine v_call1 (v := .int z3) (M1 := z1.2) (mc := 0) (ms := 0) (fun H locs hR hS => va_runV (As := [.int x1, .int 2]) (rest := []) ⟨hx, hb, hml, hown, hts⟩ (mX10_of l hfl D x0 x1 2 z1.2 z3 ez3) (cwV 2 hts (gdV kw1497 kw1499 kw44 kw85 kw1500) rfl rfl rfl (by decide +kernel) ⟨Nat.le_of_ble_eq_true rfl, Nat.le_of_ble_eq_true rfl⟩) (v_preV (ci := 11) hSS hR hS g8 (by decide) rfl [.int x1, .int 2]) rfl rfl hl.1 rfl (lv_room (Nat.le_of_ble_eq_true rfl)) dX10_fullest_13 ⟨Nat.zero_le _, Nat.zero_le _⟩) ?_
    refine w_istore_n (lv' := [(2, .int z3), (0, .ref x0), (1, .int x1)]) hx hb dX10_fullest_16 rfl hl (by decide) rfl (fun ls hl => ?_)
    have hl : lv_has ls 7 [(0, .ref x0), (1, .int x1), (2, .int z3)] := lv_sub hl [1, 2, 0] rfl
    refine w_aload_n hx hb dX10_fullest_17 rfl (lv_at hl 0 rfl) ?_
    refine w_iload_n hx hb dX10_fullest_18 rfl (lv_at hl 1 rfl) ?_
    obtain ⟨g8, h⟩ := v_ifs h
    obtain ⟨z4, ez4, h⟩ := v_bnd h
    refine v_call1 (v := .long z4) (M1 := z1.2) (mc := 0) (ms := 0) (fun H locs hR hS => va_runV (As := [.int x1]) (rest := []) ⟨hx, hb, hml, hown, hts⟩ (mX10_base l hfl D x0 x1 z1.2 z4 ez4) (cwV 1 hts (gdV kw1517 kw1519 kw49 kw85 kw1520) rfl rfl rfl (by decide +kernel) ⟨Nat.le_of_ble_eq_true rfl, Nat.le_of_ble_eq_true rfl⟩) (v_preV (ci := 11) hSS hR hS g8 (by decide) rfl [.int x1]) rfl rfl hl.1 rfl (lv_room (Nat.le_of_ble_eq_true rfl)) dX10_fullest_19 ⟨Nat.zero_le _, Nat.zero_le _⟩) ?_
    refine w_lstore_n (lv' := [(3, .long z4), (0, .ref x0), (1, .int x1), (2, .int z3)]) hx hb dX10_fullest_22 rfl hl (by decide) rfl (fun ls hl => ?_)
    have hl : lv_has ls 7 [(0, .ref x0), (1, .int x1), (2, .int z3), (3, .long z4)] := lv_sub hl [1, 2, 3, 0] rfl
    refine w_lload_n hx hb dX10_fullest_23 rfl (lv_at hl 3 rfl) ?_
    obtain ⟨z5, ez5, h⟩ := v_bnd h
    refine v_call1 (v := .int z5) (M1 := z1.2) (mc := 0) (ms := 0) (fun H locs hR hS => va_runS (As := [.long z4]) (rest := []) ⟨hx, hb, hml, hown, hts⟩ (mX10_ones l hfl D z4 z1.2 z5 ez5) (va_cwS 1 hts (gdS kw1650 kw1651 kw85 kw1652) rfl rfl rfl (by decide +kernel) ⟨Nat.le_of_ble_eq_true rfl, Nat.le_of_ble_eq_true rfl⟩) (v_preS hSS hR hS [.long z4]) rfl rfl hl.1 rfl (lv_room (Nat.le_of_ble_eq_true rfl)) dX10_fullest_24 ⟨Nat.zero_le _, Nat.zero_le _⟩) ?_
    refine w_istore (lv' := [(5, .int z5), (0, .ref x0), (1, .int x1), (2, .int z3), (3, .long z4)]) hx hb dX10_fullest_27 hl (by decide) rfl (fun ls hl => ?_)
    have hl : lv_has ls 7 [(0, .ref x0), (1, .int x1), (2, .int z3), (3, .long z4), (5, .int z5)] := lv_sub hl [1, 2, 3, 4, 0] rfl
    refine w_iconst (v := 0) hx hb dX10_fullest_29 (by decide) ?_
    refine w_istore (lv' := [(6, .int 0), (0, .ref x0), (1, .int x1), (2, .int z3), (3, .long z4), (5, .int z5)]) hx hb dX10_fullest_30 hl (by decide) rfl (fun ls hl => ?_)
    have hl : lv_has ls 7 [(0, .ref x0), (1, .int x1), (2, .int z3), (3, .long z4), (5, .int z5), (6, .int 0)] := lv_sub hl [1, 2, 3, 4, 5, 0] rfl
    obtain ⟨z20, ez20, h⟩ := v_bnd h
    refine X10_fullest_L32p x0 x1 vF z3 z4 z5 0 z1.2 ls z20 (lv_sub hl [0, 1, 2, 3, 4, 5] rfl) ez20 (fun ls hl => ?_)
    refine w_iload_n hx hb dX10_fullest_82 rfl (lv_at hl 0 rfl) ?_
    obtain rfl := Option.some.inj h
    rw [hQ]
    exact v_iret hx hb hr hlk dX10_fullest_83
  · rw [if_neg c2] at h
    refine w_iconst (v := 0) hx hb dX10_fullest_8 (by decide) ?_
    obtain rfl := Option.some.inj h
    rw [hQ]
    exact v_iret hx hb hr hlk dX10_fullest_9

def tX10_cursor_J24 (x0 : Nat) (x1 : Int32) (x2 : Int32) (y0 : Nat) (y1 : Int32) (Mj : vMe) : Option (Int32 × vMe) :=
  if (Mj.1 y0).1 = 12 then
  ((tX10_throwsIf y0 y1 2 Mj).bind fun z5 =>
  if z5.1 = 0 then
  (if x2 = (6 : Int32) then
  (if (z5.2.1 x0).1 = 12 then
  ((tX10_ofCursor x0 x1 7 z5.2).bind fun z8 =>
  some (z8 - 1, z5.2))
else none)
else
  (if (z5.2.1 x0).1 = 12 then
  ((tX10_ofCursor x0 x1 (x2 + 1) z5.2).bind fun z9 =>
  some (z9, z5.2))
else none))
else
  (some (0, z5.2)))
else none
def tX10_cursor (x0 : Nat) (x1 : Int32) (x2 : Int32) (M : vMe) : Option (Int32 × vMe) :=
  if (M.1 x0).1 = 12 then
  ((tX10_noCursor x0 x1 M).bind fun z1 =>
  if z1.1 = 0 then
  ((tX10_within x2 0 6 z1.2).bind fun z3 =>
  if z3 = 0 then
  (tX10_cursor_J24 x0 x1 x2 x0 1 z1.2)
else
  (tX10_cursor_J24 x0 x1 x2 x0 0 z1.2))
else
  (some (0, z1.2)))
else none
def rmX10_cursor : Room := { frames := 3, cells := 0, slots := 0, locals := 43 }
set_option maxHeartbeats 4000000 in
set_option maxRecDepth 100000 in
theorem mX10_cursor (l : Launch) (hfl : l.stackTraces = false) (D : vD) (x0 : Nat) (x1 : Int32) (x2 : Int32) (M : vMe) (z : (Int32 × vMe)) (h : tX10_cursor x0 x1 x2 M = some z) : Met l yX10_cursor (Cond.code yX10_cursor cX10_cursor 3 (some .int) :: TB) rmX10_cursor (va_Pc [.ref x0, .int x1, .int x2] (vPre D M)) (qW D (some (.int z.1)) z.2) 0 0 (vA D) := by
  refine v_ofW (cc := cX10_cursor) (maxL := 3) (ret := (some .int)) (by decide) (Nat.le_of_ble_eq_true rfl) ?_
  intro p e s m args below meth c Q hx hb hr hml hown hts hlk hnm hSS hR0 hQ ls hl
  have hK := hSS.1
  have hl : lv_has ls 3 [(0, .ref x0), (1, .int x1), (2, .int x2)] := hl
  unfold tX10_cursor at h
  have X10_cursor_J24p : ∀ (x0 : Nat) (x1 : Int32) (x2 : Int32) (y0 : Nat) (y1 : Int32) (Mj : vMe) (ls : Array Slot), lv_has ls 3 [(0, .ref x0), (1, .int x1), (2, .int x2)] → tX10_cursor_J24 x0 x1 x2 y0 y1 Mj = some z → vV D p l e rmX10_cursor s m args below meth c 0 0 Q Mj (F0 m 24 ls [.int y1, .ref y0]) := by
    intro x0 x1 x2 y0 y1 Mj ls hl h
    unfold tX10_cursor_J24 at h
    refine w_iconst (v := 2) hx hb dX10_cursor_24 (by decide) ?_
    obtain ⟨g8, h⟩ := v_ifs h
    obtain ⟨z5, ez5, h⟩ := v_bnd h
    refine v_call1 (v := .int z5.1) (M1 := z5.2) (mc := 0) (ms := 0) (fun H locs hR hS => va_runV (As := [.int y1, .int 2]) (rest := []) ⟨hx, hb, hml, hown, hts⟩ (mX10_throwsIf l hfl D y0 y1 2 Mj z5 ez5) (cwV 2 hts (gdV kw1422 kw1424 kw28 kw85 kw1425) rfl rfl rfl (by decide +kernel) ⟨Nat.le_of_ble_eq_true rfl, Nat.le_of_ble_eq_true rfl⟩) (v_preV (ci := 11) hSS hR hS g8 (by decide) rfl [.int y1, .int 2]) rfl rfl hl.1 rfl (lv_room (Nat.le_of_ble_eq_true rfl)) dX10_cursor_25 ⟨Nat.zero_le _, Nat.zero_le _⟩) ?_
    refine w_if_eq (tgt := 33) hx hb dX10_cursor_28 (by decide) (fun c6 => ?_) (fun c6 => ?_)
    · rw [if_pos c6] at h
      refine w_iload_n hx hb dX10_cursor_33 rfl (lv_at hl 2 rfl) ?_
      refine w_bipush (v := 6) hx hb dX10_cursor_34 (by decide) ?_
      refine w_icmp_ne (tgt := 51) hx hb dX10_cursor_36 (by decide) (fun c7 => ?_) (fun c7 => ?_)
      · rw [if_pos c7] at h
        refine w_aload_n hx hb dX10_cursor_39 rfl (lv_at hl 0 rfl) ?_
        refine w_iload_n hx hb dX10_cursor_40 rfl (lv_at hl 1 rfl) ?_
        refine w_bipush (v := 7) hx hb dX10_cursor_41 (by decide) ?_
        obtain ⟨g8, h⟩ := v_ifs h
        obtain ⟨z8, ez8, h⟩ := v_bnd h
        refine v_call1 (v := .int z8) (M1 := z5.2) (mc := 0) (ms := 0) (fun H locs hR hS => va_runV (As := [.int x1, .int 7]) (rest := []) ⟨hx, hb, hml, hown, hts⟩ (mX10_ofCursor l hfl D x0 x1 7 z5.2 z8 ez8) (cwV 2 hts (gdV kw1547 kw1549 kw56 kw85 kw1550) rfl rfl rfl (by decide +kernel) ⟨Nat.le_of_ble_eq_true rfl, Nat.le_of_ble_eq_true rfl⟩) (v_preV (ci := 11) hSS hR hS g8 (by decide) rfl [.int x1, .int 7]) rfl rfl hl.1 rfl (lv_room (Nat.le_of_ble_eq_true rfl)) dX10_cursor_43 ⟨Nat.zero_le _, Nat.zero_le _⟩) ?_
        refine w_iconst (v := 1) hx hb dX10_cursor_46 (by decide) ?_
        refine w_isub hx hb dX10_cursor_47 ?_
        refine w_goto (tgt := 59) hx hb dX10_cursor_48 (by decide) ?_
        obtain rfl := Option.some.inj h
        rw [hQ]
        exact v_iret hx hb hr hlk dX10_cursor_59
      · rw [if_neg c7] at h
        refine w_aload_n hx hb dX10_cursor_51 rfl (lv_at hl 0 rfl) ?_
        refine w_iload_n hx hb dX10_cursor_52 rfl (lv_at hl 1 rfl) ?_
        refine w_iload_n hx hb dX10_cursor_53 rfl (lv_at hl 2 rfl) ?_
        refine w_iconst (v := 1) hx hb dX10_cursor_54 (by decide) ?_
        refine w_iadd hx hb dX10_cursor_55 ?_
        obtain ⟨g8, h⟩ := v_ifs h
        obtain ⟨z9, ez9, h⟩ := v_bnd h
        refine v_call1 (v := .int z9) (M1 := z5.2) (mc := 0) (ms := 0) (fun H locs hR hS => va_runV (As := [.int x1, .int (x2 + 1)]) (rest := []) ⟨hx, hb, hml, hown, hts⟩ (mX10_ofCursor l hfl D x0 x1 (x2 + 1) z5.2 z9 ez9) (cwV 2 hts (gdV kw1547 kw1549 kw56 kw85 kw1550) rfl rfl rfl (by decide +kernel) ⟨Nat.le_of_ble_eq_true rfl, Nat.le_of_ble_eq_true rfl⟩) (v_preV (ci := 11) hSS hR hS g8 (by decide) rfl [.int x1, .int (x2 + 1)]) rfl rfl hl.1 rfl (lv_room (Nat.le_of_ble_eq_true rfl)) dX10_cursor_56 ⟨Nat.zero_le _, Nat.zero_le _⟩) ?_
        obtain rfl := Option.some.inj h
        rw [hQ]
        exact v_iret hx hb hr hlk dX10_cursor_59
    · rw [if_neg c6] at h
      refine w_iconst (v := 0) hx hb dX10_cursor_31 (by decide) ?_
      obtain rfl := Option.some.inj h
      rw [hQ]
      exact v_iret hx hb hr hlk dX10_cursor_32
  refine w_aload_n hx hb dX10_cursor_0 rfl (lv_at hl 0 rfl) ?_
  refine w_iload_n hx hb dX10_cursor_1 rfl (lv_at hl 1 rfl) ?_
  obtain ⟨g8, h⟩ := v_ifs h
  obtain ⟨z1, ez1, h⟩ := v_bnd h
  refine v_call1 (v := .int z1.1) (M1 := z1.2) (mc := 0) (ms := 0) (fun H locs hR hS => va_runV (As := [.int x1]) (rest := []) ⟨hx, hb, hml, hown, hts⟩ (mX10_noCursor l hfl D x0 x1 M z1 ez1) (cwV 1 hts (gdV kw1665 kw1667 kw70 kw85 kw1668) rfl rfl rfl (by decide +kernel) ⟨Nat.le_of_ble_eq_true rfl, Nat.le_of_ble_eq_true rfl⟩) (v_preV (ci := 11) hSS hR hS g8 (by decide) rfl [.int x1]) rfl rfl hl.1 rfl (lv_room (Nat.le_of_ble_eq_true rfl)) dX10_cursor_2 ⟨Nat.zero_le _, Nat.zero_le _⟩) ?_
  refine w_if_ne (tgt := 31) hx hb dX10_cursor_5 (by decide) (fun c2 => ?_) (fun c2 => ?_)
  · rw [if_pos c2] at h
    refine w_aload_n hx hb dX10_cursor_8 rfl (lv_at hl 0 rfl) ?_
    refine w_iload_n hx hb dX10_cursor_9 rfl (lv_at hl 2 rfl) ?_
    refine w_iconst (v := 0) hx hb dX10_cursor_10 (by decide) ?_
    refine w_bipush (v := 6) hx hb dX10_cursor_11 (by decide) ?_
    obtain ⟨z3, ez3, h⟩ := v_bnd h
    refine v_call1 (v := .int z3) (M1 := z1.2) (mc := 0) (ms := 0) (fun H locs hR hS => va_runS (As := [.int x2, .int 0, .int 6]) (rest := [.ref x0]) ⟨hx, hb, hml, hown, hts⟩ (mX10_within l hfl D x2 0 6 z1.2 z3 ez3) (va_cwS 3 hts (gdS kw1419 kw1420 kw85 kw1421) rfl rfl rfl (by decide +kernel) ⟨Nat.le_of_ble_eq_true rfl, Nat.le_of_ble_eq_true rfl⟩) (v_preS hSS hR hS [.int x2, .int 0, .int 6]) rfl rfl hl.1 rfl (lv_room (Nat.le_of_ble_eq_true rfl)) dX10_cursor_13 ⟨Nat.zero_le _, Nat.zero_le _⟩) ?_
    refine w_if_ne (tgt := 23) hx hb dX10_cursor_16 (by decide) (fun c4 => ?_) (fun c4 => ?_)
    · rw [if_pos c4] at h
      refine w_iconst (v := 1) hx hb dX10_cursor_19 (by decide) ?_
      refine w_goto (tgt := 24) hx hb dX10_cursor_20 (by decide) ?_
      exact X10_cursor_J24p x0 x1 x2 x0 1 z1.2 ls (lv_sub hl [0, 1, 2] rfl) h
    · rw [if_neg c4] at h
      refine w_iconst (v := 0) hx hb dX10_cursor_23 (by decide) ?_
      exact X10_cursor_J24p x0 x1 x2 x0 0 z1.2 ls (lv_sub hl [0, 1, 2] rfl) h
  · rw [if_neg c2] at h
    refine w_iconst (v := 0) hx hb dX10_cursor_31 (by decide) ?_
    obtain rfl := Option.some.inj h
    rw [hQ]
    exact v_iret hx hb hr hlk dX10_cursor_32

def tX10_meets (x0 : Nat) (x1 : Int32) (x2 : Int32) (M : vMe) : Option Int32 :=
  if (M.1 x0).1 = 12 then
  ((tX10_ofCursor x0 x1 4 M).bind fun z1 =>
  if z1 = 0 then
  (some 1)
else
  (if (M.1 x0).1 = 12 then
  ((tX10_ofCursor x0 x1 1 M).bind fun z3 =>
  if (M.1 x0).1 = 12 then
  ((tX10_of x0 z3 (134 + x2) M).bind fun z4 =>
  if (M.1 x0).1 = 12 then
  ((tX10_ofCursor x0 x1 5 M).bind fun z5 =>
  if z5 < z4 then
  (some 0)
else
  (some 1))
else none)
else none)
else none))
else none
def rmX10_meets : Room := { frames := 2, cells := 0, slots := 0, locals := 22 }
set_option maxHeartbeats 4000000 in
set_option maxRecDepth 100000 in
theorem mX10_meets (l : Launch) (hfl : l.stackTraces = false) (D : vD) (x0 : Nat) (x1 : Int32) (x2 : Int32) (M : vMe) (z : Int32) (h : tX10_meets x0 x1 x2 M = some z) : Met l yX10_meets (Cond.code yX10_meets cX10_meets 3 (some .boolean) :: TB) rmX10_meets (va_Pc [.ref x0, .int x1, .int x2] (vPre D M)) (qW D (some (.int z)) M) 0 0 (vA D) := by
  refine v_ofW (cc := cX10_meets) (maxL := 3) (ret := (some .boolean)) (by decide) (Nat.le_of_ble_eq_true rfl) ?_
  intro p e s m args below meth c Q hx hb hr hml hown hts hlk hnm hSS hR0 hQ ls hl
  have hK := hSS.1
  have hl : lv_has ls 3 [(0, .ref x0), (1, .int x1), (2, .int x2)] := hl
  unfold tX10_meets at h
  refine w_aload_n hx hb dX10_meets_0 rfl (lv_at hl 0 rfl) ?_
  refine w_iload_n hx hb dX10_meets_1 rfl (lv_at hl 1 rfl) ?_
  refine w_iconst (v := 4) hx hb dX10_meets_2 (by decide) ?_
  obtain ⟨g8, h⟩ := v_ifs h
  obtain ⟨z1, ez1, h⟩ := v_bnd h
  refine v_call1 (v := .int z1) (M1 := M) (mc := 0) (ms := 0) (fun H locs hR hS => va_runV (As := [.int x1, .int 4]) (rest := []) ⟨hx, hb, hml, hown, hts⟩ (mX10_ofCursor l hfl D x0 x1 4 M z1 ez1) (cwV 2 hts (gdV kw1547 kw1549 kw56 kw85 kw1550) rfl rfl rfl (by decide +kernel) ⟨Nat.le_of_ble_eq_true rfl, Nat.le_of_ble_eq_true rfl⟩) (v_preV (ci := 11) hSS hR hS g8 (by decide) rfl [.int x1, .int 4]) rfl rfl hl.1 rfl (lv_room (Nat.le_of_ble_eq_true rfl)) dX10_meets_3 ⟨Nat.zero_le _, Nat.zero_le _⟩) ?_
  refine w_if_eq (tgt := 33) hx hb dX10_meets_6 (by decide) (fun c2 => ?_) (fun c2 => ?_)
  · rw [if_pos c2] at h
    refine w_iconst (v := 1) hx hb dX10_meets_33 (by decide) ?_
    refine w_goto (tgt := 38) hx hb dX10_meets_34 (by decide) ?_
    obtain rfl := Option.some.inj h
    rw [hQ]
    exact v_zret (x := 1) hx hb hr hlk rfl dX10_meets_38
  · rw [if_neg c2] at h
    refine w_aload_n hx hb dX10_meets_9 rfl (lv_at hl 0 rfl) ?_
    refine w_aload_n hx hb dX10_meets_10 rfl (lv_at hl 0 rfl) ?_
    refine w_iload_n hx hb dX10_meets_11 rfl (lv_at hl 1 rfl) ?_
    refine w_iconst (v := 1) hx hb dX10_meets_12 (by decide) ?_
    obtain ⟨g8, h⟩ := v_ifs h
    obtain ⟨z3, ez3, h⟩ := v_bnd h
    refine v_call1 (v := .int z3) (M1 := M) (mc := 0) (ms := 0) (fun H locs hR hS => va_runV (As := [.int x1, .int 1]) (rest := [.ref x0]) ⟨hx, hb, hml, hown, hts⟩ (mX10_ofCursor l hfl D x0 x1 1 M z3 ez3) (cwV 2 hts (gdV kw1547 kw1549 kw56 kw85 kw1550) rfl rfl rfl (by decide +kernel) ⟨Nat.le_of_ble_eq_true rfl, Nat.le_of_ble_eq_true rfl⟩) (v_preV (ci := 11) hSS hR hS g8 (by decide) rfl [.int x1, .int 1]) rfl rfl hl.1 rfl (lv_room (Nat.le_of_ble_eq_true rfl)) dX10_meets_13 ⟨Nat.zero_le _, Nat.zero_le _⟩) ?_
    refine w_sipush (v := 134) hx hb dX10_meets_16 (by decide) ?_
    refine w_iload_n hx hb dX10_meets_19 rfl (lv_at hl 2 rfl) ?_
    refine w_iadd hx hb dX10_meets_20 ?_
    obtain ⟨g8, h⟩ := v_ifs h
    obtain ⟨z4, ez4, h⟩ := v_bnd h
    refine v_call1 (v := .int z4) (M1 := M) (mc := 0) (ms := 0) (fun H locs hR hS => va_runV (As := [.int z3, .int (134 + x2)]) (rest := []) ⟨hx, hb, hml, hown, hts⟩ (mX10_of l hfl D x0 z3 (134 + x2) M z4 ez4) (cwV 2 hts (gdV kw1497 kw1499 kw44 kw85 kw1500) rfl rfl rfl (by decide +kernel) ⟨Nat.le_of_ble_eq_true rfl, Nat.le_of_ble_eq_true rfl⟩) (v_preV (ci := 11) hSS hR hS g8 (by decide) rfl [.int z3, .int (134 + x2)]) rfl rfl hl.1 rfl (lv_room (Nat.le_of_ble_eq_true rfl)) dX10_meets_21 ⟨Nat.zero_le _, Nat.zero_le _⟩) ?_
    refine w_aload_n hx hb dX10_meets_24 rfl (lv_at hl 0 rfl) ?_
    refine w_iload_n hx hb dX10_meets_25 rfl (lv_at hl 1 rfl) ?_
    refine w_iconst (v := 5) hx hb dX10_meets_26 (by decide) ?_
    obtain ⟨g8, h⟩ := v_ifs h
    obtain ⟨z5, ez5, h⟩ := v_bnd h
    refine v_call1 (v := .int z5) (M1 := M) (mc := 0) (ms := 0) (fun H locs hR hS => va_runV (As := [.int x1, .int 5]) (rest := [.int z4]) ⟨hx, hb, hml, hown, hts⟩ (mX10_ofCursor l hfl D x0 x1 5 M z5 ez5) (cwV 2 hts (gdV kw1547 kw1549 kw56 kw85 kw1550) rfl rfl rfl (by decide +kernel) ⟨Nat.le_of_ble_eq_true rfl, Nat.le_of_ble_eq_true rfl⟩) (v_preV (ci := 11) hSS hR hS g8 (by decide) rfl [.int x1, .int 5]) rfl rfl hl.1 rfl (lv_room (Nat.le_of_ble_eq_true rfl)) dX10_meets_27 ⟨Nat.zero_le _, Nat.zero_le _⟩) ?_
    refine w_icmp_gt (tgt := 37) hx hb dX10_meets_30 (by decide) (fun c6 => ?_) (fun c6 => ?_)
    · rw [if_pos c6] at h
      refine w_iconst (v := 0) hx hb dX10_meets_37 (by decide) ?_
      obtain rfl := Option.some.inj h
      rw [hQ]
      exact v_zret (x := 0) hx hb hr hlk rfl dX10_meets_38
    · rw [if_neg c6] at h
      refine w_iconst (v := 1) hx hb dX10_meets_33 (by decide) ?_
      refine w_goto (tgt := 38) hx hb dX10_meets_34 (by decide) ?_
      obtain rfl := Option.some.inj h
      rw [hQ]
      exact v_zret (x := 1) hx hb hr hlk rfl dX10_meets_38

def tX10_ahead_J71_36 (rec : Int32 → Int32 → vMe → Option (Int32 × vMe)) (x0 : Nat) (x1 : Int32) (x2 : Int32) (x4 : Int32) (y0 : Int32) (y1 : Int32) (Mj : vMe) : Option (Int32 × vMe) :=
  rec (y0 + y1) (x4 + 1) Mj
def tX10_ahead_L36 (x0 : Nat) (x1 : Int32) (x2 : Int32) : Nat → Int32 → Int32 → vMe → Option (Int32 × vMe)
  | 0, _, _, _ => none
  | f + 1, x3, x4, Mi =>
  if (Mi.1 x0).1 = 12 then
  ((tX10_of x0 x2 0 Mi).bind fun z12 =>
  if z12 ≤ x4 then
  (some (x3, Mi))
else
  (if (Mi.1 x0).1 = 12 then
  ((tX10_of x0 x2 (6 + x4) Mi).bind fun z14 =>
  if (Mi.1 x0).1 = 12 then
  ((tX10_meets x0 x1 z14 Mi).bind fun z15 =>
  if z15 = 0 then
  (tX10_ahead_J71_36 (tX10_ahead_L36 x0 x1 x2 f) x0 x1 x2 x4 x3 0 Mi)
else
  (tX10_ahead_J71_36 (tX10_ahead_L36 x0 x1 x2 f) x0 x1 x2 x4 x3 1 Mi))
else none)
else none))
else none
def tX10_ahead (x0 : Nat) (x1 : Int32) (M : vMe) : Option (Int32 × vMe) :=
  if (M.1 x0).1 = 12 then
  ((tX10_noCursor x0 x1 M).bind fun z1 =>
  if z1.1 = 0 then
  (if (z1.2.1 x0).1 = 12 then
  ((tX10_ofCursor x0 x1 3 z1.2).bind fun z3 =>
  if z3 = 0 then
  (some (0, z1.2))
else
  (if (z1.2.1 x0).1 = 12 then
  ((tX10_ofCursor x0 x1 1 z1.2).bind fun z5 =>
  if (z1.2.1 x0).1 = 12 then
  ((tX10_ofCursor x0 x1 2 z1.2).bind fun z6 =>
  (tX10_ahead_L36 x0 x1 z5 vF 0 z6 z1.2).bind fun z17 =>
  some (z17.1, z17.2))
else none)
else none))
else none)
else
  (some (0, z1.2)))
else none
def rmX10_ahead : Room := { frames := 3, cells := 0, slots := 0, locals := 44 }
set_option maxHeartbeats 4000000 in
set_option maxRecDepth 100000 in
theorem mX10_ahead (l : Launch) (hfl : l.stackTraces = false) (D : vD) (x0 : Nat) (x1 : Int32) (M : vMe) (z : (Int32 × vMe)) (h : tX10_ahead x0 x1 M = some z) : Met l yX10_ahead (Cond.code yX10_ahead cX10_ahead 5 (some .int) :: TB) rmX10_ahead (va_Pc [.ref x0, .int x1] (vPre D M)) (qW D (some (.int z.1)) z.2) 0 0 (vA D) := by
  refine v_ofW (cc := cX10_ahead) (maxL := 5) (ret := (some .int)) (by decide) (Nat.le_of_ble_eq_true rfl) ?_
  intro p e s m args below meth c Q hx hb hr hml hown hts hlk hnm hSS hR0 hQ ls hl
  have hK := hSS.1
  have hl : lv_has ls 5 [(0, .ref x0), (1, .int x1)] := hl
  unfold tX10_ahead at h
  have X10_ahead_L36p : ∀ (x0 : Nat) (x1 : Int32) (x2 : Int32), ∀ (f : Nat) (x3 : Int32) (x4 : Int32) (Mi : vMe) (ls : Array Slot) (z : (Int32 × vMe)), lv_has ls 5 [(0, .ref x0), (1, .int x1), (2, .int x2), (3, .int x3), (4, .int x4)] → tX10_ahead_L36 x0 x1 x2 f x3 x4 Mi = some z → (∀ ls : Array Slot, lv_has ls 5 [(3, .int z.1)] → vV D p l e rmX10_ahead s m args below meth c 0 0 Q z.2 (F0 m 79 ls [])) → vV D p l e rmX10_ahead s m args below meth c 0 0 Q Mi (F0 m 36 ls []) := by
    intro x0 x1 x2 f
    induction f with
    | zero =>
      intro x3 x4 Mi ls z hl h
      exact absurd h (by simp [tX10_ahead_L36])
    | succ f ih =>
      intro x3 x4 Mi ls z hl h KX
      rw [tX10_ahead_L36] at h
      have X10_ahead_J71_36p : ∀ (x4 : Int32) (y0 : Int32) (y1 : Int32) (Mj : vMe) (ls : Array Slot), lv_has ls 5 [(0, .ref x0), (1, .int x1), (2, .int x2), (4, .int x4)] → tX10_ahead_J71_36 (tX10_ahead_L36 x0 x1 x2 f) x0 x1 x2 x4 y0 y1 Mj = some z → vV D p l e rmX10_ahead s m args below meth c 0 0 Q Mj (F0 m 71 ls [.int y1, .int y0]) := by
        intro x4 y0 y1 Mj ls hl h
        unfold tX10_ahead_J71_36 at h
        refine w_iadd hx hb dX10_ahead_71 ?_
        refine w_istore_n (lv' := [(3, .int (y0 + y1)), (0, .ref x0), (1, .int x1), (2, .int x2), (4, .int x4)]) hx hb dX10_ahead_72 rfl hl (by decide) rfl (fun ls hl => ?_)
        have hl : lv_has ls 5 [(0, .ref x0), (1, .int x1), (2, .int x2), (3, .int (y0 + y1)), (4, .int x4)] := lv_sub hl [1, 2, 3, 0, 4] rfl
        refine w_iinc (v := x4 + 1) (lv' := [(4, .int (x4 + 1)), (0, .ref x0), (1, .int x1), (2, .int x2), (3, .int (y0 + y1))]) hx hb dX10_ahead_73 hl (j := 4) rfl rfl (by decide) rfl (fun ls hl => ?_)
        have hl : lv_has ls 5 [(0, .ref x0), (1, .int x1), (2, .int x2), (3, .int (y0 + y1)), (4, .int (x4 + 1))] := lv_sub hl [1, 2, 3, 4, 0] rfl
        refine w_goto (tgt := 36) hx hb dX10_ahead_76 (by decide) ?_
        exact ih (y0 + y1) (x4 + 1) Mj ls z (lv_sub hl [0, 1, 2, 3, 4] rfl) h KX
      refine w_iload hx hb dX10_ahead_36 (lv_at hl 4 rfl) ?_
      refine w_aload_n hx hb dX10_ahead_38 rfl (lv_at hl 0 rfl) ?_
      refine w_iload_n hx hb dX10_ahead_39 rfl (lv_at hl 2 rfl) ?_
      refine w_iconst (v := 0) hx hb dX10_ahead_40 (by decide) ?_
      obtain ⟨g8, h⟩ := v_ifs h
      obtain ⟨z12, ez12, h⟩ := v_bnd h
      refine v_call1 (v := .int z12) (M1 := Mi) (mc := 0) (ms := 0) (fun H locs hR hS => va_runV (As := [.int x2, .int 0]) (rest := [.int x4]) ⟨hx, hb, hml, hown, hts⟩ (mX10_of l hfl D x0 x2 0 Mi z12 ez12) (cwV 2 hts (gdV kw1497 kw1499 kw44 kw85 kw1500) rfl rfl rfl (by decide +kernel) ⟨Nat.le_of_ble_eq_true rfl, Nat.le_of_ble_eq_true rfl⟩) (v_preV (ci := 11) hSS hR hS g8 (by decide) rfl [.int x2, .int 0]) rfl rfl hl.1 rfl (lv_room (Nat.le_of_ble_eq_true rfl)) dX10_ahead_41 ⟨Nat.zero_le _, Nat.zero_le _⟩) ?_
      refine w_icmp_ge (tgt := 79) hx hb dX10_ahead_44 (by decide) (fun c13 => ?_) (fun c13 => ?_)
      · rw [if_pos c13] at h
        obtain rfl := Option.some.inj h
        exact KX ls (lv_sub hl [3] rfl)
      · rw [if_neg c13] at h
        refine w_iload_n hx hb dX10_ahead_47 rfl (lv_at hl 3 rfl) ?_
        refine w_aload_n hx hb dX10_ahead_48 rfl (lv_at hl 0 rfl) ?_
        refine w_iload_n hx hb dX10_ahead_49 rfl (lv_at hl 1 rfl) ?_
        refine w_aload_n hx hb dX10_ahead_50 rfl (lv_at hl 0 rfl) ?_
        refine w_iload_n hx hb dX10_ahead_51 rfl (lv_at hl 2 rfl) ?_
        refine w_bipush (v := 6) hx hb dX10_ahead_52 (by decide) ?_
        refine w_iload hx hb dX10_ahead_54 (lv_at hl 4 rfl) ?_
        refine w_iadd hx hb dX10_ahead_56 ?_
        obtain ⟨g8, h⟩ := v_ifs h
        obtain ⟨z14, ez14, h⟩ := v_bnd h
        refine v_call1 (v := .int z14) (M1 := Mi) (mc := 0) (ms := 0) (fun H locs hR hS => va_runV (As := [.int x2, .int (6 + x4)]) (rest := [.int x1, .ref x0, .int x3]) ⟨hx, hb, hml, hown, hts⟩ (mX10_of l hfl D x0 x2 (6 + x4) Mi z14 ez14) (cwV 2 hts (gdV kw1497 kw1499 kw44 kw85 kw1500) rfl rfl rfl (by decide +kernel) ⟨Nat.le_of_ble_eq_true rfl, Nat.le_of_ble_eq_true rfl⟩) (v_preV (ci := 11) hSS hR hS g8 (by decide) rfl [.int x2, .int (6 + x4)]) rfl rfl hl.1 rfl (lv_room (Nat.le_of_ble_eq_true rfl)) dX10_ahead_57 ⟨Nat.zero_le _, Nat.zero_le _⟩) ?_
        obtain ⟨g8, h⟩ := v_ifs h
        obtain ⟨z15, ez15, h⟩ := v_bnd h
        refine v_call1 (v := .int z15) (M1 := Mi) (mc := 0) (ms := 0) (fun H locs hR hS => va_runV (As := [.int x1, .int z14]) (rest := [.int x3]) ⟨hx, hb, hml, hown, hts⟩ (mX10_meets l hfl D x0 x1 z14 Mi z15 ez15) (cwV 2 hts (gdV kw1673 kw1675 kw71 kw85 kw1676) rfl rfl rfl (by decide +kernel) ⟨Nat.le_of_ble_eq_true rfl, Nat.le_of_ble_eq_true rfl⟩) (v_preV (ci := 11) hSS hR hS g8 (by decide) rfl [.int x1, .int z14]) rfl rfl hl.1 rfl (lv_room (Nat.le_of_ble_eq_true rfl)) dX10_ahead_60 ⟨Nat.zero_le _, Nat.zero_le _⟩) ?_
        refine w_if_eq (tgt := 70) hx hb dX10_ahead_63 (by decide) (fun c16 => ?_) (fun c16 => ?_)
        · rw [if_pos c16] at h
          refine w_iconst (v := 0) hx hb dX10_ahead_70 (by decide) ?_
          exact X10_ahead_J71_36p x4 x3 0 Mi ls (lv_sub hl [0, 1, 2, 4] rfl) h
        · rw [if_neg c16] at h
          refine w_iconst (v := 1) hx hb dX10_ahead_66 (by decide) ?_
          refine w_goto (tgt := 71) hx hb dX10_ahead_67 (by decide) ?_
          exact X10_ahead_J71_36p x4 x3 1 Mi ls (lv_sub hl [0, 1, 2, 4] rfl) h
  refine w_aload_n hx hb dX10_ahead_0 rfl (lv_at hl 0 rfl) ?_
  refine w_iload_n hx hb dX10_ahead_1 rfl (lv_at hl 1 rfl) ?_
  obtain ⟨g8, h⟩ := v_ifs h
  obtain ⟨z1, ez1, h⟩ := v_bnd h
  refine v_call1 (v := .int z1.1) (M1 := z1.2) (mc := 0) (ms := 0) (fun H locs hR hS => va_runV (As := [.int x1]) (rest := []) ⟨hx, hb, hml, hown, hts⟩ (mX10_noCursor l hfl D x0 x1 M z1 ez1) (cwV 1 hts (gdV kw1665 kw1667 kw70 kw85 kw1668) rfl rfl rfl (by decide +kernel) ⟨Nat.le_of_ble_eq_true rfl, Nat.le_of_ble_eq_true rfl⟩) (v_preV (ci := 11) hSS hR hS g8 (by decide) rfl [.int x1]) rfl rfl hl.1 rfl (lv_room (Nat.le_of_ble_eq_true rfl)) dX10_ahead_2 ⟨Nat.zero_le _, Nat.zero_le _⟩) ?_
  refine w_if_ne (tgt := 17) hx hb dX10_ahead_5 (by decide) (fun c2 => ?_) (fun c2 => ?_)
  · rw [if_pos c2] at h
    refine w_aload_n hx hb dX10_ahead_8 rfl (lv_at hl 0 rfl) ?_
    refine w_iload_n hx hb dX10_ahead_9 rfl (lv_at hl 1 rfl) ?_
    refine w_iconst (v := 3) hx hb dX10_ahead_10 (by decide) ?_
    obtain ⟨g8, h⟩ := v_ifs h
    obtain ⟨z3, ez3, h⟩ := v_bnd h
    refine v_call1 (v := .int z3) (M1 := z1.2) (mc := 0) (ms := 0) (fun H locs hR hS => va_runV (As := [.int x1, .int 3]) (rest := []) ⟨hx, hb, hml, hown, hts⟩ (mX10_ofCursor l hfl D x0 x1 3 z1.2 z3 ez3) (cwV 2 hts (gdV kw1547 kw1549 kw56 kw85 kw1550) rfl rfl rfl (by decide +kernel) ⟨Nat.le_of_ble_eq_true rfl, Nat.le_of_ble_eq_true rfl⟩) (v_preV (ci := 11) hSS hR hS g8 (by decide) rfl [.int x1, .int 3]) rfl rfl hl.1 rfl (lv_room (Nat.le_of_ble_eq_true rfl)) dX10_ahead_11 ⟨Nat.zero_le _, Nat.zero_le _⟩) ?_
    refine w_if_ne (tgt := 19) hx hb dX10_ahead_14 (by decide) (fun c4 => ?_) (fun c4 => ?_)
    · rw [if_pos c4] at h
      refine w_iconst (v := 0) hx hb dX10_ahead_17 (by decide) ?_
      obtain rfl := Option.some.inj h
      rw [hQ]
      exact v_iret hx hb hr hlk dX10_ahead_18
    · rw [if_neg c4] at h
      refine w_aload_n hx hb dX10_ahead_19 rfl (lv_at hl 0 rfl) ?_
      refine w_iload_n hx hb dX10_ahead_20 rfl (lv_at hl 1 rfl) ?_
      refine w_iconst (v := 1) hx hb dX10_ahead_21 (by decide) ?_
      obtain ⟨g8, h⟩ := v_ifs h
      obtain ⟨z5, ez5, h⟩ := v_bnd h
      refine v_call1 (v := .int z5) (M1 := z1.2) (mc := 0) (ms := 0) (fun H locs hR hS => va_runV (As := [.int x1, .int 1]) (rest := []) ⟨hx, hb, hml, hown, hts⟩ (mX10_ofCursor l hfl D x0 x1 1 z1.2 z5 ez5) (cwV 2 hts (gdV kw1547 kw1549 kw56 kw85 kw1550) rfl rfl rfl (by decide +kernel) ⟨Nat.le_of_ble_eq_true rfl, Nat.le_of_ble_eq_true rfl⟩) (v_preV (ci := 11) hSS hR hS g8 (by decide) rfl [.int x1, .int 1]) rfl rfl hl.1 rfl (lv_room (Nat.le_of_ble_eq_true rfl)) dX10_ahead_22 ⟨Nat.zero_le _, Nat.zero_le _⟩) ?_
      refine w_istore_n (lv' := [(2, .int z5), (0, .ref x0), (1, .int x1)]) hx hb dX10_ahead_25 rfl hl (by decide) rfl (fun ls hl => ?_)
      have hl : lv_has ls 5 [(0, .ref x0), (1, .int x1), (2, .int z5)] := lv_sub hl [1, 2, 0] rfl
      refine w_iconst (v := 0) hx hb dX10_ahead_26 (by decide) ?_
      refine w_istore_n (lv' := [(3, .int 0), (0, .ref x0), (1, .int x1), (2, .int z5)]) hx hb dX10_ahead_27 rfl hl (by decide) rfl (fun ls hl => ?_)
      have hl : lv_has ls 5 [(0, .ref x0), (1, .int x1), (2, .int z5), (3, .int 0)] := lv_sub hl [1, 2, 3, 0] rfl
      refine w_aload_n hx hb dX10_ahead_28 rfl (lv_at hl 0 rfl) ?_
      refine w_iload_n hx hb dX10_ahead_29 rfl (lv_at hl 1 rfl) ?_
      refine w_iconst (v := 2) hx hb dX10_ahead_30 (by decide) ?_
      obtain ⟨g8, h⟩ := v_ifs h
      obtain ⟨z6, ez6, h⟩ := v_bnd h
      refine v_call1 (v := .int z6) (M1 := z1.2) (mc := 0) (ms := 0) (fun H locs hR hS => va_runV (As := [.int x1, .int 2]) (rest := []) ⟨hx, hb, hml, hown, hts⟩ (mX10_ofCursor l hfl D x0 x1 2 z1.2 z6 ez6) (cwV 2 hts (gdV kw1547 kw1549 kw56 kw85 kw1550) rfl rfl rfl (by decide +kernel) ⟨Nat.le_of_ble_eq_true rfl, Nat.le_of_ble_eq_true rfl⟩) (v_preV (ci := 11) hSS hR hS g8 (by decide) rfl [.int x1, .int 2]) rfl rfl hl.1 rfl (lv_room (Nat.le_of_ble_eq_true rfl)) dX10_ahead_31 ⟨Nat.zero_le _, Nat.zero_le _⟩) ?_
      refine w_istore (lv' := [(4, .int z6), (0, .ref x0), (1, .int x1), (2, .int z5), (3, .int 0)]) hx hb dX10_ahead_34 hl (by decide) rfl (fun ls hl => ?_)
      have hl : lv_has ls 5 [(0, .ref x0), (1, .int x1), (2, .int z5), (3, .int 0), (4, .int z6)] := lv_sub hl [1, 2, 3, 4, 0] rfl
      obtain ⟨z17, ez17, h⟩ := v_bnd h
      refine X10_ahead_L36p x0 x1 z5 vF 0 z6 z1.2 ls z17 (lv_sub hl [0, 1, 2, 3, 4] rfl) ez17 (fun ls hl => ?_)
      refine w_iload_n hx hb dX10_ahead_79 rfl (lv_at hl 0 rfl) ?_
      obtain rfl := Option.some.inj h
      rw [hQ]
      exact v_iret hx hb hr hlk dX10_ahead_80
  · rw [if_neg c2] at h
    refine w_iconst (v := 0) hx hb dX10_ahead_17 (by decide) ?_
    obtain rfl := Option.some.inj h
    rw [hQ]
    exact v_iret hx hb hr hlk dX10_ahead_18

def tX10_noSets (x0 : Nat) (x1 : Int32) (x2 : Int32) (M : vMe) : Option (Int32 × vMe) :=
  if (M.1 x0).1 = 12 then
  ((tX10_noSet x0 x1 M).bind fun z1 =>
  if z1.1 = 0 then
  ((gA z1.2 x0 12 1).bind fun a3 =>
  (aI z1.2 a3 101 0).bind fun v4 =>
  if (z1.2.1 x0).1 = 12 then
  ((tX10_no x0 x2 v4 z1.2).bind fun z5 =>
  if z5.1 = 0 then
  (some (0, z5.2))
else
  (some (1, z5.2)))
else none)
else
  (some (1, z1.2)))
else none
def rmX10_noSets : Room := { frames := 4, cells := 0, slots := 0, locals := 65 }
set_option maxHeartbeats 4000000 in
set_option maxRecDepth 100000 in
theorem mX10_noSets (l : Launch) (hfl : l.stackTraces = false) (D : vD) (x0 : Nat) (x1 : Int32) (x2 : Int32) (M : vMe) (z : (Int32 × vMe)) (h : tX10_noSets x0 x1 x2 M = some z) : Met l yX10_noSets (Cond.code yX10_noSets cX10_noSets 3 (some .boolean) :: TB) rmX10_noSets (va_Pc [.ref x0, .int x1, .int x2] (vPre D M)) (qW D (some (.int z.1)) z.2) 0 0 (vA D) := by
  refine v_ofW (cc := cX10_noSets) (maxL := 3) (ret := (some .boolean)) (by decide) (Nat.le_of_ble_eq_true rfl) ?_
  intro p e s m args below meth c Q hx hb hr hml hown hts hlk hnm hSS hR0 hQ ls hl
  have hK := hSS.1
  have hl : lv_has ls 3 [(0, .ref x0), (1, .int x1), (2, .int x2)] := hl
  unfold tX10_noSets at h
  refine w_aload_n hx hb dX10_noSets_0 rfl (lv_at hl 0 rfl) ?_
  refine w_iload_n hx hb dX10_noSets_1 rfl (lv_at hl 1 rfl) ?_
  obtain ⟨g8, h⟩ := v_ifs h
  obtain ⟨z1, ez1, h⟩ := v_bnd h
  refine v_call1 (v := .int z1.1) (M1 := z1.2) (mc := 0) (ms := 0) (fun H locs hR hS => va_runV (As := [.int x1]) (rest := []) ⟨hx, hb, hml, hown, hts⟩ (mX10_noSet l hfl D x0 x1 M z1 ez1) (cwV 1 hts (gdV kw1602 kw1604 kw64 kw85 kw1605) rfl rfl rfl (by decide +kernel) ⟨Nat.le_of_ble_eq_true rfl, Nat.le_of_ble_eq_true rfl⟩) (v_preV (ci := 11) hSS hR hS g8 (by decide) rfl [.int x1]) rfl rfl hl.1 rfl (lv_room (Nat.le_of_ble_eq_true rfl)) dX10_noSets_2 ⟨Nat.zero_le _, Nat.zero_le _⟩) ?_
  refine w_if_ne (tgt := 22) hx hb dX10_noSets_5 (by decide) (fun c2 => ?_) (fun c2 => ?_)
  · rw [if_pos c2] at h
    refine w_aload_n hx hb dX10_noSets_8 rfl (lv_at hl 0 rfl) ?_
    refine w_iload_n hx hb dX10_noSets_9 rfl (lv_at hl 2 rfl) ?_
    refine w_aload_n hx hb dX10_noSets_10 rfl (lv_at hl 0 rfl) ?_
    obtain ⟨a3, ea3, h⟩ := v_bnd h
    refine v_gA (ci := 11) hx hb hts iwX10 hown hK 1 ea3 rfl (by decide) (Or.inl (hts _ kw1336)) (fun _ h9 => h9) dX10_noSets_11 ?_
    refine w_iconst (v := 0) hx hb dX10_noSets_14 (by decide) ?_
    obtain ⟨v4, ev4, h⟩ := v_bnd h
    refine v_iald hx hb hK ev4 dX10_noSets_15 ?_
    obtain ⟨g8, h⟩ := v_ifs h
    obtain ⟨z5, ez5, h⟩ := v_bnd h
    refine v_call1 (v := .int z5.1) (M1 := z5.2) (mc := 0) (ms := 0) (fun H locs hR hS => va_runV (As := [.int x2, .int v4]) (rest := []) ⟨hx, hb, hml, hown, hts⟩ (mX10_no l hfl D x0 x2 v4 z1.2 z5 ez5) (cwV 2 hts (gdV kw1606 kw1608 kw65 kw85 kw1609) rfl rfl rfl (by decide +kernel) ⟨Nat.le_of_ble_eq_true rfl, Nat.le_of_ble_eq_true rfl⟩) (v_preV (ci := 11) hSS hR hS g8 (by decide) rfl [.int x2, .int v4]) rfl rfl hl.1 rfl (lv_room (Nat.le_of_ble_eq_true rfl)) dX10_noSets_16 ⟨Nat.zero_le _, Nat.zero_le _⟩) ?_
    refine w_if_eq (tgt := 26) hx hb dX10_noSets_19 (by decide) (fun c6 => ?_) (fun c6 => ?_)
    · rw [if_pos c6] at h
      refine w_iconst (v := 0) hx hb dX10_noSets_26 (by decide) ?_
      obtain rfl := Option.some.inj h
      rw [hQ]
      exact v_zret (x := 0) hx hb hr hlk rfl dX10_noSets_27
    · rw [if_neg c6] at h
      refine w_iconst (v := 1) hx hb dX10_noSets_22 (by decide) ?_
      refine w_goto (tgt := 27) hx hb dX10_noSets_23 (by decide) ?_
      obtain rfl := Option.some.inj h
      rw [hQ]
      exact v_zret (x := 1) hx hb hr hlk rfl dX10_noSets_27
  · rw [if_neg c2] at h
    refine w_iconst (v := 1) hx hb dX10_noSets_22 (by decide) ?_
    refine w_goto (tgt := 27) hx hb dX10_noSets_23 (by decide) ?_
    obtain rfl := Option.some.inj h
    rw [hQ]
    exact v_zret (x := 1) hx hb hr hlk rfl dX10_noSets_27

def tX10_commonOf_J42_5 (rec : Int32 → Int32 → Option Int32) (x0 : Nat) (x1 : Int32) (x2 : Int32) (x4 : Int32) (y0 : Int32) (y1 : Int32) (M : vMe) : Option Int32 :=
  rec (y0 + y1) (x4 + 1)
def tX10_commonOf_J41_5 (rec : Int32 → Int32 → Option Int32) (x0 : Nat) (x1 : Int32) (x2 : Int32) (x4 : Int32) (y0 : Int32) (M : vMe) : Option Int32 :=
  tX10_commonOf_J42_5 (rec) x0 x1 x2 x4 y0 0 M
def tX10_commonOf_L5 (x0 : Nat) (x1 : Int32) (x2 : Int32) (M : vMe) : Nat → Int32 → Int32 → Option Int32
  | 0, _, _ => none
  | f + 1, x3, x4 =>
  (gA M x0 12 1).bind fun a8 =>
  (aI M a8 101 1).bind fun v9 =>
  if v9 ≤ x4 then
  (some x3)
else
  (if (M.1 x0).1 = 12 then
  ((tX10_isMember x0 x1 x4 M).bind fun z11 =>
  if z11 = 0 then
  (tX10_commonOf_J41_5 (tX10_commonOf_L5 x0 x1 x2 M f) x0 x1 x2 x4 x3 M)
else
  (if (M.1 x0).1 = 12 then
  ((tX10_isMember x0 x2 x4 M).bind fun z13 =>
  if z13 = 0 then
  (tX10_commonOf_J41_5 (tX10_commonOf_L5 x0 x1 x2 M f) x0 x1 x2 x4 x3 M)
else
  (tX10_commonOf_J42_5 (tX10_commonOf_L5 x0 x1 x2 M f) x0 x1 x2 x4 x3 1 M))
else none))
else none)
def tX10_commonOf (x0 : Nat) (x1 : Int32) (x2 : Int32) (M : vMe) : Option Int32 :=
  (tX10_commonOf_L5 x0 x1 x2 M vF 0 0).bind fun z15 =>
  some z15
def rmX10_commonOf : Room := { frames := 3, cells := 0, slots := 0, locals := 45 }
set_option maxHeartbeats 4000000 in
set_option maxRecDepth 100000 in
theorem mX10_commonOf (l : Launch) (hfl : l.stackTraces = false) (D : vD) (x0 : Nat) (x1 : Int32) (x2 : Int32) (M : vMe) (z : Int32) (h : tX10_commonOf x0 x1 x2 M = some z) : Met l yX10_commonOf (Cond.code yX10_commonOf cX10_commonOf 5 (some .int) :: TB) rmX10_commonOf (va_Pc [.ref x0, .int x1, .int x2] (vPre D M)) (qW D (some (.int z)) M) 0 0 (vA D) := by
  refine v_ofW (cc := cX10_commonOf) (maxL := 5) (ret := (some .int)) (by decide) (Nat.le_of_ble_eq_true rfl) ?_
  intro p e s m args below meth c Q hx hb hr hml hown hts hlk hnm hSS hR0 hQ ls hl
  have hK := hSS.1
  have hl : lv_has ls 5 [(0, .ref x0), (1, .int x1), (2, .int x2)] := hl
  unfold tX10_commonOf at h
  have X10_commonOf_L5p : ∀ (x0 : Nat) (x1 : Int32) (x2 : Int32), ∀ (f : Nat) (x3 : Int32) (x4 : Int32) (ls : Array Slot) (z : Int32), lv_has ls 5 [(0, .ref x0), (1, .int x1), (2, .int x2), (3, .int x3), (4, .int x4)] → tX10_commonOf_L5 x0 x1 x2 M f x3 x4 = some z → (∀ ls : Array Slot, lv_has ls 5 [(3, .int z)] → vV D p l e rmX10_commonOf s m args below meth c 0 0 Q M (F0 m 50 ls [])) → vV D p l e rmX10_commonOf s m args below meth c 0 0 Q M (F0 m 5 ls []) := by
    intro x0 x1 x2 f
    induction f with
    | zero =>
      intro x3 x4 ls z hl h
      exact absurd h (by simp [tX10_commonOf_L5])
    | succ f ih =>
      intro x3 x4 ls z hl h KX
      rw [tX10_commonOf_L5] at h
      have X10_commonOf_J42_5p : ∀ (x4 : Int32) (y0 : Int32) (y1 : Int32) (ls : Array Slot), lv_has ls 5 [(0, .ref x0), (1, .int x1), (2, .int x2), (4, .int x4)] → tX10_commonOf_J42_5 (tX10_commonOf_L5 x0 x1 x2 M f) x0 x1 x2 x4 y0 y1 M = some z → vV D p l e rmX10_commonOf s m args below meth c 0 0 Q M (F0 m 42 ls [.int y1, .int y0]) := by
        intro x4 y0 y1 ls hl h
        unfold tX10_commonOf_J42_5 at h
        refine w_iadd hx hb dX10_commonOf_42 ?_
        refine w_istore_n (lv' := [(3, .int (y0 + y1)), (0, .ref x0), (1, .int x1), (2, .int x2), (4, .int x4)]) hx hb dX10_commonOf_43 rfl hl (by decide) rfl (fun ls hl => ?_)
        have hl : lv_has ls 5 [(0, .ref x0), (1, .int x1), (2, .int x2), (3, .int (y0 + y1)), (4, .int x4)] := lv_sub hl [1, 2, 3, 0, 4] rfl
        refine w_iinc (v := x4 + 1) (lv' := [(4, .int (x4 + 1)), (0, .ref x0), (1, .int x1), (2, .int x2), (3, .int (y0 + y1))]) hx hb dX10_commonOf_44 hl (j := 4) rfl rfl (by decide) rfl (fun ls hl => ?_)
        have hl : lv_has ls 5 [(0, .ref x0), (1, .int x1), (2, .int x2), (3, .int (y0 + y1)), (4, .int (x4 + 1))] := lv_sub hl [1, 2, 3, 4, 0] rfl
        refine w_goto (tgt := 5) hx hb dX10_commonOf_47 (by decide) ?_
        exact ih (y0 + y1) (x4 + 1) ls z (lv_sub hl [0, 1, 2, 3, 4] rfl) h KX
      have X10_commonOf_J41_5p : ∀ (x4 : Int32) (y0 : Int32) (ls : Array Slot), lv_has ls 5 [(0, .ref x0), (1, .int x1), (2, .int x2), (4, .int x4)] → tX10_commonOf_J41_5 (tX10_commonOf_L5 x0 x1 x2 M f) x0 x1 x2 x4 y0 M = some z → vV D p l e rmX10_commonOf s m args below meth c 0 0 Q M (F0 m 41 ls [.int y0]) := by
        intro x4 y0 ls hl h
        unfold tX10_commonOf_J41_5 at h
        refine w_iconst (v := 0) hx hb dX10_commonOf_41 (by decide) ?_
        exact X10_commonOf_J42_5p x4 y0 0 ls (lv_sub hl [0, 1, 2, 3] rfl) h
      refine w_iload hx hb dX10_commonOf_5 (lv_at hl 4 rfl) ?_
      refine w_aload_n hx hb dX10_commonOf_7 rfl (lv_at hl 0 rfl) ?_
      obtain ⟨a8, ea8, h⟩ := v_bnd h
      refine v_gA (ci := 11) hx hb hts iwX10 hown hK 1 ea8 rfl (by decide) (Or.inl (hts _ kw1336)) (fun _ h9 => h9) dX10_commonOf_8 ?_
      refine w_iconst (v := 1) hx hb dX10_commonOf_11 (by decide) ?_
      obtain ⟨v9, ev9, h⟩ := v_bnd h
      refine v_iald hx hb hK ev9 dX10_commonOf_12 ?_
      refine w_icmp_ge (tgt := 50) hx hb dX10_commonOf_13 (by decide) (fun c10 => ?_) (fun c10 => ?_)
      · rw [if_pos c10] at h
        obtain rfl := Option.some.inj h
        exact KX ls (lv_sub hl [3] rfl)
      · rw [if_neg c10] at h
        refine w_iload_n hx hb dX10_commonOf_16 rfl (lv_at hl 3 rfl) ?_
        refine w_aload_n hx hb dX10_commonOf_17 rfl (lv_at hl 0 rfl) ?_
        refine w_iload_n hx hb dX10_commonOf_18 rfl (lv_at hl 1 rfl) ?_
        refine w_iload hx hb dX10_commonOf_19 (lv_at hl 4 rfl) ?_
        obtain ⟨g8, h⟩ := v_ifs h
        obtain ⟨z11, ez11, h⟩ := v_bnd h
        refine v_call1 (v := .int z11) (M1 := M) (mc := 0) (ms := 0) (fun H locs hR hS => va_runV (As := [.int x1, .int x4]) (rest := [.int x3]) ⟨hx, hb, hml, hown, hts⟩ (mX10_isMember l hfl D x0 x1 x4 M z11 ez11) (cwV 2 hts (gdV kw1493 kw1495 kw43 kw85 kw1496) rfl rfl rfl (by decide +kernel) ⟨Nat.le_of_ble_eq_true rfl, Nat.le_of_ble_eq_true rfl⟩) (v_preV (ci := 11) hSS hR hS g8 (by decide) rfl [.int x1, .int x4]) rfl rfl hl.1 rfl (lv_room (Nat.le_of_ble_eq_true rfl)) dX10_commonOf_21 ⟨Nat.zero_le _, Nat.zero_le _⟩) ?_
        refine w_if_eq (tgt := 41) hx hb dX10_commonOf_24 (by decide) (fun c12 => ?_) (fun c12 => ?_)
        · rw [if_pos c12] at h
          exact X10_commonOf_J41_5p x4 x3 ls (lv_sub hl [0, 1, 2, 4] rfl) h
        · rw [if_neg c12] at h
          refine w_aload_n hx hb dX10_commonOf_27 rfl (lv_at hl 0 rfl) ?_
          refine w_iload_n hx hb dX10_commonOf_28 rfl (lv_at hl 2 rfl) ?_
          refine w_iload hx hb dX10_commonOf_29 (lv_at hl 4 rfl) ?_
          obtain ⟨g8, h⟩ := v_ifs h
          obtain ⟨z13, ez13, h⟩ := v_bnd h
          refine v_call1 (v := .int z13) (M1 := M) (mc := 0) (ms := 0) (fun H locs hR hS => va_runV (As := [.int x2, .int x4]) (rest := [.int x3]) ⟨hx, hb, hml, hown, hts⟩ (mX10_isMember l hfl D x0 x2 x4 M z13 ez13) (cwV 2 hts (gdV kw1493 kw1495 kw43 kw85 kw1496) rfl rfl rfl (by decide +kernel) ⟨Nat.le_of_ble_eq_true rfl, Nat.le_of_ble_eq_true rfl⟩) (v_preV (ci := 11) hSS hR hS g8 (by decide) rfl [.int x2, .int x4]) rfl rfl hl.1 rfl (lv_room (Nat.le_of_ble_eq_true rfl)) dX10_commonOf_31 ⟨Nat.zero_le _, Nat.zero_le _⟩) ?_
          refine w_if_eq (tgt := 41) hx hb dX10_commonOf_34 (by decide) (fun c14 => ?_) (fun c14 => ?_)
          · rw [if_pos c14] at h
            exact X10_commonOf_J41_5p x4 x3 ls (lv_sub hl [0, 1, 2, 4] rfl) h
          · rw [if_neg c14] at h
            refine w_iconst (v := 1) hx hb dX10_commonOf_37 (by decide) ?_
            refine w_goto (tgt := 42) hx hb dX10_commonOf_38 (by decide) ?_
            exact X10_commonOf_J42_5p x4 x3 1 ls (lv_sub hl [0, 1, 2, 4] rfl) h
  refine w_iconst (v := 0) hx hb dX10_commonOf_0 (by decide) ?_
  refine w_istore_n (lv' := [(3, .int 0), (0, .ref x0), (1, .int x1), (2, .int x2)]) hx hb dX10_commonOf_1 rfl hl (by decide) rfl (fun ls hl => ?_)
  have hl : lv_has ls 5 [(0, .ref x0), (1, .int x1), (2, .int x2), (3, .int 0)] := lv_sub hl [1, 2, 3, 0] rfl
  refine w_iconst (v := 0) hx hb dX10_commonOf_2 (by decide) ?_
  refine w_istore (lv' := [(4, .int 0), (0, .ref x0), (1, .int x1), (2, .int x2), (3, .int 0)]) hx hb dX10_commonOf_3 hl (by decide) rfl (fun ls hl => ?_)
  have hl : lv_has ls 5 [(0, .ref x0), (1, .int x1), (2, .int x2), (3, .int 0), (4, .int 0)] := lv_sub hl [1, 2, 3, 4, 0] rfl
  obtain ⟨z15, ez15, h⟩ := v_bnd h
  refine X10_commonOf_L5p x0 x1 x2 vF 0 0 ls z15 (lv_sub hl [0, 1, 2, 3, 4] rfl) ez15 (fun ls hl => ?_)
  refine w_iload_n hx hb dX10_commonOf_50 rfl (lv_at hl 0 rfl) ?_
  obtain rfl := Option.some.inj h
  rw [hQ]
  exact v_iret hx hb hr hlk dX10_commonOf_51

def tX10_common (x0 : Nat) (x1 : Int32) (x2 : Int32) (M : vMe) : Option (Int32 × vMe) :=
  if (M.1 x0).1 = 12 then
  ((tX10_noSets x0 x1 x2 M).bind fun z1 =>
  if z1.1 = 0 then
  (if (z1.2.1 x0).1 = 12 then
  ((tX10_commonOf x0 x1 x2 z1.2).bind fun z3 =>
  some (z3, z1.2))
else none)
else
  (some (0, z1.2)))
else none
def rmX10_common : Room := { frames := 5, cells := 0, slots := 0, locals := 87 }
set_option maxHeartbeats 4000000 in
set_option maxRecDepth 100000 in
theorem mX10_common (l : Launch) (hfl : l.stackTraces = false) (D : vD) (x0 : Nat) (x1 : Int32) (x2 : Int32) (M : vMe) (z : (Int32 × vMe)) (h : tX10_common x0 x1 x2 M = some z) : Met l yX10_common (Cond.code yX10_common cX10_common 3 (some .int) :: TB) rmX10_common (va_Pc [.ref x0, .int x1, .int x2] (vPre D M)) (qW D (some (.int z.1)) z.2) 0 0 (vA D) := by
  refine v_ofW (cc := cX10_common) (maxL := 3) (ret := (some .int)) (by decide) (Nat.le_of_ble_eq_true rfl) ?_
  intro p e s m args below meth c Q hx hb hr hml hown hts hlk hnm hSS hR0 hQ ls hl
  have hK := hSS.1
  have hl : lv_has ls 3 [(0, .ref x0), (1, .int x1), (2, .int x2)] := hl
  unfold tX10_common at h
  refine w_aload_n hx hb dX10_common_0 rfl (lv_at hl 0 rfl) ?_
  refine w_iload_n hx hb dX10_common_1 rfl (lv_at hl 1 rfl) ?_
  refine w_iload_n hx hb dX10_common_2 rfl (lv_at hl 2 rfl) ?_
  obtain ⟨g8, h⟩ := v_ifs h
  obtain ⟨z1, ez1, h⟩ := v_bnd h
  refine v_call1 (v := .int z1.1) (M1 := z1.2) (mc := 0) (ms := 0) (fun H locs hR hS => va_runV (As := [.int x1, .int x2]) (rest := []) ⟨hx, hb, hml, hown, hts⟩ (mX10_noSets l hfl D x0 x1 x2 M z1 ez1) (cwV 2 hts (gdV kw1681 kw1683 kw72 kw85 kw1684) rfl rfl rfl (by decide +kernel) ⟨Nat.le_of_ble_eq_true rfl, Nat.le_of_ble_eq_true rfl⟩) (v_preV (ci := 11) hSS hR hS g8 (by decide) rfl [.int x1, .int x2]) rfl rfl hl.1 rfl (lv_room (Nat.le_of_ble_eq_true rfl)) dX10_common_3 ⟨Nat.zero_le _, Nat.zero_le _⟩) ?_
  refine w_if_eq (tgt := 13) hx hb dX10_common_6 (by decide) (fun c2 => ?_) (fun c2 => ?_)
  · rw [if_pos c2] at h
    refine w_aload_n hx hb dX10_common_13 rfl (lv_at hl 0 rfl) ?_
    refine w_iload_n hx hb dX10_common_14 rfl (lv_at hl 1 rfl) ?_
    refine w_iload_n hx hb dX10_common_15 rfl (lv_at hl 2 rfl) ?_
    obtain ⟨g8, h⟩ := v_ifs h
    obtain ⟨z3, ez3, h⟩ := v_bnd h
    refine v_call1 (v := .int z3) (M1 := z1.2) (mc := 0) (ms := 0) (fun H locs hR hS => va_runV (As := [.int x1, .int x2]) (rest := []) ⟨hx, hb, hml, hown, hts⟩ (mX10_commonOf l hfl D x0 x1 x2 z1.2 z3 ez3) (cwV 2 hts (gdV kw1685 kw1687 kw73 kw85 kw1688) rfl rfl rfl (by decide +kernel) ⟨Nat.le_of_ble_eq_true rfl, Nat.le_of_ble_eq_true rfl⟩) (v_preV (ci := 11) hSS hR hS g8 (by decide) rfl [.int x1, .int x2]) rfl rfl hl.1 rfl (lv_room (Nat.le_of_ble_eq_true rfl)) dX10_common_16 ⟨Nat.zero_le _, Nat.zero_le _⟩) ?_
    obtain rfl := Option.some.inj h
    rw [hQ]
    exact v_iret hx hb hr hlk dX10_common_19
  · rw [if_neg c2] at h
    refine w_iconst (v := 0) hx hb dX10_common_9 (by decide) ?_
    refine w_goto (tgt := 19) hx hb dX10_common_10 (by decide) ?_
    obtain rfl := Option.some.inj h
    rw [hQ]
    exact v_iret hx hb hr hlk dX10_common_19

def tX10_isWithin (x0 : Nat) (x1 : Int32) (x2 : Int32) (M : vMe) : Option (Int32 × vMe) :=
  if (M.1 x0).1 = 12 then
  ((tX10_noSets x0 x1 x2 M).bind fun z1 =>
  if z1.1 = 0 then
  (if (z1.2.1 x0).1 = 12 then
  ((tX10_commonOf x0 x1 x2 z1.2).bind fun z3 =>
  if (z1.2.1 x0).1 = 12 then
  ((tX10_of x0 x1 0 z1.2).bind fun z4 =>
  if z3 = z4 then
  (some (1, z1.2))
else
  (some (0, z1.2)))
else none)
else none)
else
  (some (0, z1.2)))
else none
def rmX10_isWithin : Room := { frames := 5, cells := 0, slots := 0, locals := 87 }
set_option maxHeartbeats 4000000 in
set_option maxRecDepth 100000 in
theorem mX10_isWithin (l : Launch) (hfl : l.stackTraces = false) (D : vD) (x0 : Nat) (x1 : Int32) (x2 : Int32) (M : vMe) (z : (Int32 × vMe)) (h : tX10_isWithin x0 x1 x2 M = some z) : Met l yX10_isWithin (Cond.code yX10_isWithin cX10_isWithin 3 (some .boolean) :: TB) rmX10_isWithin (va_Pc [.ref x0, .int x1, .int x2] (vPre D M)) (qW D (some (.int z.1)) z.2) 0 0 (vA D) := by
  refine v_ofW (cc := cX10_isWithin) (maxL := 3) (ret := (some .boolean)) (by decide) (Nat.le_of_ble_eq_true rfl) ?_
  intro p e s m args below meth c Q hx hb hr hml hown hts hlk hnm hSS hR0 hQ ls hl
  have hK := hSS.1
  have hl : lv_has ls 3 [(0, .ref x0), (1, .int x1), (2, .int x2)] := hl
  unfold tX10_isWithin at h
  refine w_aload_n hx hb dX10_isWithin_0 rfl (lv_at hl 0 rfl) ?_
  refine w_iload_n hx hb dX10_isWithin_1 rfl (lv_at hl 1 rfl) ?_
  refine w_iload_n hx hb dX10_isWithin_2 rfl (lv_at hl 2 rfl) ?_
  obtain ⟨g8, h⟩ := v_ifs h
  obtain ⟨z1, ez1, h⟩ := v_bnd h
  refine v_call1 (v := .int z1.1) (M1 := z1.2) (mc := 0) (ms := 0) (fun H locs hR hS => va_runV (As := [.int x1, .int x2]) (rest := []) ⟨hx, hb, hml, hown, hts⟩ (mX10_noSets l hfl D x0 x1 x2 M z1 ez1) (cwV 2 hts (gdV kw1681 kw1683 kw72 kw85 kw1684) rfl rfl rfl (by decide +kernel) ⟨Nat.le_of_ble_eq_true rfl, Nat.le_of_ble_eq_true rfl⟩) (v_preV (ci := 11) hSS hR hS g8 (by decide) rfl [.int x1, .int x2]) rfl rfl hl.1 rfl (lv_room (Nat.le_of_ble_eq_true rfl)) dX10_isWithin_3 ⟨Nat.zero_le _, Nat.zero_le _⟩) ?_
  refine w_if_ne (tgt := 28) hx hb dX10_isWithin_6 (by decide) (fun c2 => ?_) (fun c2 => ?_)
  · rw [if_pos c2] at h
    refine w_aload_n hx hb dX10_isWithin_9 rfl (lv_at hl 0 rfl) ?_
    refine w_iload_n hx hb dX10_isWithin_10 rfl (lv_at hl 1 rfl) ?_
    refine w_iload_n hx hb dX10_isWithin_11 rfl (lv_at hl 2 rfl) ?_
    obtain ⟨g8, h⟩ := v_ifs h
    obtain ⟨z3, ez3, h⟩ := v_bnd h
    refine v_call1 (v := .int z3) (M1 := z1.2) (mc := 0) (ms := 0) (fun H locs hR hS => va_runV (As := [.int x1, .int x2]) (rest := []) ⟨hx, hb, hml, hown, hts⟩ (mX10_commonOf l hfl D x0 x1 x2 z1.2 z3 ez3) (cwV 2 hts (gdV kw1685 kw1687 kw73 kw85 kw1688) rfl rfl rfl (by decide +kernel) ⟨Nat.le_of_ble_eq_true rfl, Nat.le_of_ble_eq_true rfl⟩) (v_preV (ci := 11) hSS hR hS g8 (by decide) rfl [.int x1, .int x2]) rfl rfl hl.1 rfl (lv_room (Nat.le_of_ble_eq_true rfl)) dX10_isWithin_12 ⟨Nat.zero_le _, Nat.zero_le _⟩) ?_
    refine w_aload_n hx hb dX10_isWithin_15 rfl (lv_at hl 0 rfl) ?_
    refine w_iload_n hx hb dX10_isWithin_16 rfl (lv_at hl 1 rfl) ?_
    refine w_iconst (v := 0) hx hb dX10_isWithin_17 (by decide) ?_
    obtain ⟨g8, h⟩ := v_ifs h
    obtain ⟨z4, ez4, h⟩ := v_bnd h
    refine v_call1 (v := .int z4) (M1 := z1.2) (mc := 0) (ms := 0) (fun H locs hR hS => va_runV (As := [.int x1, .int 0]) (rest := [.int z3]) ⟨hx, hb, hml, hown, hts⟩ (mX10_of l hfl D x0 x1 0 z1.2 z4 ez4) (cwV 2 hts (gdV kw1497 kw1499 kw44 kw85 kw1500) rfl rfl rfl (by decide +kernel) ⟨Nat.le_of_ble_eq_true rfl, Nat.le_of_ble_eq_true rfl⟩) (v_preV (ci := 11) hSS hR hS g8 (by decide) rfl [.int x1, .int 0]) rfl rfl hl.1 rfl (lv_room (Nat.le_of_ble_eq_true rfl)) dX10_isWithin_18 ⟨Nat.zero_le _, Nat.zero_le _⟩) ?_
    refine w_icmp_ne (tgt := 28) hx hb dX10_isWithin_21 (by decide) (fun c5 => ?_) (fun c5 => ?_)
    · rw [if_pos c5] at h
      refine w_iconst (v := 1) hx hb dX10_isWithin_24 (by decide) ?_
      refine w_goto (tgt := 29) hx hb dX10_isWithin_25 (by decide) ?_
      obtain rfl := Option.some.inj h
      rw [hQ]
      exact v_zret (x := 1) hx hb hr hlk rfl dX10_isWithin_29
    · rw [if_neg c5] at h
      refine w_iconst (v := 0) hx hb dX10_isWithin_28 (by decide) ?_
      obtain rfl := Option.some.inj h
      rw [hQ]
      exact v_zret (x := 0) hx hb hr hlk rfl dX10_isWithin_29
  · rw [if_neg c2] at h
    refine w_iconst (v := 0) hx hb dX10_isWithin_28 (by decide) ?_
    obtain rfl := Option.some.inj h
    rw [hQ]
    exact v_zret (x := 0) hx hb hr hlk rfl dX10_isWithin_29

def tX10_likeness (x0 : Nat) (x1 : Int32) (x2 : Int32) (M : vMe) : Option (UInt64 × vMe) :=
  if (M.1 x0).1 = 12 then
  ((tX10_noSets x0 x1 x2 M).bind fun z1 =>
  if z1.1 = 0 then
  (if (z1.2.1 x0).1 = 12 then
  ((tX10_commonOf x0 x1 x2 z1.2).bind fun z3 =>
  if (z1.2.1 x0).1 = 12 then
  ((tX10_of x0 x1 0 z1.2).bind fun z4 =>
  if (z1.2.1 x0).1 = 12 then
  ((tX10_of x0 x2 0 z1.2).bind fun z5 =>
  if ((z4 + z5) - z3) = 0 then
  (some (0x3FF0000000000000, z1.2))
else
  (if (FP.ddiv (FP.i2d z3) (FP.i2d ((z4 + z5) - z3))) &&& 0x7fffffffffffffff ≤ 0x7ff0000000000000 then
  (some (FP.ddiv (FP.i2d z3) (FP.i2d ((z4 + z5) - z3)), z1.2))
else none))
else none)
else none)
else none)
else
  (some (0, z1.2)))
else none
def rmX10_likeness : Room := { frames := 5, cells := 0, slots := 0, locals := 87 }
set_option maxHeartbeats 4000000 in
set_option maxRecDepth 100000 in
theorem mX10_likeness (l : Launch) (hfl : l.stackTraces = false) (D : vD) (x0 : Nat) (x1 : Int32) (x2 : Int32) (M : vMe) (z : (UInt64 × vMe)) (h : tX10_likeness x0 x1 x2 M = some z) : Met l yX10_likeness (Cond.code yX10_likeness cX10_likeness 5 (some .double) :: TB) rmX10_likeness (va_Pc [.ref x0, .int x1, .int x2] (vPre D M)) (qW D (some (.double z.1)) z.2) 0 0 (vA D) := by
  refine v_ofW (cc := cX10_likeness) (maxL := 5) (ret := (some .double)) (by decide) (Nat.le_of_ble_eq_true rfl) ?_
  intro p e s m args below meth c Q hx hb hr hml hown hts hlk hnm hSS hR0 hQ ls hl
  have hK := hSS.1
  have hl : lv_has ls 5 [(0, .ref x0), (1, .int x1), (2, .int x2)] := hl
  unfold tX10_likeness at h
  refine w_aload_n hx hb dX10_likeness_0 rfl (lv_at hl 0 rfl) ?_
  refine w_iload_n hx hb dX10_likeness_1 rfl (lv_at hl 1 rfl) ?_
  refine w_iload_n hx hb dX10_likeness_2 rfl (lv_at hl 2 rfl) ?_
  obtain ⟨g8, h⟩ := v_ifs h
  obtain ⟨z1, ez1, h⟩ := v_bnd h
  refine v_call1 (v := .int z1.1) (M1 := z1.2) (mc := 0) (ms := 0) (fun H locs hR hS => va_runV (As := [.int x1, .int x2]) (rest := []) ⟨hx, hb, hml, hown, hts⟩ (mX10_noSets l hfl D x0 x1 x2 M z1 ez1) (cwV 2 hts (gdV kw1681 kw1683 kw72 kw85 kw1684) rfl rfl rfl (by decide +kernel) ⟨Nat.le_of_ble_eq_true rfl, Nat.le_of_ble_eq_true rfl⟩) (v_preV (ci := 11) hSS hR hS g8 (by decide) rfl [.int x1, .int x2]) rfl rfl hl.1 rfl (lv_room (Nat.le_of_ble_eq_true rfl)) dX10_likeness_3 ⟨Nat.zero_le _, Nat.zero_le _⟩) ?_
  refine w_if_eq (tgt := 11) hx hb dX10_likeness_6 (by decide) (fun c2 => ?_) (fun c2 => ?_)
  · rw [if_pos c2] at h
    refine w_aload_n hx hb dX10_likeness_11 rfl (lv_at hl 0 rfl) ?_
    refine w_iload_n hx hb dX10_likeness_12 rfl (lv_at hl 1 rfl) ?_
    refine w_iload_n hx hb dX10_likeness_13 rfl (lv_at hl 2 rfl) ?_
    obtain ⟨g8, h⟩ := v_ifs h
    obtain ⟨z3, ez3, h⟩ := v_bnd h
    refine v_call1 (v := .int z3) (M1 := z1.2) (mc := 0) (ms := 0) (fun H locs hR hS => va_runV (As := [.int x1, .int x2]) (rest := []) ⟨hx, hb, hml, hown, hts⟩ (mX10_commonOf l hfl D x0 x1 x2 z1.2 z3 ez3) (cwV 2 hts (gdV kw1685 kw1687 kw73 kw85 kw1688) rfl rfl rfl (by decide +kernel) ⟨Nat.le_of_ble_eq_true rfl, Nat.le_of_ble_eq_true rfl⟩) (v_preV (ci := 11) hSS hR hS g8 (by decide) rfl [.int x1, .int x2]) rfl rfl hl.1 rfl (lv_room (Nat.le_of_ble_eq_true rfl)) dX10_likeness_14 ⟨Nat.zero_le _, Nat.zero_le _⟩) ?_
    refine w_istore_n (lv' := [(3, .int z3), (0, .ref x0), (1, .int x1), (2, .int x2)]) hx hb dX10_likeness_17 rfl hl (by decide) rfl (fun ls hl => ?_)
    have hl : lv_has ls 5 [(0, .ref x0), (1, .int x1), (2, .int x2), (3, .int z3)] := lv_sub hl [1, 2, 3, 0] rfl
    refine w_aload_n hx hb dX10_likeness_18 rfl (lv_at hl 0 rfl) ?_
    refine w_iload_n hx hb dX10_likeness_19 rfl (lv_at hl 1 rfl) ?_
    refine w_iconst (v := 0) hx hb dX10_likeness_20 (by decide) ?_
    obtain ⟨g8, h⟩ := v_ifs h
    obtain ⟨z4, ez4, h⟩ := v_bnd h
    refine v_call1 (v := .int z4) (M1 := z1.2) (mc := 0) (ms := 0) (fun H locs hR hS => va_runV (As := [.int x1, .int 0]) (rest := []) ⟨hx, hb, hml, hown, hts⟩ (mX10_of l hfl D x0 x1 0 z1.2 z4 ez4) (cwV 2 hts (gdV kw1497 kw1499 kw44 kw85 kw1500) rfl rfl rfl (by decide +kernel) ⟨Nat.le_of_ble_eq_true rfl, Nat.le_of_ble_eq_true rfl⟩) (v_preV (ci := 11) hSS hR hS g8 (by decide) rfl [.int x1, .int 0]) rfl rfl hl.1 rfl (lv_room (Nat.le_of_ble_eq_true rfl)) dX10_likeness_21 ⟨Nat.zero_le _, Nat.zero_le _⟩) ?_
    refine w_aload_n hx hb dX10_likeness_24 rfl (lv_at hl 0 rfl) ?_
    refine w_iload_n hx hb dX10_likeness_25 rfl (lv_at hl 2 rfl) ?_
    refine w_iconst (v := 0) hx hb dX10_likeness_26 (by decide) ?_
    obtain ⟨g8, h⟩ := v_ifs h
    obtain ⟨z5, ez5, h⟩ := v_bnd h
    refine v_call1 (v := .int z5) (M1 := z1.2) (mc := 0) (ms := 0) (fun H locs hR hS => va_runV (As := [.int x2, .int 0]) (rest := [.int z4]) ⟨hx, hb, hml, hown, hts⟩ (mX10_of l hfl D x0 x2 0 z1.2 z5 ez5) (cwV 2 hts (gdV kw1497 kw1499 kw44 kw85 kw1500) rfl rfl rfl (by decide +kernel) ⟨Nat.le_of_ble_eq_true rfl, Nat.le_of_ble_eq_true rfl⟩) (v_preV (ci := 11) hSS hR hS g8 (by decide) rfl [.int x2, .int 0]) rfl rfl hl.1 rfl (lv_room (Nat.le_of_ble_eq_true rfl)) dX10_likeness_27 ⟨Nat.zero_le _, Nat.zero_le _⟩) ?_
    refine w_iadd hx hb dX10_likeness_30 ?_
    refine w_iload_n hx hb dX10_likeness_31 rfl (lv_at hl 3 rfl) ?_
    refine w_isub hx hb dX10_likeness_32 ?_
    refine w_istore (lv' := [(4, .int ((z4 + z5) - z3)), (0, .ref x0), (1, .int x1), (2, .int x2), (3, .int z3)]) hx hb dX10_likeness_33 hl (by decide) rfl (fun ls hl => ?_)
    have hl : lv_has ls 5 [(0, .ref x0), (1, .int x1), (2, .int x2), (3, .int z3), (4, .int ((z4 + z5) - z3))] := lv_sub hl [1, 2, 3, 4, 0] rfl
    refine w_iload hx hb dX10_likeness_35 (lv_at hl 4 rfl) ?_
    refine w_if_ne (tgt := 44) hx hb dX10_likeness_37 (by decide) (fun c6 => ?_) (fun c6 => ?_)
    · rw [if_pos c6] at h
      refine w_dconst1 hx hb dX10_likeness_40 ?_
      refine w_goto (tgt := 50) hx hb dX10_likeness_41 (by decide) ?_
      obtain rfl := Option.some.inj h
      rw [hQ]
      exact v_dret hx hb hr hlk dX10_likeness_50
    · rw [if_neg c6] at h
      refine w_iload_n hx hb dX10_likeness_44 rfl (lv_at hl 3 rfl) ?_
      refine w_i2d hx hb dX10_likeness_45 ?_
      refine w_iload hx hb dX10_likeness_46 (lv_at hl 4 rfl) ?_
      refine w_i2d hx hb dX10_likeness_48 ?_
      obtain ⟨g9, h⟩ := v_ifs h
      refine w_ddiv hx hb dX10_likeness_49 g9 ?_
      obtain rfl := Option.some.inj h
      rw [hQ]
      exact v_dret hx hb hr hlk dX10_likeness_50
  · rw [if_neg c2] at h
    refine w_dconst0 hx hb dX10_likeness_9 ?_
    obtain rfl := Option.some.inj h
    rw [hQ]
    exact v_dret hx hb hr hlk dX10_likeness_10

def tX10_keeps_L21 (x0 : Nat) : Nat → Int32 → vMe → Option (Unit × vMe)
  | 0, _, _ => none
  | f + 1, x1, Mi =>
  (gI Mi x0 12 18).bind fun v10 =>
  if v10 ≤ x1 then
  (some ((), Mi))
else
  ((gA Mi x0 12 19).bind fun a12 =>
  (gA Mi x0 12 19).bind fun a13 =>
  (tX10_copies a12 (1952 * (x1 + 1)) a13 (1952 * x1) Mi).bind fun z14 =>
  tX10_keeps_L21 x0 f (x1 + 1) z14.2)
def tX10_keeps_J58 (x0 : Nat) (Mj : vMe) : Option (Unit × vMe) :=
  (gA Mj x0 12 1).bind fun a16 =>
  (gA Mj x0 12 19).bind fun a17 =>
  (gI Mj x0 12 18).bind fun v18 =>
  (tX10_copies a16 0 a17 (1952 * v18) Mj).bind fun z19 =>
  (gI z19.2 x0 12 18).bind fun v20 =>
  (sV z19.2 x0 12 18 (.int (v20 + 1))).bind fun M21 =>
  some ((), M21)
def tX10_keeps (x0 : Nat) (M : vMe) : Option (Unit × vMe) :=
  (gI M x0 12 18).bind fun v1 =>
  if v1 = (10 : Int32) then
  ((gI M x0 12 18).bind fun v3 =>
  (sV M x0 12 18 (.int (v3 - 1))).bind fun M4 =>
  (tX10_keeps_L21 x0 vF 0 M4).bind fun z15 =>
  tX10_keeps_J58 x0 z15.2)
else
  (tX10_keeps_J58 x0 M)
def rmX10_keeps : Room := { frames := 2, cells := 0, slots := 0, locals := 24 }
set_option maxHeartbeats 4000000 in
set_option maxRecDepth 100000 in
theorem mX10_keeps (l : Launch) (hfl : l.stackTraces = false) (D : vD) (x0 : Nat) (M : vMe) (z : (Unit × vMe)) (h : tX10_keeps x0 M = some z) : Met l yX10_keeps (Cond.code yX10_keeps cX10_keeps 2 none :: TB) rmX10_keeps (va_Pc [.ref x0] (vPre D M)) (qW D none z.2) 0 0 (vA D) := by
  refine v_ofW (cc := cX10_keeps) (maxL := 2) (ret := none) (by decide) (Nat.le_of_ble_eq_true rfl) ?_
  intro p e s m args below meth c Q hx hb hr hml hown hts hlk hnm hSS hR0 hQ ls hl
  have hK := hSS.1
  have hl : lv_has ls 2 [(0, .ref x0)] := hl
  unfold tX10_keeps at h
  have X10_keeps_L21p : ∀ (x0 : Nat), ∀ (f : Nat) (x1 : Int32) (Mi : vMe) (ls : Array Slot) (z : (Unit × vMe)), lv_has ls 2 [(0, .ref x0), (1, .int x1)] → tX10_keeps_L21 x0 f x1 Mi = some z → (∀ ls : Array Slot, lv_has ls 2 [(0, .ref x0)] → vV D p l e rmX10_keeps s m args below meth c 0 0 Q z.2 (F0 m 58 ls [])) → vV D p l e rmX10_keeps s m args below meth c 0 0 Q Mi (F0 m 21 ls []) := by
    intro x0 f
    induction f with
    | zero =>
      intro x1 Mi ls z hl h
      exact absurd h (by simp [tX10_keeps_L21])
    | succ f ih =>
      intro x1 Mi ls z hl h KX
      rw [tX10_keeps_L21] at h
      refine w_iload_n hx hb dX10_keeps_21 rfl (lv_at hl 1 rfl) ?_
      refine w_aload_n hx hb dX10_keeps_22 rfl (lv_at hl 0 rfl) ?_
      obtain ⟨v10, ev10, h⟩ := v_bnd h
      refine v_gI (ci := 11) hx hb hts iwX10 hown hK 18 ev10 rfl (by decide) (Or.inl (hts _ kw1353)) (fun _ h9 => h9) dX10_keeps_23 ?_
      refine w_icmp_ge (tgt := 58) hx hb dX10_keeps_26 (by decide) (fun c11 => ?_) (fun c11 => ?_)
      · rw [if_pos c11] at h
        obtain rfl := Option.some.inj h
        exact KX ls (lv_sub hl [0] rfl)
      · rw [if_neg c11] at h
        refine w_aload_n hx hb dX10_keeps_29 rfl (lv_at hl 0 rfl) ?_
        obtain ⟨a12, ea12, h⟩ := v_bnd h
        refine v_gA (ci := 11) hx hb hts iwX10 hown hK 19 ea12 rfl (by decide) (Or.inl (hts _ kw1354)) (fun _ h9 => h9) dX10_keeps_30 ?_
        refine w_sipush (v := 1952) hx hb dX10_keeps_33 (by decide) ?_
        refine w_iload_n hx hb dX10_keeps_36 rfl (lv_at hl 1 rfl) ?_
        refine w_iconst (v := 1) hx hb dX10_keeps_37 (by decide) ?_
        refine w_iadd hx hb dX10_keeps_38 ?_
        refine w_imul hx hb dX10_keeps_39 ?_
        refine w_aload_n hx hb dX10_keeps_40 rfl (lv_at hl 0 rfl) ?_
        obtain ⟨a13, ea13, h⟩ := v_bnd h
        refine v_gA (ci := 11) hx hb hts iwX10 hown hK 19 ea13 rfl (by decide) (Or.inl (hts _ kw1354)) (fun _ h9 => h9) dX10_keeps_41 ?_
        refine w_sipush (v := 1952) hx hb dX10_keeps_44 (by decide) ?_
        refine w_iload_n hx hb dX10_keeps_47 rfl (lv_at hl 1 rfl) ?_
        refine w_imul hx hb dX10_keeps_48 ?_
        obtain ⟨z14, ez14, h⟩ := v_bnd h
        refine v_call0 (M1 := z14.2) (mc := 0) (ms := 0) (fun H locs hR hS => va_runS (As := [.ref a12, .int (1952 * (x1 + 1)), .ref a13, .int (1952 * x1)]) (rest := []) ⟨hx, hb, hml, hown, hts⟩ (mX10_copies l hfl D a12 (1952 * (x1 + 1)) a13 (1952 * x1) Mi z14 ez14) (va_cwS 4 hts (gdS kw1426 kw1427 kw85 kw1428) rfl rfl rfl (by decide +kernel) ⟨Nat.le_of_ble_eq_true rfl, Nat.le_of_ble_eq_true rfl⟩) (v_preS hSS hR hS [.ref a12, .int (1952 * (x1 + 1)), .ref a13, .int (1952 * x1)]) rfl rfl hl.1 rfl (lv_room (Nat.le_of_ble_eq_true rfl)) dX10_keeps_49 ⟨Nat.zero_le _, Nat.zero_le _⟩) ?_
        refine w_iinc (v := x1 + 1) (lv' := [(1, .int (x1 + 1)), (0, .ref x0)]) hx hb dX10_keeps_52 hl (j := 1) rfl rfl (by decide) rfl (fun ls hl => ?_)
        have hl : lv_has ls 2 [(0, .ref x0), (1, .int (x1 + 1))] := lv_sub hl [1, 0] rfl
        refine w_goto (tgt := 21) hx hb dX10_keeps_55 (by decide) ?_
        exact ih (x1 + 1) z14.2 ls z (lv_sub hl [0, 1] rfl) h KX
  have X10_keeps_J58p : ∀ (x0 : Nat) (Mj : vMe) (ls : Array Slot), lv_has ls 2 [(0, .ref x0)] → tX10_keeps_J58 x0 Mj = some z → vV D p l e rmX10_keeps s m args below meth c 0 0 Q Mj (F0 m 58 ls []) := by
    intro x0 Mj ls hl h
    unfold tX10_keeps_J58 at h
    refine w_aload_n hx hb dX10_keeps_58 rfl (lv_at hl 0 rfl) ?_
    obtain ⟨a16, ea16, h⟩ := v_bnd h
    refine v_gA (ci := 11) hx hb hts iwX10 hown hK 1 ea16 rfl (by decide) (Or.inl (hts _ kw1336)) (fun _ h9 => h9) dX10_keeps_59 ?_
    refine w_iconst (v := 0) hx hb dX10_keeps_62 (by decide) ?_
    refine w_aload_n hx hb dX10_keeps_63 rfl (lv_at hl 0 rfl) ?_
    obtain ⟨a17, ea17, h⟩ := v_bnd h
    refine v_gA (ci := 11) hx hb hts iwX10 hown hK 19 ea17 rfl (by decide) (Or.inl (hts _ kw1354)) (fun _ h9 => h9) dX10_keeps_64 ?_
    refine w_sipush (v := 1952) hx hb dX10_keeps_67 (by decide) ?_
    refine w_aload_n hx hb dX10_keeps_70 rfl (lv_at hl 0 rfl) ?_
    obtain ⟨v18, ev18, h⟩ := v_bnd h
    refine v_gI (ci := 11) hx hb hts iwX10 hown hK 18 ev18 rfl (by decide) (Or.inl (hts _ kw1353)) (fun _ h9 => h9) dX10_keeps_71 ?_
    refine w_imul hx hb dX10_keeps_74 ?_
    obtain ⟨z19, ez19, h⟩ := v_bnd h
    refine v_call0 (M1 := z19.2) (mc := 0) (ms := 0) (fun H locs hR hS => va_runS (As := [.ref a16, .int 0, .ref a17, .int (1952 * v18)]) (rest := []) ⟨hx, hb, hml, hown, hts⟩ (mX10_copies l hfl D a16 0 a17 (1952 * v18) Mj z19 ez19) (va_cwS 4 hts (gdS kw1426 kw1427 kw85 kw1428) rfl rfl rfl (by decide +kernel) ⟨Nat.le_of_ble_eq_true rfl, Nat.le_of_ble_eq_true rfl⟩) (v_preS hSS hR hS [.ref a16, .int 0, .ref a17, .int (1952 * v18)]) rfl rfl hl.1 rfl (lv_room (Nat.le_of_ble_eq_true rfl)) dX10_keeps_75 ⟨Nat.zero_le _, Nat.zero_le _⟩) ?_
    refine w_aload_n hx hb dX10_keeps_78 rfl (lv_at hl 0 rfl) ?_
    refine w_dup hx hb dX10_keeps_79 rfl ?_
    obtain ⟨v20, ev20, h⟩ := v_bnd h
    refine v_gI (ci := 11) hx hb hts iwX10 hown hK 18 ev20 rfl (by decide) (Or.inl (hts _ kw1353)) (fun _ h9 => h9) dX10_keeps_80 ?_
    refine w_iconst (v := 1) hx hb dX10_keeps_83 (by decide) ?_
    refine w_iadd hx hb dX10_keeps_84 ?_
    obtain ⟨M21, eM21, h⟩ := v_bnd h
    refine v_putf (ci := 11) hx hb hts iwX10 hown hK tyX10_ok nmX10 18 eM21 rfl (by decide) (Or.inl (hts _ kw1353)) (fun _ h9 => h9) (Or.inl rfl) rfl rfl dX10_keeps_85 ?_
    obtain rfl := Option.some.inj h
    rw [hQ]
    exact v_vret hx hb hr hlk dX10_keeps_88
  refine w_aload_n hx hb dX10_keeps_0 rfl (lv_at hl 0 rfl) ?_
  obtain ⟨v1, ev1, h⟩ := v_bnd h
  refine v_gI (ci := 11) hx hb hts iwX10 hown hK 18 ev1 rfl (by decide) (Or.inl (hts _ kw1353)) (fun _ h9 => h9) dX10_keeps_1 ?_
  refine w_bipush (v := 10) hx hb dX10_keeps_4 (by decide) ?_
  refine w_icmp_ne (tgt := 58) hx hb dX10_keeps_6 (by decide) (fun c2 => ?_) (fun c2 => ?_)
  · rw [if_pos c2] at h
    refine w_aload_n hx hb dX10_keeps_9 rfl (lv_at hl 0 rfl) ?_
    refine w_dup hx hb dX10_keeps_10 rfl ?_
    obtain ⟨v3, ev3, h⟩ := v_bnd h
    refine v_gI (ci := 11) hx hb hts iwX10 hown hK 18 ev3 rfl (by decide) (Or.inl (hts _ kw1353)) (fun _ h9 => h9) dX10_keeps_11 ?_
    refine w_iconst (v := 1) hx hb dX10_keeps_14 (by decide) ?_
    refine w_isub hx hb dX10_keeps_15 ?_
    obtain ⟨M4, eM4, h⟩ := v_bnd h
    refine v_putf (ci := 11) hx hb hts iwX10 hown hK tyX10_ok nmX10 18 eM4 rfl (by decide) (Or.inl (hts _ kw1353)) (fun _ h9 => h9) (Or.inl rfl) rfl rfl dX10_keeps_16 ?_
    refine w_iconst (v := 0) hx hb dX10_keeps_19 (by decide) ?_
    refine w_istore_n (lv' := [(1, .int 0), (0, .ref x0)]) hx hb dX10_keeps_20 rfl hl (by decide) rfl (fun ls hl => ?_)
    have hl : lv_has ls 2 [(0, .ref x0), (1, .int 0)] := lv_sub hl [1, 0] rfl
    obtain ⟨z15, ez15, h⟩ := v_bnd h
    refine X10_keeps_L21p x0 vF 0 M4 ls z15 (lv_sub hl [0, 1] rfl) ez15 (fun ls hl => ?_)
    exact X10_keeps_J58p x0 z15.2 ls (lv_sub hl [0] rfl) h
  · rw [if_neg c2] at h
    exact X10_keeps_J58p x0 M ls (lv_sub hl [0] rfl) h

def tX10_add_J22 (x0 : Nat) (x1 : Int32) (x2 : Int32) (y0 : Nat) (y1 : Int32) (Mj : vMe) : Option (Int32 × vMe) :=
  if (Mj.1 y0).1 = 12 then
  ((tX10_throwsIf y0 y1 2 Mj).bind fun z5 =>
  if z5.1 = 0 then
  (if (z5.2.1 x0).1 = 12 then
  ((tX10_keeps x0 z5.2).bind fun z7 =>
  if (z7.2.1 x0).1 = 12 then
  ((tX10_comes x0 x1 x2 z7.2).bind fun z8 =>
  if (z8.2.1 x0).1 = 12 then
  ((tX10_of x0 x1 (70 + x2) z8.2).bind fun z9 =>
  some (z9, z8.2))
else none)
else none)
else none)
else
  (some (0, z5.2)))
else none
def tX10_add (x0 : Nat) (x1 : Int32) (x2 : Int32) (M : vMe) : Option (Int32 × vMe) :=
  if (M.1 x0).1 = 12 then
  ((tX10_noSet x0 x1 M).bind fun z1 =>
  if z1.1 = 0 then
  (if (z1.2.1 x0).1 = 12 then
  ((tX10_isInside x0 x2 z1.2).bind fun z3 =>
  if z3 = 0 then
  (tX10_add_J22 x0 x1 x2 x0 1 z1.2)
else
  (tX10_add_J22 x0 x1 x2 x0 0 z1.2))
else none)
else
  (some (0, z1.2)))
else none
def rmX10_add : Room := { frames := 7, cells := 0, slots := 0, locals := 143 }
set_option maxHeartbeats 4000000 in
set_option maxRecDepth 100000 in
theorem mX10_add (l : Launch) (hfl : l.stackTraces = false) (D : vD) (x0 : Nat) (x1 : Int32) (x2 : Int32) (M : vMe) (z : (Int32 × vMe)) (h : tX10_add x0 x1 x2 M = some z) : Met l yX10_add (Cond.code yX10_add cX10_add 3 (some .int) :: TB) rmX10_add (va_Pc [.ref x0, .int x1, .int x2] (vPre D M)) (qW D (some (.int z.1)) z.2) 0 0 (vA D) := by
  refine v_ofW (cc := cX10_add) (maxL := 3) (ret := (some .int)) (by decide) (Nat.le_of_ble_eq_true rfl) ?_
  intro p e s m args below meth c Q hx hb hr hml hown hts hlk hnm hSS hR0 hQ ls hl
  have hK := hSS.1
  have hl : lv_has ls 3 [(0, .ref x0), (1, .int x1), (2, .int x2)] := hl
  unfold tX10_add at h
  have X10_add_J22p : ∀ (x0 : Nat) (x1 : Int32) (x2 : Int32) (y0 : Nat) (y1 : Int32) (Mj : vMe) (ls : Array Slot), lv_has ls 3 [(0, .ref x0), (1, .int x1), (2, .int x2)] → tX10_add_J22 x0 x1 x2 y0 y1 Mj = some z → vV D p l e rmX10_add s m args below meth c 0 0 Q Mj (F0 m 22 ls [.int y1, .ref y0]) := by
    intro x0 x1 x2 y0 y1 Mj ls hl h
    unfold tX10_add_J22 at h
    refine w_iconst (v := 2) hx hb dX10_add_22 (by decide) ?_
    obtain ⟨g8, h⟩ := v_ifs h
    obtain ⟨z5, ez5, h⟩ := v_bnd h
    refine v_call1 (v := .int z5.1) (M1 := z5.2) (mc := 0) (ms := 0) (fun H locs hR hS => va_runV (As := [.int y1, .int 2]) (rest := []) ⟨hx, hb, hml, hown, hts⟩ (mX10_throwsIf l hfl D y0 y1 2 Mj z5 ez5) (cwV 2 hts (gdV kw1422 kw1424 kw28 kw85 kw1425) rfl rfl rfl (by decide +kernel) ⟨Nat.le_of_ble_eq_true rfl, Nat.le_of_ble_eq_true rfl⟩) (v_preV (ci := 11) hSS hR hS g8 (by decide) rfl [.int y1, .int 2]) rfl rfl hl.1 rfl (lv_room (Nat.le_of_ble_eq_true rfl)) dX10_add_23 ⟨Nat.zero_le _, Nat.zero_le _⟩) ?_
    refine w_if_eq (tgt := 31) hx hb dX10_add_26 (by decide) (fun c6 => ?_) (fun c6 => ?_)
    · rw [if_pos c6] at h
      refine w_aload_n hx hb dX10_add_31 rfl (lv_at hl 0 rfl) ?_
      obtain ⟨g8, h⟩ := v_ifs h
      obtain ⟨z7, ez7, h⟩ := v_bnd h
      refine v_call0 (M1 := z7.2) (mc := 0) (ms := 0) (fun H locs hR hS => va_runV (As := []) (rest := []) ⟨hx, hb, hml, hown, hts⟩ (mX10_keeps l hfl D x0 z5.2 z7 ez7) (cwV 0 hts (gdV kw1701 kw1703 kw74 kw85 kw1704) rfl rfl rfl (by decide +kernel) ⟨Nat.le_of_ble_eq_true rfl, Nat.le_of_ble_eq_true rfl⟩) (v_preV (ci := 11) hSS hR hS g8 (by decide) rfl []) rfl rfl hl.1 rfl (lv_room (Nat.le_of_ble_eq_true rfl)) dX10_add_32 ⟨Nat.zero_le _, Nat.zero_le _⟩) ?_
      refine w_aload_n hx hb dX10_add_35 rfl (lv_at hl 0 rfl) ?_
      refine w_iload_n hx hb dX10_add_36 rfl (lv_at hl 1 rfl) ?_
      refine w_iload_n hx hb dX10_add_37 rfl (lv_at hl 2 rfl) ?_
      obtain ⟨g8, h⟩ := v_ifs h
      obtain ⟨z8, ez8, h⟩ := v_bnd h
      refine v_call0 (M1 := z8.2) (mc := 0) (ms := 0) (fun H locs hR hS => va_runV (As := [.int x1, .int x2]) (rest := []) ⟨hx, hb, hml, hown, hts⟩ (mX10_comes l hfl D x0 x1 x2 z7.2 z8 ez8) (cwV 2 hts (gdV kw1489 kw1491 kw42 kw85 kw1492) rfl rfl rfl (by decide +kernel) ⟨Nat.le_of_ble_eq_true rfl, Nat.le_of_ble_eq_true rfl⟩) (v_preV (ci := 11) hSS hR hS g8 (by decide) rfl [.int x1, .int x2]) rfl rfl hl.1 rfl (lv_room (Nat.le_of_ble_eq_true rfl)) dX10_add_38 ⟨Nat.zero_le _, Nat.zero_le _⟩) ?_
      refine w_aload_n hx hb dX10_add_41 rfl (lv_at hl 0 rfl) ?_
      refine w_iload_n hx hb dX10_add_42 rfl (lv_at hl 1 rfl) ?_
      refine w_bipush (v := 70) hx hb dX10_add_43 (by decide) ?_
      refine w_iload_n hx hb dX10_add_45 rfl (lv_at hl 2 rfl) ?_
      refine w_iadd hx hb dX10_add_46 ?_
      obtain ⟨g8, h⟩ := v_ifs h
      obtain ⟨z9, ez9, h⟩ := v_bnd h
      refine v_call1 (v := .int z9) (M1 := z8.2) (mc := 0) (ms := 0) (fun H locs hR hS => va_runV (As := [.int x1, .int (70 + x2)]) (rest := []) ⟨hx, hb, hml, hown, hts⟩ (mX10_of l hfl D x0 x1 (70 + x2) z8.2 z9 ez9) (cwV 2 hts (gdV kw1497 kw1499 kw44 kw85 kw1500) rfl rfl rfl (by decide +kernel) ⟨Nat.le_of_ble_eq_true rfl, Nat.le_of_ble_eq_true rfl⟩) (v_preV (ci := 11) hSS hR hS g8 (by decide) rfl [.int x1, .int (70 + x2)]) rfl rfl hl.1 rfl (lv_room (Nat.le_of_ble_eq_true rfl)) dX10_add_47 ⟨Nat.zero_le _, Nat.zero_le _⟩) ?_
      obtain rfl := Option.some.inj h
      rw [hQ]
      exact v_iret hx hb hr hlk dX10_add_50
    · rw [if_neg c6] at h
      refine w_iconst (v := 0) hx hb dX10_add_29 (by decide) ?_
      obtain rfl := Option.some.inj h
      rw [hQ]
      exact v_iret hx hb hr hlk dX10_add_30
  refine w_aload_n hx hb dX10_add_0 rfl (lv_at hl 0 rfl) ?_
  refine w_iload_n hx hb dX10_add_1 rfl (lv_at hl 1 rfl) ?_
  obtain ⟨g8, h⟩ := v_ifs h
  obtain ⟨z1, ez1, h⟩ := v_bnd h
  refine v_call1 (v := .int z1.1) (M1 := z1.2) (mc := 0) (ms := 0) (fun H locs hR hS => va_runV (As := [.int x1]) (rest := []) ⟨hx, hb, hml, hown, hts⟩ (mX10_noSet l hfl D x0 x1 M z1 ez1) (cwV 1 hts (gdV kw1602 kw1604 kw64 kw85 kw1605) rfl rfl rfl (by decide +kernel) ⟨Nat.le_of_ble_eq_true rfl, Nat.le_of_ble_eq_true rfl⟩) (v_preV (ci := 11) hSS hR hS g8 (by decide) rfl [.int x1]) rfl rfl hl.1 rfl (lv_room (Nat.le_of_ble_eq_true rfl)) dX10_add_2 ⟨Nat.zero_le _, Nat.zero_le _⟩) ?_
  refine w_if_ne (tgt := 29) hx hb dX10_add_5 (by decide) (fun c2 => ?_) (fun c2 => ?_)
  · rw [if_pos c2] at h
    refine w_aload_n hx hb dX10_add_8 rfl (lv_at hl 0 rfl) ?_
    refine w_aload_n hx hb dX10_add_9 rfl (lv_at hl 0 rfl) ?_
    refine w_iload_n hx hb dX10_add_10 rfl (lv_at hl 2 rfl) ?_
    obtain ⟨g8, h⟩ := v_ifs h
    obtain ⟨z3, ez3, h⟩ := v_bnd h
    refine v_call1 (v := .int z3) (M1 := z1.2) (mc := 0) (ms := 0) (fun H locs hR hS => va_runV (As := [.int x2]) (rest := [.ref x0]) ⟨hx, hb, hml, hown, hts⟩ (mX10_isInside l hfl D x0 x2 z1.2 z3 ez3) (cwV 1 hts (gdV kw1618 kw1620 kw67 kw85 kw1621) rfl rfl rfl (by decide +kernel) ⟨Nat.le_of_ble_eq_true rfl, Nat.le_of_ble_eq_true rfl⟩) (v_preV (ci := 11) hSS hR hS g8 (by decide) rfl [.int x2]) rfl rfl hl.1 rfl (lv_room (Nat.le_of_ble_eq_true rfl)) dX10_add_11 ⟨Nat.zero_le _, Nat.zero_le _⟩) ?_
    refine w_if_ne (tgt := 21) hx hb dX10_add_14 (by decide) (fun c4 => ?_) (fun c4 => ?_)
    · rw [if_pos c4] at h
      refine w_iconst (v := 1) hx hb dX10_add_17 (by decide) ?_
      refine w_goto (tgt := 22) hx hb dX10_add_18 (by decide) ?_
      exact X10_add_J22p x0 x1 x2 x0 1 z1.2 ls (lv_sub hl [0, 1, 2] rfl) h
    · rw [if_neg c4] at h
      refine w_iconst (v := 0) hx hb dX10_add_21 (by decide) ?_
      exact X10_add_J22p x0 x1 x2 x0 0 z1.2 ls (lv_sub hl [0, 1, 2] rfl) h
  · rw [if_neg c2] at h
    refine w_iconst (v := 0) hx hb dX10_add_29 (by decide) ?_
    obtain rfl := Option.some.inj h
    rw [hQ]
    exact v_iret hx hb hr hlk dX10_add_30

def tX10_remove_J22 (x0 : Nat) (x1 : Int32) (x2 : Int32) (y0 : Nat) (y1 : Int32) (Mj : vMe) : Option (Int32 × vMe) :=
  if (Mj.1 y0).1 = 12 then
  ((tX10_throwsIf y0 y1 2 Mj).bind fun z5 =>
  if z5.1 = 0 then
  (if (z5.2.1 x0).1 = 12 then
  ((tX10_keeps x0 z5.2).bind fun z7 =>
  if (z7.2.1 x0).1 = 12 then
  ((tX10_isMember x0 x1 x2 z7.2).bind fun z8 =>
  if z8 = 0 then
  (if fits .boolean (.int z8) = true then some (z8, z7.2) else none)
else
  (if (z7.2.1 x0).1 = 12 then
  ((tX10_goes x0 x1 x2 z7.2).bind fun z10 =>
  if fits .boolean (.int z8) = true then some (z8, z10.2) else none)
else none))
else none)
else none)
else
  (some (0, z5.2)))
else none
def tX10_remove (x0 : Nat) (x1 : Int32) (x2 : Int32) (M : vMe) : Option (Int32 × vMe) :=
  if (M.1 x0).1 = 12 then
  ((tX10_noSet x0 x1 M).bind fun z1 =>
  if z1.1 = 0 then
  (if (z1.2.1 x0).1 = 12 then
  ((tX10_isInside x0 x2 z1.2).bind fun z3 =>
  if z3 = 0 then
  (tX10_remove_J22 x0 x1 x2 x0 1 z1.2)
else
  (tX10_remove_J22 x0 x1 x2 x0 0 z1.2))
else none)
else
  (some (0, z1.2)))
else none
def rmX10_remove : Room := { frames := 7, cells := 0, slots := 0, locals := 147 }
set_option maxHeartbeats 4000000 in
set_option maxRecDepth 100000 in
theorem mX10_remove (l : Launch) (hfl : l.stackTraces = false) (D : vD) (x0 : Nat) (x1 : Int32) (x2 : Int32) (M : vMe) (z : (Int32 × vMe)) (h : tX10_remove x0 x1 x2 M = some z) : Met l yX10_remove (Cond.code yX10_remove cX10_remove 4 (some .boolean) :: TB) rmX10_remove (va_Pc [.ref x0, .int x1, .int x2] (vPre D M)) (qW D (some (.int z.1)) z.2) 0 0 (vA D) := by
  refine v_ofW (cc := cX10_remove) (maxL := 4) (ret := (some .boolean)) (by decide) (Nat.le_of_ble_eq_true rfl) ?_
  intro p e s m args below meth c Q hx hb hr hml hown hts hlk hnm hSS hR0 hQ ls hl
  have hK := hSS.1
  have hl : lv_has ls 4 [(0, .ref x0), (1, .int x1), (2, .int x2)] := hl
  unfold tX10_remove at h
  have X10_remove_J22p : ∀ (x0 : Nat) (x1 : Int32) (x2 : Int32) (y0 : Nat) (y1 : Int32) (Mj : vMe) (ls : Array Slot), lv_has ls 4 [(0, .ref x0), (1, .int x1), (2, .int x2)] → tX10_remove_J22 x0 x1 x2 y0 y1 Mj = some z → vV D p l e rmX10_remove s m args below meth c 0 0 Q Mj (F0 m 22 ls [.int y1, .ref y0]) := by
    intro x0 x1 x2 y0 y1 Mj ls hl h
    unfold tX10_remove_J22 at h
    refine w_iconst (v := 2) hx hb dX10_remove_22 (by decide) ?_
    obtain ⟨g8, h⟩ := v_ifs h
    obtain ⟨z5, ez5, h⟩ := v_bnd h
    refine v_call1 (v := .int z5.1) (M1 := z5.2) (mc := 0) (ms := 0) (fun H locs hR hS => va_runV (As := [.int y1, .int 2]) (rest := []) ⟨hx, hb, hml, hown, hts⟩ (mX10_throwsIf l hfl D y0 y1 2 Mj z5 ez5) (cwV 2 hts (gdV kw1422 kw1424 kw28 kw85 kw1425) rfl rfl rfl (by decide +kernel) ⟨Nat.le_of_ble_eq_true rfl, Nat.le_of_ble_eq_true rfl⟩) (v_preV (ci := 11) hSS hR hS g8 (by decide) rfl [.int y1, .int 2]) rfl rfl hl.1 rfl (lv_room (Nat.le_of_ble_eq_true rfl)) dX10_remove_23 ⟨Nat.zero_le _, Nat.zero_le _⟩) ?_
    refine w_if_eq (tgt := 31) hx hb dX10_remove_26 (by decide) (fun c6 => ?_) (fun c6 => ?_)
    · rw [if_pos c6] at h
      refine w_aload_n hx hb dX10_remove_31 rfl (lv_at hl 0 rfl) ?_
      obtain ⟨g8, h⟩ := v_ifs h
      obtain ⟨z7, ez7, h⟩ := v_bnd h
      refine v_call0 (M1 := z7.2) (mc := 0) (ms := 0) (fun H locs hR hS => va_runV (As := []) (rest := []) ⟨hx, hb, hml, hown, hts⟩ (mX10_keeps l hfl D x0 z5.2 z7 ez7) (cwV 0 hts (gdV kw1701 kw1703 kw74 kw85 kw1704) rfl rfl rfl (by decide +kernel) ⟨Nat.le_of_ble_eq_true rfl, Nat.le_of_ble_eq_true rfl⟩) (v_preV (ci := 11) hSS hR hS g8 (by decide) rfl []) rfl rfl hl.1 rfl (lv_room (Nat.le_of_ble_eq_true rfl)) dX10_remove_32 ⟨Nat.zero_le _, Nat.zero_le _⟩) ?_
      refine w_aload_n hx hb dX10_remove_35 rfl (lv_at hl 0 rfl) ?_
      refine w_iload_n hx hb dX10_remove_36 rfl (lv_at hl 1 rfl) ?_
      refine w_iload_n hx hb dX10_remove_37 rfl (lv_at hl 2 rfl) ?_
      obtain ⟨g8, h⟩ := v_ifs h
      obtain ⟨z8, ez8, h⟩ := v_bnd h
      refine v_call1 (v := .int z8) (M1 := z7.2) (mc := 0) (ms := 0) (fun H locs hR hS => va_runV (As := [.int x1, .int x2]) (rest := []) ⟨hx, hb, hml, hown, hts⟩ (mX10_isMember l hfl D x0 x1 x2 z7.2 z8 ez8) (cwV 2 hts (gdV kw1493 kw1495 kw43 kw85 kw1496) rfl rfl rfl (by decide +kernel) ⟨Nat.le_of_ble_eq_true rfl, Nat.le_of_ble_eq_true rfl⟩) (v_preV (ci := 11) hSS hR hS g8 (by decide) rfl [.int x1, .int x2]) rfl rfl hl.1 rfl (lv_room (Nat.le_of_ble_eq_true rfl)) dX10_remove_38 ⟨Nat.zero_le _, Nat.zero_le _⟩) ?_
      refine w_istore_n (lv' := [(3, .int z8), (0, .ref x0), (1, .int x1), (2, .int x2)]) hx hb dX10_remove_41 rfl hl (by decide) rfl (fun ls hl => ?_)
      have hl : lv_has ls 4 [(0, .ref x0), (1, .int x1), (2, .int x2), (3, .int z8)] := lv_sub hl [1, 2, 3, 0] rfl
      refine w_iload_n hx hb dX10_remove_42 rfl (lv_at hl 3 rfl) ?_
      refine w_if_eq (tgt := 52) hx hb dX10_remove_43 (by decide) (fun c9 => ?_) (fun c9 => ?_)
      · rw [if_pos c9] at h
        refine w_iload_n hx hb dX10_remove_52 rfl (lv_at hl 3 rfl) ?_
        obtain ⟨g6, h⟩ := v_ifs h
        obtain rfl := Option.some.inj h
        rw [hQ]
        exact v_zret hx hb hr hlk (v_narZ g6) dX10_remove_53
      · rw [if_neg c9] at h
        refine w_aload_n hx hb dX10_remove_46 rfl (lv_at hl 0 rfl) ?_
        refine w_iload_n hx hb dX10_remove_47 rfl (lv_at hl 1 rfl) ?_
        refine w_iload_n hx hb dX10_remove_48 rfl (lv_at hl 2 rfl) ?_
        obtain ⟨g8, h⟩ := v_ifs h
        obtain ⟨z10, ez10, h⟩ := v_bnd h
        refine v_call0 (M1 := z10.2) (mc := 0) (ms := 0) (fun H locs hR hS => va_runV (As := [.int x1, .int x2]) (rest := []) ⟨hx, hb, hml, hown, hts⟩ (mX10_goes l hfl D x0 x1 x2 z7.2 z10 ez10) (cwV 2 hts (gdV kw1535 kw1537 kw53 kw85 kw1538) rfl rfl rfl (by decide +kernel) ⟨Nat.le_of_ble_eq_true rfl, Nat.le_of_ble_eq_true rfl⟩) (v_preV (ci := 11) hSS hR hS g8 (by decide) rfl [.int x1, .int x2]) rfl rfl hl.1 rfl (lv_room (Nat.le_of_ble_eq_true rfl)) dX10_remove_49 ⟨Nat.zero_le _, Nat.zero_le _⟩) ?_
        refine w_iload_n hx hb dX10_remove_52 rfl (lv_at hl 3 rfl) ?_
        obtain ⟨g6, h⟩ := v_ifs h
        obtain rfl := Option.some.inj h
        rw [hQ]
        exact v_zret hx hb hr hlk (v_narZ g6) dX10_remove_53
    · rw [if_neg c6] at h
      refine w_iconst (v := 0) hx hb dX10_remove_29 (by decide) ?_
      obtain rfl := Option.some.inj h
      rw [hQ]
      exact v_zret (x := 0) hx hb hr hlk rfl dX10_remove_30
  refine w_aload_n hx hb dX10_remove_0 rfl (lv_at hl 0 rfl) ?_
  refine w_iload_n hx hb dX10_remove_1 rfl (lv_at hl 1 rfl) ?_
  obtain ⟨g8, h⟩ := v_ifs h
  obtain ⟨z1, ez1, h⟩ := v_bnd h
  refine v_call1 (v := .int z1.1) (M1 := z1.2) (mc := 0) (ms := 0) (fun H locs hR hS => va_runV (As := [.int x1]) (rest := []) ⟨hx, hb, hml, hown, hts⟩ (mX10_noSet l hfl D x0 x1 M z1 ez1) (cwV 1 hts (gdV kw1602 kw1604 kw64 kw85 kw1605) rfl rfl rfl (by decide +kernel) ⟨Nat.le_of_ble_eq_true rfl, Nat.le_of_ble_eq_true rfl⟩) (v_preV (ci := 11) hSS hR hS g8 (by decide) rfl [.int x1]) rfl rfl hl.1 rfl (lv_room (Nat.le_of_ble_eq_true rfl)) dX10_remove_2 ⟨Nat.zero_le _, Nat.zero_le _⟩) ?_
  refine w_if_ne (tgt := 29) hx hb dX10_remove_5 (by decide) (fun c2 => ?_) (fun c2 => ?_)
  · rw [if_pos c2] at h
    refine w_aload_n hx hb dX10_remove_8 rfl (lv_at hl 0 rfl) ?_
    refine w_aload_n hx hb dX10_remove_9 rfl (lv_at hl 0 rfl) ?_
    refine w_iload_n hx hb dX10_remove_10 rfl (lv_at hl 2 rfl) ?_
    obtain ⟨g8, h⟩ := v_ifs h
    obtain ⟨z3, ez3, h⟩ := v_bnd h
    refine v_call1 (v := .int z3) (M1 := z1.2) (mc := 0) (ms := 0) (fun H locs hR hS => va_runV (As := [.int x2]) (rest := [.ref x0]) ⟨hx, hb, hml, hown, hts⟩ (mX10_isInside l hfl D x0 x2 z1.2 z3 ez3) (cwV 1 hts (gdV kw1618 kw1620 kw67 kw85 kw1621) rfl rfl rfl (by decide +kernel) ⟨Nat.le_of_ble_eq_true rfl, Nat.le_of_ble_eq_true rfl⟩) (v_preV (ci := 11) hSS hR hS g8 (by decide) rfl [.int x2]) rfl rfl hl.1 rfl (lv_room (Nat.le_of_ble_eq_true rfl)) dX10_remove_11 ⟨Nat.zero_le _, Nat.zero_le _⟩) ?_
    refine w_if_ne (tgt := 21) hx hb dX10_remove_14 (by decide) (fun c4 => ?_) (fun c4 => ?_)
    · rw [if_pos c4] at h
      refine w_iconst (v := 1) hx hb dX10_remove_17 (by decide) ?_
      refine w_goto (tgt := 22) hx hb dX10_remove_18 (by decide) ?_
      exact X10_remove_J22p x0 x1 x2 x0 1 z1.2 ls (lv_sub hl [0, 1, 2] rfl) h
    · rw [if_neg c4] at h
      refine w_iconst (v := 0) hx hb dX10_remove_21 (by decide) ?_
      exact X10_remove_J22p x0 x1 x2 x0 0 z1.2 ls (lv_sub hl [0, 1, 2] rfl) h
  · rw [if_neg c2] at h
    refine w_iconst (v := 0) hx hb dX10_remove_29 (by decide) ?_
    obtain rfl := Option.some.inj h
    rw [hQ]
    exact v_zret (x := 0) hx hb hr hlk rfl dX10_remove_30

def tX10_clear (x0 : Nat) (x1 : Int32) (M : vMe) : Option (Int32 × vMe) :=
  if (M.1 x0).1 = 12 then
  ((tX10_noSet x0 x1 M).bind fun z1 =>
  if z1.1 = 0 then
  (if (z1.2.1 x0).1 = 12 then
  ((tX10_keeps x0 z1.2).bind fun z3 =>
  if (z3.2.1 x0).1 = 12 then
  ((tX10_of x0 x1 0 z3.2).bind fun z4 =>
  if (z3.2.1 x0).1 = 12 then
  ((tX10_clears x0 x1 z3.2).bind fun z5 =>
  some (z4, z5.2))
else none)
else none)
else none)
else
  (some (0, z1.2)))
else none
def rmX10_clear : Room := { frames := 7, cells := 0, slots := 0, locals := 143 }
set_option maxHeartbeats 4000000 in
set_option maxRecDepth 100000 in
theorem mX10_clear (l : Launch) (hfl : l.stackTraces = false) (D : vD) (x0 : Nat) (x1 : Int32) (M : vMe) (z : (Int32 × vMe)) (h : tX10_clear x0 x1 M = some z) : Met l yX10_clear (Cond.code yX10_clear cX10_clear 3 (some .int) :: TB) rmX10_clear (va_Pc [.ref x0, .int x1] (vPre D M)) (qW D (some (.int z.1)) z.2) 0 0 (vA D) := by
  refine v_ofW (cc := cX10_clear) (maxL := 3) (ret := (some .int)) (by decide) (Nat.le_of_ble_eq_true rfl) ?_
  intro p e s m args below meth c Q hx hb hr hml hown hts hlk hnm hSS hR0 hQ ls hl
  have hK := hSS.1
  have hl : lv_has ls 3 [(0, .ref x0), (1, .int x1)] := hl
  unfold tX10_clear at h
  refine w_aload_n hx hb dX10_clear_0 rfl (lv_at hl 0 rfl) ?_
  refine w_iload_n hx hb dX10_clear_1 rfl (lv_at hl 1 rfl) ?_
  obtain ⟨g8, h⟩ := v_ifs h
  obtain ⟨z1, ez1, h⟩ := v_bnd h
  refine v_call1 (v := .int z1.1) (M1 := z1.2) (mc := 0) (ms := 0) (fun H locs hR hS => va_runV (As := [.int x1]) (rest := []) ⟨hx, hb, hml, hown, hts⟩ (mX10_noSet l hfl D x0 x1 M z1 ez1) (cwV 1 hts (gdV kw1602 kw1604 kw64 kw85 kw1605) rfl rfl rfl (by decide +kernel) ⟨Nat.le_of_ble_eq_true rfl, Nat.le_of_ble_eq_true rfl⟩) (v_preV (ci := 11) hSS hR hS g8 (by decide) rfl [.int x1]) rfl rfl hl.1 rfl (lv_room (Nat.le_of_ble_eq_true rfl)) dX10_clear_2 ⟨Nat.zero_le _, Nat.zero_le _⟩) ?_
  refine w_if_eq (tgt := 10) hx hb dX10_clear_5 (by decide) (fun c2 => ?_) (fun c2 => ?_)
  · rw [if_pos c2] at h
    refine w_aload_n hx hb dX10_clear_10 rfl (lv_at hl 0 rfl) ?_
    obtain ⟨g8, h⟩ := v_ifs h
    obtain ⟨z3, ez3, h⟩ := v_bnd h
    refine v_call0 (M1 := z3.2) (mc := 0) (ms := 0) (fun H locs hR hS => va_runV (As := []) (rest := []) ⟨hx, hb, hml, hown, hts⟩ (mX10_keeps l hfl D x0 z1.2 z3 ez3) (cwV 0 hts (gdV kw1701 kw1703 kw74 kw85 kw1704) rfl rfl rfl (by decide +kernel) ⟨Nat.le_of_ble_eq_true rfl, Nat.le_of_ble_eq_true rfl⟩) (v_preV (ci := 11) hSS hR hS g8 (by decide) rfl []) rfl rfl hl.1 rfl (lv_room (Nat.le_of_ble_eq_true rfl)) dX10_clear_11 ⟨Nat.zero_le _, Nat.zero_le _⟩) ?_
    refine w_aload_n hx hb dX10_clear_14 rfl (lv_at hl 0 rfl) ?_
    refine w_iload_n hx hb dX10_clear_15 rfl (lv_at hl 1 rfl) ?_
    refine w_iconst (v := 0) hx hb dX10_clear_16 (by decide) ?_
    obtain ⟨g8, h⟩ := v_ifs h
    obtain ⟨z4, ez4, h⟩ := v_bnd h
    refine v_call1 (v := .int z4) (M1 := z3.2) (mc := 0) (ms := 0) (fun H locs hR hS => va_runV (As := [.int x1, .int 0]) (rest := []) ⟨hx, hb, hml, hown, hts⟩ (mX10_of l hfl D x0 x1 0 z3.2 z4 ez4) (cwV 2 hts (gdV kw1497 kw1499 kw44 kw85 kw1500) rfl rfl rfl (by decide +kernel) ⟨Nat.le_of_ble_eq_true rfl, Nat.le_of_ble_eq_true rfl⟩) (v_preV (ci := 11) hSS hR hS g8 (by decide) rfl [.int x1, .int 0]) rfl rfl hl.1 rfl (lv_room (Nat.le_of_ble_eq_true rfl)) dX10_clear_17 ⟨Nat.zero_le _, Nat.zero_le _⟩) ?_
    refine w_istore_n (lv' := [(2, .int z4), (0, .ref x0), (1, .int x1)]) hx hb dX10_clear_20 rfl hl (by decide) rfl (fun ls hl => ?_)
    have hl : lv_has ls 3 [(0, .ref x0), (1, .int x1), (2, .int z4)] := lv_sub hl [1, 2, 0] rfl
    refine w_aload_n hx hb dX10_clear_21 rfl (lv_at hl 0 rfl) ?_
    refine w_iload_n hx hb dX10_clear_22 rfl (lv_at hl 1 rfl) ?_
    obtain ⟨g8, h⟩ := v_ifs h
    obtain ⟨z5, ez5, h⟩ := v_bnd h
    refine v_call0 (M1 := z5.2) (mc := 0) (ms := 0) (fun H locs hR hS => va_runV (As := [.int x1]) (rest := []) ⟨hx, hb, hml, hown, hts⟩ (mX10_clears l hfl D x0 x1 z3.2 z5 ez5) (cwV 1 hts (gdV kw1565 kw1567 kw60 kw85 kw1568) rfl rfl rfl (by decide +kernel) ⟨Nat.le_of_ble_eq_true rfl, Nat.le_of_ble_eq_true rfl⟩) (v_preV (ci := 11) hSS hR hS g8 (by decide) rfl [.int x1]) rfl rfl hl.1 rfl (lv_room (Nat.le_of_ble_eq_true rfl)) dX10_clear_23 ⟨Nat.zero_le _, Nat.zero_le _⟩) ?_
    refine w_iload_n hx hb dX10_clear_26 rfl (lv_at hl 2 rfl) ?_
    obtain rfl := Option.some.inj h
    rw [hQ]
    exact v_iret hx hb hr hlk dX10_clear_27
  · rw [if_neg c2] at h
    refine w_iconst (v := 0) hx hb dX10_clear_8 (by decide) ?_
    obtain rfl := Option.some.inj h
    rw [hQ]
    exact v_iret hx hb hr hlk dX10_clear_9

def tX10_mark_J22 (x0 : Nat) (y0 : Nat) (y1 : Int32) (Mj : vMe) : Option (Int32 × vMe) :=
  if (Mj.1 y0).1 = 12 then
  ((tX10_throwsIf y0 y1 1 Mj).bind fun z5 =>
  if z5.1 = 0 then
  (if (z5.2.1 x0).1 = 12 then
  ((tX10_keeps x0 z5.2).bind fun z7 =>
  if (z7.2.1 x0).1 = 12 then
  ((tX10_marks x0 z7.2).bind fun z8 =>
  some (z8.1, z8.2))
else none)
else none)
else
  (some (0, z5.2)))
else none
def tX10_mark (x0 : Nat) (M : vMe) : Option (Int32 × vMe) :=
  (sV M x0 12 0 (.int 0)).bind fun M1 =>
  (gA M1 x0 12 1).bind fun a2 =>
  (aI M1 a2 101 4).bind fun v3 =>
  if v3 = (8 : Int32) then
  (tX10_mark_J22 x0 x0 1 M1)
else
  (tX10_mark_J22 x0 x0 0 M1)
def rmX10_mark : Room := { frames := 3, cells := 0, slots := 0, locals := 45 }
set_option maxHeartbeats 4000000 in
set_option maxRecDepth 100000 in
theorem mX10_mark (l : Launch) (hfl : l.stackTraces = false) (D : vD) (x0 : Nat) (M : vMe) (z : (Int32 × vMe)) (h : tX10_mark x0 M = some z) : Met l yX10_mark (Cond.code yX10_mark cX10_mark 1 (some .int) :: TB) rmX10_mark (va_Pc [.ref x0] (vPre D M)) (qW D (some (.int z.1)) z.2) 0 0 (vA D) := by
  refine v_ofW (cc := cX10_mark) (maxL := 1) (ret := (some .int)) (by decide) (Nat.le_of_ble_eq_true rfl) ?_
  intro p e s m args below meth c Q hx hb hr hml hown hts hlk hnm hSS hR0 hQ ls hl
  have hK := hSS.1
  have hl : lv_has ls 1 [(0, .ref x0)] := hl
  unfold tX10_mark at h
  have X10_mark_J22p : ∀ (x0 : Nat) (y0 : Nat) (y1 : Int32) (Mj : vMe) (ls : Array Slot), lv_has ls 1 [(0, .ref x0)] → tX10_mark_J22 x0 y0 y1 Mj = some z → vV D p l e rmX10_mark s m args below meth c 0 0 Q Mj (F0 m 22 ls [.int y1, .ref y0]) := by
    intro x0 y0 y1 Mj ls hl h
    unfold tX10_mark_J22 at h
    refine w_iconst (v := 1) hx hb dX10_mark_22 (by decide) ?_
    obtain ⟨g8, h⟩ := v_ifs h
    obtain ⟨z5, ez5, h⟩ := v_bnd h
    refine v_call1 (v := .int z5.1) (M1 := z5.2) (mc := 0) (ms := 0) (fun H locs hR hS => va_runV (As := [.int y1, .int 1]) (rest := []) ⟨hx, hb, hml, hown, hts⟩ (mX10_throwsIf l hfl D y0 y1 1 Mj z5 ez5) (cwV 2 hts (gdV kw1422 kw1424 kw28 kw85 kw1425) rfl rfl rfl (by decide +kernel) ⟨Nat.le_of_ble_eq_true rfl, Nat.le_of_ble_eq_true rfl⟩) (v_preV (ci := 11) hSS hR hS g8 (by decide) rfl [.int y1, .int 1]) rfl rfl hl.1 rfl (lv_room (Nat.le_of_ble_eq_true rfl)) dX10_mark_23 ⟨Nat.zero_le _, Nat.zero_le _⟩) ?_
    refine w_if_eq (tgt := 31) hx hb dX10_mark_26 (by decide) (fun c6 => ?_) (fun c6 => ?_)
    · rw [if_pos c6] at h
      refine w_aload_n hx hb dX10_mark_31 rfl (lv_at hl 0 rfl) ?_
      obtain ⟨g8, h⟩ := v_ifs h
      obtain ⟨z7, ez7, h⟩ := v_bnd h
      refine v_call0 (M1 := z7.2) (mc := 0) (ms := 0) (fun H locs hR hS => va_runV (As := []) (rest := []) ⟨hx, hb, hml, hown, hts⟩ (mX10_keeps l hfl D x0 z5.2 z7 ez7) (cwV 0 hts (gdV kw1701 kw1703 kw74 kw85 kw1704) rfl rfl rfl (by decide +kernel) ⟨Nat.le_of_ble_eq_true rfl, Nat.le_of_ble_eq_true rfl⟩) (v_preV (ci := 11) hSS hR hS g8 (by decide) rfl []) rfl rfl hl.1 rfl (lv_room (Nat.le_of_ble_eq_true rfl)) dX10_mark_32 ⟨Nat.zero_le _, Nat.zero_le _⟩) ?_
      refine w_aload_n hx hb dX10_mark_35 rfl (lv_at hl 0 rfl) ?_
      obtain ⟨g8, h⟩ := v_ifs h
      obtain ⟨z8, ez8, h⟩ := v_bnd h
      refine v_call1 (v := .int z8.1) (M1 := z8.2) (mc := 0) (ms := 0) (fun H locs hR hS => va_runV (As := []) (rest := []) ⟨hx, hb, hml, hown, hts⟩ (mX10_marks l hfl D x0 z7.2 z8 ez8) (cwV 0 hts (gdV kw1574 kw1576 kw62 kw85 kw1577) rfl rfl rfl (by decide +kernel) ⟨Nat.le_of_ble_eq_true rfl, Nat.le_of_ble_eq_true rfl⟩) (v_preV (ci := 11) hSS hR hS g8 (by decide) rfl []) rfl rfl hl.1 rfl (lv_room (Nat.le_of_ble_eq_true rfl)) dX10_mark_36 ⟨Nat.zero_le _, Nat.zero_le _⟩) ?_
      obtain rfl := Option.some.inj h
      rw [hQ]
      exact v_iret hx hb hr hlk dX10_mark_39
    · rw [if_neg c6] at h
      refine w_iconst (v := 0) hx hb dX10_mark_29 (by decide) ?_
      obtain rfl := Option.some.inj h
      rw [hQ]
      exact v_iret hx hb hr hlk dX10_mark_30
  refine w_aload_n hx hb dX10_mark_0 rfl (lv_at hl 0 rfl) ?_
  refine w_iconst (v := 0) hx hb dX10_mark_1 (by decide) ?_
  obtain ⟨M1, eM1, h⟩ := v_bnd h
  refine v_putf (ci := 11) hx hb hts iwX10 hown hK tyX10_ok nmX10 0 eM1 rfl (by decide) (Or.inl (hts _ kw1335)) (fun _ h9 => h9) (Or.inl rfl) rfl rfl dX10_mark_2 ?_
  refine w_aload_n hx hb dX10_mark_5 rfl (lv_at hl 0 rfl) ?_
  refine w_aload_n hx hb dX10_mark_6 rfl (lv_at hl 0 rfl) ?_
  obtain ⟨a2, ea2, h⟩ := v_bnd h
  refine v_gA (ci := 11) hx hb hts iwX10 hown hK 1 ea2 rfl (by decide) (Or.inl (hts _ kw1336)) (fun _ h9 => h9) dX10_mark_7 ?_
  refine w_iconst (v := 4) hx hb dX10_mark_10 (by decide) ?_
  obtain ⟨v3, ev3, h⟩ := v_bnd h
  refine v_iald hx hb hK ev3 dX10_mark_11 ?_
  refine w_bipush (v := 8) hx hb dX10_mark_12 (by decide) ?_
  refine w_icmp_ne (tgt := 21) hx hb dX10_mark_14 (by decide) (fun c4 => ?_) (fun c4 => ?_)
  · rw [if_pos c4] at h
    refine w_iconst (v := 1) hx hb dX10_mark_17 (by decide) ?_
    refine w_goto (tgt := 22) hx hb dX10_mark_18 (by decide) ?_
    exact X10_mark_J22p x0 x0 1 M1 ls (lv_sub hl [0] rfl) h
  · rw [if_neg c4] at h
    refine w_iconst (v := 0) hx hb dX10_mark_21 (by decide) ?_
    exact X10_mark_J22p x0 x0 0 M1 ls (lv_sub hl [0] rfl) h

def tX10_open_L38 (x0 : Nat) (x1 : Int32) (x2 : Int32) : Nat → Int32 → vMe → Option (Int32 × vMe)
  | 0, _, _ => none
  | f + 1, x3, Mi =>
  if (Mi.1 x0).1 = 12 then
  ((tX10_ofCursor x0 x3 0 Mi).bind fun z10 =>
  if z10 = (1 : Int32) then
  (tX10_open_L38 x0 x1 x2 f (x3 + 1) Mi)
else
  (some (x3, Mi)))
else none
def tX10_open_J94 (x0 : Nat) (x3 : Int32) (y0 : Nat) (y1 : Int32) (y2 : Int32) (y3 : Int32) (Mj : vMe) : Option (Int32 × vMe) :=
  if (Mj.1 y0).1 = 12 then
  ((tX10_setsCursor y0 y1 y2 y3 Mj).bind fun z18 =>
  (gA z18.2 x0 12 1).bind fun a19 =>
  (aI z18.2 a19 101 3).bind fun v20 =>
  if (z18.2.1 x0).1 = 12 then
  ((tX10_setsCursor x0 x3 5 v20 z18.2).bind fun z21 =>
  if (z21.2.1 x0).1 = 12 then
  ((tX10_setsCursor x0 x3 6 0 z21.2).bind fun z22 =>
  if (z22.2.1 x0).1 = 12 then
  ((tX10_setsCursor x0 x3 7 0 z22.2).bind fun z23 =>
  some (x3, z23.2))
else none)
else none)
else none)
else none
def tX10_open_J23 (x0 : Nat) (x1 : Int32) (x2 : Int32) (y0 : Nat) (y1 : Int32) (Mj : vMe) : Option (Int32 × vMe) :=
  if (Mj.1 y0).1 = 12 then
  ((tX10_throwsIf y0 y1 2 Mj).bind fun z5 =>
  if z5.1 = 0 then
  (if (z5.2.1 x0).1 = 12 then
  ((tX10_keeps x0 z5.2).bind fun z7 =>
  (tX10_open_L38 x0 x1 x2 vF 0 z7.2).bind fun z12 =>
  if (z12.2.1 x0).1 = 12 then
  ((tX10_setsCursor x0 z12.1 0 1 z12.2).bind fun z13 =>
  if (z13.2.1 x0).1 = 12 then
  ((tX10_setsCursor x0 z12.1 1 x1 z13.2).bind fun z14 =>
  if (z14.2.1 x0).1 = 12 then
  ((tX10_setsCursor x0 z12.1 2 0 z14.2).bind fun z15 =>
  if (z15.2.1 x0).1 = 12 then
  ((tX10_setsCursor x0 z12.1 3 1 z15.2).bind fun z16 =>
  if x2 = 0 then
  (tX10_open_J94 x0 z12.1 x0 z12.1 4 0 z16.2)
else
  (tX10_open_J94 x0 z12.1 x0 z12.1 4 1 z16.2))
else none)
else none)
else none)
else none)
else none)
else
  (some (0, z5.2)))
else none
def tX10_open (x0 : Nat) (x1 : Int32) (x2 : Int32) (M : vMe) : Option (Int32 × vMe) :=
  if (M.1 x0).1 = 12 then
  ((tX10_noSet x0 x1 M).bind fun z1 =>
  if z1.1 = 0 then
  (if (z1.2.1 x0).1 = 12 then
  ((tX10_cursorsMany x0 z1.2).bind fun z3 =>
  if z3 = (6 : Int32) then
  (tX10_open_J23 x0 x1 x2 x0 1 z1.2)
else
  (tX10_open_J23 x0 x1 x2 x0 0 z1.2))
else none)
else
  (some (0, z1.2)))
else none
def rmX10_open : Room := { frames := 4, cells := 0, slots := 0, locals := 65 }
set_option maxHeartbeats 4000000 in
set_option maxRecDepth 100000 in
theorem mX10_open (l : Launch) (hfl : l.stackTraces = false) (D : vD) (x0 : Nat) (x1 : Int32) (x2 : Int32) (M : vMe) (z : (Int32 × vMe)) (h : tX10_open x0 x1 x2 M = some z) : Met l yX10_open (Cond.code yX10_open cX10_open 4 (some .int) :: TB) rmX10_open (va_Pc [.ref x0, .int x1, .int x2] (vPre D M)) (qW D (some (.int z.1)) z.2) 0 0 (vA D) := by
  refine v_ofW (cc := cX10_open) (maxL := 4) (ret := (some .int)) (by decide) (Nat.le_of_ble_eq_true rfl) ?_
  intro p e s m args below meth c Q hx hb hr hml hown hts hlk hnm hSS hR0 hQ ls hl
  have hK := hSS.1
  have hl : lv_has ls 4 [(0, .ref x0), (1, .int x1), (2, .int x2)] := hl
  unfold tX10_open at h
  have X10_open_L38p : ∀ (x0 : Nat) (x1 : Int32) (x2 : Int32), ∀ (f : Nat) (x3 : Int32) (Mi : vMe) (ls : Array Slot) (z : (Int32 × vMe)), lv_has ls 4 [(0, .ref x0), (1, .int x1), (2, .int x2), (3, .int x3)] → tX10_open_L38 x0 x1 x2 f x3 Mi = some z → (∀ ls : Array Slot, lv_has ls 4 [(0, .ref x0), (1, .int x1), (2, .int x2), (3, .int z.1)] → vV D p l e rmX10_open s m args below meth c 0 0 Q z.2 (F0 m 54 ls [])) → vV D p l e rmX10_open s m args below meth c 0 0 Q Mi (F0 m 38 ls []) := by
    intro x0 x1 x2 f
    induction f with
    | zero =>
      intro x3 Mi ls z hl h
      exact absurd h (by simp [tX10_open_L38])
    | succ f ih =>
      intro x3 Mi ls z hl h KX
      rw [tX10_open_L38] at h
      refine w_aload_n hx hb dX10_open_38 rfl (lv_at hl 0 rfl) ?_
      refine w_iload_n hx hb dX10_open_39 rfl (lv_at hl 3 rfl) ?_
      refine w_iconst (v := 0) hx hb dX10_open_40 (by decide) ?_
      obtain ⟨g8, h⟩ := v_ifs h
      obtain ⟨z10, ez10, h⟩ := v_bnd h
      refine v_call1 (v := .int z10) (M1 := Mi) (mc := 0) (ms := 0) (fun H locs hR hS => va_runV (As := [.int x3, .int 0]) (rest := []) ⟨hx, hb, hml, hown, hts⟩ (mX10_ofCursor l hfl D x0 x3 0 Mi z10 ez10) (cwV 2 hts (gdV kw1547 kw1549 kw56 kw85 kw1550) rfl rfl rfl (by decide +kernel) ⟨Nat.le_of_ble_eq_true rfl, Nat.le_of_ble_eq_true rfl⟩) (v_preV (ci := 11) hSS hR hS g8 (by decide) rfl [.int x3, .int 0]) rfl rfl hl.1 rfl (lv_room (Nat.le_of_ble_eq_true rfl)) dX10_open_41 ⟨Nat.zero_le _, Nat.zero_le _⟩) ?_
      refine w_iconst (v := 1) hx hb dX10_open_44 (by decide) ?_
      refine w_icmp_ne (tgt := 54) hx hb dX10_open_45 (by decide) (fun c11 => ?_) (fun c11 => ?_)
      · rw [if_pos c11] at h
        refine w_iinc (v := x3 + 1) (lv' := [(3, .int (x3 + 1)), (0, .ref x0), (1, .int x1), (2, .int x2)]) hx hb dX10_open_48 hl (j := 3) rfl rfl (by decide) rfl (fun ls hl => ?_)
        have hl : lv_has ls 4 [(0, .ref x0), (1, .int x1), (2, .int x2), (3, .int (x3 + 1))] := lv_sub hl [1, 2, 3, 0] rfl
        refine w_goto (tgt := 38) hx hb dX10_open_51 (by decide) ?_
        exact ih (x3 + 1) Mi ls z (lv_sub hl [0, 1, 2, 3] rfl) h KX
      · rw [if_neg c11] at h
        obtain rfl := Option.some.inj h
        exact KX ls (lv_sub hl [0, 1, 2, 3] rfl)
  have X10_open_J94p : ∀ (x0 : Nat) (x3 : Int32) (y0 : Nat) (y1 : Int32) (y2 : Int32) (y3 : Int32) (Mj : vMe) (ls : Array Slot), lv_has ls 4 [(0, .ref x0), (3, .int x3)] → tX10_open_J94 x0 x3 y0 y1 y2 y3 Mj = some z → vV D p l e rmX10_open s m args below meth c 0 0 Q Mj (F0 m 94 ls [.int y3, .int y2, .int y1, .ref y0]) := by
    intro x0 x3 y0 y1 y2 y3 Mj ls hl h
    unfold tX10_open_J94 at h
    obtain ⟨g8, h⟩ := v_ifs h
    obtain ⟨z18, ez18, h⟩ := v_bnd h
    refine v_call0 (M1 := z18.2) (mc := 0) (ms := 0) (fun H locs hR hS => va_runV (As := [.int y1, .int y2, .int y3]) (rest := []) ⟨hx, hb, hml, hown, hts⟩ (mX10_setsCursor l hfl D y0 y1 y2 y3 Mj z18 ez18) (cwV 3 hts (gdV kw1555 kw1557 kw58 kw85 kw1558) rfl rfl rfl (by decide +kernel) ⟨Nat.le_of_ble_eq_true rfl, Nat.le_of_ble_eq_true rfl⟩) (v_preV (ci := 11) hSS hR hS g8 (by decide) rfl [.int y1, .int y2, .int y3]) rfl rfl hl.1 rfl (lv_room (Nat.le_of_ble_eq_true rfl)) dX10_open_94 ⟨Nat.zero_le _, Nat.zero_le _⟩) ?_
    refine w_aload_n hx hb dX10_open_97 rfl (lv_at hl 0 rfl) ?_
    refine w_iload_n hx hb dX10_open_98 rfl (lv_at hl 1 rfl) ?_
    refine w_iconst (v := 5) hx hb dX10_open_99 (by decide) ?_
    refine w_aload_n hx hb dX10_open_100 rfl (lv_at hl 0 rfl) ?_
    obtain ⟨a19, ea19, h⟩ := v_bnd h
    refine v_gA (ci := 11) hx hb hts iwX10 hown hK 1 ea19 rfl (by decide) (Or.inl (hts _ kw1336)) (fun _ h9 => h9) dX10_open_101 ?_
    refine w_iconst (v := 3) hx hb dX10_open_104 (by decide) ?_
    obtain ⟨v20, ev20, h⟩ := v_bnd h
    refine v_iald hx hb hK ev20 dX10_open_105 ?_
    obtain ⟨g8, h⟩ := v_ifs h
    obtain ⟨z21, ez21, h⟩ := v_bnd h
    refine v_call0 (M1 := z21.2) (mc := 0) (ms := 0) (fun H locs hR hS => va_runV (As := [.int x3, .int 5, .int v20]) (rest := []) ⟨hx, hb, hml, hown, hts⟩ (mX10_setsCursor l hfl D x0 x3 5 v20 z18.2 z21 ez21) (cwV 3 hts (gdV kw1555 kw1557 kw58 kw85 kw1558) rfl rfl rfl (by decide +kernel) ⟨Nat.le_of_ble_eq_true rfl, Nat.le_of_ble_eq_true rfl⟩) (v_preV (ci := 11) hSS hR hS g8 (by decide) rfl [.int x3, .int 5, .int v20]) rfl rfl hl.1 rfl (lv_room (Nat.le_of_ble_eq_true rfl)) dX10_open_106 ⟨Nat.zero_le _, Nat.zero_le _⟩) ?_
    refine w_aload_n hx hb dX10_open_109 rfl (lv_at hl 0 rfl) ?_
    refine w_iload_n hx hb dX10_open_110 rfl (lv_at hl 1 rfl) ?_
    refine w_bipush (v := 6) hx hb dX10_open_111 (by decide) ?_
    refine w_iconst (v := 0) hx hb dX10_open_113 (by decide) ?_
    obtain ⟨g8, h⟩ := v_ifs h
    obtain ⟨z22, ez22, h⟩ := v_bnd h
    refine v_call0 (M1 := z22.2) (mc := 0) (ms := 0) (fun H locs hR hS => va_runV (As := [.int x3, .int 6, .int 0]) (rest := []) ⟨hx, hb, hml, hown, hts⟩ (mX10_setsCursor l hfl D x0 x3 6 0 z21.2 z22 ez22) (cwV 3 hts (gdV kw1555 kw1557 kw58 kw85 kw1558) rfl rfl rfl (by decide +kernel) ⟨Nat.le_of_ble_eq_true rfl, Nat.le_of_ble_eq_true rfl⟩) (v_preV (ci := 11) hSS hR hS g8 (by decide) rfl [.int x3, .int 6, .int 0]) rfl rfl hl.1 rfl (lv_room (Nat.le_of_ble_eq_true rfl)) dX10_open_114 ⟨Nat.zero_le _, Nat.zero_le _⟩) ?_
    refine w_aload_n hx hb dX10_open_117 rfl (lv_at hl 0 rfl) ?_
    refine w_iload_n hx hb dX10_open_118 rfl (lv_at hl 1 rfl) ?_
    refine w_bipush (v := 7) hx hb dX10_open_119 (by decide) ?_
    refine w_iconst (v := 0) hx hb dX10_open_121 (by decide) ?_
    obtain ⟨g8, h⟩ := v_ifs h
    obtain ⟨z23, ez23, h⟩ := v_bnd h
    refine v_call0 (M1 := z23.2) (mc := 0) (ms := 0) (fun H locs hR hS => va_runV (As := [.int x3, .int 7, .int 0]) (rest := []) ⟨hx, hb, hml, hown, hts⟩ (mX10_setsCursor l hfl D x0 x3 7 0 z22.2 z23 ez23) (cwV 3 hts (gdV kw1555 kw1557 kw58 kw85 kw1558) rfl rfl rfl (by decide +kernel) ⟨Nat.le_of_ble_eq_true rfl, Nat.le_of_ble_eq_true rfl⟩) (v_preV (ci := 11) hSS hR hS g8 (by decide) rfl [.int x3, .int 7, .int 0]) rfl rfl hl.1 rfl (lv_room (Nat.le_of_ble_eq_true rfl)) dX10_open_122 ⟨Nat.zero_le _, Nat.zero_le _⟩) ?_
    refine w_iload_n hx hb dX10_open_125 rfl (lv_at hl 1 rfl) ?_
    obtain rfl := Option.some.inj h
    rw [hQ]
    exact v_iret hx hb hr hlk dX10_open_126
  have X10_open_J23p : ∀ (x0 : Nat) (x1 : Int32) (x2 : Int32) (y0 : Nat) (y1 : Int32) (Mj : vMe) (ls : Array Slot), lv_has ls 4 [(0, .ref x0), (1, .int x1), (2, .int x2)] → tX10_open_J23 x0 x1 x2 y0 y1 Mj = some z → vV D p l e rmX10_open s m args below meth c 0 0 Q Mj (F0 m 23 ls [.int y1, .ref y0]) := by
    intro x0 x1 x2 y0 y1 Mj ls hl h
    unfold tX10_open_J23 at h
    refine w_iconst (v := 2) hx hb dX10_open_23 (by decide) ?_
    obtain ⟨g8, h⟩ := v_ifs h
    obtain ⟨z5, ez5, h⟩ := v_bnd h
    refine v_call1 (v := .int z5.1) (M1 := z5.2) (mc := 0) (ms := 0) (fun H locs hR hS => va_runV (As := [.int y1, .int 2]) (rest := []) ⟨hx, hb, hml, hown, hts⟩ (mX10_throwsIf l hfl D y0 y1 2 Mj z5 ez5) (cwV 2 hts (gdV kw1422 kw1424 kw28 kw85 kw1425) rfl rfl rfl (by decide +kernel) ⟨Nat.le_of_ble_eq_true rfl, Nat.le_of_ble_eq_true rfl⟩) (v_preV (ci := 11) hSS hR hS g8 (by decide) rfl [.int y1, .int 2]) rfl rfl hl.1 rfl (lv_room (Nat.le_of_ble_eq_true rfl)) dX10_open_24 ⟨Nat.zero_le _, Nat.zero_le _⟩) ?_
    refine w_if_eq (tgt := 32) hx hb dX10_open_27 (by decide) (fun c6 => ?_) (fun c6 => ?_)
    · rw [if_pos c6] at h
      refine w_aload_n hx hb dX10_open_32 rfl (lv_at hl 0 rfl) ?_
      obtain ⟨g8, h⟩ := v_ifs h
      obtain ⟨z7, ez7, h⟩ := v_bnd h
      refine v_call0 (M1 := z7.2) (mc := 0) (ms := 0) (fun H locs hR hS => va_runV (As := []) (rest := []) ⟨hx, hb, hml, hown, hts⟩ (mX10_keeps l hfl D x0 z5.2 z7 ez7) (cwV 0 hts (gdV kw1701 kw1703 kw74 kw85 kw1704) rfl rfl rfl (by decide +kernel) ⟨Nat.le_of_ble_eq_true rfl, Nat.le_of_ble_eq_true rfl⟩) (v_preV (ci := 11) hSS hR hS g8 (by decide) rfl []) rfl rfl hl.1 rfl (lv_room (Nat.le_of_ble_eq_true rfl)) dX10_open_33 ⟨Nat.zero_le _, Nat.zero_le _⟩) ?_
      refine w_iconst (v := 0) hx hb dX10_open_36 (by decide) ?_
      refine w_istore_n (lv' := [(3, .int 0), (0, .ref x0), (1, .int x1), (2, .int x2)]) hx hb dX10_open_37 rfl hl (by decide) rfl (fun ls hl => ?_)
      have hl : lv_has ls 4 [(0, .ref x0), (1, .int x1), (2, .int x2), (3, .int 0)] := lv_sub hl [1, 2, 3, 0] rfl
      obtain ⟨z12, ez12, h⟩ := v_bnd h
      refine X10_open_L38p x0 x1 x2 vF 0 z7.2 ls z12 (lv_sub hl [0, 1, 2, 3] rfl) ez12 (fun ls hl => ?_)
      refine w_aload_n hx hb dX10_open_54 rfl (lv_at hl 0 rfl) ?_
      refine w_iload_n hx hb dX10_open_55 rfl (lv_at hl 3 rfl) ?_
      refine w_iconst (v := 0) hx hb dX10_open_56 (by decide) ?_
      refine w_iconst (v := 1) hx hb dX10_open_57 (by decide) ?_
      obtain ⟨g8, h⟩ := v_ifs h
      obtain ⟨z13, ez13, h⟩ := v_bnd h
      refine v_call0 (M1 := z13.2) (mc := 0) (ms := 0) (fun H locs hR hS => va_runV (As := [.int z12.1, .int 0, .int 1]) (rest := []) ⟨hx, hb, hml, hown, hts⟩ (mX10_setsCursor l hfl D x0 z12.1 0 1 z12.2 z13 ez13) (cwV 3 hts (gdV kw1555 kw1557 kw58 kw85 kw1558) rfl rfl rfl (by decide +kernel) ⟨Nat.le_of_ble_eq_true rfl, Nat.le_of_ble_eq_true rfl⟩) (v_preV (ci := 11) hSS hR hS g8 (by decide) rfl [.int z12.1, .int 0, .int 1]) rfl rfl hl.1 rfl (lv_room (Nat.le_of_ble_eq_true rfl)) dX10_open_58 ⟨Nat.zero_le _, Nat.zero_le _⟩) ?_
      refine w_aload_n hx hb dX10_open_61 rfl (lv_at hl 0 rfl) ?_
      refine w_iload_n hx hb dX10_open_62 rfl (lv_at hl 3 rfl) ?_
      refine w_iconst (v := 1) hx hb dX10_open_63 (by decide) ?_
      refine w_iload_n hx hb dX10_open_64 rfl (lv_at hl 1 rfl) ?_
      obtain ⟨g8, h⟩ := v_ifs h
      obtain ⟨z14, ez14, h⟩ := v_bnd h
      refine v_call0 (M1 := z14.2) (mc := 0) (ms := 0) (fun H locs hR hS => va_runV (As := [.int z12.1, .int 1, .int x1]) (rest := []) ⟨hx, hb, hml, hown, hts⟩ (mX10_setsCursor l hfl D x0 z12.1 1 x1 z13.2 z14 ez14) (cwV 3 hts (gdV kw1555 kw1557 kw58 kw85 kw1558) rfl rfl rfl (by decide +kernel) ⟨Nat.le_of_ble_eq_true rfl, Nat.le_of_ble_eq_true rfl⟩) (v_preV (ci := 11) hSS hR hS g8 (by decide) rfl [.int z12.1, .int 1, .int x1]) rfl rfl hl.1 rfl (lv_room (Nat.le_of_ble_eq_true rfl)) dX10_open_65 ⟨Nat.zero_le _, Nat.zero_le _⟩) ?_
      refine w_aload_n hx hb dX10_open_68 rfl (lv_at hl 0 rfl) ?_
      refine w_iload_n hx hb dX10_open_69 rfl (lv_at hl 3 rfl) ?_
      refine w_iconst (v := 2) hx hb dX10_open_70 (by decide) ?_
      refine w_iconst (v := 0) hx hb dX10_open_71 (by decide) ?_
      obtain ⟨g8, h⟩ := v_ifs h
      obtain ⟨z15, ez15, h⟩ := v_bnd h
      refine v_call0 (M1 := z15.2) (mc := 0) (ms := 0) (fun H locs hR hS => va_runV (As := [.int z12.1, .int 2, .int 0]) (rest := []) ⟨hx, hb, hml, hown, hts⟩ (mX10_setsCursor l hfl D x0 z12.1 2 0 z14.2 z15 ez15) (cwV 3 hts (gdV kw1555 kw1557 kw58 kw85 kw1558) rfl rfl rfl (by decide +kernel) ⟨Nat.le_of_ble_eq_true rfl, Nat.le_of_ble_eq_true rfl⟩) (v_preV (ci := 11) hSS hR hS g8 (by decide) rfl [.int z12.1, .int 2, .int 0]) rfl rfl hl.1 rfl (lv_room (Nat.le_of_ble_eq_true rfl)) dX10_open_72 ⟨Nat.zero_le _, Nat.zero_le _⟩) ?_
      refine w_aload_n hx hb dX10_open_75 rfl (lv_at hl 0 rfl) ?_
      refine w_iload_n hx hb dX10_open_76 rfl (lv_at hl 3 rfl) ?_
      refine w_iconst (v := 3) hx hb dX10_open_77 (by decide) ?_
      refine w_iconst (v := 1) hx hb dX10_open_78 (by decide) ?_
      obtain ⟨g8, h⟩ := v_ifs h
      obtain ⟨z16, ez16, h⟩ := v_bnd h
      refine v_call0 (M1 := z16.2) (mc := 0) (ms := 0) (fun H locs hR hS => va_runV (As := [.int z12.1, .int 3, .int 1]) (rest := []) ⟨hx, hb, hml, hown, hts⟩ (mX10_setsCursor l hfl D x0 z12.1 3 1 z15.2 z16 ez16) (cwV 3 hts (gdV kw1555 kw1557 kw58 kw85 kw1558) rfl rfl rfl (by decide +kernel) ⟨Nat.le_of_ble_eq_true rfl, Nat.le_of_ble_eq_true rfl⟩) (v_preV (ci := 11) hSS hR hS g8 (by decide) rfl [.int z12.1, .int 3, .int 1]) rfl rfl hl.1 rfl (lv_room (Nat.le_of_ble_eq_true rfl)) dX10_open_79 ⟨Nat.zero_le _, Nat.zero_le _⟩) ?_
      refine w_aload_n hx hb dX10_open_82 rfl (lv_at hl 0 rfl) ?_
      refine w_iload_n hx hb dX10_open_83 rfl (lv_at hl 3 rfl) ?_
      refine w_iconst (v := 4) hx hb dX10_open_84 (by decide) ?_
      refine w_iload_n hx hb dX10_open_85 rfl (lv_at hl 2 rfl) ?_
      refine w_if_eq (tgt := 93) hx hb dX10_open_86 (by decide) (fun c17 => ?_) (fun c17 => ?_)
      · rw [if_pos c17] at h
        refine w_iconst (v := 0) hx hb dX10_open_93 (by decide) ?_
        exact X10_open_J94p x0 z12.1 x0 z12.1 4 0 z16.2 ls (lv_sub hl [0, 3] rfl) h
      · rw [if_neg c17] at h
        refine w_iconst (v := 1) hx hb dX10_open_89 (by decide) ?_
        refine w_goto (tgt := 94) hx hb dX10_open_90 (by decide) ?_
        exact X10_open_J94p x0 z12.1 x0 z12.1 4 1 z16.2 ls (lv_sub hl [0, 3] rfl) h
    · rw [if_neg c6] at h
      refine w_iconst (v := 0) hx hb dX10_open_30 (by decide) ?_
      obtain rfl := Option.some.inj h
      rw [hQ]
      exact v_iret hx hb hr hlk dX10_open_31
  refine w_aload_n hx hb dX10_open_0 rfl (lv_at hl 0 rfl) ?_
  refine w_iload_n hx hb dX10_open_1 rfl (lv_at hl 1 rfl) ?_
  obtain ⟨g8, h⟩ := v_ifs h
  obtain ⟨z1, ez1, h⟩ := v_bnd h
  refine v_call1 (v := .int z1.1) (M1 := z1.2) (mc := 0) (ms := 0) (fun H locs hR hS => va_runV (As := [.int x1]) (rest := []) ⟨hx, hb, hml, hown, hts⟩ (mX10_noSet l hfl D x0 x1 M z1 ez1) (cwV 1 hts (gdV kw1602 kw1604 kw64 kw85 kw1605) rfl rfl rfl (by decide +kernel) ⟨Nat.le_of_ble_eq_true rfl, Nat.le_of_ble_eq_true rfl⟩) (v_preV (ci := 11) hSS hR hS g8 (by decide) rfl [.int x1]) rfl rfl hl.1 rfl (lv_room (Nat.le_of_ble_eq_true rfl)) dX10_open_2 ⟨Nat.zero_le _, Nat.zero_le _⟩) ?_
  refine w_if_ne (tgt := 30) hx hb dX10_open_5 (by decide) (fun c2 => ?_) (fun c2 => ?_)
  · rw [if_pos c2] at h
    refine w_aload_n hx hb dX10_open_8 rfl (lv_at hl 0 rfl) ?_
    refine w_aload_n hx hb dX10_open_9 rfl (lv_at hl 0 rfl) ?_
    obtain ⟨g8, h⟩ := v_ifs h
    obtain ⟨z3, ez3, h⟩ := v_bnd h
    refine v_call1 (v := .int z3) (M1 := z1.2) (mc := 0) (ms := 0) (fun H locs hR hS => va_runV (As := []) (rest := [.ref x0]) ⟨hx, hb, hml, hown, hts⟩ (mX10_cursorsMany l hfl D x0 z1.2 z3 ez3) (cwV 0 hts (gdV kw1590 kw1592 kw63 kw85 kw1593) rfl rfl rfl (by decide +kernel) ⟨Nat.le_of_ble_eq_true rfl, Nat.le_of_ble_eq_true rfl⟩) (v_preV (ci := 11) hSS hR hS g8 (by decide) rfl []) rfl rfl hl.1 rfl (lv_room (Nat.le_of_ble_eq_true rfl)) dX10_open_10 ⟨Nat.zero_le _, Nat.zero_le _⟩) ?_
    refine w_bipush (v := 6) hx hb dX10_open_13 (by decide) ?_
    refine w_icmp_ne (tgt := 22) hx hb dX10_open_15 (by decide) (fun c4 => ?_) (fun c4 => ?_)
    · rw [if_pos c4] at h
      refine w_iconst (v := 1) hx hb dX10_open_18 (by decide) ?_
      refine w_goto (tgt := 23) hx hb dX10_open_19 (by decide) ?_
      exact X10_open_J23p x0 x1 x2 x0 1 z1.2 ls (lv_sub hl [0, 1, 2] rfl) h
    · rw [if_neg c4] at h
      refine w_iconst (v := 0) hx hb dX10_open_22 (by decide) ?_
      exact X10_open_J23p x0 x1 x2 x0 0 z1.2 ls (lv_sub hl [0, 1, 2] rfl) h
  · rw [if_neg c2] at h
    refine w_iconst (v := 0) hx hb dX10_open_30 (by decide) ?_
    obtain rfl := Option.some.inj h
    rw [hQ]
    exact v_iret hx hb hr hlk dX10_open_31

def tX10_close (x0 : Nat) (x1 : Int32) (M : vMe) : Option (Int32 × vMe) :=
  if (M.1 x0).1 = 12 then
  ((tX10_noCursor x0 x1 M).bind fun z1 =>
  if z1.1 = 0 then
  (if (z1.2.1 x0).1 = 12 then
  ((tX10_keeps x0 z1.2).bind fun z3 =>
  if (z3.2.1 x0).1 = 12 then
  ((tX10_setsCursor x0 x1 0 0 z3.2).bind fun z4 =>
  if (z4.2.1 x0).1 = 12 then
  ((tX10_ofCursor x0 x1 6 z4.2).bind fun z5 =>
  some (z5, z4.2))
else none)
else none)
else none)
else
  (some (0, z1.2)))
else none
def rmX10_close : Room := { frames := 3, cells := 0, slots := 0, locals := 45 }
set_option maxHeartbeats 4000000 in
set_option maxRecDepth 100000 in
theorem mX10_close (l : Launch) (hfl : l.stackTraces = false) (D : vD) (x0 : Nat) (x1 : Int32) (M : vMe) (z : (Int32 × vMe)) (h : tX10_close x0 x1 M = some z) : Met l yX10_close (Cond.code yX10_close cX10_close 2 (some .int) :: TB) rmX10_close (va_Pc [.ref x0, .int x1] (vPre D M)) (qW D (some (.int z.1)) z.2) 0 0 (vA D) := by
  refine v_ofW (cc := cX10_close) (maxL := 2) (ret := (some .int)) (by decide) (Nat.le_of_ble_eq_true rfl) ?_
  intro p e s m args below meth c Q hx hb hr hml hown hts hlk hnm hSS hR0 hQ ls hl
  have hK := hSS.1
  have hl : lv_has ls 2 [(0, .ref x0), (1, .int x1)] := hl
  unfold tX10_close at h
  refine w_aload_n hx hb dX10_close_0 rfl (lv_at hl 0 rfl) ?_
  refine w_iload_n hx hb dX10_close_1 rfl (lv_at hl 1 rfl) ?_
  obtain ⟨g8, h⟩ := v_ifs h
  obtain ⟨z1, ez1, h⟩ := v_bnd h
  refine v_call1 (v := .int z1.1) (M1 := z1.2) (mc := 0) (ms := 0) (fun H locs hR hS => va_runV (As := [.int x1]) (rest := []) ⟨hx, hb, hml, hown, hts⟩ (mX10_noCursor l hfl D x0 x1 M z1 ez1) (cwV 1 hts (gdV kw1665 kw1667 kw70 kw85 kw1668) rfl rfl rfl (by decide +kernel) ⟨Nat.le_of_ble_eq_true rfl, Nat.le_of_ble_eq_true rfl⟩) (v_preV (ci := 11) hSS hR hS g8 (by decide) rfl [.int x1]) rfl rfl hl.1 rfl (lv_room (Nat.le_of_ble_eq_true rfl)) dX10_close_2 ⟨Nat.zero_le _, Nat.zero_le _⟩) ?_
  refine w_if_eq (tgt := 10) hx hb dX10_close_5 (by decide) (fun c2 => ?_) (fun c2 => ?_)
  · rw [if_pos c2] at h
    refine w_aload_n hx hb dX10_close_10 rfl (lv_at hl 0 rfl) ?_
    obtain ⟨g8, h⟩ := v_ifs h
    obtain ⟨z3, ez3, h⟩ := v_bnd h
    refine v_call0 (M1 := z3.2) (mc := 0) (ms := 0) (fun H locs hR hS => va_runV (As := []) (rest := []) ⟨hx, hb, hml, hown, hts⟩ (mX10_keeps l hfl D x0 z1.2 z3 ez3) (cwV 0 hts (gdV kw1701 kw1703 kw74 kw85 kw1704) rfl rfl rfl (by decide +kernel) ⟨Nat.le_of_ble_eq_true rfl, Nat.le_of_ble_eq_true rfl⟩) (v_preV (ci := 11) hSS hR hS g8 (by decide) rfl []) rfl rfl hl.1 rfl (lv_room (Nat.le_of_ble_eq_true rfl)) dX10_close_11 ⟨Nat.zero_le _, Nat.zero_le _⟩) ?_
    refine w_aload_n hx hb dX10_close_14 rfl (lv_at hl 0 rfl) ?_
    refine w_iload_n hx hb dX10_close_15 rfl (lv_at hl 1 rfl) ?_
    refine w_iconst (v := 0) hx hb dX10_close_16 (by decide) ?_
    refine w_iconst (v := 0) hx hb dX10_close_17 (by decide) ?_
    obtain ⟨g8, h⟩ := v_ifs h
    obtain ⟨z4, ez4, h⟩ := v_bnd h
    refine v_call0 (M1 := z4.2) (mc := 0) (ms := 0) (fun H locs hR hS => va_runV (As := [.int x1, .int 0, .int 0]) (rest := []) ⟨hx, hb, hml, hown, hts⟩ (mX10_setsCursor l hfl D x0 x1 0 0 z3.2 z4 ez4) (cwV 3 hts (gdV kw1555 kw1557 kw58 kw85 kw1558) rfl rfl rfl (by decide +kernel) ⟨Nat.le_of_ble_eq_true rfl, Nat.le_of_ble_eq_true rfl⟩) (v_preV (ci := 11) hSS hR hS g8 (by decide) rfl [.int x1, .int 0, .int 0]) rfl rfl hl.1 rfl (lv_room (Nat.le_of_ble_eq_true rfl)) dX10_close_18 ⟨Nat.zero_le _, Nat.zero_le _⟩) ?_
    refine w_aload_n hx hb dX10_close_21 rfl (lv_at hl 0 rfl) ?_
    refine w_iload_n hx hb dX10_close_22 rfl (lv_at hl 1 rfl) ?_
    refine w_bipush (v := 6) hx hb dX10_close_23 (by decide) ?_
    obtain ⟨g8, h⟩ := v_ifs h
    obtain ⟨z5, ez5, h⟩ := v_bnd h
    refine v_call1 (v := .int z5) (M1 := z4.2) (mc := 0) (ms := 0) (fun H locs hR hS => va_runV (As := [.int x1, .int 6]) (rest := []) ⟨hx, hb, hml, hown, hts⟩ (mX10_ofCursor l hfl D x0 x1 6 z4.2 z5 ez5) (cwV 2 hts (gdV kw1547 kw1549 kw56 kw85 kw1550) rfl rfl rfl (by decide +kernel) ⟨Nat.le_of_ble_eq_true rfl, Nat.le_of_ble_eq_true rfl⟩) (v_preV (ci := 11) hSS hR hS g8 (by decide) rfl [.int x1, .int 6]) rfl rfl hl.1 rfl (lv_room (Nat.le_of_ble_eq_true rfl)) dX10_close_25 ⟨Nat.zero_le _, Nat.zero_le _⟩) ?_
    obtain rfl := Option.some.inj h
    rw [hQ]
    exact v_iret hx hb hr hlk dX10_close_28
  · rw [if_neg c2] at h
    refine w_iconst (v := 0) hx hb dX10_close_8 (by decide) ?_
    obtain rfl := Option.some.inj h
    rw [hQ]
    exact v_iret hx hb hr hlk dX10_close_9

def tX10_step_L21 (x0 : Nat) (x1 : Int32) (x2 : Int32) : Nat → vMe → Option ((Int32 ⊕ Unit) × vMe)
  | 0, _ => none
  | f + 1, Mi =>
  if (Mi.1 x0).1 = 12 then
  ((tX10_ofCursor x0 x1 3 Mi).bind fun z22 =>
  if z22 = (1 : Int32) then
  (if (Mi.1 x0).1 = 12 then
  ((tX10_ofCursor x0 x1 2 Mi).bind fun z24 =>
  if (Mi.1 x0).1 = 12 then
  ((tX10_of x0 x2 0 Mi).bind fun z25 =>
  if z25 ≤ z24 then
  (some (Sum.inr (()), Mi))
else
  (if (Mi.1 x0).1 = 12 then
  ((tX10_ofCursor x0 x1 2 Mi).bind fun z27 =>
  if (Mi.1 x0).1 = 12 then
  ((tX10_of x0 x2 (6 + z27) Mi).bind fun z28 =>
  if (Mi.1 x0).1 = 12 then
  ((tX10_ofCursor x0 x1 2 Mi).bind fun z29 =>
  if (Mi.1 x0).1 = 12 then
  ((tX10_setsCursor x0 x1 2 (z29 + 1) Mi).bind fun z30 =>
  (gA z30.2 x0 12 1).bind fun a31 =>
  (aI z30.2 a31 101 5).bind fun v32 =>
  (sA z30.2 a31 101 5 (.int (v32 + 1))).bind fun M33 =>
  if (M33.1 x0).1 = 12 then
  ((tX10_meets x0 x1 z28 M33).bind fun z34 =>
  if z34 = 0 then
  (tX10_step_L21 x0 x1 x2 f M33)
else
  (if (M33.1 x0).1 = 12 then
  ((tX10_ofCursor x0 x1 6 M33).bind fun z36 =>
  if (M33.1 x0).1 = 12 then
  ((tX10_setsCursor x0 x1 6 (z36 + 1) M33).bind fun z37 =>
  if (z37.2.1 x0).1 = 12 then
  ((tX10_setsCursor x0 x1 7 (z28 + 1) z37.2).bind fun z38 =>
  some (Sum.inl z28, z38.2))
else none)
else none)
else none))
else none)
else none)
else none)
else none)
else none))
else none)
else none)
else
  (some (Sum.inr (()), Mi)))
else none
def tX10_step_J125 (x0 : Nat) (x1 : Int32) (Mj : vMe) : Option (Int32 × vMe) :=
  if (Mj.1 x0).1 = 12 then
  ((tX10_setsCursor x0 x1 3 0 Mj).bind fun z41 =>
  some ((-1), z41.2))
else none
def tX10_step (x0 : Nat) (x1 : Int32) (M : vMe) : Option (Int32 × vMe) :=
  if (M.1 x0).1 = 12 then
  ((tX10_noCursor x0 x1 M).bind fun z1 =>
  if z1.1 = 0 then
  (if (z1.2.1 x0).1 = 12 then
  ((tX10_keeps x0 z1.2).bind fun z3 =>
  if (z3.2.1 x0).1 = 12 then
  ((tX10_ofCursor x0 x1 1 z3.2).bind fun z4 =>
  (tX10_step_L21 x0 x1 z4 vF z3.2).bind fun z39 =>
  Sum.elim (fun r42 => some (r42, z39.2)) (fun w40 =>
  tX10_step_J125 x0 x1 z39.2) z39.1)
else none)
else none)
else
  (some (0, z1.2)))
else none
def rmX10_step : Room := { frames := 3, cells := 0, slots := 0, locals := 45 }
set_option maxHeartbeats 4000000 in
set_option maxRecDepth 100000 in
theorem mX10_step (l : Launch) (hfl : l.stackTraces = false) (D : vD) (x0 : Nat) (x1 : Int32) (M : vMe) (z : (Int32 × vMe)) (h : tX10_step x0 x1 M = some z) : Met l yX10_step (Cond.code yX10_step cX10_step 4 (some .int) :: TB) rmX10_step (va_Pc [.ref x0, .int x1] (vPre D M)) (qW D (some (.int z.1)) z.2) 0 0 (vA D) := by
  refine v_ofW (cc := cX10_step) (maxL := 4) (ret := (some .int)) (by decide) (Nat.le_of_ble_eq_true rfl) ?_
  intro p e s m args below meth c Q hx hb hr hml hown hts hlk hnm hSS hR0 hQ ls hl
  have hK := hSS.1
  have hl : lv_has ls 4 [(0, .ref x0), (1, .int x1)] := hl
  unfold tX10_step at h
  have X10_step_L21p : ∀ (x0 : Nat) (x1 : Int32) (x2 : Int32), ∀ (f : Nat) (Mi : vMe) (ls : Array Slot) (z : ((Int32 ⊕ Unit) × vMe)), lv_has ls 4 [(0, .ref x0), (1, .int x1), (2, .int x2)] → tX10_step_L21 x0 x1 x2 f Mi = some z → (∀ w, z.1 = Sum.inr w → ∀ ls : Array Slot, lv_has ls 4 [(0, .ref x0), (1, .int x1)] → vV D p l e rmX10_step s m args below meth c 0 0 Q z.2 (F0 m 125 ls [])) → (∀ r9, z.1 = Sum.inl r9 → Q = MQ below (qW D (some (.int r9)) z.2) args s 0 0 (vA D)) → vV D p l e rmX10_step s m args below meth c 0 0 Q Mi (F0 m 21 ls []) := by
    intro x0 x1 x2 f
    induction f with
    | zero =>
      intro  Mi ls z hl h
      exact absurd h (by simp [tX10_step_L21])
    | succ f ih =>
      intro  Mi ls z hl h KX KR
      rw [tX10_step_L21] at h
      refine w_aload_n hx hb dX10_step_21 rfl (lv_at hl 0 rfl) ?_
      refine w_iload_n hx hb dX10_step_22 rfl (lv_at hl 1 rfl) ?_
      refine w_iconst (v := 3) hx hb dX10_step_23 (by decide) ?_
      obtain ⟨g8, h⟩ := v_ifs h
      obtain ⟨z22, ez22, h⟩ := v_bnd h
      refine v_call1 (v := .int z22) (M1 := Mi) (mc := 0) (ms := 0) (fun H locs hR hS => va_runV (As := [.int x1, .int 3]) (rest := []) ⟨hx, hb, hml, hown, hts⟩ (mX10_ofCursor l hfl D x0 x1 3 Mi z22 ez22) (cwV 2 hts (gdV kw1547 kw1549 kw56 kw85 kw1550) rfl rfl rfl (by decide +kernel) ⟨Nat.le_of_ble_eq_true rfl, Nat.le_of_ble_eq_true rfl⟩) (v_preV (ci := 11) hSS hR hS g8 (by decide) rfl [.int x1, .int 3]) rfl rfl hl.1 rfl (lv_room (Nat.le_of_ble_eq_true rfl)) dX10_step_24 ⟨Nat.zero_le _, Nat.zero_le _⟩) ?_
      refine w_iconst (v := 1) hx hb dX10_step_27 (by decide) ?_
      refine w_icmp_ne (tgt := 125) hx hb dX10_step_28 (by decide) (fun c23 => ?_) (fun c23 => ?_)
      · rw [if_pos c23] at h
        refine w_aload_n hx hb dX10_step_31 rfl (lv_at hl 0 rfl) ?_
        refine w_iload_n hx hb dX10_step_32 rfl (lv_at hl 1 rfl) ?_
        refine w_iconst (v := 2) hx hb dX10_step_33 (by decide) ?_
        obtain ⟨g8, h⟩ := v_ifs h
        obtain ⟨z24, ez24, h⟩ := v_bnd h
        refine v_call1 (v := .int z24) (M1 := Mi) (mc := 0) (ms := 0) (fun H locs hR hS => va_runV (As := [.int x1, .int 2]) (rest := []) ⟨hx, hb, hml, hown, hts⟩ (mX10_ofCursor l hfl D x0 x1 2 Mi z24 ez24) (cwV 2 hts (gdV kw1547 kw1549 kw56 kw85 kw1550) rfl rfl rfl (by decide +kernel) ⟨Nat.le_of_ble_eq_true rfl, Nat.le_of_ble_eq_true rfl⟩) (v_preV (ci := 11) hSS hR hS g8 (by decide) rfl [.int x1, .int 2]) rfl rfl hl.1 rfl (lv_room (Nat.le_of_ble_eq_true rfl)) dX10_step_34 ⟨Nat.zero_le _, Nat.zero_le _⟩) ?_
        refine w_aload_n hx hb dX10_step_37 rfl (lv_at hl 0 rfl) ?_
        refine w_iload_n hx hb dX10_step_38 rfl (lv_at hl 2 rfl) ?_
        refine w_iconst (v := 0) hx hb dX10_step_39 (by decide) ?_
        obtain ⟨g8, h⟩ := v_ifs h
        obtain ⟨z25, ez25, h⟩ := v_bnd h
        refine v_call1 (v := .int z25) (M1 := Mi) (mc := 0) (ms := 0) (fun H locs hR hS => va_runV (As := [.int x2, .int 0]) (rest := [.int z24]) ⟨hx, hb, hml, hown, hts⟩ (mX10_of l hfl D x0 x2 0 Mi z25 ez25) (cwV 2 hts (gdV kw1497 kw1499 kw44 kw85 kw1500) rfl rfl rfl (by decide +kernel) ⟨Nat.le_of_ble_eq_true rfl, Nat.le_of_ble_eq_true rfl⟩) (v_preV (ci := 11) hSS hR hS g8 (by decide) rfl [.int x2, .int 0]) rfl rfl hl.1 rfl (lv_room (Nat.le_of_ble_eq_true rfl)) dX10_step_40 ⟨Nat.zero_le _, Nat.zero_le _⟩) ?_
        refine w_icmp_ge (tgt := 125) hx hb dX10_step_43 (by decide) (fun c26 => ?_) (fun c26 => ?_)
        · rw [if_pos c26] at h
          obtain rfl := Option.some.inj h
          exact KX _ rfl ls (lv_sub hl [0, 1] rfl)
        · rw [if_neg c26] at h
          refine w_aload_n hx hb dX10_step_46 rfl (lv_at hl 0 rfl) ?_
          refine w_iload_n hx hb dX10_step_47 rfl (lv_at hl 2 rfl) ?_
          refine w_bipush (v := 6) hx hb dX10_step_48 (by decide) ?_
          refine w_aload_n hx hb dX10_step_50 rfl (lv_at hl 0 rfl) ?_
          refine w_iload_n hx hb dX10_step_51 rfl (lv_at hl 1 rfl) ?_
          refine w_iconst (v := 2) hx hb dX10_step_52 (by decide) ?_
          obtain ⟨g8, h⟩ := v_ifs h
          obtain ⟨z27, ez27, h⟩ := v_bnd h
          refine v_call1 (v := .int z27) (M1 := Mi) (mc := 0) (ms := 0) (fun H locs hR hS => va_runV (As := [.int x1, .int 2]) (rest := [.int 6, .int x2, .ref x0]) ⟨hx, hb, hml, hown, hts⟩ (mX10_ofCursor l hfl D x0 x1 2 Mi z27 ez27) (cwV 2 hts (gdV kw1547 kw1549 kw56 kw85 kw1550) rfl rfl rfl (by decide +kernel) ⟨Nat.le_of_ble_eq_true rfl, Nat.le_of_ble_eq_true rfl⟩) (v_preV (ci := 11) hSS hR hS g8 (by decide) rfl [.int x1, .int 2]) rfl rfl hl.1 rfl (lv_room (Nat.le_of_ble_eq_true rfl)) dX10_step_53 ⟨Nat.zero_le _, Nat.zero_le _⟩) ?_
          refine w_iadd hx hb dX10_step_56 ?_
          obtain ⟨g8, h⟩ := v_ifs h
          obtain ⟨z28, ez28, h⟩ := v_bnd h
          refine v_call1 (v := .int z28) (M1 := Mi) (mc := 0) (ms := 0) (fun H locs hR hS => va_runV (As := [.int x2, .int (6 + z27)]) (rest := []) ⟨hx, hb, hml, hown, hts⟩ (mX10_of l hfl D x0 x2 (6 + z27) Mi z28 ez28) (cwV 2 hts (gdV kw1497 kw1499 kw44 kw85 kw1500) rfl rfl rfl (by decide +kernel) ⟨Nat.le_of_ble_eq_true rfl, Nat.le_of_ble_eq_true rfl⟩) (v_preV (ci := 11) hSS hR hS g8 (by decide) rfl [.int x2, .int (6 + z27)]) rfl rfl hl.1 rfl (lv_room (Nat.le_of_ble_eq_true rfl)) dX10_step_57 ⟨Nat.zero_le _, Nat.zero_le _⟩) ?_
          refine w_istore_n (lv' := [(3, .int z28), (0, .ref x0), (1, .int x1), (2, .int x2)]) hx hb dX10_step_60 rfl hl (by decide) rfl (fun ls hl => ?_)
          have hl : lv_has ls 4 [(0, .ref x0), (1, .int x1), (2, .int x2), (3, .int z28)] := lv_sub hl [1, 2, 3, 0] rfl
          refine w_aload_n hx hb dX10_step_61 rfl (lv_at hl 0 rfl) ?_
          refine w_iload_n hx hb dX10_step_62 rfl (lv_at hl 1 rfl) ?_
          refine w_iconst (v := 2) hx hb dX10_step_63 (by decide) ?_
          refine w_aload_n hx hb dX10_step_64 rfl (lv_at hl 0 rfl) ?_
          refine w_iload_n hx hb dX10_step_65 rfl (lv_at hl 1 rfl) ?_
          refine w_iconst (v := 2) hx hb dX10_step_66 (by decide) ?_
          obtain ⟨g8, h⟩ := v_ifs h
          obtain ⟨z29, ez29, h⟩ := v_bnd h
          refine v_call1 (v := .int z29) (M1 := Mi) (mc := 0) (ms := 0) (fun H locs hR hS => va_runV (As := [.int x1, .int 2]) (rest := [.int 2, .int x1, .ref x0]) ⟨hx, hb, hml, hown, hts⟩ (mX10_ofCursor l hfl D x0 x1 2 Mi z29 ez29) (cwV 2 hts (gdV kw1547 kw1549 kw56 kw85 kw1550) rfl rfl rfl (by decide +kernel) ⟨Nat.le_of_ble_eq_true rfl, Nat.le_of_ble_eq_true rfl⟩) (v_preV (ci := 11) hSS hR hS g8 (by decide) rfl [.int x1, .int 2]) rfl rfl hl.1 rfl (lv_room (Nat.le_of_ble_eq_true rfl)) dX10_step_67 ⟨Nat.zero_le _, Nat.zero_le _⟩) ?_
          refine w_iconst (v := 1) hx hb dX10_step_70 (by decide) ?_
          refine w_iadd hx hb dX10_step_71 ?_
          obtain ⟨g8, h⟩ := v_ifs h
          obtain ⟨z30, ez30, h⟩ := v_bnd h
          refine v_call0 (M1 := z30.2) (mc := 0) (ms := 0) (fun H locs hR hS => va_runV (As := [.int x1, .int 2, .int (z29 + 1)]) (rest := []) ⟨hx, hb, hml, hown, hts⟩ (mX10_setsCursor l hfl D x0 x1 2 (z29 + 1) Mi z30 ez30) (cwV 3 hts (gdV kw1555 kw1557 kw58 kw85 kw1558) rfl rfl rfl (by decide +kernel) ⟨Nat.le_of_ble_eq_true rfl, Nat.le_of_ble_eq_true rfl⟩) (v_preV (ci := 11) hSS hR hS g8 (by decide) rfl [.int x1, .int 2, .int (z29 + 1)]) rfl rfl hl.1 rfl (lv_room (Nat.le_of_ble_eq_true rfl)) dX10_step_72 ⟨Nat.zero_le _, Nat.zero_le _⟩) ?_
          refine w_aload_n hx hb dX10_step_75 rfl (lv_at hl 0 rfl) ?_
          obtain ⟨a31, ea31, h⟩ := v_bnd h
          refine v_gA (ci := 11) hx hb hts iwX10 hown hK 1 ea31 rfl (by decide) (Or.inl (hts _ kw1336)) (fun _ h9 => h9) dX10_step_76 ?_
          refine w_iconst (v := 5) hx hb dX10_step_79 (by decide) ?_
          refine w_dup2_11 hx hb dX10_step_80 rfl rfl ?_
          obtain ⟨v32, ev32, h⟩ := v_bnd h
          refine v_iald hx hb hK ev32 dX10_step_81 ?_
          refine w_iconst (v := 1) hx hb dX10_step_82 (by decide) ?_
          refine w_iadd hx hb dX10_step_83 ?_
          obtain ⟨M33, eM33, h⟩ := v_bnd h
          refine v_iast hx hb hK eM33 dX10_step_84 ?_
          refine w_aload_n hx hb dX10_step_85 rfl (lv_at hl 0 rfl) ?_
          refine w_iload_n hx hb dX10_step_86 rfl (lv_at hl 1 rfl) ?_
          refine w_iload_n hx hb dX10_step_87 rfl (lv_at hl 3 rfl) ?_
          obtain ⟨g8, h⟩ := v_ifs h
          obtain ⟨z34, ez34, h⟩ := v_bnd h
          refine v_call1 (v := .int z34) (M1 := M33) (mc := 0) (ms := 0) (fun H locs hR hS => va_runV (As := [.int x1, .int z28]) (rest := []) ⟨hx, hb, hml, hown, hts⟩ (mX10_meets l hfl D x0 x1 z28 M33 z34 ez34) (cwV 2 hts (gdV kw1673 kw1675 kw71 kw85 kw1676) rfl rfl rfl (by decide +kernel) ⟨Nat.le_of_ble_eq_true rfl, Nat.le_of_ble_eq_true rfl⟩) (v_preV (ci := 11) hSS hR hS g8 (by decide) rfl [.int x1, .int z28]) rfl rfl hl.1 rfl (lv_room (Nat.le_of_ble_eq_true rfl)) dX10_step_88 ⟨Nat.zero_le _, Nat.zero_le _⟩) ?_
          refine w_if_eq (tgt := 122) hx hb dX10_step_91 (by decide) (fun c35 => ?_) (fun c35 => ?_)
          · rw [if_pos c35] at h
            refine w_goto (tgt := 21) hx hb dX10_step_122 (by decide) ?_
            exact ih M33 ls z (lv_sub hl [0, 1, 2] rfl) h KX KR
          · rw [if_neg c35] at h
            refine w_aload_n hx hb dX10_step_94 rfl (lv_at hl 0 rfl) ?_
            refine w_iload_n hx hb dX10_step_95 rfl (lv_at hl 1 rfl) ?_
            refine w_bipush (v := 6) hx hb dX10_step_96 (by decide) ?_
            refine w_aload_n hx hb dX10_step_98 rfl (lv_at hl 0 rfl) ?_
            refine w_iload_n hx hb dX10_step_99 rfl (lv_at hl 1 rfl) ?_
            refine w_bipush (v := 6) hx hb dX10_step_100 (by decide) ?_
            obtain ⟨g8, h⟩ := v_ifs h
            obtain ⟨z36, ez36, h⟩ := v_bnd h
            refine v_call1 (v := .int z36) (M1 := M33) (mc := 0) (ms := 0) (fun H locs hR hS => va_runV (As := [.int x1, .int 6]) (rest := [.int 6, .int x1, .ref x0]) ⟨hx, hb, hml, hown, hts⟩ (mX10_ofCursor l hfl D x0 x1 6 M33 z36 ez36) (cwV 2 hts (gdV kw1547 kw1549 kw56 kw85 kw1550) rfl rfl rfl (by decide +kernel) ⟨Nat.le_of_ble_eq_true rfl, Nat.le_of_ble_eq_true rfl⟩) (v_preV (ci := 11) hSS hR hS g8 (by decide) rfl [.int x1, .int 6]) rfl rfl hl.1 rfl (lv_room (Nat.le_of_ble_eq_true rfl)) dX10_step_102 ⟨Nat.zero_le _, Nat.zero_le _⟩) ?_
            refine w_iconst (v := 1) hx hb dX10_step_105 (by decide) ?_
            refine w_iadd hx hb dX10_step_106 ?_
            obtain ⟨g8, h⟩ := v_ifs h
            obtain ⟨z37, ez37, h⟩ := v_bnd h
            refine v_call0 (M1 := z37.2) (mc := 0) (ms := 0) (fun H locs hR hS => va_runV (As := [.int x1, .int 6, .int (z36 + 1)]) (rest := []) ⟨hx, hb, hml, hown, hts⟩ (mX10_setsCursor l hfl D x0 x1 6 (z36 + 1) M33 z37 ez37) (cwV 3 hts (gdV kw1555 kw1557 kw58 kw85 kw1558) rfl rfl rfl (by decide +kernel) ⟨Nat.le_of_ble_eq_true rfl, Nat.le_of_ble_eq_true rfl⟩) (v_preV (ci := 11) hSS hR hS g8 (by decide) rfl [.int x1, .int 6, .int (z36 + 1)]) rfl rfl hl.1 rfl (lv_room (Nat.le_of_ble_eq_true rfl)) dX10_step_107 ⟨Nat.zero_le _, Nat.zero_le _⟩) ?_
            refine w_aload_n hx hb dX10_step_110 rfl (lv_at hl 0 rfl) ?_
            refine w_iload_n hx hb dX10_step_111 rfl (lv_at hl 1 rfl) ?_
            refine w_bipush (v := 7) hx hb dX10_step_112 (by decide) ?_
            refine w_iload_n hx hb dX10_step_114 rfl (lv_at hl 3 rfl) ?_
            refine w_iconst (v := 1) hx hb dX10_step_115 (by decide) ?_
            refine w_iadd hx hb dX10_step_116 ?_
            obtain ⟨g8, h⟩ := v_ifs h
            obtain ⟨z38, ez38, h⟩ := v_bnd h
            refine v_call0 (M1 := z38.2) (mc := 0) (ms := 0) (fun H locs hR hS => va_runV (As := [.int x1, .int 7, .int (z28 + 1)]) (rest := []) ⟨hx, hb, hml, hown, hts⟩ (mX10_setsCursor l hfl D x0 x1 7 (z28 + 1) z37.2 z38 ez38) (cwV 3 hts (gdV kw1555 kw1557 kw58 kw85 kw1558) rfl rfl rfl (by decide +kernel) ⟨Nat.le_of_ble_eq_true rfl, Nat.le_of_ble_eq_true rfl⟩) (v_preV (ci := 11) hSS hR hS g8 (by decide) rfl [.int x1, .int 7, .int (z28 + 1)]) rfl rfl hl.1 rfl (lv_room (Nat.le_of_ble_eq_true rfl)) dX10_step_117 ⟨Nat.zero_le _, Nat.zero_le _⟩) ?_
            refine w_iload_n hx hb dX10_step_120 rfl (lv_at hl 3 rfl) ?_
            obtain rfl := Option.some.inj h
            rw [KR _ rfl]
            exact v_iret hx hb hr hlk dX10_step_121
      · rw [if_neg c23] at h
        obtain rfl := Option.some.inj h
        exact KX _ rfl ls (lv_sub hl [0, 1] rfl)
  have X10_step_J125p : ∀ (x0 : Nat) (x1 : Int32) (Mj : vMe) (ls : Array Slot), lv_has ls 4 [(0, .ref x0), (1, .int x1)] → tX10_step_J125 x0 x1 Mj = some z → vV D p l e rmX10_step s m args below meth c 0 0 Q Mj (F0 m 125 ls []) := by
    intro x0 x1 Mj ls hl h
    unfold tX10_step_J125 at h
    refine w_aload_n hx hb dX10_step_125 rfl (lv_at hl 0 rfl) ?_
    refine w_iload_n hx hb dX10_step_126 rfl (lv_at hl 1 rfl) ?_
    refine w_iconst (v := 3) hx hb dX10_step_127 (by decide) ?_
    refine w_iconst (v := 0) hx hb dX10_step_128 (by decide) ?_
    obtain ⟨g8, h⟩ := v_ifs h
    obtain ⟨z41, ez41, h⟩ := v_bnd h
    refine v_call0 (M1 := z41.2) (mc := 0) (ms := 0) (fun H locs hR hS => va_runV (As := [.int x1, .int 3, .int 0]) (rest := []) ⟨hx, hb, hml, hown, hts⟩ (mX10_setsCursor l hfl D x0 x1 3 0 Mj z41 ez41) (cwV 3 hts (gdV kw1555 kw1557 kw58 kw85 kw1558) rfl rfl rfl (by decide +kernel) ⟨Nat.le_of_ble_eq_true rfl, Nat.le_of_ble_eq_true rfl⟩) (v_preV (ci := 11) hSS hR hS g8 (by decide) rfl [.int x1, .int 3, .int 0]) rfl rfl hl.1 rfl (lv_room (Nat.le_of_ble_eq_true rfl)) dX10_step_129 ⟨Nat.zero_le _, Nat.zero_le _⟩) ?_
    refine w_iconst (v := (-1)) hx hb dX10_step_132 (by decide) ?_
    obtain rfl := Option.some.inj h
    rw [hQ]
    exact v_iret hx hb hr hlk dX10_step_133
  refine w_aload_n hx hb dX10_step_0 rfl (lv_at hl 0 rfl) ?_
  refine w_iload_n hx hb dX10_step_1 rfl (lv_at hl 1 rfl) ?_
  obtain ⟨g8, h⟩ := v_ifs h
  obtain ⟨z1, ez1, h⟩ := v_bnd h
  refine v_call1 (v := .int z1.1) (M1 := z1.2) (mc := 0) (ms := 0) (fun H locs hR hS => va_runV (As := [.int x1]) (rest := []) ⟨hx, hb, hml, hown, hts⟩ (mX10_noCursor l hfl D x0 x1 M z1 ez1) (cwV 1 hts (gdV kw1665 kw1667 kw70 kw85 kw1668) rfl rfl rfl (by decide +kernel) ⟨Nat.le_of_ble_eq_true rfl, Nat.le_of_ble_eq_true rfl⟩) (v_preV (ci := 11) hSS hR hS g8 (by decide) rfl [.int x1]) rfl rfl hl.1 rfl (lv_room (Nat.le_of_ble_eq_true rfl)) dX10_step_2 ⟨Nat.zero_le _, Nat.zero_le _⟩) ?_
  refine w_if_eq (tgt := 10) hx hb dX10_step_5 (by decide) (fun c2 => ?_) (fun c2 => ?_)
  · rw [if_pos c2] at h
    refine w_aload_n hx hb dX10_step_10 rfl (lv_at hl 0 rfl) ?_
    obtain ⟨g8, h⟩ := v_ifs h
    obtain ⟨z3, ez3, h⟩ := v_bnd h
    refine v_call0 (M1 := z3.2) (mc := 0) (ms := 0) (fun H locs hR hS => va_runV (As := []) (rest := []) ⟨hx, hb, hml, hown, hts⟩ (mX10_keeps l hfl D x0 z1.2 z3 ez3) (cwV 0 hts (gdV kw1701 kw1703 kw74 kw85 kw1704) rfl rfl rfl (by decide +kernel) ⟨Nat.le_of_ble_eq_true rfl, Nat.le_of_ble_eq_true rfl⟩) (v_preV (ci := 11) hSS hR hS g8 (by decide) rfl []) rfl rfl hl.1 rfl (lv_room (Nat.le_of_ble_eq_true rfl)) dX10_step_11 ⟨Nat.zero_le _, Nat.zero_le _⟩) ?_
    refine w_aload_n hx hb dX10_step_14 rfl (lv_at hl 0 rfl) ?_
    refine w_iload_n hx hb dX10_step_15 rfl (lv_at hl 1 rfl) ?_
    refine w_iconst (v := 1) hx hb dX10_step_16 (by decide) ?_
    obtain ⟨g8, h⟩ := v_ifs h
    obtain ⟨z4, ez4, h⟩ := v_bnd h
    refine v_call1 (v := .int z4) (M1 := z3.2) (mc := 0) (ms := 0) (fun H locs hR hS => va_runV (As := [.int x1, .int 1]) (rest := []) ⟨hx, hb, hml, hown, hts⟩ (mX10_ofCursor l hfl D x0 x1 1 z3.2 z4 ez4) (cwV 2 hts (gdV kw1547 kw1549 kw56 kw85 kw1550) rfl rfl rfl (by decide +kernel) ⟨Nat.le_of_ble_eq_true rfl, Nat.le_of_ble_eq_true rfl⟩) (v_preV (ci := 11) hSS hR hS g8 (by decide) rfl [.int x1, .int 1]) rfl rfl hl.1 rfl (lv_room (Nat.le_of_ble_eq_true rfl)) dX10_step_17 ⟨Nat.zero_le _, Nat.zero_le _⟩) ?_
    refine w_istore_n (lv' := [(2, .int z4), (0, .ref x0), (1, .int x1)]) hx hb dX10_step_20 rfl hl (by decide) rfl (fun ls hl => ?_)
    have hl : lv_has ls 4 [(0, .ref x0), (1, .int x1), (2, .int z4)] := lv_sub hl [1, 2, 0] rfl
    obtain ⟨z39, ez39, h⟩ := v_bnd h
    refine X10_step_L21p x0 x1 z4 vF  z3.2 ls z39 (lv_sub hl [0, 1, 2] rfl) ez39 (fun w40 qw40 ls hl => ?_) (fun r42 qr42 => ?_)
    · replace h := v_inr qw40 h
      exact X10_step_J125p x0 x1 z39.2 ls (lv_sub hl [0, 1] rfl) h
    · replace h := v_inl qr42 h
      obtain rfl := Option.some.inj h
      exact hQ
  · rw [if_neg c2] at h
    refine w_iconst (v := 0) hx hb dX10_step_8 (by decide) ?_
    obtain rfl := Option.some.inj h
    rw [hQ]
    exact v_iret hx hb hr hlk dX10_step_9

def tX10_removeMet_J69 (x0 : Nat) (x2 : Int32) (x3 : Int32) (y0 : Nat) (y1 : Int32) (Mj : vMe) : Option (Int32 × vMe) :=
  if (Mj.1 y0).1 = 12 then
  ((tX10_throwsIf y0 y1 2 Mj).bind fun z10 =>
  if z10.1 = 0 then
  (if (z10.2.1 x0).1 = 12 then
  ((tX10_keeps x0 z10.2).bind fun z12 =>
  if (z12.2.1 x0).1 = 12 then
  ((tX10_goes x0 x2 x3 z12.2).bind fun z13 =>
  some (x3, z13.2))
else none)
else none)
else
  (some (0, z10.2)))
else none
def tX10_removeMet_J47 (x0 : Nat) (x2 : Int32) (x3 : Int32) (y0 : Nat) (y1 : Int32) (Mj : vMe) : Option (Int32 × vMe) :=
  if (Mj.1 y0).1 = 12 then
  ((tX10_throwsIf y0 y1 2 Mj).bind fun z6 =>
  if z6.1 = 0 then
  (if (z6.2.1 x0).1 = 12 then
  ((tX10_isMember x0 x2 x3 z6.2).bind fun z8 =>
  if z8 = 0 then
  (tX10_removeMet_J69 x0 x2 x3 x0 1 z6.2)
else
  (tX10_removeMet_J69 x0 x2 x3 x0 0 z6.2))
else none)
else
  (some (0, z6.2)))
else none
def tX10_removeMet_J42 (x0 : Nat) (x2 : Int32) (x3 : Int32) (y0 : Nat) (Mj : vMe) : Option (Int32 × vMe) :=
  tX10_removeMet_J47 x0 x2 x3 y0 1 Mj
def tX10_removeMet (x0 : Nat) (x1 : Int32) (M : vMe) : Option (Int32 × vMe) :=
  if (M.1 x0).1 = 12 then
  ((tX10_noCursor x0 x1 M).bind fun z1 =>
  if z1.1 = 0 then
  (if (z1.2.1 x0).1 = 12 then
  ((tX10_ofCursor x0 x1 1 z1.2).bind fun z3 =>
  if (z1.2.1 x0).1 = 12 then
  ((tX10_ofCursor x0 x1 7 z1.2).bind fun z4 =>
  if (z4 - 1) = ((-1) : Int32) then
  (tX10_removeMet_J42 x0 z3 (z4 - 1) x0 z1.2)
else
  (if (z1.2.1 x0).1 = 12 then
  ((tX10_ofCursor x0 x1 3 z1.2).bind fun z14 =>
  if z14 = 0 then
  (tX10_removeMet_J42 x0 z3 (z4 - 1) x0 z1.2)
else
  (tX10_removeMet_J47 x0 z3 (z4 - 1) x0 0 z1.2))
else none))
else none)
else none)
else
  (some (0, z1.2)))
else none
def rmX10_removeMet : Room := { frames := 7, cells := 0, slots := 0, locals := 147 }
set_option maxHeartbeats 4000000 in
set_option maxRecDepth 100000 in
theorem mX10_removeMet (l : Launch) (hfl : l.stackTraces = false) (D : vD) (x0 : Nat) (x1 : Int32) (M : vMe) (z : (Int32 × vMe)) (h : tX10_removeMet x0 x1 M = some z) : Met l yX10_removeMet (Cond.code yX10_removeMet cX10_removeMet 4 (some .int) :: TB) rmX10_removeMet (va_Pc [.ref x0, .int x1] (vPre D M)) (qW D (some (.int z.1)) z.2) 0 0 (vA D) := by
  refine v_ofW (cc := cX10_removeMet) (maxL := 4) (ret := (some .int)) (by decide) (Nat.le_of_ble_eq_true rfl) ?_
  intro p e s m args below meth c Q hx hb hr hml hown hts hlk hnm hSS hR0 hQ ls hl
  have hK := hSS.1
  have hl : lv_has ls 4 [(0, .ref x0), (1, .int x1)] := hl
  unfold tX10_removeMet at h
  have X10_removeMet_J69p : ∀ (x0 : Nat) (x2 : Int32) (x3 : Int32) (y0 : Nat) (y1 : Int32) (Mj : vMe) (ls : Array Slot), lv_has ls 4 [(0, .ref x0), (2, .int x2), (3, .int x3)] → tX10_removeMet_J69 x0 x2 x3 y0 y1 Mj = some z → vV D p l e rmX10_removeMet s m args below meth c 0 0 Q Mj (F0 m 69 ls [.int y1, .ref y0]) := by
    intro x0 x2 x3 y0 y1 Mj ls hl h
    unfold tX10_removeMet_J69 at h
    refine w_iconst (v := 2) hx hb dX10_removeMet_69 (by decide) ?_
    obtain ⟨g8, h⟩ := v_ifs h
    obtain ⟨z10, ez10, h⟩ := v_bnd h
    refine v_call1 (v := .int z10.1) (M1 := z10.2) (mc := 0) (ms := 0) (fun H locs hR hS => va_runV (As := [.int y1, .int 2]) (rest := []) ⟨hx, hb, hml, hown, hts⟩ (mX10_throwsIf l hfl D y0 y1 2 Mj z10 ez10) (cwV 2 hts (gdV kw1422 kw1424 kw28 kw85 kw1425) rfl rfl rfl (by decide +kernel) ⟨Nat.le_of_ble_eq_true rfl, Nat.le_of_ble_eq_true rfl⟩) (v_preV (ci := 11) hSS hR hS g8 (by decide) rfl [.int y1, .int 2]) rfl rfl hl.1 rfl (lv_room (Nat.le_of_ble_eq_true rfl)) dX10_removeMet_70 ⟨Nat.zero_le _, Nat.zero_le _⟩) ?_
    refine w_if_eq (tgt := 78) hx hb dX10_removeMet_73 (by decide) (fun c11 => ?_) (fun c11 => ?_)
    · rw [if_pos c11] at h
      refine w_aload_n hx hb dX10_removeMet_78 rfl (lv_at hl 0 rfl) ?_
      obtain ⟨g8, h⟩ := v_ifs h
      obtain ⟨z12, ez12, h⟩ := v_bnd h
      refine v_call0 (M1 := z12.2) (mc := 0) (ms := 0) (fun H locs hR hS => va_runV (As := []) (rest := []) ⟨hx, hb, hml, hown, hts⟩ (mX10_keeps l hfl D x0 z10.2 z12 ez12) (cwV 0 hts (gdV kw1701 kw1703 kw74 kw85 kw1704) rfl rfl rfl (by decide +kernel) ⟨Nat.le_of_ble_eq_true rfl, Nat.le_of_ble_eq_true rfl⟩) (v_preV (ci := 11) hSS hR hS g8 (by decide) rfl []) rfl rfl hl.1 rfl (lv_room (Nat.le_of_ble_eq_true rfl)) dX10_removeMet_79 ⟨Nat.zero_le _, Nat.zero_le _⟩) ?_
      refine w_aload_n hx hb dX10_removeMet_82 rfl (lv_at hl 0 rfl) ?_
      refine w_iload_n hx hb dX10_removeMet_83 rfl (lv_at hl 1 rfl) ?_
      refine w_iload_n hx hb dX10_removeMet_84 rfl (lv_at hl 2 rfl) ?_
      obtain ⟨g8, h⟩ := v_ifs h
      obtain ⟨z13, ez13, h⟩ := v_bnd h
      refine v_call0 (M1 := z13.2) (mc := 0) (ms := 0) (fun H locs hR hS => va_runV (As := [.int x2, .int x3]) (rest := []) ⟨hx, hb, hml, hown, hts⟩ (mX10_goes l hfl D x0 x2 x3 z12.2 z13 ez13) (cwV 2 hts (gdV kw1535 kw1537 kw53 kw85 kw1538) rfl rfl rfl (by decide +kernel) ⟨Nat.le_of_ble_eq_true rfl, Nat.le_of_ble_eq_true rfl⟩) (v_preV (ci := 11) hSS hR hS g8 (by decide) rfl [.int x2, .int x3]) rfl rfl hl.1 rfl (lv_room (Nat.le_of_ble_eq_true rfl)) dX10_removeMet_85 ⟨Nat.zero_le _, Nat.zero_le _⟩) ?_
      refine w_iload_n hx hb dX10_removeMet_88 rfl (lv_at hl 2 rfl) ?_
      obtain rfl := Option.some.inj h
      rw [hQ]
      exact v_iret hx hb hr hlk dX10_removeMet_89
    · rw [if_neg c11] at h
      refine w_iconst (v := 0) hx hb dX10_removeMet_76 (by decide) ?_
      obtain rfl := Option.some.inj h
      rw [hQ]
      exact v_iret hx hb hr hlk dX10_removeMet_77
  have X10_removeMet_J47p : ∀ (x0 : Nat) (x2 : Int32) (x3 : Int32) (y0 : Nat) (y1 : Int32) (Mj : vMe) (ls : Array Slot), lv_has ls 4 [(0, .ref x0), (2, .int x2), (3, .int x3)] → tX10_removeMet_J47 x0 x2 x3 y0 y1 Mj = some z → vV D p l e rmX10_removeMet s m args below meth c 0 0 Q Mj (F0 m 47 ls [.int y1, .ref y0]) := by
    intro x0 x2 x3 y0 y1 Mj ls hl h
    unfold tX10_removeMet_J47 at h
    refine w_iconst (v := 2) hx hb dX10_removeMet_47 (by decide) ?_
    obtain ⟨g8, h⟩ := v_ifs h
    obtain ⟨z6, ez6, h⟩ := v_bnd h
    refine v_call1 (v := .int z6.1) (M1 := z6.2) (mc := 0) (ms := 0) (fun H locs hR hS => va_runV (As := [.int y1, .int 2]) (rest := []) ⟨hx, hb, hml, hown, hts⟩ (mX10_throwsIf l hfl D y0 y1 2 Mj z6 ez6) (cwV 2 hts (gdV kw1422 kw1424 kw28 kw85 kw1425) rfl rfl rfl (by decide +kernel) ⟨Nat.le_of_ble_eq_true rfl, Nat.le_of_ble_eq_true rfl⟩) (v_preV (ci := 11) hSS hR hS g8 (by decide) rfl [.int y1, .int 2]) rfl rfl hl.1 rfl (lv_room (Nat.le_of_ble_eq_true rfl)) dX10_removeMet_48 ⟨Nat.zero_le _, Nat.zero_le _⟩) ?_
    refine w_if_ne (tgt := 76) hx hb dX10_removeMet_51 (by decide) (fun c7 => ?_) (fun c7 => ?_)
    · rw [if_pos c7] at h
      refine w_aload_n hx hb dX10_removeMet_54 rfl (lv_at hl 0 rfl) ?_
      refine w_aload_n hx hb dX10_removeMet_55 rfl (lv_at hl 0 rfl) ?_
      refine w_iload_n hx hb dX10_removeMet_56 rfl (lv_at hl 1 rfl) ?_
      refine w_iload_n hx hb dX10_removeMet_57 rfl (lv_at hl 2 rfl) ?_
      obtain ⟨g8, h⟩ := v_ifs h
      obtain ⟨z8, ez8, h⟩ := v_bnd h
      refine v_call1 (v := .int z8) (M1 := z6.2) (mc := 0) (ms := 0) (fun H locs hR hS => va_runV (As := [.int x2, .int x3]) (rest := [.ref x0]) ⟨hx, hb, hml, hown, hts⟩ (mX10_isMember l hfl D x0 x2 x3 z6.2 z8 ez8) (cwV 2 hts (gdV kw1493 kw1495 kw43 kw85 kw1496) rfl rfl rfl (by decide +kernel) ⟨Nat.le_of_ble_eq_true rfl, Nat.le_of_ble_eq_true rfl⟩) (v_preV (ci := 11) hSS hR hS g8 (by decide) rfl [.int x2, .int x3]) rfl rfl hl.1 rfl (lv_room (Nat.le_of_ble_eq_true rfl)) dX10_removeMet_58 ⟨Nat.zero_le _, Nat.zero_le _⟩) ?_
      refine w_if_ne (tgt := 68) hx hb dX10_removeMet_61 (by decide) (fun c9 => ?_) (fun c9 => ?_)
      · rw [if_pos c9] at h
        refine w_iconst (v := 1) hx hb dX10_removeMet_64 (by decide) ?_
        refine w_goto (tgt := 69) hx hb dX10_removeMet_65 (by decide) ?_
        exact X10_removeMet_J69p x0 x2 x3 x0 1 z6.2 ls (lv_sub hl [0, 1, 2] rfl) h
      · rw [if_neg c9] at h
        refine w_iconst (v := 0) hx hb dX10_removeMet_68 (by decide) ?_
        exact X10_removeMet_J69p x0 x2 x3 x0 0 z6.2 ls (lv_sub hl [0, 1, 2] rfl) h
    · rw [if_neg c7] at h
      refine w_iconst (v := 0) hx hb dX10_removeMet_76 (by decide) ?_
      obtain rfl := Option.some.inj h
      rw [hQ]
      exact v_iret hx hb hr hlk dX10_removeMet_77
  have X10_removeMet_J42p : ∀ (x0 : Nat) (x2 : Int32) (x3 : Int32) (y0 : Nat) (Mj : vMe) (ls : Array Slot), lv_has ls 4 [(0, .ref x0), (2, .int x2), (3, .int x3)] → tX10_removeMet_J42 x0 x2 x3 y0 Mj = some z → vV D p l e rmX10_removeMet s m args below meth c 0 0 Q Mj (F0 m 42 ls [.ref y0]) := by
    intro x0 x2 x3 y0 Mj ls hl h
    unfold tX10_removeMet_J42 at h
    refine w_iconst (v := 1) hx hb dX10_removeMet_42 (by decide) ?_
    refine w_goto (tgt := 47) hx hb dX10_removeMet_43 (by decide) ?_
    exact X10_removeMet_J47p x0 x2 x3 y0 1 Mj ls (lv_sub hl [0, 1, 2] rfl) h
  refine w_aload_n hx hb dX10_removeMet_0 rfl (lv_at hl 0 rfl) ?_
  refine w_iload_n hx hb dX10_removeMet_1 rfl (lv_at hl 1 rfl) ?_
  obtain ⟨g8, h⟩ := v_ifs h
  obtain ⟨z1, ez1, h⟩ := v_bnd h
  refine v_call1 (v := .int z1.1) (M1 := z1.2) (mc := 0) (ms := 0) (fun H locs hR hS => va_runV (As := [.int x1]) (rest := []) ⟨hx, hb, hml, hown, hts⟩ (mX10_noCursor l hfl D x0 x1 M z1 ez1) (cwV 1 hts (gdV kw1665 kw1667 kw70 kw85 kw1668) rfl rfl rfl (by decide +kernel) ⟨Nat.le_of_ble_eq_true rfl, Nat.le_of_ble_eq_true rfl⟩) (v_preV (ci := 11) hSS hR hS g8 (by decide) rfl [.int x1]) rfl rfl hl.1 rfl (lv_room (Nat.le_of_ble_eq_true rfl)) dX10_removeMet_2 ⟨Nat.zero_le _, Nat.zero_le _⟩) ?_
  refine w_if_eq (tgt := 10) hx hb dX10_removeMet_5 (by decide) (fun c2 => ?_) (fun c2 => ?_)
  · rw [if_pos c2] at h
    refine w_aload_n hx hb dX10_removeMet_10 rfl (lv_at hl 0 rfl) ?_
    refine w_iload_n hx hb dX10_removeMet_11 rfl (lv_at hl 1 rfl) ?_
    refine w_iconst (v := 1) hx hb dX10_removeMet_12 (by decide) ?_
    obtain ⟨g8, h⟩ := v_ifs h
    obtain ⟨z3, ez3, h⟩ := v_bnd h
    refine v_call1 (v := .int z3) (M1 := z1.2) (mc := 0) (ms := 0) (fun H locs hR hS => va_runV (As := [.int x1, .int 1]) (rest := []) ⟨hx, hb, hml, hown, hts⟩ (mX10_ofCursor l hfl D x0 x1 1 z1.2 z3 ez3) (cwV 2 hts (gdV kw1547 kw1549 kw56 kw85 kw1550) rfl rfl rfl (by decide +kernel) ⟨Nat.le_of_ble_eq_true rfl, Nat.le_of_ble_eq_true rfl⟩) (v_preV (ci := 11) hSS hR hS g8 (by decide) rfl [.int x1, .int 1]) rfl rfl hl.1 rfl (lv_room (Nat.le_of_ble_eq_true rfl)) dX10_removeMet_13 ⟨Nat.zero_le _, Nat.zero_le _⟩) ?_
    refine w_istore_n (lv' := [(2, .int z3), (0, .ref x0), (1, .int x1)]) hx hb dX10_removeMet_16 rfl hl (by decide) rfl (fun ls hl => ?_)
    have hl : lv_has ls 4 [(0, .ref x0), (1, .int x1), (2, .int z3)] := lv_sub hl [1, 2, 0] rfl
    refine w_aload_n hx hb dX10_removeMet_17 rfl (lv_at hl 0 rfl) ?_
    refine w_iload_n hx hb dX10_removeMet_18 rfl (lv_at hl 1 rfl) ?_
    refine w_bipush (v := 7) hx hb dX10_removeMet_19 (by decide) ?_
    obtain ⟨g8, h⟩ := v_ifs h
    obtain ⟨z4, ez4, h⟩ := v_bnd h
    refine v_call1 (v := .int z4) (M1 := z1.2) (mc := 0) (ms := 0) (fun H locs hR hS => va_runV (As := [.int x1, .int 7]) (rest := []) ⟨hx, hb, hml, hown, hts⟩ (mX10_ofCursor l hfl D x0 x1 7 z1.2 z4 ez4) (cwV 2 hts (gdV kw1547 kw1549 kw56 kw85 kw1550) rfl rfl rfl (by decide +kernel) ⟨Nat.le_of_ble_eq_true rfl, Nat.le_of_ble_eq_true rfl⟩) (v_preV (ci := 11) hSS hR hS g8 (by decide) rfl [.int x1, .int 7]) rfl rfl hl.1 rfl (lv_room (Nat.le_of_ble_eq_true rfl)) dX10_removeMet_21 ⟨Nat.zero_le _, Nat.zero_le _⟩) ?_
    refine w_iconst (v := 1) hx hb dX10_removeMet_24 (by decide) ?_
    refine w_isub hx hb dX10_removeMet_25 ?_
    refine w_istore_n (lv' := [(3, .int (z4 - 1)), (0, .ref x0), (1, .int x1), (2, .int z3)]) hx hb dX10_removeMet_26 rfl hl (by decide) rfl (fun ls hl => ?_)
    have hl : lv_has ls 4 [(0, .ref x0), (1, .int x1), (2, .int z3), (3, .int (z4 - 1))] := lv_sub hl [1, 2, 3, 0] rfl
    refine w_aload_n hx hb dX10_removeMet_27 rfl (lv_at hl 0 rfl) ?_
    refine w_iload_n hx hb dX10_removeMet_28 rfl (lv_at hl 3 rfl) ?_
    refine w_iconst (v := (-1)) hx hb dX10_removeMet_29 (by decide) ?_
    refine w_icmp_eq (tgt := 42) hx hb dX10_removeMet_30 (by decide) (fun c5 => ?_) (fun c5 => ?_)
    · rw [if_pos c5] at h
      exact X10_removeMet_J42p x0 z3 (z4 - 1) x0 z1.2 ls (lv_sub hl [0, 2, 3] rfl) h
    · rw [if_neg c5] at h
      refine w_aload_n hx hb dX10_removeMet_33 rfl (lv_at hl 0 rfl) ?_
      refine w_iload_n hx hb dX10_removeMet_34 rfl (lv_at hl 1 rfl) ?_
      refine w_iconst (v := 3) hx hb dX10_removeMet_35 (by decide) ?_
      obtain ⟨g8, h⟩ := v_ifs h
      obtain ⟨z14, ez14, h⟩ := v_bnd h
      refine v_call1 (v := .int z14) (M1 := z1.2) (mc := 0) (ms := 0) (fun H locs hR hS => va_runV (As := [.int x1, .int 3]) (rest := [.ref x0]) ⟨hx, hb, hml, hown, hts⟩ (mX10_ofCursor l hfl D x0 x1 3 z1.2 z14 ez14) (cwV 2 hts (gdV kw1547 kw1549 kw56 kw85 kw1550) rfl rfl rfl (by decide +kernel) ⟨Nat.le_of_ble_eq_true rfl, Nat.le_of_ble_eq_true rfl⟩) (v_preV (ci := 11) hSS hR hS g8 (by decide) rfl [.int x1, .int 3]) rfl rfl hl.1 rfl (lv_room (Nat.le_of_ble_eq_true rfl)) dX10_removeMet_36 ⟨Nat.zero_le _, Nat.zero_le _⟩) ?_
      refine w_if_ne (tgt := 46) hx hb dX10_removeMet_39 (by decide) (fun c15 => ?_) (fun c15 => ?_)
      · rw [if_pos c15] at h
        exact X10_removeMet_J42p x0 z3 (z4 - 1) x0 z1.2 ls (lv_sub hl [0, 2, 3] rfl) h
      · rw [if_neg c15] at h
        refine w_iconst (v := 0) hx hb dX10_removeMet_46 (by decide) ?_
        exact X10_removeMet_J47p x0 z3 (z4 - 1) x0 0 z1.2 ls (lv_sub hl [0, 2, 3] rfl) h
  · rw [if_neg c2] at h
    refine w_iconst (v := 0) hx hb dX10_removeMet_8 (by decide) ?_
    obtain rfl := Option.some.inj h
    rw [hQ]
    exact v_iret hx hb hr hlk dX10_removeMet_9

def tX10_keep_J64_27 (rec : Int32 → Int32 → vMe → Option (Int32 × vMe)) (x0 : Nat) (x1 : Int32) (x2 : Int32) (x3 : Int32) (x4 : Int32) (Mj : vMe) : Option (Int32 × vMe) :=
  rec x3 (x4 + (-1)) Mj
def tX10_keep_L27 (x0 : Nat) (x1 : Int32) (x2 : Int32) : Nat → Int32 → Int32 → vMe → Option (Int32 × vMe)
  | 0, _, _, _ => none
  | f + 1, x3, x4, Mi =>
  if x4 < 0 then
  (some (x3, Mi))
else
  (if (Mi.1 x0).1 = 12 then
  ((tX10_of x0 x1 (6 + x4) Mi).bind fun z11 =>
  if (Mi.1 x0).1 = 12 then
  ((tX10_isMember x0 x2 z11 Mi).bind fun z12 =>
  if z12 = 0 then
  (if (Mi.1 x0).1 = 12 then
  ((tX10_goes x0 x1 z11 Mi).bind fun z14 =>
  tX10_keep_J64_27 (tX10_keep_L27 x0 x1 x2 f) x0 x1 x2 (x3 + 1) x4 z14.2)
else none)
else
  (tX10_keep_J64_27 (tX10_keep_L27 x0 x1 x2 f) x0 x1 x2 x3 x4 Mi))
else none)
else none)
def tX10_keep (x0 : Nat) (x1 : Int32) (x2 : Int32) (M : vMe) : Option (Int32 × vMe) :=
  if (M.1 x0).1 = 12 then
  ((tX10_noSets x0 x1 x2 M).bind fun z1 =>
  if z1.1 = 0 then
  (if (z1.2.1 x0).1 = 12 then
  ((tX10_keeps x0 z1.2).bind fun z3 =>
  if (z3.2.1 x0).1 = 12 then
  ((tX10_of x0 x1 0 z3.2).bind fun z4 =>
  (tX10_keep_L27 x0 x1 x2 vF 0 (z4 - 1) z3.2).bind fun z15 =>
  some (z15.1, z15.2))
else none)
else none)
else
  (some (0, z1.2)))
else none
def rmX10_keep : Room := { frames := 7, cells := 0, slots := 0, locals := 147 }
set_option maxHeartbeats 4000000 in
set_option maxRecDepth 100000 in
theorem mX10_keep (l : Launch) (hfl : l.stackTraces = false) (D : vD) (x0 : Nat) (x1 : Int32) (x2 : Int32) (M : vMe) (z : (Int32 × vMe)) (h : tX10_keep x0 x1 x2 M = some z) : Met l yX10_keep (Cond.code yX10_keep cX10_keep 6 (some .int) :: TB) rmX10_keep (va_Pc [.ref x0, .int x1, .int x2] (vPre D M)) (qW D (some (.int z.1)) z.2) 0 0 (vA D) := by
  refine v_ofW (cc := cX10_keep) (maxL := 6) (ret := (some .int)) (by decide) (Nat.le_of_ble_eq_true rfl) ?_
  intro p e s m args below meth c Q hx hb hr hml hown hts hlk hnm hSS hR0 hQ ls hl
  have hK := hSS.1
  have hl : lv_has ls 6 [(0, .ref x0), (1, .int x1), (2, .int x2)] := hl
  unfold tX10_keep at h
  have X10_keep_L27p : ∀ (x0 : Nat) (x1 : Int32) (x2 : Int32), ∀ (f : Nat) (x3 : Int32) (x4 : Int32) (Mi : vMe) (ls : Array Slot) (z : (Int32 × vMe)), lv_has ls 6 [(0, .ref x0), (1, .int x1), (2, .int x2), (3, .int x3), (4, .int x4)] → tX10_keep_L27 x0 x1 x2 f x3 x4 Mi = some z → (∀ ls : Array Slot, lv_has ls 6 [(3, .int z.1)] → vV D p l e rmX10_keep s m args below meth c 0 0 Q z.2 (F0 m 70 ls [])) → vV D p l e rmX10_keep s m args below meth c 0 0 Q Mi (F0 m 27 ls []) := by
    intro x0 x1 x2 f
    induction f with
    | zero =>
      intro x3 x4 Mi ls z hl h
      exact absurd h (by simp [tX10_keep_L27])
    | succ f ih =>
      intro x3 x4 Mi ls z hl h KX
      rw [tX10_keep_L27] at h
      have X10_keep_J64_27p : ∀ (x3 : Int32) (x4 : Int32) (Mj : vMe) (ls : Array Slot), lv_has ls 6 [(0, .ref x0), (1, .int x1), (2, .int x2), (3, .int x3), (4, .int x4)] → tX10_keep_J64_27 (tX10_keep_L27 x0 x1 x2 f) x0 x1 x2 x3 x4 Mj = some z → vV D p l e rmX10_keep s m args below meth c 0 0 Q Mj (F0 m 64 ls []) := by
        intro x3 x4 Mj ls hl h
        unfold tX10_keep_J64_27 at h
        refine w_iinc (v := x4 + (-1)) (lv' := [(4, .int (x4 + (-1))), (0, .ref x0), (1, .int x1), (2, .int x2), (3, .int x3)]) hx hb dX10_keep_64 hl (j := 4) rfl rfl (by decide) rfl (fun ls hl => ?_)
        have hl : lv_has ls 6 [(0, .ref x0), (1, .int x1), (2, .int x2), (3, .int x3), (4, .int (x4 + (-1)))] := lv_sub hl [1, 2, 3, 4, 0] rfl
        refine w_goto (tgt := 27) hx hb dX10_keep_67 (by decide) ?_
        exact ih x3 (x4 + (-1)) Mj ls z (lv_sub hl [0, 1, 2, 3, 4] rfl) h KX
      refine w_iload hx hb dX10_keep_27 (lv_at hl 4 rfl) ?_
      refine w_if_lt (tgt := 70) hx hb dX10_keep_29 (by decide) (fun c10 => ?_) (fun c10 => ?_)
      · rw [if_pos c10] at h
        obtain rfl := Option.some.inj h
        exact KX ls (lv_sub hl [3] rfl)
      · rw [if_neg c10] at h
        refine w_aload_n hx hb dX10_keep_32 rfl (lv_at hl 0 rfl) ?_
        refine w_iload_n hx hb dX10_keep_33 rfl (lv_at hl 1 rfl) ?_
        refine w_bipush (v := 6) hx hb dX10_keep_34 (by decide) ?_
        refine w_iload hx hb dX10_keep_36 (lv_at hl 4 rfl) ?_
        refine w_iadd hx hb dX10_keep_38 ?_
        obtain ⟨g8, h⟩ := v_ifs h
        obtain ⟨z11, ez11, h⟩ := v_bnd h
        refine v_call1 (v := .int z11) (M1 := Mi) (mc := 0) (ms := 0) (fun H locs hR hS => va_runV (As := [.int x1, .int (6 + x4)]) (rest := []) ⟨hx, hb, hml, hown, hts⟩ (mX10_of l hfl D x0 x1 (6 + x4) Mi z11 ez11) (cwV 2 hts (gdV kw1497 kw1499 kw44 kw85 kw1500) rfl rfl rfl (by decide +kernel) ⟨Nat.le_of_ble_eq_true rfl, Nat.le_of_ble_eq_true rfl⟩) (v_preV (ci := 11) hSS hR hS g8 (by decide) rfl [.int x1, .int (6 + x4)]) rfl rfl hl.1 rfl (lv_room (Nat.le_of_ble_eq_true rfl)) dX10_keep_39 ⟨Nat.zero_le _, Nat.zero_le _⟩) ?_
        refine w_istore (lv' := [(5, .int z11), (0, .ref x0), (1, .int x1), (2, .int x2), (3, .int x3), (4, .int x4)]) hx hb dX10_keep_42 hl (by decide) rfl (fun ls hl => ?_)
        have hl : lv_has ls 6 [(0, .ref x0), (1, .int x1), (2, .int x2), (3, .int x3), (4, .int x4), (5, .int z11)] := lv_sub hl [1, 2, 3, 4, 5, 0] rfl
        refine w_aload_n hx hb dX10_keep_44 rfl (lv_at hl 0 rfl) ?_
        refine w_iload_n hx hb dX10_keep_45 rfl (lv_at hl 2 rfl) ?_
        refine w_iload hx hb dX10_keep_46 (lv_at hl 5 rfl) ?_
        obtain ⟨g8, h⟩ := v_ifs h
        obtain ⟨z12, ez12, h⟩ := v_bnd h
        refine v_call1 (v := .int z12) (M1 := Mi) (mc := 0) (ms := 0) (fun H locs hR hS => va_runV (As := [.int x2, .int z11]) (rest := []) ⟨hx, hb, hml, hown, hts⟩ (mX10_isMember l hfl D x0 x2 z11 Mi z12 ez12) (cwV 2 hts (gdV kw1493 kw1495 kw43 kw85 kw1496) rfl rfl rfl (by decide +kernel) ⟨Nat.le_of_ble_eq_true rfl, Nat.le_of_ble_eq_true rfl⟩) (v_preV (ci := 11) hSS hR hS g8 (by decide) rfl [.int x2, .int z11]) rfl rfl hl.1 rfl (lv_room (Nat.le_of_ble_eq_true rfl)) dX10_keep_48 ⟨Nat.zero_le _, Nat.zero_le _⟩) ?_
        refine w_if_ne (tgt := 64) hx hb dX10_keep_51 (by decide) (fun c13 => ?_) (fun c13 => ?_)
        · rw [if_pos c13] at h
          refine w_aload_n hx hb dX10_keep_54 rfl (lv_at hl 0 rfl) ?_
          refine w_iload_n hx hb dX10_keep_55 rfl (lv_at hl 1 rfl) ?_
          refine w_iload hx hb dX10_keep_56 (lv_at hl 5 rfl) ?_
          obtain ⟨g8, h⟩ := v_ifs h
          obtain ⟨z14, ez14, h⟩ := v_bnd h
          refine v_call0 (M1 := z14.2) (mc := 0) (ms := 0) (fun H locs hR hS => va_runV (As := [.int x1, .int z11]) (rest := []) ⟨hx, hb, hml, hown, hts⟩ (mX10_goes l hfl D x0 x1 z11 Mi z14 ez14) (cwV 2 hts (gdV kw1535 kw1537 kw53 kw85 kw1538) rfl rfl rfl (by decide +kernel) ⟨Nat.le_of_ble_eq_true rfl, Nat.le_of_ble_eq_true rfl⟩) (v_preV (ci := 11) hSS hR hS g8 (by decide) rfl [.int x1, .int z11]) rfl rfl hl.1 rfl (lv_room (Nat.le_of_ble_eq_true rfl)) dX10_keep_58 ⟨Nat.zero_le _, Nat.zero_le _⟩) ?_
          refine w_iinc (v := x3 + 1) (lv' := [(3, .int (x3 + 1)), (0, .ref x0), (1, .int x1), (2, .int x2), (4, .int x4), (5, .int z11)]) hx hb dX10_keep_61 hl (j := 3) rfl rfl (by decide) rfl (fun ls hl => ?_)
          have hl : lv_has ls 6 [(0, .ref x0), (1, .int x1), (2, .int x2), (3, .int (x3 + 1)), (4, .int x4), (5, .int z11)] := lv_sub hl [1, 2, 3, 0, 4, 5] rfl
          exact X10_keep_J64_27p (x3 + 1) x4 z14.2 ls (lv_sub hl [0, 1, 2, 3, 4] rfl) h
        · rw [if_neg c13] at h
          exact X10_keep_J64_27p x3 x4 Mi ls (lv_sub hl [0, 1, 2, 3, 4] rfl) h
  refine w_aload_n hx hb dX10_keep_0 rfl (lv_at hl 0 rfl) ?_
  refine w_iload_n hx hb dX10_keep_1 rfl (lv_at hl 1 rfl) ?_
  refine w_iload_n hx hb dX10_keep_2 rfl (lv_at hl 2 rfl) ?_
  obtain ⟨g8, h⟩ := v_ifs h
  obtain ⟨z1, ez1, h⟩ := v_bnd h
  refine v_call1 (v := .int z1.1) (M1 := z1.2) (mc := 0) (ms := 0) (fun H locs hR hS => va_runV (As := [.int x1, .int x2]) (rest := []) ⟨hx, hb, hml, hown, hts⟩ (mX10_noSets l hfl D x0 x1 x2 M z1 ez1) (cwV 2 hts (gdV kw1681 kw1683 kw72 kw85 kw1684) rfl rfl rfl (by decide +kernel) ⟨Nat.le_of_ble_eq_true rfl, Nat.le_of_ble_eq_true rfl⟩) (v_preV (ci := 11) hSS hR hS g8 (by decide) rfl [.int x1, .int x2]) rfl rfl hl.1 rfl (lv_room (Nat.le_of_ble_eq_true rfl)) dX10_keep_3 ⟨Nat.zero_le _, Nat.zero_le _⟩) ?_
  refine w_if_eq (tgt := 11) hx hb dX10_keep_6 (by decide) (fun c2 => ?_) (fun c2 => ?_)
  · rw [if_pos c2] at h
    refine w_aload_n hx hb dX10_keep_11 rfl (lv_at hl 0 rfl) ?_
    obtain ⟨g8, h⟩ := v_ifs h
    obtain ⟨z3, ez3, h⟩ := v_bnd h
    refine v_call0 (M1 := z3.2) (mc := 0) (ms := 0) (fun H locs hR hS => va_runV (As := []) (rest := []) ⟨hx, hb, hml, hown, hts⟩ (mX10_keeps l hfl D x0 z1.2 z3 ez3) (cwV 0 hts (gdV kw1701 kw1703 kw74 kw85 kw1704) rfl rfl rfl (by decide +kernel) ⟨Nat.le_of_ble_eq_true rfl, Nat.le_of_ble_eq_true rfl⟩) (v_preV (ci := 11) hSS hR hS g8 (by decide) rfl []) rfl rfl hl.1 rfl (lv_room (Nat.le_of_ble_eq_true rfl)) dX10_keep_12 ⟨Nat.zero_le _, Nat.zero_le _⟩) ?_
    refine w_iconst (v := 0) hx hb dX10_keep_15 (by decide) ?_
    refine w_istore_n (lv' := [(3, .int 0), (0, .ref x0), (1, .int x1), (2, .int x2)]) hx hb dX10_keep_16 rfl hl (by decide) rfl (fun ls hl => ?_)
    have hl : lv_has ls 6 [(0, .ref x0), (1, .int x1), (2, .int x2), (3, .int 0)] := lv_sub hl [1, 2, 3, 0] rfl
    refine w_aload_n hx hb dX10_keep_17 rfl (lv_at hl 0 rfl) ?_
    refine w_iload_n hx hb dX10_keep_18 rfl (lv_at hl 1 rfl) ?_
    refine w_iconst (v := 0) hx hb dX10_keep_19 (by decide) ?_
    obtain ⟨g8, h⟩ := v_ifs h
    obtain ⟨z4, ez4, h⟩ := v_bnd h
    refine v_call1 (v := .int z4) (M1 := z3.2) (mc := 0) (ms := 0) (fun H locs hR hS => va_runV (As := [.int x1, .int 0]) (rest := []) ⟨hx, hb, hml, hown, hts⟩ (mX10_of l hfl D x0 x1 0 z3.2 z4 ez4) (cwV 2 hts (gdV kw1497 kw1499 kw44 kw85 kw1500) rfl rfl rfl (by decide +kernel) ⟨Nat.le_of_ble_eq_true rfl, Nat.le_of_ble_eq_true rfl⟩) (v_preV (ci := 11) hSS hR hS g8 (by decide) rfl [.int x1, .int 0]) rfl rfl hl.1 rfl (lv_room (Nat.le_of_ble_eq_true rfl)) dX10_keep_20 ⟨Nat.zero_le _, Nat.zero_le _⟩) ?_
    refine w_iconst (v := 1) hx hb dX10_keep_23 (by decide) ?_
    refine w_isub hx hb dX10_keep_24 ?_
    refine w_istore (lv' := [(4, .int (z4 - 1)), (0, .ref x0), (1, .int x1), (2, .int x2), (3, .int 0)]) hx hb dX10_keep_25 hl (by decide) rfl (fun ls hl => ?_)
    have hl : lv_has ls 6 [(0, .ref x0), (1, .int x1), (2, .int x2), (3, .int 0), (4, .int (z4 - 1))] := lv_sub hl [1, 2, 3, 4, 0] rfl
    obtain ⟨z15, ez15, h⟩ := v_bnd h
    refine X10_keep_L27p x0 x1 x2 vF 0 (z4 - 1) z3.2 ls z15 (lv_sub hl [0, 1, 2, 3, 4] rfl) ez15 (fun ls hl => ?_)
    refine w_iload_n hx hb dX10_keep_70 rfl (lv_at hl 0 rfl) ?_
    obtain rfl := Option.some.inj h
    rw [hQ]
    exact v_iret hx hb hr hlk dX10_keep_71
  · rw [if_neg c2] at h
    refine w_iconst (v := 0) hx hb dX10_keep_9 (by decide) ?_
    obtain rfl := Option.some.inj h
    rw [hQ]
    exact v_iret hx hb hr hlk dX10_keep_10

def tX10_unite_L25 (x0 : Nat) (x1 : Int32) (x2 : Int32) (x3 : Int32) : Nat → Int32 → vMe → Option (Unit × vMe)
  | 0, _, _ => none
  | f + 1, x4, Mi =>
  if (Mi.1 x0).1 = 12 then
  ((tX10_of x0 x2 0 Mi).bind fun z10 =>
  if z10 ≤ x4 then
  (some ((), Mi))
else
  (if x1 = x2 then
  (some ((), Mi))
else
  (if (Mi.1 x0).1 = 12 then
  ((tX10_of x0 x2 (6 + x4) Mi).bind fun z13 =>
  if (Mi.1 x0).1 = 12 then
  ((tX10_comes x0 x1 z13 Mi).bind fun z14 =>
  tX10_unite_L25 x0 x1 x2 x3 f (x4 + 1) z14.2)
else none)
else none)))
else none
def tX10_unite_J62 (x0 : Nat) (x1 : Int32) (x3 : Int32) (Mj : vMe) : Option (Int32 × vMe) :=
  if (Mj.1 x0).1 = 12 then
  ((tX10_of x0 x1 0 Mj).bind fun z16 =>
  some (z16 - x3, Mj))
else none
def tX10_unite (x0 : Nat) (x1 : Int32) (x2 : Int32) (M : vMe) : Option (Int32 × vMe) :=
  if (M.1 x0).1 = 12 then
  ((tX10_noSets x0 x1 x2 M).bind fun z1 =>
  if z1.1 = 0 then
  (if (z1.2.1 x0).1 = 12 then
  ((tX10_keeps x0 z1.2).bind fun z3 =>
  if (z3.2.1 x0).1 = 12 then
  ((tX10_of x0 x1 0 z3.2).bind fun z4 =>
  (tX10_unite_L25 x0 x1 x2 z4 vF 0 z3.2).bind fun z15 =>
  tX10_unite_J62 x0 x1 z4 z15.2)
else none)
else none)
else
  (some (0, z1.2)))
else none
def rmX10_unite : Room := { frames := 7, cells := 0, slots := 0, locals := 143 }
set_option maxHeartbeats 4000000 in
set_option maxRecDepth 100000 in
theorem mX10_unite (l : Launch) (hfl : l.stackTraces = false) (D : vD) (x0 : Nat) (x1 : Int32) (x2 : Int32) (M : vMe) (z : (Int32 × vMe)) (h : tX10_unite x0 x1 x2 M = some z) : Met l yX10_unite (Cond.code yX10_unite cX10_unite 5 (some .int) :: TB) rmX10_unite (va_Pc [.ref x0, .int x1, .int x2] (vPre D M)) (qW D (some (.int z.1)) z.2) 0 0 (vA D) := by
  refine v_ofW (cc := cX10_unite) (maxL := 5) (ret := (some .int)) (by decide) (Nat.le_of_ble_eq_true rfl) ?_
  intro p e s m args below meth c Q hx hb hr hml hown hts hlk hnm hSS hR0 hQ ls hl
  have hK := hSS.1
  have hl : lv_has ls 5 [(0, .ref x0), (1, .int x1), (2, .int x2)] := hl
  unfold tX10_unite at h
  have X10_unite_L25p : ∀ (x0 : Nat) (x1 : Int32) (x2 : Int32) (x3 : Int32), ∀ (f : Nat) (x4 : Int32) (Mi : vMe) (ls : Array Slot) (z : (Unit × vMe)), lv_has ls 5 [(0, .ref x0), (1, .int x1), (2, .int x2), (3, .int x3), (4, .int x4)] → tX10_unite_L25 x0 x1 x2 x3 f x4 Mi = some z → (∀ ls : Array Slot, lv_has ls 5 [(0, .ref x0), (1, .int x1), (3, .int x3)] → vV D p l e rmX10_unite s m args below meth c 0 0 Q z.2 (F0 m 62 ls [])) → vV D p l e rmX10_unite s m args below meth c 0 0 Q Mi (F0 m 25 ls []) := by
    intro x0 x1 x2 x3 f
    induction f with
    | zero =>
      intro x4 Mi ls z hl h
      exact absurd h (by simp [tX10_unite_L25])
    | succ f ih =>
      intro x4 Mi ls z hl h KX
      rw [tX10_unite_L25] at h
      refine w_iload hx hb dX10_unite_25 (lv_at hl 4 rfl) ?_
      refine w_aload_n hx hb dX10_unite_27 rfl (lv_at hl 0 rfl) ?_
      refine w_iload_n hx hb dX10_unite_28 rfl (lv_at hl 2 rfl) ?_
      refine w_iconst (v := 0) hx hb dX10_unite_29 (by decide) ?_
      obtain ⟨g8, h⟩ := v_ifs h
      obtain ⟨z10, ez10, h⟩ := v_bnd h
      refine v_call1 (v := .int z10) (M1 := Mi) (mc := 0) (ms := 0) (fun H locs hR hS => va_runV (As := [.int x2, .int 0]) (rest := [.int x4]) ⟨hx, hb, hml, hown, hts⟩ (mX10_of l hfl D x0 x2 0 Mi z10 ez10) (cwV 2 hts (gdV kw1497 kw1499 kw44 kw85 kw1500) rfl rfl rfl (by decide +kernel) ⟨Nat.le_of_ble_eq_true rfl, Nat.le_of_ble_eq_true rfl⟩) (v_preV (ci := 11) hSS hR hS g8 (by decide) rfl [.int x2, .int 0]) rfl rfl hl.1 rfl (lv_room (Nat.le_of_ble_eq_true rfl)) dX10_unite_30 ⟨Nat.zero_le _, Nat.zero_le _⟩) ?_
      refine w_icmp_ge (tgt := 62) hx hb dX10_unite_33 (by decide) (fun c11 => ?_) (fun c11 => ?_)
      · rw [if_pos c11] at h
        obtain rfl := Option.some.inj h
        exact KX ls (lv_sub hl [0, 1, 3] rfl)
      · rw [if_neg c11] at h
        refine w_iload_n hx hb dX10_unite_36 rfl (lv_at hl 1 rfl) ?_
        refine w_iload_n hx hb dX10_unite_37 rfl (lv_at hl 2 rfl) ?_
        refine w_icmp_eq (tgt := 62) hx hb dX10_unite_38 (by decide) (fun c12 => ?_) (fun c12 => ?_)
        · rw [if_pos c12] at h
          obtain rfl := Option.some.inj h
          exact KX ls (lv_sub hl [0, 1, 3] rfl)
        · rw [if_neg c12] at h
          refine w_aload_n hx hb dX10_unite_41 rfl (lv_at hl 0 rfl) ?_
          refine w_iload_n hx hb dX10_unite_42 rfl (lv_at hl 1 rfl) ?_
          refine w_aload_n hx hb dX10_unite_43 rfl (lv_at hl 0 rfl) ?_
          refine w_iload_n hx hb dX10_unite_44 rfl (lv_at hl 2 rfl) ?_
          refine w_bipush (v := 6) hx hb dX10_unite_45 (by decide) ?_
          refine w_iload hx hb dX10_unite_47 (lv_at hl 4 rfl) ?_
          refine w_iadd hx hb dX10_unite_49 ?_
          obtain ⟨g8, h⟩ := v_ifs h
          obtain ⟨z13, ez13, h⟩ := v_bnd h
          refine v_call1 (v := .int z13) (M1 := Mi) (mc := 0) (ms := 0) (fun H locs hR hS => va_runV (As := [.int x2, .int (6 + x4)]) (rest := [.int x1, .ref x0]) ⟨hx, hb, hml, hown, hts⟩ (mX10_of l hfl D x0 x2 (6 + x4) Mi z13 ez13) (cwV 2 hts (gdV kw1497 kw1499 kw44 kw85 kw1500) rfl rfl rfl (by decide +kernel) ⟨Nat.le_of_ble_eq_true rfl, Nat.le_of_ble_eq_true rfl⟩) (v_preV (ci := 11) hSS hR hS g8 (by decide) rfl [.int x2, .int (6 + x4)]) rfl rfl hl.1 rfl (lv_room (Nat.le_of_ble_eq_true rfl)) dX10_unite_50 ⟨Nat.zero_le _, Nat.zero_le _⟩) ?_
          obtain ⟨g8, h⟩ := v_ifs h
          obtain ⟨z14, ez14, h⟩ := v_bnd h
          refine v_call0 (M1 := z14.2) (mc := 0) (ms := 0) (fun H locs hR hS => va_runV (As := [.int x1, .int z13]) (rest := []) ⟨hx, hb, hml, hown, hts⟩ (mX10_comes l hfl D x0 x1 z13 Mi z14 ez14) (cwV 2 hts (gdV kw1489 kw1491 kw42 kw85 kw1492) rfl rfl rfl (by decide +kernel) ⟨Nat.le_of_ble_eq_true rfl, Nat.le_of_ble_eq_true rfl⟩) (v_preV (ci := 11) hSS hR hS g8 (by decide) rfl [.int x1, .int z13]) rfl rfl hl.1 rfl (lv_room (Nat.le_of_ble_eq_true rfl)) dX10_unite_53 ⟨Nat.zero_le _, Nat.zero_le _⟩) ?_
          refine w_iinc (v := x4 + 1) (lv' := [(4, .int (x4 + 1)), (0, .ref x0), (1, .int x1), (2, .int x2), (3, .int x3)]) hx hb dX10_unite_56 hl (j := 4) rfl rfl (by decide) rfl (fun ls hl => ?_)
          have hl : lv_has ls 5 [(0, .ref x0), (1, .int x1), (2, .int x2), (3, .int x3), (4, .int (x4 + 1))] := lv_sub hl [1, 2, 3, 4, 0] rfl
          refine w_goto (tgt := 25) hx hb dX10_unite_59 (by decide) ?_
          exact ih (x4 + 1) z14.2 ls z (lv_sub hl [0, 1, 2, 3, 4] rfl) h KX
  have X10_unite_J62p : ∀ (x0 : Nat) (x1 : Int32) (x3 : Int32) (Mj : vMe) (ls : Array Slot), lv_has ls 5 [(0, .ref x0), (1, .int x1), (3, .int x3)] → tX10_unite_J62 x0 x1 x3 Mj = some z → vV D p l e rmX10_unite s m args below meth c 0 0 Q Mj (F0 m 62 ls []) := by
    intro x0 x1 x3 Mj ls hl h
    unfold tX10_unite_J62 at h
    refine w_aload_n hx hb dX10_unite_62 rfl (lv_at hl 0 rfl) ?_
    refine w_iload_n hx hb dX10_unite_63 rfl (lv_at hl 1 rfl) ?_
    refine w_iconst (v := 0) hx hb dX10_unite_64 (by decide) ?_
    obtain ⟨g8, h⟩ := v_ifs h
    obtain ⟨z16, ez16, h⟩ := v_bnd h
    refine v_call1 (v := .int z16) (M1 := Mj) (mc := 0) (ms := 0) (fun H locs hR hS => va_runV (As := [.int x1, .int 0]) (rest := []) ⟨hx, hb, hml, hown, hts⟩ (mX10_of l hfl D x0 x1 0 Mj z16 ez16) (cwV 2 hts (gdV kw1497 kw1499 kw44 kw85 kw1500) rfl rfl rfl (by decide +kernel) ⟨Nat.le_of_ble_eq_true rfl, Nat.le_of_ble_eq_true rfl⟩) (v_preV (ci := 11) hSS hR hS g8 (by decide) rfl [.int x1, .int 0]) rfl rfl hl.1 rfl (lv_room (Nat.le_of_ble_eq_true rfl)) dX10_unite_65 ⟨Nat.zero_le _, Nat.zero_le _⟩) ?_
    refine w_iload_n hx hb dX10_unite_68 rfl (lv_at hl 2 rfl) ?_
    refine w_isub hx hb dX10_unite_69 ?_
    obtain rfl := Option.some.inj h
    rw [hQ]
    exact v_iret hx hb hr hlk dX10_unite_70
  refine w_aload_n hx hb dX10_unite_0 rfl (lv_at hl 0 rfl) ?_
  refine w_iload_n hx hb dX10_unite_1 rfl (lv_at hl 1 rfl) ?_
  refine w_iload_n hx hb dX10_unite_2 rfl (lv_at hl 2 rfl) ?_
  obtain ⟨g8, h⟩ := v_ifs h
  obtain ⟨z1, ez1, h⟩ := v_bnd h
  refine v_call1 (v := .int z1.1) (M1 := z1.2) (mc := 0) (ms := 0) (fun H locs hR hS => va_runV (As := [.int x1, .int x2]) (rest := []) ⟨hx, hb, hml, hown, hts⟩ (mX10_noSets l hfl D x0 x1 x2 M z1 ez1) (cwV 2 hts (gdV kw1681 kw1683 kw72 kw85 kw1684) rfl rfl rfl (by decide +kernel) ⟨Nat.le_of_ble_eq_true rfl, Nat.le_of_ble_eq_true rfl⟩) (v_preV (ci := 11) hSS hR hS g8 (by decide) rfl [.int x1, .int x2]) rfl rfl hl.1 rfl (lv_room (Nat.le_of_ble_eq_true rfl)) dX10_unite_3 ⟨Nat.zero_le _, Nat.zero_le _⟩) ?_
  refine w_if_eq (tgt := 11) hx hb dX10_unite_6 (by decide) (fun c2 => ?_) (fun c2 => ?_)
  · rw [if_pos c2] at h
    refine w_aload_n hx hb dX10_unite_11 rfl (lv_at hl 0 rfl) ?_
    obtain ⟨g8, h⟩ := v_ifs h
    obtain ⟨z3, ez3, h⟩ := v_bnd h
    refine v_call0 (M1 := z3.2) (mc := 0) (ms := 0) (fun H locs hR hS => va_runV (As := []) (rest := []) ⟨hx, hb, hml, hown, hts⟩ (mX10_keeps l hfl D x0 z1.2 z3 ez3) (cwV 0 hts (gdV kw1701 kw1703 kw74 kw85 kw1704) rfl rfl rfl (by decide +kernel) ⟨Nat.le_of_ble_eq_true rfl, Nat.le_of_ble_eq_true rfl⟩) (v_preV (ci := 11) hSS hR hS g8 (by decide) rfl []) rfl rfl hl.1 rfl (lv_room (Nat.le_of_ble_eq_true rfl)) dX10_unite_12 ⟨Nat.zero_le _, Nat.zero_le _⟩) ?_
    refine w_aload_n hx hb dX10_unite_15 rfl (lv_at hl 0 rfl) ?_
    refine w_iload_n hx hb dX10_unite_16 rfl (lv_at hl 1 rfl) ?_
    refine w_iconst (v := 0) hx hb dX10_unite_17 (by decide) ?_
    obtain ⟨g8, h⟩ := v_ifs h
    obtain ⟨z4, ez4, h⟩ := v_bnd h
    refine v_call1 (v := .int z4) (M1 := z3.2) (mc := 0) (ms := 0) (fun H locs hR hS => va_runV (As := [.int x1, .int 0]) (rest := []) ⟨hx, hb, hml, hown, hts⟩ (mX10_of l hfl D x0 x1 0 z3.2 z4 ez4) (cwV 2 hts (gdV kw1497 kw1499 kw44 kw85 kw1500) rfl rfl rfl (by decide +kernel) ⟨Nat.le_of_ble_eq_true rfl, Nat.le_of_ble_eq_true rfl⟩) (v_preV (ci := 11) hSS hR hS g8 (by decide) rfl [.int x1, .int 0]) rfl rfl hl.1 rfl (lv_room (Nat.le_of_ble_eq_true rfl)) dX10_unite_18 ⟨Nat.zero_le _, Nat.zero_le _⟩) ?_
    refine w_istore_n (lv' := [(3, .int z4), (0, .ref x0), (1, .int x1), (2, .int x2)]) hx hb dX10_unite_21 rfl hl (by decide) rfl (fun ls hl => ?_)
    have hl : lv_has ls 5 [(0, .ref x0), (1, .int x1), (2, .int x2), (3, .int z4)] := lv_sub hl [1, 2, 3, 0] rfl
    refine w_iconst (v := 0) hx hb dX10_unite_22 (by decide) ?_
    refine w_istore (lv' := [(4, .int 0), (0, .ref x0), (1, .int x1), (2, .int x2), (3, .int z4)]) hx hb dX10_unite_23 hl (by decide) rfl (fun ls hl => ?_)
    have hl : lv_has ls 5 [(0, .ref x0), (1, .int x1), (2, .int x2), (3, .int z4), (4, .int 0)] := lv_sub hl [1, 2, 3, 4, 0] rfl
    obtain ⟨z15, ez15, h⟩ := v_bnd h
    refine X10_unite_L25p x0 x1 x2 z4 vF 0 z3.2 ls z15 (lv_sub hl [0, 1, 2, 3, 4] rfl) ez15 (fun ls hl => ?_)
    exact X10_unite_J62p x0 x1 z4 z15.2 ls (lv_sub hl [0, 1, 2] rfl) h
  · rw [if_neg c2] at h
    refine w_iconst (v := 0) hx hb dX10_unite_9 (by decide) ?_
    obtain rfl := Option.some.inj h
    rw [hQ]
    exact v_iret hx hb hr hlk dX10_unite_10

def tX10_undo (x0 : Nat) (M : vMe) : Option (Int32 × vMe) :=
  (sV M x0 12 0 (.int 0)).bind fun M1 =>
  (gI M1 x0 12 18).bind fun v2 =>
  if v2 = 0 then
  (some ((-1), M1))
else
  ((gI M1 x0 12 18).bind fun v4 =>
  (sV M1 x0 12 18 (.int (v4 - 1))).bind fun M5 =>
  (gA M5 x0 12 19).bind fun a6 =>
  (gI M5 x0 12 18).bind fun v7 =>
  (gA M5 x0 12 1).bind fun a8 =>
  (tX10_copies a6 (1952 * v7) a8 0 M5).bind fun z9 =>
  (gI z9.2 x0 12 18).bind fun v10 =>
  some (v10, z9.2))
def rmX10_undo : Room := { frames := 2, cells := 0, slots := 0, locals := 24 }
set_option maxHeartbeats 4000000 in
set_option maxRecDepth 100000 in
theorem mX10_undo (l : Launch) (hfl : l.stackTraces = false) (D : vD) (x0 : Nat) (M : vMe) (z : (Int32 × vMe)) (h : tX10_undo x0 M = some z) : Met l yX10_undo (Cond.code yX10_undo cX10_undo 1 (some .int) :: TB) rmX10_undo (va_Pc [.ref x0] (vPre D M)) (qW D (some (.int z.1)) z.2) 0 0 (vA D) := by
  refine v_ofW (cc := cX10_undo) (maxL := 1) (ret := (some .int)) (by decide) (Nat.le_of_ble_eq_true rfl) ?_
  intro p e s m args below meth c Q hx hb hr hml hown hts hlk hnm hSS hR0 hQ ls hl
  have hK := hSS.1
  have hl : lv_has ls 1 [(0, .ref x0)] := hl
  unfold tX10_undo at h
  refine w_aload_n hx hb dX10_undo_0 rfl (lv_at hl 0 rfl) ?_
  refine w_iconst (v := 0) hx hb dX10_undo_1 (by decide) ?_
  obtain ⟨M1, eM1, h⟩ := v_bnd h
  refine v_putf (ci := 11) hx hb hts iwX10 hown hK tyX10_ok nmX10 0 eM1 rfl (by decide) (Or.inl (hts _ kw1335)) (fun _ h9 => h9) (Or.inl rfl) rfl rfl dX10_undo_2 ?_
  refine w_aload_n hx hb dX10_undo_5 rfl (lv_at hl 0 rfl) ?_
  obtain ⟨v2, ev2, h⟩ := v_bnd h
  refine v_gI (ci := 11) hx hb hts iwX10 hown hK 18 ev2 rfl (by decide) (Or.inl (hts _ kw1353)) (fun _ h9 => h9) dX10_undo_6 ?_
  refine w_if_ne (tgt := 14) hx hb dX10_undo_9 (by decide) (fun c3 => ?_) (fun c3 => ?_)
  · rw [if_pos c3] at h
    refine w_iconst (v := (-1)) hx hb dX10_undo_12 (by decide) ?_
    obtain rfl := Option.some.inj h
    rw [hQ]
    exact v_iret hx hb hr hlk dX10_undo_13
  · rw [if_neg c3] at h
    refine w_aload_n hx hb dX10_undo_14 rfl (lv_at hl 0 rfl) ?_
    refine w_dup hx hb dX10_undo_15 rfl ?_
    obtain ⟨v4, ev4, h⟩ := v_bnd h
    refine v_gI (ci := 11) hx hb hts iwX10 hown hK 18 ev4 rfl (by decide) (Or.inl (hts _ kw1353)) (fun _ h9 => h9) dX10_undo_16 ?_
    refine w_iconst (v := 1) hx hb dX10_undo_19 (by decide) ?_
    refine w_isub hx hb dX10_undo_20 ?_
    obtain ⟨M5, eM5, h⟩ := v_bnd h
    refine v_putf (ci := 11) hx hb hts iwX10 hown hK tyX10_ok nmX10 18 eM5 rfl (by decide) (Or.inl (hts _ kw1353)) (fun _ h9 => h9) (Or.inl rfl) rfl rfl dX10_undo_21 ?_
    refine w_aload_n hx hb dX10_undo_24 rfl (lv_at hl 0 rfl) ?_
    obtain ⟨a6, ea6, h⟩ := v_bnd h
    refine v_gA (ci := 11) hx hb hts iwX10 hown hK 19 ea6 rfl (by decide) (Or.inl (hts _ kw1354)) (fun _ h9 => h9) dX10_undo_25 ?_
    refine w_sipush (v := 1952) hx hb dX10_undo_28 (by decide) ?_
    refine w_aload_n hx hb dX10_undo_31 rfl (lv_at hl 0 rfl) ?_
    obtain ⟨v7, ev7, h⟩ := v_bnd h
    refine v_gI (ci := 11) hx hb hts iwX10 hown hK 18 ev7 rfl (by decide) (Or.inl (hts _ kw1353)) (fun _ h9 => h9) dX10_undo_32 ?_
    refine w_imul hx hb dX10_undo_35 ?_
    refine w_aload_n hx hb dX10_undo_36 rfl (lv_at hl 0 rfl) ?_
    obtain ⟨a8, ea8, h⟩ := v_bnd h
    refine v_gA (ci := 11) hx hb hts iwX10 hown hK 1 ea8 rfl (by decide) (Or.inl (hts _ kw1336)) (fun _ h9 => h9) dX10_undo_37 ?_
    refine w_iconst (v := 0) hx hb dX10_undo_40 (by decide) ?_
    obtain ⟨z9, ez9, h⟩ := v_bnd h
    refine v_call0 (M1 := z9.2) (mc := 0) (ms := 0) (fun H locs hR hS => va_runS (As := [.ref a6, .int (1952 * v7), .ref a8, .int 0]) (rest := []) ⟨hx, hb, hml, hown, hts⟩ (mX10_copies l hfl D a6 (1952 * v7) a8 0 M5 z9 ez9) (va_cwS 4 hts (gdS kw1426 kw1427 kw85 kw1428) rfl rfl rfl (by decide +kernel) ⟨Nat.le_of_ble_eq_true rfl, Nat.le_of_ble_eq_true rfl⟩) (v_preS hSS hR hS [.ref a6, .int (1952 * v7), .ref a8, .int 0]) rfl rfl hl.1 rfl (lv_room (Nat.le_of_ble_eq_true rfl)) dX10_undo_41 ⟨Nat.zero_le _, Nat.zero_le _⟩) ?_
    refine w_aload_n hx hb dX10_undo_44 rfl (lv_at hl 0 rfl) ?_
    obtain ⟨v10, ev10, h⟩ := v_bnd h
    refine v_gI (ci := 11) hx hb hts iwX10 hown hK 18 ev10 rfl (by decide) (Or.inl (hts _ kw1353)) (fun _ h9 => h9) dX10_undo_45 ?_
    obtain rfl := Option.some.inj h
    rw [hQ]
    exact v_iret hx hb hr hlk dX10_undo_48

def tX10_noSlot (x0 : Nat) (x1 : Int32) (M : vMe) : Option (Int32 × vMe) :=
  (sV M x0 12 0 (.int 0)).bind fun M1 =>
  if (M1.1 x0).1 = 12 then
  ((tX10_no x0 x1 2 M1).bind fun z2 =>
  if fits .boolean (.int z2.1) = true then some (z2.1, z2.2) else none)
else none
def rmX10_noSlot : Room := { frames := 3, cells := 0, slots := 0, locals := 44 }
set_option maxHeartbeats 4000000 in
set_option maxRecDepth 100000 in
theorem mX10_noSlot (l : Launch) (hfl : l.stackTraces = false) (D : vD) (x0 : Nat) (x1 : Int32) (M : vMe) (z : (Int32 × vMe)) (h : tX10_noSlot x0 x1 M = some z) : Met l yX10_noSlot (Cond.code yX10_noSlot cX10_noSlot 2 (some .boolean) :: TB) rmX10_noSlot (va_Pc [.ref x0, .int x1] (vPre D M)) (qW D (some (.int z.1)) z.2) 0 0 (vA D) := by
  refine v_ofW (cc := cX10_noSlot) (maxL := 2) (ret := (some .boolean)) (by decide) (Nat.le_of_ble_eq_true rfl) ?_
  intro p e s m args below meth c Q hx hb hr hml hown hts hlk hnm hSS hR0 hQ ls hl
  have hK := hSS.1
  have hl : lv_has ls 2 [(0, .ref x0), (1, .int x1)] := hl
  unfold tX10_noSlot at h
  refine w_aload_n hx hb dX10_noSlot_0 rfl (lv_at hl 0 rfl) ?_
  refine w_iconst (v := 0) hx hb dX10_noSlot_1 (by decide) ?_
  obtain ⟨M1, eM1, h⟩ := v_bnd h
  refine v_putf (ci := 11) hx hb hts iwX10 hown hK tyX10_ok nmX10 0 eM1 rfl (by decide) (Or.inl (hts _ kw1335)) (fun _ h9 => h9) (Or.inl rfl) rfl rfl dX10_noSlot_2 ?_
  refine w_aload_n hx hb dX10_noSlot_5 rfl (lv_at hl 0 rfl) ?_
  refine w_iload_n hx hb dX10_noSlot_6 rfl (lv_at hl 1 rfl) ?_
  refine w_iconst (v := 2) hx hb dX10_noSlot_7 (by decide) ?_
  obtain ⟨g8, h⟩ := v_ifs h
  obtain ⟨z2, ez2, h⟩ := v_bnd h
  refine v_call1 (v := .int z2.1) (M1 := z2.2) (mc := 0) (ms := 0) (fun H locs hR hS => va_runV (As := [.int x1, .int 2]) (rest := []) ⟨hx, hb, hml, hown, hts⟩ (mX10_no l hfl D x0 x1 2 M1 z2 ez2) (cwV 2 hts (gdV kw1606 kw1608 kw65 kw85 kw1609) rfl rfl rfl (by decide +kernel) ⟨Nat.le_of_ble_eq_true rfl, Nat.le_of_ble_eq_true rfl⟩) (v_preV (ci := 11) hSS hR hS g8 (by decide) rfl [.int x1, .int 2]) rfl rfl hl.1 rfl (lv_room (Nat.le_of_ble_eq_true rfl)) dX10_noSlot_8 ⟨Nat.zero_le _, Nat.zero_le _⟩) ?_
  obtain ⟨g6, h⟩ := v_ifs h
  obtain rfl := Option.some.inj h
  rw [hQ]
  exact v_zret hx hb hr hlk (v_narZ g6) dX10_noSlot_11

def tX10_saveSnapshot (x0 : Nat) (x1 : Int32) (M : vMe) : Option (Int32 × vMe) :=
  if (M.1 x0).1 = 12 then
  ((tX10_noSlot x0 x1 M).bind fun z1 =>
  if z1.1 = 0 then
  ((gA z1.2 x0 12 21).bind fun a3 =>
  (aI z1.2 a3 103 x1).bind fun v4 =>
  (gA z1.2 x0 12 1).bind fun a5 =>
  (gA z1.2 x0 12 20).bind fun a6 =>
  (tX10_copies a5 0 a6 (1952 * x1) z1.2).bind fun z7 =>
  (gA z7.2 x0 12 21).bind fun a8 =>
  (sA z7.2 a8 103 x1 (.int (1 &&& 1))).bind fun M9 =>
  if fits .boolean (.int v4) = true then some (v4, M9) else none)
else
  (some (0, z1.2)))
else none
def rmX10_saveSnapshot : Room := { frames := 4, cells := 0, slots := 0, locals := 65 }
set_option maxHeartbeats 4000000 in
set_option maxRecDepth 100000 in
theorem mX10_saveSnapshot (l : Launch) (hfl : l.stackTraces = false) (D : vD) (x0 : Nat) (x1 : Int32) (M : vMe) (z : (Int32 × vMe)) (h : tX10_saveSnapshot x0 x1 M = some z) : Met l yX10_saveSnapshot (Cond.code yX10_saveSnapshot cX10_saveSnapshot 3 (some .boolean) :: TB) rmX10_saveSnapshot (va_Pc [.ref x0, .int x1] (vPre D M)) (qW D (some (.int z.1)) z.2) 0 0 (vA D) := by
  refine v_ofW (cc := cX10_saveSnapshot) (maxL := 3) (ret := (some .boolean)) (by decide) (Nat.le_of_ble_eq_true rfl) ?_
  intro p e s m args below meth c Q hx hb hr hml hown hts hlk hnm hSS hR0 hQ ls hl
  have hK := hSS.1
  have hl : lv_has ls 3 [(0, .ref x0), (1, .int x1)] := hl
  unfold tX10_saveSnapshot at h
  refine w_aload_n hx hb dX10_saveSnapshot_0 rfl (lv_at hl 0 rfl) ?_
  refine w_iload_n hx hb dX10_saveSnapshot_1 rfl (lv_at hl 1 rfl) ?_
  obtain ⟨g8, h⟩ := v_ifs h
  obtain ⟨z1, ez1, h⟩ := v_bnd h
  refine v_call1 (v := .int z1.1) (M1 := z1.2) (mc := 0) (ms := 0) (fun H locs hR hS => va_runV (As := [.int x1]) (rest := []) ⟨hx, hb, hml, hown, hts⟩ (mX10_noSlot l hfl D x0 x1 M z1 ez1) (cwV 1 hts (gdV kw1749 kw1751 kw75 kw85 kw1752) rfl rfl rfl (by decide +kernel) ⟨Nat.le_of_ble_eq_true rfl, Nat.le_of_ble_eq_true rfl⟩) (v_preV (ci := 11) hSS hR hS g8 (by decide) rfl [.int x1]) rfl rfl hl.1 rfl (lv_room (Nat.le_of_ble_eq_true rfl)) dX10_saveSnapshot_2 ⟨Nat.zero_le _, Nat.zero_le _⟩) ?_
  refine w_if_eq (tgt := 10) hx hb dX10_saveSnapshot_5 (by decide) (fun c2 => ?_) (fun c2 => ?_)
  · rw [if_pos c2] at h
    refine w_aload_n hx hb dX10_saveSnapshot_10 rfl (lv_at hl 0 rfl) ?_
    obtain ⟨a3, ea3, h⟩ := v_bnd h
    refine v_gA (ci := 11) hx hb hts iwX10 hown hK 21 ea3 rfl (by decide) (Or.inl (hts _ kw1356)) (fun _ h9 => h9) dX10_saveSnapshot_11 ?_
    refine w_iload_n hx hb dX10_saveSnapshot_14 rfl (lv_at hl 1 rfl) ?_
    obtain ⟨v4, ev4, h⟩ := v_bnd h
    refine v_zald hx hb hK ev4 dX10_saveSnapshot_15 ?_
    refine w_istore_n (lv' := [(2, .int v4), (0, .ref x0), (1, .int x1)]) hx hb dX10_saveSnapshot_16 rfl hl (by decide) rfl (fun ls hl => ?_)
    have hl : lv_has ls 3 [(0, .ref x0), (1, .int x1), (2, .int v4)] := lv_sub hl [1, 2, 0] rfl
    refine w_aload_n hx hb dX10_saveSnapshot_17 rfl (lv_at hl 0 rfl) ?_
    obtain ⟨a5, ea5, h⟩ := v_bnd h
    refine v_gA (ci := 11) hx hb hts iwX10 hown hK 1 ea5 rfl (by decide) (Or.inl (hts _ kw1336)) (fun _ h9 => h9) dX10_saveSnapshot_18 ?_
    refine w_iconst (v := 0) hx hb dX10_saveSnapshot_21 (by decide) ?_
    refine w_aload_n hx hb dX10_saveSnapshot_22 rfl (lv_at hl 0 rfl) ?_
    obtain ⟨a6, ea6, h⟩ := v_bnd h
    refine v_gA (ci := 11) hx hb hts iwX10 hown hK 20 ea6 rfl (by decide) (Or.inl (hts _ kw1355)) (fun _ h9 => h9) dX10_saveSnapshot_23 ?_
    refine w_sipush (v := 1952) hx hb dX10_saveSnapshot_26 (by decide) ?_
    refine w_iload_n hx hb dX10_saveSnapshot_29 rfl (lv_at hl 1 rfl) ?_
    refine w_imul hx hb dX10_saveSnapshot_30 ?_
    obtain ⟨z7, ez7, h⟩ := v_bnd h
    refine v_call0 (M1 := z7.2) (mc := 0) (ms := 0) (fun H locs hR hS => va_runS (As := [.ref a5, .int 0, .ref a6, .int (1952 * x1)]) (rest := []) ⟨hx, hb, hml, hown, hts⟩ (mX10_copies l hfl D a5 0 a6 (1952 * x1) z1.2 z7 ez7) (va_cwS 4 hts (gdS kw1426 kw1427 kw85 kw1428) rfl rfl rfl (by decide +kernel) ⟨Nat.le_of_ble_eq_true rfl, Nat.le_of_ble_eq_true rfl⟩) (v_preS hSS hR hS [.ref a5, .int 0, .ref a6, .int (1952 * x1)]) rfl rfl hl.1 rfl (lv_room (Nat.le_of_ble_eq_true rfl)) dX10_saveSnapshot_31 ⟨Nat.zero_le _, Nat.zero_le _⟩) ?_
    refine w_aload_n hx hb dX10_saveSnapshot_34 rfl (lv_at hl 0 rfl) ?_
    obtain ⟨a8, ea8, h⟩ := v_bnd h
    refine v_gA (ci := 11) hx hb hts iwX10 hown hK 21 ea8 rfl (by decide) (Or.inl (hts _ kw1356)) (fun _ h9 => h9) dX10_saveSnapshot_35 ?_
    refine w_iload_n hx hb dX10_saveSnapshot_38 rfl (lv_at hl 1 rfl) ?_
    refine w_iconst (v := 1) hx hb dX10_saveSnapshot_39 (by decide) ?_
    obtain ⟨M9, eM9, h⟩ := v_bnd h
    refine v_zast hx hb hK eM9 dX10_saveSnapshot_40 ?_
    refine w_iload_n hx hb dX10_saveSnapshot_41 rfl (lv_at hl 2 rfl) ?_
    obtain ⟨g6, h⟩ := v_ifs h
    obtain rfl := Option.some.inj h
    rw [hQ]
    exact v_zret hx hb hr hlk (v_narZ g6) dX10_saveSnapshot_42
  · rw [if_neg c2] at h
    refine w_iconst (v := 0) hx hb dX10_saveSnapshot_8 (by decide) ?_
    obtain rfl := Option.some.inj h
    rw [hQ]
    exact v_zret (x := 0) hx hb hr hlk rfl dX10_saveSnapshot_9

def tX10_restoreSnapshot_J23 (x0 : Nat) (x1 : Int32) (y0 : Nat) (y1 : Int32) (Mj : vMe) : Option (Int32 × vMe) :=
  if (Mj.1 y0).1 = 12 then
  ((tX10_throwsIf y0 y1 2 Mj).bind fun z6 =>
  if z6.1 = 0 then
  ((gA z6.2 x0 12 20).bind fun a8 =>
  (gA z6.2 x0 12 1).bind fun a9 =>
  (tX10_copies a8 (1952 * x1) a9 0 z6.2).bind fun z10 =>
  (sV z10.2 x0 12 18 (.int 0)).bind fun M11 =>
  (gA M11 x0 12 1).bind fun a12 =>
  (aI M11 a12 101 3).bind fun v13 =>
  some (v13, M11))
else
  (some (0, z6.2)))
else none
def tX10_restoreSnapshot (x0 : Nat) (x1 : Int32) (M : vMe) : Option (Int32 × vMe) :=
  if (M.1 x0).1 = 12 then
  ((tX10_noSlot x0 x1 M).bind fun z1 =>
  if z1.1 = 0 then
  ((gA z1.2 x0 12 21).bind fun a3 =>
  (aI z1.2 a3 103 x1).bind fun v4 =>
  if v4 = 0 then
  (tX10_restoreSnapshot_J23 x0 x1 x0 1 z1.2)
else
  (tX10_restoreSnapshot_J23 x0 x1 x0 0 z1.2))
else
  (some (0, z1.2)))
else none
def rmX10_restoreSnapshot : Room := { frames := 4, cells := 0, slots := 0, locals := 65 }
set_option maxHeartbeats 4000000 in
set_option maxRecDepth 100000 in
theorem mX10_restoreSnapshot (l : Launch) (hfl : l.stackTraces = false) (D : vD) (x0 : Nat) (x1 : Int32) (M : vMe) (z : (Int32 × vMe)) (h : tX10_restoreSnapshot x0 x1 M = some z) : Met l yX10_restoreSnapshot (Cond.code yX10_restoreSnapshot cX10_restoreSnapshot 2 (some .int) :: TB) rmX10_restoreSnapshot (va_Pc [.ref x0, .int x1] (vPre D M)) (qW D (some (.int z.1)) z.2) 0 0 (vA D) := by
  refine v_ofW (cc := cX10_restoreSnapshot) (maxL := 2) (ret := (some .int)) (by decide) (Nat.le_of_ble_eq_true rfl) ?_
  intro p e s m args below meth c Q hx hb hr hml hown hts hlk hnm hSS hR0 hQ ls hl
  have hK := hSS.1
  have hl : lv_has ls 2 [(0, .ref x0), (1, .int x1)] := hl
  unfold tX10_restoreSnapshot at h
  have X10_restoreSnapshot_J23p : ∀ (x0 : Nat) (x1 : Int32) (y0 : Nat) (y1 : Int32) (Mj : vMe) (ls : Array Slot), lv_has ls 2 [(0, .ref x0), (1, .int x1)] → tX10_restoreSnapshot_J23 x0 x1 y0 y1 Mj = some z → vV D p l e rmX10_restoreSnapshot s m args below meth c 0 0 Q Mj (F0 m 23 ls [.int y1, .ref y0]) := by
    intro x0 x1 y0 y1 Mj ls hl h
    unfold tX10_restoreSnapshot_J23 at h
    refine w_iconst (v := 2) hx hb dX10_restoreSnapshot_23 (by decide) ?_
    obtain ⟨g8, h⟩ := v_ifs h
    obtain ⟨z6, ez6, h⟩ := v_bnd h
    refine v_call1 (v := .int z6.1) (M1 := z6.2) (mc := 0) (ms := 0) (fun H locs hR hS => va_runV (As := [.int y1, .int 2]) (rest := []) ⟨hx, hb, hml, hown, hts⟩ (mX10_throwsIf l hfl D y0 y1 2 Mj z6 ez6) (cwV 2 hts (gdV kw1422 kw1424 kw28 kw85 kw1425) rfl rfl rfl (by decide +kernel) ⟨Nat.le_of_ble_eq_true rfl, Nat.le_of_ble_eq_true rfl⟩) (v_preV (ci := 11) hSS hR hS g8 (by decide) rfl [.int y1, .int 2]) rfl rfl hl.1 rfl (lv_room (Nat.le_of_ble_eq_true rfl)) dX10_restoreSnapshot_24 ⟨Nat.zero_le _, Nat.zero_le _⟩) ?_
    refine w_if_eq (tgt := 32) hx hb dX10_restoreSnapshot_27 (by decide) (fun c7 => ?_) (fun c7 => ?_)
    · rw [if_pos c7] at h
      refine w_aload_n hx hb dX10_restoreSnapshot_32 rfl (lv_at hl 0 rfl) ?_
      obtain ⟨a8, ea8, h⟩ := v_bnd h
      refine v_gA (ci := 11) hx hb hts iwX10 hown hK 20 ea8 rfl (by decide) (Or.inl (hts _ kw1355)) (fun _ h9 => h9) dX10_restoreSnapshot_33 ?_
      refine w_sipush (v := 1952) hx hb dX10_restoreSnapshot_36 (by decide) ?_
      refine w_iload_n hx hb dX10_restoreSnapshot_39 rfl (lv_at hl 1 rfl) ?_
      refine w_imul hx hb dX10_restoreSnapshot_40 ?_
      refine w_aload_n hx hb dX10_restoreSnapshot_41 rfl (lv_at hl 0 rfl) ?_
      obtain ⟨a9, ea9, h⟩ := v_bnd h
      refine v_gA (ci := 11) hx hb hts iwX10 hown hK 1 ea9 rfl (by decide) (Or.inl (hts _ kw1336)) (fun _ h9 => h9) dX10_restoreSnapshot_42 ?_
      refine w_iconst (v := 0) hx hb dX10_restoreSnapshot_45 (by decide) ?_
      obtain ⟨z10, ez10, h⟩ := v_bnd h
      refine v_call0 (M1 := z10.2) (mc := 0) (ms := 0) (fun H locs hR hS => va_runS (As := [.ref a8, .int (1952 * x1), .ref a9, .int 0]) (rest := []) ⟨hx, hb, hml, hown, hts⟩ (mX10_copies l hfl D a8 (1952 * x1) a9 0 z6.2 z10 ez10) (va_cwS 4 hts (gdS kw1426 kw1427 kw85 kw1428) rfl rfl rfl (by decide +kernel) ⟨Nat.le_of_ble_eq_true rfl, Nat.le_of_ble_eq_true rfl⟩) (v_preS hSS hR hS [.ref a8, .int (1952 * x1), .ref a9, .int 0]) rfl rfl hl.1 rfl (lv_room (Nat.le_of_ble_eq_true rfl)) dX10_restoreSnapshot_46 ⟨Nat.zero_le _, Nat.zero_le _⟩) ?_
      refine w_aload_n hx hb dX10_restoreSnapshot_49 rfl (lv_at hl 0 rfl) ?_
      refine w_iconst (v := 0) hx hb dX10_restoreSnapshot_50 (by decide) ?_
      obtain ⟨M11, eM11, h⟩ := v_bnd h
      refine v_putf (ci := 11) hx hb hts iwX10 hown hK tyX10_ok nmX10 18 eM11 rfl (by decide) (Or.inl (hts _ kw1353)) (fun _ h9 => h9) (Or.inl rfl) rfl rfl dX10_restoreSnapshot_51 ?_
      refine w_aload_n hx hb dX10_restoreSnapshot_54 rfl (lv_at hl 0 rfl) ?_
      obtain ⟨a12, ea12, h⟩ := v_bnd h
      refine v_gA (ci := 11) hx hb hts iwX10 hown hK 1 ea12 rfl (by decide) (Or.inl (hts _ kw1336)) (fun _ h9 => h9) dX10_restoreSnapshot_55 ?_
      refine w_iconst (v := 3) hx hb dX10_restoreSnapshot_58 (by decide) ?_
      obtain ⟨v13, ev13, h⟩ := v_bnd h
      refine v_iald hx hb hK ev13 dX10_restoreSnapshot_59 ?_
      obtain rfl := Option.some.inj h
      rw [hQ]
      exact v_iret hx hb hr hlk dX10_restoreSnapshot_60
    · rw [if_neg c7] at h
      refine w_iconst (v := 0) hx hb dX10_restoreSnapshot_30 (by decide) ?_
      obtain rfl := Option.some.inj h
      rw [hQ]
      exact v_iret hx hb hr hlk dX10_restoreSnapshot_31
  refine w_aload_n hx hb dX10_restoreSnapshot_0 rfl (lv_at hl 0 rfl) ?_
  refine w_iload_n hx hb dX10_restoreSnapshot_1 rfl (lv_at hl 1 rfl) ?_
  obtain ⟨g8, h⟩ := v_ifs h
  obtain ⟨z1, ez1, h⟩ := v_bnd h
  refine v_call1 (v := .int z1.1) (M1 := z1.2) (mc := 0) (ms := 0) (fun H locs hR hS => va_runV (As := [.int x1]) (rest := []) ⟨hx, hb, hml, hown, hts⟩ (mX10_noSlot l hfl D x0 x1 M z1 ez1) (cwV 1 hts (gdV kw1749 kw1751 kw75 kw85 kw1752) rfl rfl rfl (by decide +kernel) ⟨Nat.le_of_ble_eq_true rfl, Nat.le_of_ble_eq_true rfl⟩) (v_preV (ci := 11) hSS hR hS g8 (by decide) rfl [.int x1]) rfl rfl hl.1 rfl (lv_room (Nat.le_of_ble_eq_true rfl)) dX10_restoreSnapshot_2 ⟨Nat.zero_le _, Nat.zero_le _⟩) ?_
  refine w_if_ne (tgt := 30) hx hb dX10_restoreSnapshot_5 (by decide) (fun c2 => ?_) (fun c2 => ?_)
  · rw [if_pos c2] at h
    refine w_aload_n hx hb dX10_restoreSnapshot_8 rfl (lv_at hl 0 rfl) ?_
    refine w_aload_n hx hb dX10_restoreSnapshot_9 rfl (lv_at hl 0 rfl) ?_
    obtain ⟨a3, ea3, h⟩ := v_bnd h
    refine v_gA (ci := 11) hx hb hts iwX10 hown hK 21 ea3 rfl (by decide) (Or.inl (hts _ kw1356)) (fun _ h9 => h9) dX10_restoreSnapshot_10 ?_
    refine w_iload_n hx hb dX10_restoreSnapshot_13 rfl (lv_at hl 1 rfl) ?_
    obtain ⟨v4, ev4, h⟩ := v_bnd h
    refine v_zald hx hb hK ev4 dX10_restoreSnapshot_14 ?_
    refine w_if_ne (tgt := 22) hx hb dX10_restoreSnapshot_15 (by decide) (fun c5 => ?_) (fun c5 => ?_)
    · rw [if_pos c5] at h
      refine w_iconst (v := 1) hx hb dX10_restoreSnapshot_18 (by decide) ?_
      refine w_goto (tgt := 23) hx hb dX10_restoreSnapshot_19 (by decide) ?_
      exact X10_restoreSnapshot_J23p x0 x1 x0 1 z1.2 ls (lv_sub hl [0, 1] rfl) h
    · rw [if_neg c5] at h
      refine w_iconst (v := 0) hx hb dX10_restoreSnapshot_22 (by decide) ?_
      exact X10_restoreSnapshot_J23p x0 x1 x0 0 z1.2 ls (lv_sub hl [0, 1] rfl) h
  · rw [if_neg c2] at h
    refine w_iconst (v := 0) hx hb dX10_restoreSnapshot_30 (by decide) ?_
    obtain rfl := Option.some.inj h
    rw [hQ]
    exact v_iret hx hb hr hlk dX10_restoreSnapshot_31
