def tX0_init (x0 : Nat) (M : vMe) : Option (Unit × vMe) :=
  some ((), M)
def rmX0_init : Room := { frames := 1, cells := 0, slots := 0, locals := 60 }
set_option maxHeartbeats 4000000 in
set_option maxRecDepth 100000 in
theorem mX0_init (l : Launch) (hfl : l.stackTraces = false) (D : vD) (x0 : Nat) (M : vMe) (z : (Unit × vMe)) (h : tX0_init x0 M = some z) : Met l yX0_init (Cond.code yX0_init cX0_init 1 none :: TB) rmX0_init (va_Pc [.ref x0] (vPre D M)) (qW D none z.2) 0 0 (vA D) := by
  refine v_ofW (cc := cX0_init) (maxL := 1) (ret := none) (by decide) (Nat.le_of_ble_eq_true rfl) ?_
  intro p e s m args below meth c Q hx hb hr hml hown hts hlk hnm hSS hR0 hQ ls hl
  have hK := hSS.1
  have hl : lv_has ls 1 [(0, .ref x0)] := hl
  unfold tX0_init at h
  refine w_aload_n hx hb dX0_init_0 rfl (lv_at hl 0 rfl) ?_
  refine v_objInit hx hb hown (hts _ kw204) (hts _ kw66) (hts _ kw67) (hl.1.trans hml.symm) dX0_init_1 (Nat.le_of_ble_eq_true rfl) (Nat.le_of_ble_eq_true rfl) ?_
  obtain rfl := Option.some.inj h
  rw [hQ]
  exact v_vret hx hb hr hlk dX0_init_4

def tX0_begin (x0 : Nat) (x1 : Int32) (x2 : Int32) (x3 : Int32) (M : vMe) : Option (Unit × vMe) :=
  (sV M x0 3 0 (.int 1)).bind fun M1 =>
  (sV M1 x0 3 1 (.int 1)).bind fun M2 =>
  if fits .boolean (.int x2) = true then
  ((sV M2 x0 3 2 (.int x2)).bind fun M3 =>
  (sV M3 x0 3 3 (.int x1)).bind fun M4 =>
  (sV M4 x0 3 4 (.int 0)).bind fun M5 =>
  (sV M5 x0 3 5 (.int x3)).bind fun M6 =>
  (sV M6 x0 3 6 (.int 0)).bind fun M7 =>
  (sV M7 x0 3 7 (.int ((-1)))).bind fun M8 =>
  some ((), M8))
else none
def rmX0_begin : Room := { frames := 1, cells := 0, slots := 0, locals := 0 }
set_option maxHeartbeats 4000000 in
set_option maxRecDepth 100000 in
theorem mX0_begin (l : Launch) (hfl : l.stackTraces = false) (D : vD) (x0 : Nat) (x1 : Int32) (x2 : Int32) (x3 : Int32) (M : vMe) (z : (Unit × vMe)) (h : tX0_begin x0 x1 x2 x3 M = some z) : Met l yX0_begin (Cond.code yX0_begin cX0_begin 4 none :: TB) rmX0_begin (va_Pc [.ref x0, .int x1, .int x2, .int x3] (vPre D M)) (qW D none z.2) 0 0 (vA D) := by
  refine v_ofW (cc := cX0_begin) (maxL := 4) (ret := none) (by decide) (Nat.le_of_ble_eq_true rfl) ?_
  intro p e s m args below meth c Q hx hb hr hml hown hts hlk hnm hSS hR0 hQ ls hl
  have hK := hSS.1
  have hl : lv_has ls 4 [(0, .ref x0), (1, .int x1), (2, .int x2), (3, .int x3)] := hl
  unfold tX0_begin at h
  refine w_aload_n hx hb dX0_begin_0 rfl (lv_at hl 0 rfl) ?_
  refine w_iconst (v := 1) hx hb dX0_begin_1 (by decide) ?_
  obtain ⟨M1, eM1, h⟩ := v_bnd h
  refine v_putf (ci := 2) hx hb hts iwX0 hown hK tyX0_ok nmX0 0 eM1 rfl (by decide) (Or.inl (hts _ kw205)) (fun _ h9 => h9) (Or.inl rfl) (by decide) (by decide) dX0_begin_2 ?_
  refine w_aload_n hx hb dX0_begin_5 rfl (lv_at hl 0 rfl) ?_
  refine w_iconst (v := 1) hx hb dX0_begin_6 (by decide) ?_
  obtain ⟨M2, eM2, h⟩ := v_bnd h
  refine v_putf (ci := 2) hx hb hts iwX0 hown hK tyX0_ok nmX0 1 eM2 rfl (by decide) (Or.inl (hts _ kw208)) (fun _ h9 => h9) (Or.inl rfl) (by decide) (by decide) dX0_begin_7 ?_
  refine w_aload_n hx hb dX0_begin_10 rfl (lv_at hl 0 rfl) ?_
  refine w_iload_n hx hb dX0_begin_11 rfl (lv_at hl 2 rfl) ?_
  obtain ⟨g9, h⟩ := v_ifs h
  obtain ⟨M3, eM3, h⟩ := v_bnd h
  refine v_putf (ci := 2) hx hb hts iwX0 hown hK tyX0_ok nmX0 2 eM3 rfl (by decide) (Or.inl (hts _ kw211)) (fun _ h9 => h9) (Or.inl rfl) (v_narZ g9) g9 dX0_begin_12 ?_
  refine w_aload_n hx hb dX0_begin_15 rfl (lv_at hl 0 rfl) ?_
  refine w_iload_n hx hb dX0_begin_16 rfl (lv_at hl 1 rfl) ?_
  obtain ⟨M4, eM4, h⟩ := v_bnd h
  refine v_putf (ci := 2) hx hb hts iwX0 hown hK tyX0_ok nmX0 3 eM4 rfl (by decide) (Or.inl (hts _ kw213)) (fun _ h9 => h9) (Or.inl rfl) rfl rfl dX0_begin_17 ?_
  refine w_aload_n hx hb dX0_begin_20 rfl (lv_at hl 0 rfl) ?_
  refine w_iconst (v := 0) hx hb dX0_begin_21 (by decide) ?_
  obtain ⟨M5, eM5, h⟩ := v_bnd h
  refine v_putf (ci := 2) hx hb hts iwX0 hown hK tyX0_ok nmX0 4 eM5 rfl (by decide) (Or.inl (hts _ kw216)) (fun _ h9 => h9) (Or.inl rfl) rfl rfl dX0_begin_22 ?_
  refine w_aload_n hx hb dX0_begin_25 rfl (lv_at hl 0 rfl) ?_
  refine w_iload_n hx hb dX0_begin_26 rfl (lv_at hl 3 rfl) ?_
  obtain ⟨M6, eM6, h⟩ := v_bnd h
  refine v_putf (ci := 2) hx hb hts iwX0 hown hK tyX0_ok nmX0 5 eM6 rfl (by decide) (Or.inl (hts _ kw219)) (fun _ h9 => h9) (Or.inl rfl) rfl rfl dX0_begin_27 ?_
  refine w_aload_n hx hb dX0_begin_30 rfl (lv_at hl 0 rfl) ?_
  refine w_iconst (v := 0) hx hb dX0_begin_31 (by decide) ?_
  obtain ⟨M7, eM7, h⟩ := v_bnd h
  refine v_putf (ci := 2) hx hb hts iwX0 hown hK tyX0_ok nmX0 6 eM7 rfl (by decide) (Or.inl (hts _ kw221)) (fun _ h9 => h9) (Or.inl rfl) rfl rfl dX0_begin_32 ?_
  refine w_aload_n hx hb dX0_begin_35 rfl (lv_at hl 0 rfl) ?_
  refine w_iconst (v := (-1)) hx hb dX0_begin_36 (by decide) ?_
  obtain ⟨M8, eM8, h⟩ := v_bnd h
  refine v_putf (ci := 2) hx hb hts iwX0 hown hK tyX0_ok nmX0 7 eM8 rfl (by decide) (Or.inl (hts _ kw224)) (fun _ h9 => h9) (Or.inl rfl) rfl rfl dX0_begin_37 ?_
  obtain rfl := Option.some.inj h
  rw [hQ]
  exact v_vret hx hb hr hlk dX0_begin_40

def tX0_copyFrom (x0 : Nat) (x1 : Nat) (M : vMe) : Option (Unit × vMe) :=
  (gI M x1 3 0).bind fun v1 =>
  if fits .boolean (.int v1) = true then
  ((sV M x0 3 0 (.int v1)).bind fun M2 =>
  (gI M2 x1 3 1).bind fun v3 =>
  if fits .boolean (.int v3) = true then
  ((sV M2 x0 3 1 (.int v3)).bind fun M4 =>
  (gI M4 x1 3 2).bind fun v5 =>
  if fits .boolean (.int v5) = true then
  ((sV M4 x0 3 2 (.int v5)).bind fun M6 =>
  (gI M6 x1 3 3).bind fun v7 =>
  (sV M6 x0 3 3 (.int v7)).bind fun M8 =>
  (gI M8 x1 3 4).bind fun v9 =>
  (sV M8 x0 3 4 (.int v9)).bind fun M10 =>
  (gI M10 x1 3 5).bind fun v11 =>
  (sV M10 x0 3 5 (.int v11)).bind fun M12 =>
  (gI M12 x1 3 6).bind fun v13 =>
  (sV M12 x0 3 6 (.int v13)).bind fun M14 =>
  (gI M14 x1 3 7).bind fun v15 =>
  (sV M14 x0 3 7 (.int v15)).bind fun M16 =>
  some ((), M16))
else none)
else none)
else none
def rmX0_copyFrom : Room := { frames := 1, cells := 0, slots := 0, locals := 0 }
set_option maxHeartbeats 4000000 in
set_option maxRecDepth 100000 in
theorem mX0_copyFrom (l : Launch) (hfl : l.stackTraces = false) (D : vD) (x0 : Nat) (x1 : Nat) (M : vMe) (z : (Unit × vMe)) (h : tX0_copyFrom x0 x1 M = some z) : Met l yX0_copyFrom (Cond.code yX0_copyFrom cX0_copyFrom 2 none :: TB) rmX0_copyFrom (va_Pc [.ref x0, .ref x1] (vPre D M)) (qW D none z.2) 0 0 (vA D) := by
  refine v_ofW (cc := cX0_copyFrom) (maxL := 2) (ret := none) (by decide) (Nat.le_of_ble_eq_true rfl) ?_
  intro p e s m args below meth c Q hx hb hr hml hown hts hlk hnm hSS hR0 hQ ls hl
  have hK := hSS.1
  have hl : lv_has ls 2 [(0, .ref x0), (1, .ref x1)] := hl
  unfold tX0_copyFrom at h
  refine w_aload_n hx hb dX0_copyFrom_0 rfl (lv_at hl 0 rfl) ?_
  refine w_aload_n hx hb dX0_copyFrom_1 rfl (lv_at hl 1 rfl) ?_
  obtain ⟨v1, ev1, h⟩ := v_bnd h
  refine v_gI (ci := 2) hx hb hts iwX0 hown hK 0 ev1 rfl (by decide) (Or.inl (hts _ kw205)) (fun _ h9 => h9) dX0_copyFrom_2 ?_
  obtain ⟨g9, h⟩ := v_ifs h
  obtain ⟨M2, eM2, h⟩ := v_bnd h
  refine v_putf (ci := 2) hx hb hts iwX0 hown hK tyX0_ok nmX0 0 eM2 rfl (by decide) (Or.inl (hts _ kw205)) (fun _ h9 => h9) (Or.inl rfl) (v_narZ g9) g9 dX0_copyFrom_5 ?_
  refine w_aload_n hx hb dX0_copyFrom_8 rfl (lv_at hl 0 rfl) ?_
  refine w_aload_n hx hb dX0_copyFrom_9 rfl (lv_at hl 1 rfl) ?_
  obtain ⟨v3, ev3, h⟩ := v_bnd h
  refine v_gI (ci := 2) hx hb hts iwX0 hown hK 1 ev3 rfl (by decide) (Or.inl (hts _ kw208)) (fun _ h9 => h9) dX0_copyFrom_10 ?_
  obtain ⟨g9, h⟩ := v_ifs h
  obtain ⟨M4, eM4, h⟩ := v_bnd h
  refine v_putf (ci := 2) hx hb hts iwX0 hown hK tyX0_ok nmX0 1 eM4 rfl (by decide) (Or.inl (hts _ kw208)) (fun _ h9 => h9) (Or.inl rfl) (v_narZ g9) g9 dX0_copyFrom_13 ?_
  refine w_aload_n hx hb dX0_copyFrom_16 rfl (lv_at hl 0 rfl) ?_
  refine w_aload_n hx hb dX0_copyFrom_17 rfl (lv_at hl 1 rfl) ?_
  obtain ⟨v5, ev5, h⟩ := v_bnd h
  refine v_gI (ci := 2) hx hb hts iwX0 hown hK 2 ev5 rfl (by decide) (Or.inl (hts _ kw211)) (fun _ h9 => h9) dX0_copyFrom_18 ?_
  obtain ⟨g9, h⟩ := v_ifs h
  obtain ⟨M6, eM6, h⟩ := v_bnd h
  refine v_putf (ci := 2) hx hb hts iwX0 hown hK tyX0_ok nmX0 2 eM6 rfl (by decide) (Or.inl (hts _ kw211)) (fun _ h9 => h9) (Or.inl rfl) (v_narZ g9) g9 dX0_copyFrom_21 ?_
  refine w_aload_n hx hb dX0_copyFrom_24 rfl (lv_at hl 0 rfl) ?_
  refine w_aload_n hx hb dX0_copyFrom_25 rfl (lv_at hl 1 rfl) ?_
  obtain ⟨v7, ev7, h⟩ := v_bnd h
  refine v_gI (ci := 2) hx hb hts iwX0 hown hK 3 ev7 rfl (by decide) (Or.inl (hts _ kw213)) (fun _ h9 => h9) dX0_copyFrom_26 ?_
  obtain ⟨M8, eM8, h⟩ := v_bnd h
  refine v_putf (ci := 2) hx hb hts iwX0 hown hK tyX0_ok nmX0 3 eM8 rfl (by decide) (Or.inl (hts _ kw213)) (fun _ h9 => h9) (Or.inl rfl) rfl rfl dX0_copyFrom_29 ?_
  refine w_aload_n hx hb dX0_copyFrom_32 rfl (lv_at hl 0 rfl) ?_
  refine w_aload_n hx hb dX0_copyFrom_33 rfl (lv_at hl 1 rfl) ?_
  obtain ⟨v9, ev9, h⟩ := v_bnd h
  refine v_gI (ci := 2) hx hb hts iwX0 hown hK 4 ev9 rfl (by decide) (Or.inl (hts _ kw216)) (fun _ h9 => h9) dX0_copyFrom_34 ?_
  obtain ⟨M10, eM10, h⟩ := v_bnd h
  refine v_putf (ci := 2) hx hb hts iwX0 hown hK tyX0_ok nmX0 4 eM10 rfl (by decide) (Or.inl (hts _ kw216)) (fun _ h9 => h9) (Or.inl rfl) rfl rfl dX0_copyFrom_37 ?_
  refine w_aload_n hx hb dX0_copyFrom_40 rfl (lv_at hl 0 rfl) ?_
  refine w_aload_n hx hb dX0_copyFrom_41 rfl (lv_at hl 1 rfl) ?_
  obtain ⟨v11, ev11, h⟩ := v_bnd h
  refine v_gI (ci := 2) hx hb hts iwX0 hown hK 5 ev11 rfl (by decide) (Or.inl (hts _ kw219)) (fun _ h9 => h9) dX0_copyFrom_42 ?_
  obtain ⟨M12, eM12, h⟩ := v_bnd h
  refine v_putf (ci := 2) hx hb hts iwX0 hown hK tyX0_ok nmX0 5 eM12 rfl (by decide) (Or.inl (hts _ kw219)) (fun _ h9 => h9) (Or.inl rfl) rfl rfl dX0_copyFrom_45 ?_
  refine w_aload_n hx hb dX0_copyFrom_48 rfl (lv_at hl 0 rfl) ?_
  refine w_aload_n hx hb dX0_copyFrom_49 rfl (lv_at hl 1 rfl) ?_
  obtain ⟨v13, ev13, h⟩ := v_bnd h
  refine v_gI (ci := 2) hx hb hts iwX0 hown hK 6 ev13 rfl (by decide) (Or.inl (hts _ kw221)) (fun _ h9 => h9) dX0_copyFrom_50 ?_
  obtain ⟨M14, eM14, h⟩ := v_bnd h
  refine v_putf (ci := 2) hx hb hts iwX0 hown hK tyX0_ok nmX0 6 eM14 rfl (by decide) (Or.inl (hts _ kw221)) (fun _ h9 => h9) (Or.inl rfl) rfl rfl dX0_copyFrom_53 ?_
  refine w_aload_n hx hb dX0_copyFrom_56 rfl (lv_at hl 0 rfl) ?_
  refine w_aload_n hx hb dX0_copyFrom_57 rfl (lv_at hl 1 rfl) ?_
  obtain ⟨v15, ev15, h⟩ := v_bnd h
  refine v_gI (ci := 2) hx hb hts iwX0 hown hK 7 ev15 rfl (by decide) (Or.inl (hts _ kw224)) (fun _ h9 => h9) dX0_copyFrom_58 ?_
  obtain ⟨M16, eM16, h⟩ := v_bnd h
  refine v_putf (ci := 2) hx hb hts iwX0 hown hK tyX0_ok nmX0 7 eM16 rfl (by decide) (Or.inl (hts _ kw224)) (fun _ h9 => h9) (Or.inl rfl) rfl rfl dX0_copyFrom_61 ?_
  obtain rfl := Option.some.inj h
  rw [hQ]
  exact v_vret hx hb hr hlk dX0_copyFrom_64

def tX0_isOpenOn (x0 : Nat) (x1 : Int32) (M : vMe) : Option Int32 :=
  (gI M x0 3 1).bind fun v1 =>
  if v1 = 0 then
  (some 0)
else
  ((gI M x0 3 3).bind fun v3 =>
  if v3 = x1 then
  (some 1)
else
  (some 0))
def rmX0_isOpenOn : Room := { frames := 1, cells := 0, slots := 0, locals := 0 }
set_option maxHeartbeats 4000000 in
set_option maxRecDepth 100000 in
theorem mX0_isOpenOn (l : Launch) (hfl : l.stackTraces = false) (D : vD) (x0 : Nat) (x1 : Int32) (M : vMe) (z : Int32) (h : tX0_isOpenOn x0 x1 M = some z) : Met l yX0_isOpenOn (Cond.code yX0_isOpenOn cX0_isOpenOn 2 (some .boolean) :: TB) rmX0_isOpenOn (va_Pc [.ref x0, .int x1] (vPre D M)) (qW D (some (.int z)) M) 0 0 (vA D) := by
  refine v_ofW (cc := cX0_isOpenOn) (maxL := 2) (ret := (some .boolean)) (by decide) (Nat.le_of_ble_eq_true rfl) ?_
  intro p e s m args below meth c Q hx hb hr hml hown hts hlk hnm hSS hR0 hQ ls hl
  have hK := hSS.1
  have hl : lv_has ls 2 [(0, .ref x0), (1, .int x1)] := hl
  unfold tX0_isOpenOn at h
  refine w_aload_n hx hb dX0_isOpenOn_0 rfl (lv_at hl 0 rfl) ?_
  obtain ⟨v1, ev1, h⟩ := v_bnd h
  refine v_gI (ci := 2) hx hb hts iwX0 hown hK 1 ev1 rfl (by decide) (Or.inl (hts _ kw208)) (fun _ h9 => h9) dX0_isOpenOn_1 ?_
  refine w_if_eq (tgt := 19) hx hb dX0_isOpenOn_4 (by decide) (fun c2 => ?_) (fun c2 => ?_)
  · rw [if_pos c2] at h
    refine w_iconst (v := 0) hx hb dX0_isOpenOn_19 (by decide) ?_
    obtain rfl := Option.some.inj h
    rw [hQ]
    exact v_zret (x := 0) hx hb hr hlk rfl dX0_isOpenOn_20
  · rw [if_neg c2] at h
    refine w_aload_n hx hb dX0_isOpenOn_7 rfl (lv_at hl 0 rfl) ?_
    obtain ⟨v3, ev3, h⟩ := v_bnd h
    refine v_gI (ci := 2) hx hb hts iwX0 hown hK 3 ev3 rfl (by decide) (Or.inl (hts _ kw213)) (fun _ h9 => h9) dX0_isOpenOn_8 ?_
    refine w_iload_n hx hb dX0_isOpenOn_11 rfl (lv_at hl 1 rfl) ?_
    refine w_icmp_ne (tgt := 19) hx hb dX0_isOpenOn_12 (by decide) (fun c4 => ?_) (fun c4 => ?_)
    · rw [if_pos c4] at h
      refine w_iconst (v := 1) hx hb dX0_isOpenOn_15 (by decide) ?_
      refine w_goto (tgt := 20) hx hb dX0_isOpenOn_16 (by decide) ?_
      obtain rfl := Option.some.inj h
      rw [hQ]
      exact v_zret (x := 1) hx hb hr hlk rfl dX0_isOpenOn_20
    · rw [if_neg c4] at h
      refine w_iconst (v := 0) hx hb dX0_isOpenOn_19 (by decide) ?_
      obtain rfl := Option.some.inj h
      rw [hQ]
      exact v_zret (x := 0) hx hb hr hlk rfl dX0_isOpenOn_20

def tX0_meets (x0 : Nat) (x1 : Int32) (M : vMe) : Option Int32 :=
  (gI M x0 3 2).bind fun v1 =>
  if v1 = 0 then
  (some 1)
else
  ((gI M x0 3 5).bind fun v3 =>
  if v3 < x1 then
  (some 0)
else
  (some 1))
def rmX0_meets : Room := { frames := 1, cells := 0, slots := 0, locals := 0 }
set_option maxHeartbeats 4000000 in
set_option maxRecDepth 100000 in
theorem mX0_meets (l : Launch) (hfl : l.stackTraces = false) (D : vD) (x0 : Nat) (x1 : Int32) (M : vMe) (z : Int32) (h : tX0_meets x0 x1 M = some z) : Met l yX0_meets (Cond.code yX0_meets cX0_meets 2 (some .boolean) :: TB) rmX0_meets (va_Pc [.ref x0, .int x1] (vPre D M)) (qW D (some (.int z)) M) 0 0 (vA D) := by
  refine v_ofW (cc := cX0_meets) (maxL := 2) (ret := (some .boolean)) (by decide) (Nat.le_of_ble_eq_true rfl) ?_
  intro p e s m args below meth c Q hx hb hr hml hown hts hlk hnm hSS hR0 hQ ls hl
  have hK := hSS.1
  have hl : lv_has ls 2 [(0, .ref x0), (1, .int x1)] := hl
  unfold tX0_meets at h
  refine w_aload_n hx hb dX0_meets_0 rfl (lv_at hl 0 rfl) ?_
  obtain ⟨v1, ev1, h⟩ := v_bnd h
  refine v_gI (ci := 2) hx hb hts iwX0 hown hK 2 ev1 rfl (by decide) (Or.inl (hts _ kw211)) (fun _ h9 => h9) dX0_meets_1 ?_
  refine w_if_eq (tgt := 15) hx hb dX0_meets_4 (by decide) (fun c2 => ?_) (fun c2 => ?_)
  · rw [if_pos c2] at h
    refine w_iconst (v := 1) hx hb dX0_meets_15 (by decide) ?_
    refine w_goto (tgt := 20) hx hb dX0_meets_16 (by decide) ?_
    obtain rfl := Option.some.inj h
    rw [hQ]
    exact v_zret (x := 1) hx hb hr hlk rfl dX0_meets_20
  · rw [if_neg c2] at h
    refine w_iload_n hx hb dX0_meets_7 rfl (lv_at hl 1 rfl) ?_
    refine w_aload_n hx hb dX0_meets_8 rfl (lv_at hl 0 rfl) ?_
    obtain ⟨v3, ev3, h⟩ := v_bnd h
    refine v_gI (ci := 2) hx hb hts iwX0 hown hK 5 ev3 rfl (by decide) (Or.inl (hts _ kw219)) (fun _ h9 => h9) dX0_meets_9 ?_
    refine w_icmp_gt (tgt := 19) hx hb dX0_meets_12 (by decide) (fun c4 => ?_) (fun c4 => ?_)
    · rw [if_pos c4] at h
      refine w_iconst (v := 0) hx hb dX0_meets_19 (by decide) ?_
      obtain rfl := Option.some.inj h
      rw [hQ]
      exact v_zret (x := 0) hx hb hr hlk rfl dX0_meets_20
    · rw [if_neg c4] at h
      refine w_iconst (v := 1) hx hb dX0_meets_15 (by decide) ?_
      refine w_goto (tgt := 20) hx hb dX0_meets_16 (by decide) ?_
      obtain rfl := Option.some.inj h
      rw [hQ]
      exact v_zret (x := 1) hx hb hr hlk rfl dX0_meets_20

def tX1_init (x0 : Nat) (M : vMe) : Option (Unit × vMe) :=
  (nwO M 102 600 600 (fun _ => .int 0) M.2.1 M.2.2.1 1 600).bind fun M1 =>
  (sV M1 x0 4 0 (.ref M.2.1)).bind fun M2 =>
  if M2.2.1 ≤ M.2.1 + 1 ∧ M2.2.2.1 ≤ M.2.2.1 + 600 then some ((), M2) else none
def rmX1_init : Room := { frames := 1, cells := 1, slots := 600, locals := 60 }
set_option maxHeartbeats 4000000 in
set_option maxRecDepth 100000 in
theorem mX1_init (l : Launch) (hfl : l.stackTraces = false) (D : vD) (x0 : Nat) (M : vMe) (z : (Unit × vMe)) (h : tX1_init x0 M = some z) : Met l yX1_init (Cond.code yX1_init cX1_init 1 none :: TB) rmX1_init (va_Pc [.ref x0] (vPre D M)) (qW D none z.2) 1 600 (vA D) := by
  refine v_ofW (cc := cX1_init) (maxL := 1) (ret := none) (by decide) (Nat.le_of_ble_eq_true rfl) ?_
  intro p e s m args below meth c Q hx hb hr hml hown hts hlk hnm hSS hR0 hQ ls hl
  have hz0 := hR0.2.1
  have hs0 := hR0.2.2.1
  have hb0 : D.2.2.2.1 ≤ s.heap.size := hR0.2.2.2.2.1
  refine v_tight hb0 ?_
  have hK := hSS.1
  have hl : lv_has ls 1 [(0, .ref x0)] := hl
  unfold tX1_init at h
  refine w_aload_n hx hb dX1_init_0 rfl (lv_at hl 0 rfl) ?_
  refine v_objInit hx hb hown (hts _ kw73) (hts _ kw66) (hts _ kw67) (hl.1.trans hml.symm) dX1_init_1 (Nat.le_of_ble_eq_true rfl) (Nat.le_of_ble_eq_true rfl) ?_
  refine w_aload_n hx hb dX1_init_4 rfl (lv_at hl 0 rfl) ?_
  refine w_sipush (v := 600) hx hb dX1_init_5 (by decide) ?_
  obtain ⟨M1, eM1, h⟩ := v_bnd h
  refine u_newa (x := 600) (atype := .byte) hx hb hK (hts _ kw83) (by decide) (by decide) rfl (by decide) (by decide) (by decide) hb0 hz0 hs0 rfl rfl eM1 dX1_init_8 ?_
  obtain ⟨M2, eM2, h⟩ := v_bnd h
  refine v_putf (ci := 3) hx hb hts iwX1 hown hK tyX1_ok nmX1 0 eM2 rfl (by decide) (Or.inl (hts _ kw74)) (fun _ h9 => h9) (Or.inr ⟨rfl, hnm, rfl, (hts _ kw74)⟩) rfl rfl dX1_init_10 ?_
  obtain ⟨g9, h⟩ := v_ifs h
  refine v_tight hb0 (vV.widen (n' := 1) (k' := 600) (by omega) (by omega) ?_)
  obtain rfl := Option.some.inj h
  rw [hQ]
  exact v_vret hx hb hr hlk dX1_init_13

def tX1_takeFourBytes_L3 (x0 : Nat) (x1 : Int32) : Nat → Int32 → vMe → Option (Unit × vMe)
  | 0, _, _ => none
  | f + 1, x2, Mi =>
  if x2 < 0 then
  (some ((), Mi))
else
  ((gI Mi x0 4 1).bind fun v10 =>
  if (600 : Int32) ≤ v10 then
  (some ((), Mi))
else
  ((gA Mi x0 4 0).bind fun a12 =>
  (gI Mi x0 4 1).bind fun v13 =>
  (sA Mi a12 102 v13 (.int ((x1 >>> (x2 &&& 31)).toInt8.toInt32).toInt8.toInt32)).bind fun M14 =>
  (gI M14 x0 4 1).bind fun v15 =>
  (sV M14 x0 4 1 (.int (v15 + 1))).bind fun M16 =>
  tX1_takeFourBytes_L3 x0 x1 f (x2 + (-8)) M16))
def tX1_takeFourBytes (x0 : Nat) (x1 : Int32) (M : vMe) : Option (Unit × vMe) :=
  (tX1_takeFourBytes_L3 x0 x1 vF 24 M).bind fun z17 =>
  some ((), z17.2)
def rmX1_takeFourBytes : Room := { frames := 1, cells := 0, slots := 0, locals := 0 }
set_option maxHeartbeats 4000000 in
set_option maxRecDepth 100000 in
theorem mX1_takeFourBytes (l : Launch) (hfl : l.stackTraces = false) (D : vD) (x0 : Nat) (x1 : Int32) (M : vMe) (z : (Unit × vMe)) (h : tX1_takeFourBytes x0 x1 M = some z) : Met l yX1_takeFourBytes (Cond.code yX1_takeFourBytes cX1_takeFourBytes 3 none :: TB) rmX1_takeFourBytes (va_Pc [.ref x0, .int x1] (vPre D M)) (qW D none z.2) 0 0 (vA D) := by
  refine v_ofW (cc := cX1_takeFourBytes) (maxL := 3) (ret := none) (by decide) (Nat.le_of_ble_eq_true rfl) ?_
  intro p e s m args below meth c Q hx hb hr hml hown hts hlk hnm hSS hR0 hQ ls hl
  have hK := hSS.1
  have hl : lv_has ls 3 [(0, .ref x0), (1, .int x1)] := hl
  unfold tX1_takeFourBytes at h
  have X1_takeFourBytes_L3p : ∀ (x0 : Nat) (x1 : Int32), ∀ (f : Nat) (x2 : Int32) (Mi : vMe) (ls : Array Slot) (z : (Unit × vMe)), lv_has ls 3 [(0, .ref x0), (1, .int x1), (2, .int x2)] → tX1_takeFourBytes_L3 x0 x1 f x2 Mi = some z → (∀ ls : Array Slot, lv_has ls 3 [] → vV D p l e rmX1_takeFourBytes s m args below meth c 0 0 Q z.2 (F0 m 46 ls [])) → vV D p l e rmX1_takeFourBytes s m args below meth c 0 0 Q Mi (F0 m 3 ls []) := by
    intro x0 x1 f
    induction f with
    | zero =>
      intro x2 Mi ls z hl h
      exact absurd h (by simp [tX1_takeFourBytes_L3])
    | succ f ih =>
      intro x2 Mi ls z hl h KX
      rw [tX1_takeFourBytes_L3] at h
      refine w_iload_n hx hb dX1_takeFourBytes_3 rfl (lv_at hl 2 rfl) ?_
      refine w_if_lt (tgt := 46) hx hb dX1_takeFourBytes_4 (by decide) (fun c9 => ?_) (fun c9 => ?_)
      · rw [if_pos c9] at h
        obtain rfl := Option.some.inj h
        exact KX ls (lv_sub hl [] rfl)
      · rw [if_neg c9] at h
        refine w_aload_n hx hb dX1_takeFourBytes_7 rfl (lv_at hl 0 rfl) ?_
        obtain ⟨v10, ev10, h⟩ := v_bnd h
        refine v_gI (ci := 3) hx hb hts iwX1 hown hK 1 ev10 rfl (by decide) (Or.inl (hts _ kw77)) (fun _ h9 => h9) dX1_takeFourBytes_8 ?_
        refine w_sipush (v := 600) hx hb dX1_takeFourBytes_11 (by decide) ?_
        refine w_icmp_ge (tgt := 46) hx hb dX1_takeFourBytes_14 (by decide) (fun c11 => ?_) (fun c11 => ?_)
        · rw [if_pos c11] at h
          obtain rfl := Option.some.inj h
          exact KX ls (lv_sub hl [] rfl)
        · rw [if_neg c11] at h
          refine w_aload_n hx hb dX1_takeFourBytes_17 rfl (lv_at hl 0 rfl) ?_
          obtain ⟨a12, ea12, h⟩ := v_bnd h
          refine v_gA (ci := 3) hx hb hts iwX1 hown hK 0 ea12 rfl (by decide) (Or.inl (hts _ kw74)) (fun _ h9 => h9) dX1_takeFourBytes_18 ?_
          refine w_aload_n hx hb dX1_takeFourBytes_21 rfl (lv_at hl 0 rfl) ?_
          obtain ⟨v13, ev13, h⟩ := v_bnd h
          refine v_gI (ci := 3) hx hb hts iwX1 hown hK 1 ev13 rfl (by decide) (Or.inl (hts _ kw77)) (fun _ h9 => h9) dX1_takeFourBytes_22 ?_
          refine w_iload_n hx hb dX1_takeFourBytes_25 rfl (lv_at hl 1 rfl) ?_
          refine w_iload_n hx hb dX1_takeFourBytes_26 rfl (lv_at hl 2 rfl) ?_
          refine w_ishr hx hb dX1_takeFourBytes_27 ?_
          refine w_i2b hx hb dX1_takeFourBytes_28 ?_
          obtain ⟨M14, eM14, h⟩ := v_bnd h
          refine v_bast hx hb hK eM14 dX1_takeFourBytes_29 ?_
          refine w_aload_n hx hb dX1_takeFourBytes_30 rfl (lv_at hl 0 rfl) ?_
          refine w_dup hx hb dX1_takeFourBytes_31 rfl ?_
          obtain ⟨v15, ev15, h⟩ := v_bnd h
          refine v_gI (ci := 3) hx hb hts iwX1 hown hK 1 ev15 rfl (by decide) (Or.inl (hts _ kw77)) (fun _ h9 => h9) dX1_takeFourBytes_32 ?_
          refine w_iconst (v := 1) hx hb dX1_takeFourBytes_35 (by decide) ?_
          refine w_iadd hx hb dX1_takeFourBytes_36 ?_
          obtain ⟨M16, eM16, h⟩ := v_bnd h
          refine v_putf (ci := 3) hx hb hts iwX1 hown hK tyX1_ok nmX1 1 eM16 rfl (by decide) (Or.inl (hts _ kw77)) (fun _ h9 => h9) (Or.inl rfl) rfl rfl dX1_takeFourBytes_37 ?_
          refine w_iinc (v := x2 + (-8)) (lv' := [(2, .int (x2 + (-8))), (0, .ref x0), (1, .int x1)]) hx hb dX1_takeFourBytes_40 hl (j := 2) rfl rfl (by decide) rfl (fun ls hl => ?_)
          have hl : lv_has ls 3 [(0, .ref x0), (1, .int x1), (2, .int (x2 + (-8)))] := lv_sub hl [1, 2, 0] rfl
          refine w_goto (tgt := 3) hx hb dX1_takeFourBytes_43 (by decide) ?_
          exact ih (x2 + (-8)) M16 ls z (lv_sub hl [0, 1, 2] rfl) h KX
  refine w_bipush (v := 24) hx hb dX1_takeFourBytes_0 (by decide) ?_
  refine w_istore_n (lv' := [(2, .int 24), (0, .ref x0), (1, .int x1)]) hx hb dX1_takeFourBytes_2 rfl hl (by decide) rfl (fun ls hl => ?_)
  have hl : lv_has ls 3 [(0, .ref x0), (1, .int x1), (2, .int 24)] := lv_sub hl [1, 2, 0] rfl
  obtain ⟨z17, ez17, h⟩ := v_bnd h
  refine X1_takeFourBytes_L3p x0 x1 vF 24 M ls z17 (lv_sub hl [0, 1, 2] rfl) ez17 (fun ls hl => ?_)
  obtain rfl := Option.some.inj h
  rw [hQ]
  exact v_vret hx hb hr hlk dX1_takeFourBytes_46

def tJ0_coder_7d493 (x0 : Nat) (M : vMe) : Option Int32 :=
  if (1 : Int32) = 0 then
  (some 1)
else
  ((gI M x0 1 1).bind fun v2 =>
  if fits .byte (.int v2) = true then some v2 else none)
def rmJ0_coder_7d493 : Room := { frames := 1, cells := 0, slots := 0, locals := 0 }
set_option maxHeartbeats 4000000 in
set_option maxRecDepth 100000 in
theorem mJ0_coder_7d493 (l : Launch) (hfl : l.stackTraces = false) (D : vD) (x0 : Nat) (M : vMe) (z : Int32) (h : tJ0_coder_7d493 x0 M = some z) : Met l yJ0_coder_7d493 (Cond.code yJ0_coder_7d493 cJ0_coder_7d493 1 (some .byte) :: TB) rmJ0_coder_7d493 (va_Pc [.ref x0] (vPre D M)) (qW D (some (.int z)) M) 0 0 (vA D) := by
  refine v_ofW (cc := cJ0_coder_7d493) (maxL := 1) (ret := (some .byte)) (by decide) (Nat.le_of_ble_eq_true rfl) ?_
  intro p e s m args below meth c Q hx hb hr hml hown hts hlk hnm hSS hR0 hQ ls hl
  have hK := hSS.1
  have hl : lv_has ls 1 [(0, .ref x0)] := hl
  unfold tJ0_coder_7d493 at h
  refine w_gets hx hb hSS.2.2.2.2.1 hown (hts _ kw528) (fun _ h9 => h9) dJ0_coder_7d493_0 ?_
  refine w_if_eq (tgt := 13) hx hb dJ0_coder_7d493_3 (by decide) (fun c1 => ?_) (fun c1 => ?_)
  · rw [if_pos c1] at h
    refine w_iconst (v := 1) hx hb dJ0_coder_7d493_13 (by decide) ?_
    obtain rfl := Option.some.inj h
    rw [hQ]
    exact v_xret (x := 1) hx hb hr hlk rfl dJ0_coder_7d493_14
  · rw [if_neg c1] at h
    refine w_aload_n hx hb dJ0_coder_7d493_6 rfl (lv_at hl 0 rfl) ?_
    obtain ⟨v2, ev2, h⟩ := v_bnd h
    refine v_gI (ci := 0) hx hb hts iwJ0 hown hK 1 ev2 rfl (by decide) (Or.inl (hts _ kw640)) (fun _ h9 => h9) dJ0_coder_7d493_7 ?_
    refine w_goto (tgt := 14) hx hb dJ0_coder_7d493_10 (by decide) ?_
    obtain ⟨g6, h⟩ := v_ifs h
    obtain rfl := Option.some.inj h
    rw [hQ]
    exact v_xret hx hb hr hlk (v_narB g6) dJ0_coder_7d493_14

def tJ0_length_8abf5 (x0 : Nat) (M : vMe) : Option Int32 :=
  (gA M x0 1 0).bind fun a1 =>
  (aN M a1 102).bind fun v2 =>
  if (M.1 x0).1 = 1 then
  ((tJ0_coder_7d493 x0 M).bind fun z3 =>
  some (v2 >>> (z3 &&& 31)))
else none
def rmJ0_length_8abf5 : Room := { frames := 2, cells := 0, slots := 0, locals := 20 }
set_option maxHeartbeats 4000000 in
set_option maxRecDepth 100000 in
theorem mJ0_length_8abf5 (l : Launch) (hfl : l.stackTraces = false) (D : vD) (x0 : Nat) (M : vMe) (z : Int32) (h : tJ0_length_8abf5 x0 M = some z) : Met l yJ0_length_8abf5 (Cond.code yJ0_length_8abf5 cJ0_length_8abf5 1 (some .int) :: TB) rmJ0_length_8abf5 (va_Pc [.ref x0] (vPre D M)) (qW D (some (.int z)) M) 0 0 (vA D) := by
  refine v_ofW (cc := cJ0_length_8abf5) (maxL := 1) (ret := (some .int)) (by decide) (Nat.le_of_ble_eq_true rfl) ?_
  intro p e s m args below meth c Q hx hb hr hml hown hts hlk hnm hSS hR0 hQ ls hl
  have hK := hSS.1
  have hl : lv_has ls 1 [(0, .ref x0)] := hl
  unfold tJ0_length_8abf5 at h
  refine w_aload_n hx hb dJ0_length_8abf5_0 rfl (lv_at hl 0 rfl) ?_
  obtain ⟨a1, ea1, h⟩ := v_bnd h
  refine v_gA (ci := 0) hx hb hts iwJ0 hown hK 0 ea1 rfl (by decide) (Or.inl (hts _ kw639)) (fun _ h9 => h9) dJ0_length_8abf5_1 ?_
  obtain ⟨v2, ev2, h⟩ := v_bnd h
  refine v_alen hx hb hK ev2 (by decide) dJ0_length_8abf5_4 ?_
  refine w_aload_n hx hb dJ0_length_8abf5_5 rfl (lv_at hl 0 rfl) ?_
  obtain ⟨g8, h⟩ := v_ifs h
  obtain ⟨z3, ez3, h⟩ := v_bnd h
  refine v_call1 (v := .int z3) (M1 := M) (mc := 0) (ms := 0) (fun H locs hR hS => va_runV (As := []) (rest := [.int v2]) ⟨hx, hb, hml, hown, hts⟩ (mJ0_coder_7d493 l hfl D x0 M z3 ez3) (cwV 0 hts (gdV kw524 kw525 kw526 kw39 kw527) rfl rfl rfl (by decide +kernel) ⟨Nat.le_of_ble_eq_true rfl, Nat.le_of_ble_eq_true rfl⟩) (v_preV (ci := 0) hSS hR hS g8 (by decide) rfl []) rfl rfl hl.1 rfl (lv_room (Nat.le_of_ble_eq_true rfl)) dJ0_length_8abf5_6 ⟨Nat.zero_le _, Nat.zero_le _⟩) ?_
  refine w_ishr hx hb dJ0_length_8abf5_9 ?_
  obtain rfl := Option.some.inj h
  rw [hQ]
  exact v_iret hx hb hr hlk dJ0_length_8abf5_10

def tJ0_isLatin1_aae02 (x0 : Nat) (M : vMe) : Option Int32 :=
  if (1 : Int32) = 0 then
  (some 0)
else
  ((gI M x0 1 1).bind fun v2 =>
  if v2 = 0 then
  (some 1)
else
  (some 0))
def rmJ0_isLatin1_aae02 : Room := { frames := 1, cells := 0, slots := 0, locals := 0 }
set_option maxHeartbeats 4000000 in
set_option maxRecDepth 100000 in
theorem mJ0_isLatin1_aae02 (l : Launch) (hfl : l.stackTraces = false) (D : vD) (x0 : Nat) (M : vMe) (z : Int32) (h : tJ0_isLatin1_aae02 x0 M = some z) : Met l yJ0_isLatin1_aae02 (Cond.code yJ0_isLatin1_aae02 cJ0_isLatin1_aae02 1 (some .boolean) :: TB) rmJ0_isLatin1_aae02 (va_Pc [.ref x0] (vPre D M)) (qW D (some (.int z)) M) 0 0 (vA D) := by
  refine v_ofW (cc := cJ0_isLatin1_aae02) (maxL := 1) (ret := (some .boolean)) (by decide) (Nat.le_of_ble_eq_true rfl) ?_
  intro p e s m args below meth c Q hx hb hr hml hown hts hlk hnm hSS hR0 hQ ls hl
  have hK := hSS.1
  have hl : lv_has ls 1 [(0, .ref x0)] := hl
  unfold tJ0_isLatin1_aae02 at h
  refine w_gets hx hb hSS.2.2.2.2.1 hown (hts _ kw528) (fun _ h9 => h9) dJ0_isLatin1_aae02_0 ?_
  refine w_if_eq (tgt := 17) hx hb dJ0_isLatin1_aae02_3 (by decide) (fun c1 => ?_) (fun c1 => ?_)
  · rw [if_pos c1] at h
    refine w_iconst (v := 0) hx hb dJ0_isLatin1_aae02_17 (by decide) ?_
    obtain rfl := Option.some.inj h
    rw [hQ]
    exact v_zret (x := 0) hx hb hr hlk rfl dJ0_isLatin1_aae02_18
  · rw [if_neg c1] at h
    refine w_aload_n hx hb dJ0_isLatin1_aae02_6 rfl (lv_at hl 0 rfl) ?_
    obtain ⟨v2, ev2, h⟩ := v_bnd h
    refine v_gI (ci := 0) hx hb hts iwJ0 hown hK 1 ev2 rfl (by decide) (Or.inl (hts _ kw640)) (fun _ h9 => h9) dJ0_isLatin1_aae02_7 ?_
    refine w_if_ne (tgt := 17) hx hb dJ0_isLatin1_aae02_10 (by decide) (fun c3 => ?_) (fun c3 => ?_)
    · rw [if_pos c3] at h
      refine w_iconst (v := 1) hx hb dJ0_isLatin1_aae02_13 (by decide) ?_
      refine w_goto (tgt := 18) hx hb dJ0_isLatin1_aae02_14 (by decide) ?_
      obtain rfl := Option.some.inj h
      rw [hQ]
      exact v_zret (x := 1) hx hb hr hlk rfl dJ0_isLatin1_aae02_18
    · rw [if_neg c3] at h
      refine w_iconst (v := 0) hx hb dJ0_isLatin1_aae02_17 (by decide) ?_
      obtain rfl := Option.some.inj h
      rw [hQ]
      exact v_zret (x := 0) hx hb hr hlk rfl dJ0_isLatin1_aae02_18

def tJ3_checkIndex_8e157_J9 (x0 : Int32) (x1 : Int32) (x2 : Nat) (Mj : vMe) : Option (Int32 × vMe) :=
  none
def tJ3_checkIndex_8e157 (x0 : Int32) (x1 : Int32) (x2 : Nat) (M : vMe) : Option (Int32 × vMe) :=
  if x0 < 0 then
  (tJ3_checkIndex_8e157_J9 x0 x1 x2 M)
else
  (if x0 < x1 then
  (some (x0, M))
else
  (tJ3_checkIndex_8e157_J9 x0 x1 x2 M))
def rmJ3_checkIndex_8e157 : Room := { frames := 1, cells := 0, slots := 0, locals := 0 }
set_option maxHeartbeats 4000000 in
set_option maxRecDepth 100000 in
theorem mJ3_checkIndex_8e157 (l : Launch) (hfl : l.stackTraces = false) (D : vD) (x0 : Int32) (x1 : Int32) (x2 : Nat) (M : vMe) (z : (Int32 × vMe)) (h : tJ3_checkIndex_8e157 x0 x1 x2 M = some z) : Met l yJ3_checkIndex_8e157 (Cond.code yJ3_checkIndex_8e157 cJ3_checkIndex_8e157 3 (some .int) :: TB) rmJ3_checkIndex_8e157 (va_Pc [.int x0, .int x1, .ref x2] (vPre D M)) (qW D (some (.int z.1)) z.2) 0 0 (vA D) := by
  refine v_ofW (cc := cJ3_checkIndex_8e157) (maxL := 3) (ret := (some .int)) (by decide) (Nat.le_of_ble_eq_true rfl) ?_
  intro p e s m args below meth c Q hx hb hr hml hown hts hlk hnm hSS hR0 hQ ls hl
  have hK := hSS.1
  have hl : lv_has ls 3 [(0, .int x0), (1, .int x1), (2, .ref x2)] := hl
  unfold tJ3_checkIndex_8e157 at h
  have J3_checkIndex_8e157_J9p : ∀ (x0 : Int32) (x1 : Int32) (x2 : Nat) (Mj : vMe) (ls : Array Slot), lv_has ls 3 [(0, .int x0), (1, .int x1), (2, .ref x2)] → tJ3_checkIndex_8e157_J9 x0 x1 x2 Mj = some z → vV D p l e rmJ3_checkIndex_8e157 s m args below meth c 0 0 Q Mj (F0 m 9 ls []) := by
    intro x0 x1 x2 Mj ls hl h
    unfold tJ3_checkIndex_8e157_J9 at h
    refine w_aload_n hx hb dJ3_checkIndex_8e157_9 rfl (lv_at hl 2 rfl) ?_
    refine w_iload_n hx hb dJ3_checkIndex_8e157_10 rfl (lv_at hl 0 rfl) ?_
    refine w_iload_n hx hb dJ3_checkIndex_8e157_11 rfl (lv_at hl 1 rfl) ?_
    exact nomatch h
  refine w_iload_n hx hb dJ3_checkIndex_8e157_0 rfl (lv_at hl 0 rfl) ?_
  refine w_if_lt (tgt := 9) hx hb dJ3_checkIndex_8e157_1 (by decide) (fun c1 => ?_) (fun c1 => ?_)
  · rw [if_pos c1] at h
    exact J3_checkIndex_8e157_J9p x0 x1 x2 M ls (lv_sub hl [0, 1, 2] rfl) h
  · rw [if_neg c1] at h
    refine w_iload_n hx hb dJ3_checkIndex_8e157_4 rfl (lv_at hl 0 rfl) ?_
    refine w_iload_n hx hb dJ3_checkIndex_8e157_5 rfl (lv_at hl 1 rfl) ?_
    refine w_icmp_lt (tgt := 16) hx hb dJ3_checkIndex_8e157_6 (by decide) (fun c2 => ?_) (fun c2 => ?_)
    · rw [if_pos c2] at h
      refine w_iload_n hx hb dJ3_checkIndex_8e157_16 rfl (lv_at hl 0 rfl) ?_
      obtain rfl := Option.some.inj h
      rw [hQ]
      exact v_iret hx hb hr hlk dJ3_checkIndex_8e157_17
    · rw [if_neg c2] at h
      exact J3_checkIndex_8e157_J9p x0 x1 x2 M ls (lv_sub hl [0, 1, 2] rfl) h

set_option maxHeartbeats 4000000 in
set_option maxRecDepth 100000 in
theorem mJ3_checkIndexN (l : Launch) (hfl : l.stackTraces = false) (D : vD) (x0 : Int32) (x1 : Int32) (x2 : Nat) (M : vMe) (z : (Int32 × vMe)) (h : tJ3_checkIndex_8e157 x0 x1 x2 M = some z) : Met l yJ3_checkIndex_8e157 (Cond.code yJ3_checkIndex_8e157 cJ3_checkIndex_8e157 3 (some .int) :: TB) rmJ3_checkIndex_8e157 (va_Pc [.int x0, .int x1, .null] (vPre D M)) (qW D (some (.int z.1)) z.2) 0 0 (vA D) := by
  refine v_ofW (cc := cJ3_checkIndex_8e157) (maxL := 3) (ret := (some .int)) (by decide) (Nat.le_of_ble_eq_true rfl) ?_
  intro p e s m args below meth c Q hx hb hr hml hown hts hlk hnm hSS hR0 hQ ls hl
  have hK := hSS.1
  have hl : lv_has ls 3 [(0, .int x0), (1, .int x1), (2, .null)] := hl
  unfold tJ3_checkIndex_8e157 at h
  have J3_checkIndex_8e157_J9p : ∀ (x0 : Int32) (x1 : Int32) (x2 : Nat) (Mj : vMe) (ls : Array Slot), lv_has ls 3 [(0, .int x0), (1, .int x1), (2, .null)] → tJ3_checkIndex_8e157_J9 x0 x1 x2 Mj = some z → vV D p l e rmJ3_checkIndex_8e157 s m args below meth c 0 0 Q Mj (F0 m 9 ls []) := by
    intro x0 x1 x2 Mj ls hl h
    unfold tJ3_checkIndex_8e157_J9 at h
    exact nomatch h
  refine w_iload_n hx hb dJ3_checkIndex_8e157_0 rfl (lv_at hl 0 rfl) ?_
  refine w_if_lt (tgt := 9) hx hb dJ3_checkIndex_8e157_1 (by decide) (fun c1 => ?_) (fun c1 => ?_)
  · rw [if_pos c1] at h
    exact J3_checkIndex_8e157_J9p x0 x1 x2 M ls (lv_sub hl [0, 1, 2] rfl) h
  · rw [if_neg c1] at h
    refine w_iload_n hx hb dJ3_checkIndex_8e157_4 rfl (lv_at hl 0 rfl) ?_
    refine w_iload_n hx hb dJ3_checkIndex_8e157_5 rfl (lv_at hl 1 rfl) ?_
    refine w_icmp_lt (tgt := 16) hx hb dJ3_checkIndex_8e157_6 (by decide) (fun c2 => ?_) (fun c2 => ?_)
    · rw [if_pos c2] at h
      refine w_iload_n hx hb dJ3_checkIndex_8e157_16 rfl (lv_at hl 0 rfl) ?_
      obtain rfl := Option.some.inj h
      rw [hQ]
      exact v_iret hx hb hr hlk dJ3_checkIndex_8e157_17
    · rw [if_neg c2] at h
      exact J3_checkIndex_8e157_J9p x0 x1 x2 M ls (lv_sub hl [0, 1, 2] rfl) h
theorem ci_any (x0 x1 : Int32) (a b : Nat) (M : vMe) : tJ3_checkIndex_8e157 x0 x1 a M = tJ3_checkIndex_8e157 x0 x1 b M := rfl

def tJ0_checkIndex_df160 (G : Nat → Nat) (x0 : Int32) (x1 : Int32) (M : vMe) : Option (Unit × vMe) :=
  (tJ3_checkIndex_8e157 x0 x1 (G 200) M).bind fun z1 =>
  some ((), z1.2)
def rmJ0_checkIndex_df160 : Room := { frames := 2, cells := 0, slots := 0, locals := 22 }
set_option maxHeartbeats 4000000 in
set_option maxRecDepth 100000 in
theorem mJ0_checkIndex_df160 (l : Launch) (hfl : l.stackTraces = false) (D : vD) (x0 : Int32) (x1 : Int32) (M : vMe) (z : (Unit × vMe)) (h : tJ0_checkIndex_df160 D.2.2.2.2 x0 x1 M = some z) : Met l yJ0_checkIndex_df160 (Cond.code yJ0_checkIndex_df160 cJ0_checkIndex_df160 2 none :: TB) rmJ0_checkIndex_df160 (va_Pc [.int x0, .int x1] (vPre D M)) (qW D none z.2) 0 0 (vA D) := by
  refine v_ofW (cc := cJ0_checkIndex_df160) (maxL := 2) (ret := none) (by decide) (Nat.le_of_ble_eq_true rfl) ?_
  intro p e s m args below meth c Q hx hb hr hml hown hts hlk hnm hSS hR0 hQ ls hl
  have hK := hSS.1
  have hl : lv_has ls 2 [(0, .int x0), (1, .int x1)] := hl
  unfold tJ0_checkIndex_df160 at h
  refine w_iload_n hx hb dJ0_checkIndex_df160_0 rfl (lv_at hl 0 rfl) ?_
  refine w_iload_n hx hb dJ0_checkIndex_df160_1 rfl (lv_at hl 1 rfl) ?_
  obtain ⟨z1, ez1, h⟩ := v_bnd h
  rcases hSS.2.2.2.2.2.2.2.1 with hZ | ⟨q9, hZ⟩
  · refine w_gets hx hb hZ hown (hts _ kw506) (fun _ h9 => h9) dJ0_checkIndex_df160_2 ?_
    refine v_call1 (v := .int z1.1) (M1 := z1.2) (mc := 0) (ms := 0) (fun H locs hR hS => va_runS (As := [.int x0, .int x1, .null]) (rest := []) ⟨hx, hb, hml, hown, hts⟩ (mJ3_checkIndexN l hfl D x0 x1 (D.2.2.2.2 200) M z1 ez1) (va_cwS 3 hts (gdS kw681 kw682 kw45 kw683) rfl rfl rfl (by decide +kernel) ⟨Nat.le_of_ble_eq_true rfl, Nat.le_of_ble_eq_true rfl⟩) (v_preS hSS hR hS [.int x0, .int x1, .null]) rfl rfl hl.1 rfl (lv_room (Nat.le_of_ble_eq_true rfl)) dJ0_checkIndex_df160_5 ⟨Nat.zero_le _, Nat.zero_le _⟩) ?_
    refine w_pop hx hb dJ0_checkIndex_df160_8 rfl ?_
    obtain rfl := Option.some.inj h
    rw [hQ]
    exact v_vret hx hb hr hlk dJ0_checkIndex_df160_9
  · refine w_gets hx hb hZ hown (hts _ kw506) (fun _ h9 => h9) dJ0_checkIndex_df160_2 ?_
    refine v_call1 (v := .int z1.1) (M1 := z1.2) (mc := 0) (ms := 0) (fun H locs hR hS => va_runS (As := [.int x0, .int x1, .ref q9]) (rest := []) ⟨hx, hb, hml, hown, hts⟩ (mJ3_checkIndex_8e157 l hfl D x0 x1 q9 M z1 ((ci_any x0 x1 q9 (D.2.2.2.2 200) M).trans ez1)) (va_cwS 3 hts (gdS kw681 kw682 kw45 kw683) rfl rfl rfl (by decide +kernel) ⟨Nat.le_of_ble_eq_true rfl, Nat.le_of_ble_eq_true rfl⟩) (v_preS hSS hR hS [.int x0, .int x1, .ref q9]) rfl rfl hl.1 rfl (lv_room (Nat.le_of_ble_eq_true rfl)) dJ0_checkIndex_df160_5 ⟨Nat.zero_le _, Nat.zero_le _⟩) ?_
    refine w_pop hx hb dJ0_checkIndex_df160_8 rfl ?_
    obtain rfl := Option.some.inj h
    rw [hQ]
    exact v_vret hx hb hr hlk dJ0_checkIndex_df160_9

def tJ1_charAt_3b067 (G : Nat → Nat) (x0 : Nat) (x1 : Int32) (M : vMe) : Option (Int32 × vMe) :=
  (aN M x0 102).bind fun v1 =>
  (tJ0_checkIndex_df160 G x1 v1 M).bind fun z2 =>
  (aI z2.2 x0 102 x1).bind fun v3 =>
  if fits .char (.int (((v3 &&& 255).toUInt32 % 65536).toInt32)) = true then some (((v3 &&& 255).toUInt32 % 65536).toInt32, z2.2) else none
def rmJ1_charAt_3b067 : Room := { frames := 3, cells := 0, slots := 0, locals := 43 }
set_option maxHeartbeats 4000000 in
set_option maxRecDepth 100000 in
theorem mJ1_charAt_3b067 (l : Launch) (hfl : l.stackTraces = false) (D : vD) (x0 : Nat) (x1 : Int32) (M : vMe) (z : (Int32 × vMe)) (h : tJ1_charAt_3b067 D.2.2.2.2 x0 x1 M = some z) : Met l yJ1_charAt_3b067 (Cond.code yJ1_charAt_3b067 cJ1_charAt_3b067 2 (some .char) :: TB) rmJ1_charAt_3b067 (va_Pc [.ref x0, .int x1] (vPre D M)) (qW D (some (.int z.1)) z.2) 0 0 (vA D) := by
  refine v_ofW (cc := cJ1_charAt_3b067) (maxL := 2) (ret := (some .char)) (by decide) (Nat.le_of_ble_eq_true rfl) ?_
  intro p e s m args below meth c Q hx hb hr hml hown hts hlk hnm hSS hR0 hQ ls hl
  have hK := hSS.1
  have hl : lv_has ls 2 [(0, .ref x0), (1, .int x1)] := hl
  unfold tJ1_charAt_3b067 at h
  refine w_iload_n hx hb dJ1_charAt_3b067_0 rfl (lv_at hl 1 rfl) ?_
  refine w_aload_n hx hb dJ1_charAt_3b067_1 rfl (lv_at hl 0 rfl) ?_
  obtain ⟨v1, ev1, h⟩ := v_bnd h
  refine v_alen hx hb hK ev1 (by decide) dJ1_charAt_3b067_2 ?_
  obtain ⟨z2, ez2, h⟩ := v_bnd h
  refine v_call0 (M1 := z2.2) (mc := 0) (ms := 0) (fun H locs hR hS => va_runS (As := [.int x1, .int v1]) (rest := []) ⟨hx, hb, hml, hown, hts⟩ (mJ0_checkIndex_df160 l hfl D x1 v1 M z2 ez2) (va_cwS 2 hts (gdS kw726 kw679 kw39 kw680) rfl rfl rfl (by decide +kernel) ⟨Nat.le_of_ble_eq_true rfl, Nat.le_of_ble_eq_true rfl⟩) (v_preS hSS hR hS [.int x1, .int v1]) rfl rfl hl.1 rfl (lv_room (Nat.le_of_ble_eq_true rfl)) dJ1_charAt_3b067_3 ⟨Nat.zero_le _, Nat.zero_le _⟩) ?_
  refine w_aload_n hx hb dJ1_charAt_3b067_6 rfl (lv_at hl 0 rfl) ?_
  refine w_iload_n hx hb dJ1_charAt_3b067_7 rfl (lv_at hl 1 rfl) ?_
  obtain ⟨v3, ev3, h⟩ := v_bnd h
  refine v_bald hx hb hK ev3 dJ1_charAt_3b067_8 ?_
  refine w_sipush (v := 255) hx hb dJ1_charAt_3b067_9 (by decide) ?_
  refine w_iand hx hb dJ1_charAt_3b067_12 ?_
  refine w_i2c hx hb dJ1_charAt_3b067_13 ?_
  obtain ⟨g6, h⟩ := v_ifs h
  obtain rfl := Option.some.inj h
  rw [hQ]
  exact v_xret hx hb hr hlk (v_narC g6) dJ1_charAt_3b067_14

def tJ0_charAt_5068e (G : Nat → Nat) (x0 : Nat) (x1 : Int32) (M : vMe) : Option (Int32 × vMe) :=
  if (M.1 x0).1 = 1 then
  ((tJ0_isLatin1_aae02 x0 M).bind fun z1 =>
  if z1 = 0 then
  ((gA M x0 1 0).bind fun a3 =>
  none)
else
  ((gA M x0 1 0).bind fun a4 =>
  (tJ1_charAt_3b067 G a4 x1 M).bind fun z5 =>
  if fits .char (.int z5.1) = true then some (z5.1, z5.2) else none))
else none
def rmJ0_charAt_5068e : Room := { frames := 4, cells := 0, slots := 0, locals := 64 }
set_option maxHeartbeats 4000000 in
set_option maxRecDepth 100000 in
theorem mJ0_charAt_5068e (l : Launch) (hfl : l.stackTraces = false) (D : vD) (x0 : Nat) (x1 : Int32) (M : vMe) (z : (Int32 × vMe)) (h : tJ0_charAt_5068e D.2.2.2.2 x0 x1 M = some z) : Met l yJ0_charAt_5068e (Cond.code yJ0_charAt_5068e cJ0_charAt_5068e 2 (some .char) :: TB) rmJ0_charAt_5068e (va_Pc [.ref x0, .int x1] (vPre D M)) (qW D (some (.int z.1)) z.2) 0 0 (vA D) := by
  refine v_ofW (cc := cJ0_charAt_5068e) (maxL := 2) (ret := (some .char)) (by decide) (Nat.le_of_ble_eq_true rfl) ?_
  intro p e s m args below meth c Q hx hb hr hml hown hts hlk hnm hSS hR0 hQ ls hl
  have hK := hSS.1
  have hl : lv_has ls 2 [(0, .ref x0), (1, .int x1)] := hl
  unfold tJ0_charAt_5068e at h
  refine w_aload_n hx hb dJ0_charAt_5068e_0 rfl (lv_at hl 0 rfl) ?_
  obtain ⟨g8, h⟩ := v_ifs h
  obtain ⟨z1, ez1, h⟩ := v_bnd h
  refine v_call1 (v := .int z1) (M1 := M) (mc := 0) (ms := 0) (fun H locs hR hS => va_runV (As := []) (rest := []) ⟨hx, hb, hml, hown, hts⟩ (mJ0_isLatin1_aae02 l hfl D x0 M z1 ez1) (cwV 0 hts (gdV kw719 kw720 kw721 kw39 kw722) rfl rfl rfl (by decide +kernel) ⟨Nat.le_of_ble_eq_true rfl, Nat.le_of_ble_eq_true rfl⟩) (v_preV (ci := 0) hSS hR hS g8 (by decide) rfl []) rfl rfl hl.1 rfl (lv_room (Nat.le_of_ble_eq_true rfl)) dJ0_charAt_5068e_1 ⟨Nat.zero_le _, Nat.zero_le _⟩) ?_
  refine w_if_eq (tgt := 16) hx hb dJ0_charAt_5068e_4 (by decide) (fun c2 => ?_) (fun c2 => ?_)
  · rw [if_pos c2] at h
    refine w_aload_n hx hb dJ0_charAt_5068e_16 rfl (lv_at hl 0 rfl) ?_
    obtain ⟨a3, ea3, h⟩ := v_bnd h
    refine v_gA (ci := 0) hx hb hts iwJ0 hown hK 0 ea3 rfl (by decide) (Or.inl (hts _ kw639)) (fun _ h9 => h9) dJ0_charAt_5068e_17 ?_
    refine w_iload_n hx hb dJ0_charAt_5068e_20 rfl (lv_at hl 1 rfl) ?_
    exact nomatch h
  · rw [if_neg c2] at h
    refine w_aload_n hx hb dJ0_charAt_5068e_7 rfl (lv_at hl 0 rfl) ?_
    obtain ⟨a4, ea4, h⟩ := v_bnd h
    refine v_gA (ci := 0) hx hb hts iwJ0 hown hK 0 ea4 rfl (by decide) (Or.inl (hts _ kw639)) (fun _ h9 => h9) dJ0_charAt_5068e_8 ?_
    refine w_iload_n hx hb dJ0_charAt_5068e_11 rfl (lv_at hl 1 rfl) ?_
    obtain ⟨z5, ez5, h⟩ := v_bnd h
    refine v_call1 (v := .int z5.1) (M1 := z5.2) (mc := 0) (ms := 0) (fun H locs hR hS => va_runS (As := [.ref a4, .int x1]) (rest := []) ⟨hx, hb, hml, hown, hts⟩ (mJ1_charAt_3b067 l hfl D a4 x1 M z5 ez5) (va_cwS 2 hts (gdS kw723 kw724 kw46 kw725) rfl rfl rfl (by decide +kernel) ⟨Nat.le_of_ble_eq_true rfl, Nat.le_of_ble_eq_true rfl⟩) (v_preS hSS hR hS [.ref a4, .int x1]) rfl rfl hl.1 rfl (lv_room (Nat.le_of_ble_eq_true rfl)) dJ0_charAt_5068e_12 ⟨Nat.zero_le _, Nat.zero_le _⟩) ?_
    obtain ⟨g6, h⟩ := v_ifs h
    obtain rfl := Option.some.inj h
    rw [hQ]
    exact v_xret hx hb hr hlk (v_narC g6) dJ0_charAt_5068e_15

def tX1_holds_L26 (G : Nat → Nat) (x0 : Nat) (x1 : Int32) (x2 : Int32) (x3 : Nat) : Nat → Int32 → vMe → Option ((Int32 ⊕ Unit) × vMe)
  | 0, _, _ => none
  | f + 1, x4, Mi =>
  if x2 ≤ x4 then
  (some (Sum.inr (()), Mi))
else
  ((gA Mi x0 4 0).bind fun a6 =>
  (aI Mi a6 102 x4).bind fun v7 =>
  if (Mi.1 x3).1 = 1 then
  ((tJ0_charAt_5068e G x3 (x4 - x1) Mi).bind fun z8 =>
  if v7 = z8.1 then
  (tX1_holds_L26 G x0 x1 x2 x3 f (x4 + 1) z8.2)
else
  (some (Sum.inl 0, z8.2)))
else none)
def tX1_holds (G : Nat → Nat) (x0 : Nat) (x1 : Int32) (x2 : Int32) (x3 : Nat) (M : vMe) : Option (Int32 × vMe) :=
  if x1 < 0 then
  (some (0, M))
else
  (if (600 : Int32) < x2 then
  (some (0, M))
else
  (if (M.1 x3).1 = 1 then
  ((tJ0_length_8abf5 x3 M).bind fun z3 =>
  if (x2 - x1) = z3 then
  ((tX1_holds_L26 G x0 x1 x2 x3 vF x1 M).bind fun z10 =>
  Sum.elim (fun r12 => some (r12, z10.2)) (fun w11 =>
  some (1, z10.2)) z10.1)
else
  (some (0, M)))
else none))
def rmX1_holds : Room := { frames := 5, cells := 0, slots := 0, locals := 85 }
set_option maxHeartbeats 4000000 in
set_option maxRecDepth 100000 in
theorem mX1_holds (l : Launch) (hfl : l.stackTraces = false) (D : vD) (x0 : Nat) (x1 : Int32) (x2 : Int32) (x3 : Nat) (M : vMe) (z : (Int32 × vMe)) (h : tX1_holds D.2.2.2.2 x0 x1 x2 x3 M = some z) : Met l yX1_holds (Cond.code yX1_holds cX1_holds 5 (some .boolean) :: TB) rmX1_holds (va_Pc [.ref x0, .int x1, .int x2, .ref x3] (vPre D M)) (qW D (some (.int z.1)) z.2) 0 0 (vA D) := by
  refine v_ofW (cc := cX1_holds) (maxL := 5) (ret := (some .boolean)) (by decide) (Nat.le_of_ble_eq_true rfl) ?_
  intro p e s m args below meth c Q hx hb hr hml hown hts hlk hnm hSS hR0 hQ ls hl
  have hK := hSS.1
  have hl : lv_has ls 5 [(0, .ref x0), (1, .int x1), (2, .int x2), (3, .ref x3)] := hl
  unfold tX1_holds at h
  have X1_holds_L26p : ∀ (x0 : Nat) (x1 : Int32) (x2 : Int32) (x3 : Nat), ∀ (f : Nat) (x4 : Int32) (Mi : vMe) (ls : Array Slot) (z : ((Int32 ⊕ Unit) × vMe)), lv_has ls 5 [(0, .ref x0), (1, .int x1), (2, .int x2), (3, .ref x3), (4, .int x4)] → tX1_holds_L26 D.2.2.2.2 x0 x1 x2 x3 f x4 Mi = some z → (∀ w, z.1 = Sum.inr w → ∀ ls : Array Slot, lv_has ls 5 [] → vV D p l e rmX1_holds s m args below meth c 0 0 Q z.2 (F0 m 58 ls [])) → (∀ r9, z.1 = Sum.inl r9 → Q = MQ below (qW D (some (.int r9)) z.2) args s 0 0 (vA D)) → vV D p l e rmX1_holds s m args below meth c 0 0 Q Mi (F0 m 26 ls []) := by
    intro x0 x1 x2 x3 f
    induction f with
    | zero =>
      intro x4 Mi ls z hl h
      exact absurd h (by simp [tX1_holds_L26])
    | succ f ih =>
      intro x4 Mi ls z hl h KX KR
      rw [tX1_holds_L26] at h
      refine w_iload hx hb dX1_holds_26 (lv_at hl 4 rfl) ?_
      refine w_iload_n hx hb dX1_holds_28 rfl (lv_at hl 2 rfl) ?_
      refine w_icmp_ge (tgt := 58) hx hb dX1_holds_29 (by decide) (fun c5 => ?_) (fun c5 => ?_)
      · rw [if_pos c5] at h
        obtain rfl := Option.some.inj h
        exact KX _ rfl ls (lv_sub hl [] rfl)
      · rw [if_neg c5] at h
        refine w_aload_n hx hb dX1_holds_32 rfl (lv_at hl 0 rfl) ?_
        obtain ⟨a6, ea6, h⟩ := v_bnd h
        refine v_gA (ci := 3) hx hb hts iwX1 hown hK 0 ea6 rfl (by decide) (Or.inl (hts _ kw74)) (fun _ h9 => h9) dX1_holds_33 ?_
        refine w_iload hx hb dX1_holds_36 (lv_at hl 4 rfl) ?_
        obtain ⟨v7, ev7, h⟩ := v_bnd h
        refine v_bald hx hb hK ev7 dX1_holds_38 ?_
        refine w_aload_n hx hb dX1_holds_39 rfl (lv_at hl 3 rfl) ?_
        refine w_iload hx hb dX1_holds_40 (lv_at hl 4 rfl) ?_
        refine w_iload_n hx hb dX1_holds_42 rfl (lv_at hl 1 rfl) ?_
        refine w_isub hx hb dX1_holds_43 ?_
        obtain ⟨g8, h⟩ := v_ifs h
        obtain ⟨z8, ez8, h⟩ := v_bnd h
        refine v_call1 (v := .int z8.1) (M1 := z8.2) (mc := 0) (ms := 0) (fun H locs hR hS => va_runV (As := [.int (x4 - x1)]) (rest := [.int v7]) ⟨hx, hb, hml, hown, hts⟩ (mJ0_charAt_5068e l hfl D x3 (x4 - x1) Mi z8 ez8) (cwV 1 hts (gdV kw898 kw716 kw717 kw39 kw718) rfl rfl rfl (by decide +kernel) ⟨Nat.le_of_ble_eq_true rfl, Nat.le_of_ble_eq_true rfl⟩) (v_preV (ci := 0) hSS hR hS g8 (by decide) rfl [.int (x4 - x1)]) rfl rfl hl.1 rfl (lv_room (Nat.le_of_ble_eq_true rfl)) dX1_holds_44 ⟨Nat.zero_le _, Nat.zero_le _⟩) ?_
        refine w_icmp_eq (tgt := 52) hx hb dX1_holds_47 (by decide) (fun c9 => ?_) (fun c9 => ?_)
        · rw [if_pos c9] at h
          refine w_iinc (v := x4 + 1) (lv' := [(4, .int (x4 + 1)), (0, .ref x0), (1, .int x1), (2, .int x2), (3, .ref x3)]) hx hb dX1_holds_52 hl (j := 4) rfl rfl (by decide) rfl (fun ls hl => ?_)
          have hl : lv_has ls 5 [(0, .ref x0), (1, .int x1), (2, .int x2), (3, .ref x3), (4, .int (x4 + 1))] := lv_sub hl [1, 2, 3, 4, 0] rfl
          refine w_goto (tgt := 26) hx hb dX1_holds_55 (by decide) ?_
          exact ih (x4 + 1) z8.2 ls z (lv_sub hl [0, 1, 2, 3, 4] rfl) h KX KR
        · rw [if_neg c9] at h
          refine w_iconst (v := 0) hx hb dX1_holds_50 (by decide) ?_
          obtain rfl := Option.some.inj h
          rw [KR _ rfl]
          exact v_zret (x := 0) hx hb hr hlk rfl dX1_holds_51
  refine w_iload_n hx hb dX1_holds_0 rfl (lv_at hl 1 rfl) ?_
  refine w_if_lt (tgt := 21) hx hb dX1_holds_1 (by decide) (fun c1 => ?_) (fun c1 => ?_)
  · rw [if_pos c1] at h
    refine w_iconst (v := 0) hx hb dX1_holds_21 (by decide) ?_
    obtain rfl := Option.some.inj h
    rw [hQ]
    exact v_zret (x := 0) hx hb hr hlk rfl dX1_holds_22
  · rw [if_neg c1] at h
    refine w_iload_n hx hb dX1_holds_4 rfl (lv_at hl 2 rfl) ?_
    refine w_sipush (v := 600) hx hb dX1_holds_5 (by decide) ?_
    refine w_icmp_gt (tgt := 21) hx hb dX1_holds_8 (by decide) (fun c2 => ?_) (fun c2 => ?_)
    · rw [if_pos c2] at h
      refine w_iconst (v := 0) hx hb dX1_holds_21 (by decide) ?_
      obtain rfl := Option.some.inj h
      rw [hQ]
      exact v_zret (x := 0) hx hb hr hlk rfl dX1_holds_22
    · rw [if_neg c2] at h
      refine w_iload_n hx hb dX1_holds_11 rfl (lv_at hl 2 rfl) ?_
      refine w_iload_n hx hb dX1_holds_12 rfl (lv_at hl 1 rfl) ?_
      refine w_isub hx hb dX1_holds_13 ?_
      refine w_aload_n hx hb dX1_holds_14 rfl (lv_at hl 3 rfl) ?_
      obtain ⟨g8, h⟩ := v_ifs h
      obtain ⟨z3, ez3, h⟩ := v_bnd h
      refine v_call1 (v := .int z3) (M1 := M) (mc := 0) (ms := 0) (fun H locs hR hS => va_runV (As := []) (rest := [.int (x2 - x1)]) ⟨hx, hb, hml, hown, hts⟩ (mJ0_length_8abf5 l hfl D x3 M z3 ez3) (cwV 0 hts (gdV kw897 kw521 kw522 kw39 kw523) rfl rfl rfl (by decide +kernel) ⟨Nat.le_of_ble_eq_true rfl, Nat.le_of_ble_eq_true rfl⟩) (v_preV (ci := 0) hSS hR hS g8 (by decide) rfl []) rfl rfl hl.1 rfl (lv_room (Nat.le_of_ble_eq_true rfl)) dX1_holds_15 ⟨Nat.zero_le _, Nat.zero_le _⟩) ?_
      refine w_icmp_eq (tgt := 23) hx hb dX1_holds_18 (by decide) (fun c4 => ?_) (fun c4 => ?_)
      · rw [if_pos c4] at h
        refine w_iload_n hx hb dX1_holds_23 rfl (lv_at hl 1 rfl) ?_
        refine w_istore (lv' := [(4, .int x1), (0, .ref x0), (1, .int x1), (2, .int x2), (3, .ref x3)]) hx hb dX1_holds_24 hl (by decide) rfl (fun ls hl => ?_)
        have hl : lv_has ls 5 [(0, .ref x0), (1, .int x1), (2, .int x2), (3, .ref x3), (4, .int x1)] := lv_sub hl [1, 2, 3, 4, 0] rfl
        obtain ⟨z10, ez10, h⟩ := v_bnd h
        refine X1_holds_L26p x0 x1 x2 x3 vF x1 M ls z10 (lv_sub hl [0, 1, 2, 3, 4] rfl) ez10 (fun w11 qw11 ls hl => ?_) (fun r12 qr12 => ?_)
        · replace h := v_inr qw11 h
          refine w_iconst (v := 1) hx hb dX1_holds_58 (by decide) ?_
          obtain rfl := Option.some.inj h
          rw [hQ]
          exact v_zret (x := 1) hx hb hr hlk rfl dX1_holds_59
        · replace h := v_inl qr12 h
          obtain rfl := Option.some.inj h
          exact hQ
      · rw [if_neg c4] at h
        refine w_iconst (v := 0) hx hb dX1_holds_21 (by decide) ?_
        obtain rfl := Option.some.inj h
        rw [hQ]
        exact v_zret (x := 0) hx hb hr hlk rfl dX1_holds_22

def tX1_isBlank (x0 : Nat) (x1 : Int32) (M : vMe) : Option Int32 :=
  (gA M x0 4 0).bind fun a1 =>
  (aI M a1 102 x1).bind fun v2 =>
  if v2 = (32 : Int32) then
  (some 1)
else
  ((gA M x0 4 0).bind fun a4 =>
  (aI M a4 102 x1).bind fun v5 =>
  if v5 = (10 : Int32) then
  (some 1)
else
  (some 0))
def rmX1_isBlank : Room := { frames := 1, cells := 0, slots := 0, locals := 0 }
set_option maxHeartbeats 4000000 in
set_option maxRecDepth 100000 in
theorem mX1_isBlank (l : Launch) (hfl : l.stackTraces = false) (D : vD) (x0 : Nat) (x1 : Int32) (M : vMe) (z : Int32) (h : tX1_isBlank x0 x1 M = some z) : Met l yX1_isBlank (Cond.code yX1_isBlank cX1_isBlank 2 (some .boolean) :: TB) rmX1_isBlank (va_Pc [.ref x0, .int x1] (vPre D M)) (qW D (some (.int z)) M) 0 0 (vA D) := by
  refine v_ofW (cc := cX1_isBlank) (maxL := 2) (ret := (some .boolean)) (by decide) (Nat.le_of_ble_eq_true rfl) ?_
  intro p e s m args below meth c Q hx hb hr hml hown hts hlk hnm hSS hR0 hQ ls hl
  have hK := hSS.1
  have hl : lv_has ls 2 [(0, .ref x0), (1, .int x1)] := hl
  unfold tX1_isBlank at h
  refine w_aload_n hx hb dX1_isBlank_0 rfl (lv_at hl 0 rfl) ?_
  obtain ⟨a1, ea1, h⟩ := v_bnd h
  refine v_gA (ci := 3) hx hb hts iwX1 hown hK 0 ea1 rfl (by decide) (Or.inl (hts _ kw74)) (fun _ h9 => h9) dX1_isBlank_1 ?_
  refine w_iload_n hx hb dX1_isBlank_4 rfl (lv_at hl 1 rfl) ?_
  obtain ⟨v2, ev2, h⟩ := v_bnd h
  refine v_bald hx hb hK ev2 dX1_isBlank_5 ?_
  refine w_bipush (v := 32) hx hb dX1_isBlank_6 (by decide) ?_
  refine w_icmp_eq (tgt := 22) hx hb dX1_isBlank_8 (by decide) (fun c3 => ?_) (fun c3 => ?_)
  · rw [if_pos c3] at h
    refine w_iconst (v := 1) hx hb dX1_isBlank_22 (by decide) ?_
    refine w_goto (tgt := 27) hx hb dX1_isBlank_23 (by decide) ?_
    obtain rfl := Option.some.inj h
    rw [hQ]
    exact v_zret (x := 1) hx hb hr hlk rfl dX1_isBlank_27
  · rw [if_neg c3] at h
    refine w_aload_n hx hb dX1_isBlank_11 rfl (lv_at hl 0 rfl) ?_
    obtain ⟨a4, ea4, h⟩ := v_bnd h
    refine v_gA (ci := 3) hx hb hts iwX1 hown hK 0 ea4 rfl (by decide) (Or.inl (hts _ kw74)) (fun _ h9 => h9) dX1_isBlank_12 ?_
    refine w_iload_n hx hb dX1_isBlank_15 rfl (lv_at hl 1 rfl) ?_
    obtain ⟨v5, ev5, h⟩ := v_bnd h
    refine v_bald hx hb hK ev5 dX1_isBlank_16 ?_
    refine w_bipush (v := 10) hx hb dX1_isBlank_17 (by decide) ?_
    refine w_icmp_ne (tgt := 26) hx hb dX1_isBlank_19 (by decide) (fun c6 => ?_) (fun c6 => ?_)
    · rw [if_pos c6] at h
      refine w_iconst (v := 1) hx hb dX1_isBlank_22 (by decide) ?_
      refine w_goto (tgt := 27) hx hb dX1_isBlank_23 (by decide) ?_
      obtain rfl := Option.some.inj h
      rw [hQ]
      exact v_zret (x := 1) hx hb hr hlk rfl dX1_isBlank_27
    · rw [if_neg c6] at h
      refine w_iconst (v := 0) hx hb dX1_isBlank_26 (by decide) ?_
      obtain rfl := Option.some.inj h
      rw [hQ]
      exact v_zret (x := 0) hx hb hr hlk rfl dX1_isBlank_27

def tX1_isLetter (x0 : Nat) (x1 : Int32) (M : vMe) : Option Int32 :=
  (gA M x0 4 0).bind fun a1 =>
  (aI M a1 102 x1).bind fun v2 =>
  if v2 < (97 : Int32) then
  (some 0)
else
  ((gA M x0 4 0).bind fun a4 =>
  (aI M a4 102 x1).bind fun v5 =>
  if (122 : Int32) < v5 then
  (some 0)
else
  (some 1))
def rmX1_isLetter : Room := { frames := 1, cells := 0, slots := 0, locals := 0 }
set_option maxHeartbeats 4000000 in
set_option maxRecDepth 100000 in
theorem mX1_isLetter (l : Launch) (hfl : l.stackTraces = false) (D : vD) (x0 : Nat) (x1 : Int32) (M : vMe) (z : Int32) (h : tX1_isLetter x0 x1 M = some z) : Met l yX1_isLetter (Cond.code yX1_isLetter cX1_isLetter 2 (some .boolean) :: TB) rmX1_isLetter (va_Pc [.ref x0, .int x1] (vPre D M)) (qW D (some (.int z)) M) 0 0 (vA D) := by
  refine v_ofW (cc := cX1_isLetter) (maxL := 2) (ret := (some .boolean)) (by decide) (Nat.le_of_ble_eq_true rfl) ?_
  intro p e s m args below meth c Q hx hb hr hml hown hts hlk hnm hSS hR0 hQ ls hl
  have hK := hSS.1
  have hl : lv_has ls 2 [(0, .ref x0), (1, .int x1)] := hl
  unfold tX1_isLetter at h
  refine w_aload_n hx hb dX1_isLetter_0 rfl (lv_at hl 0 rfl) ?_
  obtain ⟨a1, ea1, h⟩ := v_bnd h
  refine v_gA (ci := 3) hx hb hts iwX1 hown hK 0 ea1 rfl (by decide) (Or.inl (hts _ kw74)) (fun _ h9 => h9) dX1_isLetter_1 ?_
  refine w_iload_n hx hb dX1_isLetter_4 rfl (lv_at hl 1 rfl) ?_
  obtain ⟨v2, ev2, h⟩ := v_bnd h
  refine v_bald hx hb hK ev2 dX1_isLetter_5 ?_
  refine w_bipush (v := 97) hx hb dX1_isLetter_6 (by decide) ?_
  refine w_icmp_lt (tgt := 26) hx hb dX1_isLetter_8 (by decide) (fun c3 => ?_) (fun c3 => ?_)
  · rw [if_pos c3] at h
    refine w_iconst (v := 0) hx hb dX1_isLetter_26 (by decide) ?_
    obtain rfl := Option.some.inj h
    rw [hQ]
    exact v_zret (x := 0) hx hb hr hlk rfl dX1_isLetter_27
  · rw [if_neg c3] at h
    refine w_aload_n hx hb dX1_isLetter_11 rfl (lv_at hl 0 rfl) ?_
    obtain ⟨a4, ea4, h⟩ := v_bnd h
    refine v_gA (ci := 3) hx hb hts iwX1 hown hK 0 ea4 rfl (by decide) (Or.inl (hts _ kw74)) (fun _ h9 => h9) dX1_isLetter_12 ?_
    refine w_iload_n hx hb dX1_isLetter_15 rfl (lv_at hl 1 rfl) ?_
    obtain ⟨v5, ev5, h⟩ := v_bnd h
    refine v_bald hx hb hK ev5 dX1_isLetter_16 ?_
    refine w_bipush (v := 122) hx hb dX1_isLetter_17 (by decide) ?_
    refine w_icmp_gt (tgt := 26) hx hb dX1_isLetter_19 (by decide) (fun c6 => ?_) (fun c6 => ?_)
    · rw [if_pos c6] at h
      refine w_iconst (v := 0) hx hb dX1_isLetter_26 (by decide) ?_
      obtain rfl := Option.some.inj h
      rw [hQ]
      exact v_zret (x := 0) hx hb hr hlk rfl dX1_isLetter_27
    · rw [if_neg c6] at h
      refine w_iconst (v := 1) hx hb dX1_isLetter_22 (by decide) ?_
      refine w_goto (tgt := 27) hx hb dX1_isLetter_23 (by decide) ?_
      obtain rfl := Option.some.inj h
      rw [hQ]
      exact v_zret (x := 1) hx hb hr hlk rfl dX1_isLetter_27

def tX1_isDigit (x0 : Nat) (x1 : Int32) (M : vMe) : Option Int32 :=
  (gA M x0 4 0).bind fun a1 =>
  (aI M a1 102 x1).bind fun v2 =>
  if v2 < (48 : Int32) then
  (some 0)
else
  ((gA M x0 4 0).bind fun a4 =>
  (aI M a4 102 x1).bind fun v5 =>
  if (57 : Int32) < v5 then
  (some 0)
else
  (some 1))
def rmX1_isDigit : Room := { frames := 1, cells := 0, slots := 0, locals := 0 }
set_option maxHeartbeats 4000000 in
set_option maxRecDepth 100000 in
theorem mX1_isDigit (l : Launch) (hfl : l.stackTraces = false) (D : vD) (x0 : Nat) (x1 : Int32) (M : vMe) (z : Int32) (h : tX1_isDigit x0 x1 M = some z) : Met l yX1_isDigit (Cond.code yX1_isDigit cX1_isDigit 2 (some .boolean) :: TB) rmX1_isDigit (va_Pc [.ref x0, .int x1] (vPre D M)) (qW D (some (.int z)) M) 0 0 (vA D) := by
  refine v_ofW (cc := cX1_isDigit) (maxL := 2) (ret := (some .boolean)) (by decide) (Nat.le_of_ble_eq_true rfl) ?_
  intro p e s m args below meth c Q hx hb hr hml hown hts hlk hnm hSS hR0 hQ ls hl
  have hK := hSS.1
  have hl : lv_has ls 2 [(0, .ref x0), (1, .int x1)] := hl
  unfold tX1_isDigit at h
  refine w_aload_n hx hb dX1_isDigit_0 rfl (lv_at hl 0 rfl) ?_
  obtain ⟨a1, ea1, h⟩ := v_bnd h
  refine v_gA (ci := 3) hx hb hts iwX1 hown hK 0 ea1 rfl (by decide) (Or.inl (hts _ kw74)) (fun _ h9 => h9) dX1_isDigit_1 ?_
  refine w_iload_n hx hb dX1_isDigit_4 rfl (lv_at hl 1 rfl) ?_
  obtain ⟨v2, ev2, h⟩ := v_bnd h
  refine v_bald hx hb hK ev2 dX1_isDigit_5 ?_
  refine w_bipush (v := 48) hx hb dX1_isDigit_6 (by decide) ?_
  refine w_icmp_lt (tgt := 26) hx hb dX1_isDigit_8 (by decide) (fun c3 => ?_) (fun c3 => ?_)
  · rw [if_pos c3] at h
    refine w_iconst (v := 0) hx hb dX1_isDigit_26 (by decide) ?_
    obtain rfl := Option.some.inj h
    rw [hQ]
    exact v_zret (x := 0) hx hb hr hlk rfl dX1_isDigit_27
  · rw [if_neg c3] at h
    refine w_aload_n hx hb dX1_isDigit_11 rfl (lv_at hl 0 rfl) ?_
    obtain ⟨a4, ea4, h⟩ := v_bnd h
    refine v_gA (ci := 3) hx hb hts iwX1 hown hK 0 ea4 rfl (by decide) (Or.inl (hts _ kw74)) (fun _ h9 => h9) dX1_isDigit_12 ?_
    refine w_iload_n hx hb dX1_isDigit_15 rfl (lv_at hl 1 rfl) ?_
    obtain ⟨v5, ev5, h⟩ := v_bnd h
    refine v_bald hx hb hK ev5 dX1_isDigit_16 ?_
    refine w_bipush (v := 57) hx hb dX1_isDigit_17 (by decide) ?_
    refine w_icmp_gt (tgt := 26) hx hb dX1_isDigit_19 (by decide) (fun c6 => ?_) (fun c6 => ?_)
    · rw [if_pos c6] at h
      refine w_iconst (v := 0) hx hb dX1_isDigit_26 (by decide) ?_
      obtain rfl := Option.some.inj h
      rw [hQ]
      exact v_zret (x := 0) hx hb hr hlk rfl dX1_isDigit_27
    · rw [if_neg c6] at h
      refine w_iconst (v := 1) hx hb dX1_isDigit_22 (by decide) ?_
      refine w_goto (tgt := 27) hx hb dX1_isDigit_23 (by decide) ?_
      obtain rfl := Option.some.inj h
      rw [hQ]
      exact v_zret (x := 1) hx hb hr hlk rfl dX1_isDigit_27

def tX2_init (x0 : Nat) (M : vMe) : Option (Unit × vMe) :=
  (nwO M 101 60 60 (fun _ => .int 0) M.2.1 M.2.2.1 3 180).bind fun M1 =>
  (sV M1 x0 5 0 (.ref M.2.1)).bind fun M2 =>
  (nwO M2 101 60 60 (fun _ => .int 0) M.2.1 M.2.2.1 3 180).bind fun M3 =>
  (sV M3 x0 5 1 (.ref M2.2.1)).bind fun M4 =>
  (nwO M4 101 60 60 (fun _ => .int 0) M.2.1 M.2.2.1 3 180).bind fun M5 =>
  (sV M5 x0 5 2 (.ref M4.2.1)).bind fun M6 =>
  if M6.2.1 ≤ M.2.1 + 3 ∧ M6.2.2.1 ≤ M.2.2.1 + 180 then some ((), M6) else none
def rmX2_init : Room := { frames := 1, cells := 3, slots := 180, locals := 60 }
set_option maxHeartbeats 4000000 in
set_option maxRecDepth 100000 in
theorem mX2_init (l : Launch) (hfl : l.stackTraces = false) (D : vD) (x0 : Nat) (M : vMe) (z : (Unit × vMe)) (h : tX2_init x0 M = some z) : Met l yX2_init (Cond.code yX2_init cX2_init 1 none :: TB) rmX2_init (va_Pc [.ref x0] (vPre D M)) (qW D none z.2) 3 180 (vA D) := by
  refine v_ofW (cc := cX2_init) (maxL := 1) (ret := none) (by decide) (Nat.le_of_ble_eq_true rfl) ?_
  intro p e s m args below meth c Q hx hb hr hml hown hts hlk hnm hSS hR0 hQ ls hl
  have hz0 := hR0.2.1
  have hs0 := hR0.2.2.1
  have hb0 : D.2.2.2.1 ≤ s.heap.size := hR0.2.2.2.2.1
  refine v_tight hb0 ?_
  have hK := hSS.1
  have hl : lv_has ls 1 [(0, .ref x0)] := hl
  unfold tX2_init at h
  refine w_aload_n hx hb dX2_init_0 rfl (lv_at hl 0 rfl) ?_
  refine v_objInit hx hb hown (hts _ kw138) (hts _ kw66) (hts _ kw67) (hl.1.trans hml.symm) dX2_init_1 (Nat.le_of_ble_eq_true rfl) (Nat.le_of_ble_eq_true rfl) ?_
  refine w_aload_n hx hb dX2_init_4 rfl (lv_at hl 0 rfl) ?_
  refine w_bipush (v := 60) hx hb dX2_init_5 (by decide) ?_
  obtain ⟨M1, eM1, h⟩ := v_bnd h
  refine u_newa (x := 60) (atype := .int) hx hb hK (hts _ kw163) (by decide) (by decide) rfl (by decide) (by decide) (by decide) hb0 hz0 hs0 rfl rfl eM1 dX2_init_7 ?_
  obtain ⟨M2, eM2, h⟩ := v_bnd h
  refine v_putf (ci := 4) hx hb hts iwX2 hown hK tyX2_ok nmX2 0 eM2 rfl (by decide) (Or.inl (hts _ kw139)) (fun _ h9 => h9) (Or.inr ⟨rfl, hnm, rfl, (hts _ kw139)⟩) rfl rfl dX2_init_9 ?_
  refine w_aload_n hx hb dX2_init_12 rfl (lv_at hl 0 rfl) ?_
  refine w_bipush (v := 60) hx hb dX2_init_13 (by decide) ?_
  obtain ⟨M3, eM3, h⟩ := v_bnd h
  refine u_newa (x := 60) (atype := .int) hx hb hK (hts _ kw163) (by decide) (by decide) rfl (by decide) (by decide) (by decide) hb0 hz0 hs0 rfl rfl eM3 dX2_init_15 ?_
  obtain ⟨M4, eM4, h⟩ := v_bnd h
  refine v_putf (ci := 4) hx hb hts iwX2 hown hK tyX2_ok nmX2 1 eM4 rfl (by decide) (Or.inl (hts _ kw141)) (fun _ h9 => h9) (Or.inr ⟨rfl, hnm, rfl, (hts _ kw141)⟩) rfl rfl dX2_init_17 ?_
  refine w_aload_n hx hb dX2_init_20 rfl (lv_at hl 0 rfl) ?_
  refine w_bipush (v := 60) hx hb dX2_init_21 (by decide) ?_
  obtain ⟨M5, eM5, h⟩ := v_bnd h
  refine u_newa (x := 60) (atype := .int) hx hb hK (hts _ kw163) (by decide) (by decide) rfl (by decide) (by decide) (by decide) hb0 hz0 hs0 rfl rfl eM5 dX2_init_23 ?_
  obtain ⟨M6, eM6, h⟩ := v_bnd h
  refine v_putf (ci := 4) hx hb hts iwX2 hown hK tyX2_ok nmX2 2 eM6 rfl (by decide) (Or.inl (hts _ kw143)) (fun _ h9 => h9) (Or.inr ⟨rfl, hnm, rfl, (hts _ kw143)⟩) rfl rfl dX2_init_25 ?_
  obtain ⟨g9, h⟩ := v_ifs h
  refine v_tight hb0 (vV.widen (n' := 3) (k' := 180) (by omega) (by omega) ?_)
  obtain rfl := Option.some.inj h
  rw [hQ]
  exact v_vret hx hb hr hlk dX2_init_28

def tX2_begin (x0 : Nat) (M : vMe) : Option (Unit × vMe) :=
  (sV M x0 5 3 (.int 0)).bind fun M1 =>
  (sV M1 x0 5 4 (.int 0)).bind fun M2 =>
  (sV M2 x0 5 5 (.long 0)).bind fun M3 =>
  some ((), M3)
def rmX2_begin : Room := { frames := 1, cells := 0, slots := 0, locals := 0 }
set_option maxHeartbeats 4000000 in
set_option maxRecDepth 100000 in
theorem mX2_begin (l : Launch) (hfl : l.stackTraces = false) (D : vD) (x0 : Nat) (M : vMe) (z : (Unit × vMe)) (h : tX2_begin x0 M = some z) : Met l yX2_begin (Cond.code yX2_begin cX2_begin 1 none :: TB) rmX2_begin (va_Pc [.ref x0] (vPre D M)) (qW D none z.2) 0 0 (vA D) := by
  refine v_ofW (cc := cX2_begin) (maxL := 1) (ret := none) (by decide) (Nat.le_of_ble_eq_true rfl) ?_
  intro p e s m args below meth c Q hx hb hr hml hown hts hlk hnm hSS hR0 hQ ls hl
  have hK := hSS.1
  have hl : lv_has ls 1 [(0, .ref x0)] := hl
  unfold tX2_begin at h
  refine w_aload_n hx hb dX2_begin_0 rfl (lv_at hl 0 rfl) ?_
  refine w_iconst (v := 0) hx hb dX2_begin_1 (by decide) ?_
  obtain ⟨M1, eM1, h⟩ := v_bnd h
  refine v_putf (ci := 4) hx hb hts iwX2 hown hK tyX2_ok nmX2 3 eM1 rfl (by decide) (Or.inl (hts _ kw145)) (fun _ h9 => h9) (Or.inl rfl) rfl rfl dX2_begin_2 ?_
  refine w_aload_n hx hb dX2_begin_5 rfl (lv_at hl 0 rfl) ?_
  refine w_iconst (v := 0) hx hb dX2_begin_6 (by decide) ?_
  obtain ⟨M2, eM2, h⟩ := v_bnd h
  refine v_putf (ci := 4) hx hb hts iwX2 hown hK tyX2_ok nmX2 4 eM2 rfl (by decide) (Or.inl (hts _ kw147)) (fun _ h9 => h9) (Or.inl rfl) rfl rfl dX2_begin_7 ?_
  refine w_aload_n hx hb dX2_begin_10 rfl (lv_at hl 0 rfl) ?_
  refine w_lconst (v := 0) hx hb dX2_begin_11 (by decide) ?_
  obtain ⟨M3, eM3, h⟩ := v_bnd h
  refine v_putf (ci := 4) hx hb hts iwX2 hown hK tyX2_ok nmX2 5 eM3 rfl (by decide) (Or.inl (hts _ kw149)) (fun _ h9 => h9) (Or.inl rfl) rfl rfl dX2_begin_12 ?_
  obtain rfl := Option.some.inj h
  rw [hQ]
  exact v_vret hx hb hr hlk dX2_begin_15

def tX2_copyFrom (x0 : Nat) (x1 : Nat) (M : vMe) : Option (Unit × vMe) :=
  (gI M x1 5 3).bind fun v1 =>
  (sV M x0 5 3 (.int v1)).bind fun M2 =>
  (gI M2 x1 5 4).bind fun v3 =>
  (sV M2 x0 5 4 (.int v3)).bind fun M4 =>
  (gJ M4 x1 5 5).bind fun v5 =>
  (sV M4 x0 5 5 (.long v5)).bind fun M6 =>
  (gA M6 x1 5 0).bind fun a7 =>
  (gA M6 x0 5 0).bind fun a8 =>
  (gI M6 x0 5 3).bind fun v9 =>
  (cpA M6 a7 a8 101 0 0 v9).bind fun M10 =>
  (gA M10 x1 5 1).bind fun a11 =>
  (gA M10 x0 5 1).bind fun a12 =>
  (gI M10 x0 5 3).bind fun v13 =>
  (cpA M10 a11 a12 101 0 0 v13).bind fun M14 =>
  (gA M14 x1 5 2).bind fun a15 =>
  (gA M14 x0 5 2).bind fun a16 =>
  (gI M14 x0 5 3).bind fun v17 =>
  (cpA M14 a15 a16 101 0 0 v17).bind fun M18 =>
  some ((), M18)
def rmX2_copyFrom : Room := { frames := 1, cells := 0, slots := 0, locals := 60 }
set_option maxHeartbeats 4000000 in
set_option maxRecDepth 100000 in
theorem mX2_copyFrom (l : Launch) (hfl : l.stackTraces = false) (D : vD) (x0 : Nat) (x1 : Nat) (M : vMe) (z : (Unit × vMe)) (h : tX2_copyFrom x0 x1 M = some z) : Met l yX2_copyFrom (Cond.code yX2_copyFrom cX2_copyFrom 2 none :: TB) rmX2_copyFrom (va_Pc [.ref x0, .ref x1] (vPre D M)) (qW D none z.2) 0 0 (vA D) := by
  refine v_ofW (cc := cX2_copyFrom) (maxL := 2) (ret := none) (by decide) (Nat.le_of_ble_eq_true rfl) ?_
  intro p e s m args below meth c Q hx hb hr hml hown hts hlk hnm hSS hR0 hQ ls hl
  have hK := hSS.1
  have hl : lv_has ls 2 [(0, .ref x0), (1, .ref x1)] := hl
  unfold tX2_copyFrom at h
  refine w_aload_n hx hb dX2_copyFrom_0 rfl (lv_at hl 0 rfl) ?_
  refine w_aload_n hx hb dX2_copyFrom_1 rfl (lv_at hl 1 rfl) ?_
  obtain ⟨v1, ev1, h⟩ := v_bnd h
  refine v_gI (ci := 4) hx hb hts iwX2 hown hK 3 ev1 rfl (by decide) (Or.inl (hts _ kw145)) (fun _ h9 => h9) dX2_copyFrom_2 ?_
  obtain ⟨M2, eM2, h⟩ := v_bnd h
  refine v_putf (ci := 4) hx hb hts iwX2 hown hK tyX2_ok nmX2 3 eM2 rfl (by decide) (Or.inl (hts _ kw145)) (fun _ h9 => h9) (Or.inl rfl) rfl rfl dX2_copyFrom_5 ?_
  refine w_aload_n hx hb dX2_copyFrom_8 rfl (lv_at hl 0 rfl) ?_
  refine w_aload_n hx hb dX2_copyFrom_9 rfl (lv_at hl 1 rfl) ?_
  obtain ⟨v3, ev3, h⟩ := v_bnd h
  refine v_gI (ci := 4) hx hb hts iwX2 hown hK 4 ev3 rfl (by decide) (Or.inl (hts _ kw147)) (fun _ h9 => h9) dX2_copyFrom_10 ?_
  obtain ⟨M4, eM4, h⟩ := v_bnd h
  refine v_putf (ci := 4) hx hb hts iwX2 hown hK tyX2_ok nmX2 4 eM4 rfl (by decide) (Or.inl (hts _ kw147)) (fun _ h9 => h9) (Or.inl rfl) rfl rfl dX2_copyFrom_13 ?_
  refine w_aload_n hx hb dX2_copyFrom_16 rfl (lv_at hl 0 rfl) ?_
  refine w_aload_n hx hb dX2_copyFrom_17 rfl (lv_at hl 1 rfl) ?_
  obtain ⟨v5, ev5, h⟩ := v_bnd h
  refine v_gJ (ci := 4) hx hb hts iwX2 hown hK 5 ev5 rfl (by decide) (Or.inl (hts _ kw149)) (fun _ h9 => h9) dX2_copyFrom_18 ?_
  obtain ⟨M6, eM6, h⟩ := v_bnd h
  refine v_putf (ci := 4) hx hb hts iwX2 hown hK tyX2_ok nmX2 5 eM6 rfl (by decide) (Or.inl (hts _ kw149)) (fun _ h9 => h9) (Or.inl rfl) rfl rfl dX2_copyFrom_21 ?_
  refine w_aload_n hx hb dX2_copyFrom_24 rfl (lv_at hl 1 rfl) ?_
  obtain ⟨a7, ea7, h⟩ := v_bnd h
  refine v_gA (ci := 4) hx hb hts iwX2 hown hK 0 ea7 rfl (by decide) (Or.inl (hts _ kw139)) (fun _ h9 => h9) dX2_copyFrom_25 ?_
  refine w_iconst (v := 0) hx hb dX2_copyFrom_28 (by decide) ?_
  refine w_aload_n hx hb dX2_copyFrom_29 rfl (lv_at hl 0 rfl) ?_
  obtain ⟨a8, ea8, h⟩ := v_bnd h
  refine v_gA (ci := 4) hx hb hts iwX2 hown hK 0 ea8 rfl (by decide) (Or.inl (hts _ kw139)) (fun _ h9 => h9) dX2_copyFrom_30 ?_
  refine w_iconst (v := 0) hx hb dX2_copyFrom_33 (by decide) ?_
  refine w_aload_n hx hb dX2_copyFrom_34 rfl (lv_at hl 0 rfl) ?_
  obtain ⟨v9, ev9, h⟩ := v_bnd h
  refine v_gI (ci := 4) hx hb hts iwX2 hown hK 3 ev9 rfl (by decide) (Or.inl (hts _ kw145)) (fun _ h9 => h9) dX2_copyFrom_35 ?_
  obtain ⟨M10, eM10, h⟩ := v_bnd h
  refine v_copy hx hb (hml.trans hl.1.symm) hown hK (hts _ kw983) (hts _ kw488) (hts _ kw487) (hts _ kw44) eM10 v_cpI (Nat.le_of_ble_eq_true rfl) (Nat.le_of_ble_eq_true rfl) dX2_copyFrom_38 ?_
  refine w_aload_n hx hb dX2_copyFrom_41 rfl (lv_at hl 1 rfl) ?_
  obtain ⟨a11, ea11, h⟩ := v_bnd h
  refine v_gA (ci := 4) hx hb hts iwX2 hown hK 1 ea11 rfl (by decide) (Or.inl (hts _ kw141)) (fun _ h9 => h9) dX2_copyFrom_42 ?_
  refine w_iconst (v := 0) hx hb dX2_copyFrom_45 (by decide) ?_
  refine w_aload_n hx hb dX2_copyFrom_46 rfl (lv_at hl 0 rfl) ?_
  obtain ⟨a12, ea12, h⟩ := v_bnd h
  refine v_gA (ci := 4) hx hb hts iwX2 hown hK 1 ea12 rfl (by decide) (Or.inl (hts _ kw141)) (fun _ h9 => h9) dX2_copyFrom_47 ?_
  refine w_iconst (v := 0) hx hb dX2_copyFrom_50 (by decide) ?_
  refine w_aload_n hx hb dX2_copyFrom_51 rfl (lv_at hl 0 rfl) ?_
  obtain ⟨v13, ev13, h⟩ := v_bnd h
  refine v_gI (ci := 4) hx hb hts iwX2 hown hK 3 ev13 rfl (by decide) (Or.inl (hts _ kw145)) (fun _ h9 => h9) dX2_copyFrom_52 ?_
  obtain ⟨M14, eM14, h⟩ := v_bnd h
  refine v_copy hx hb (hml.trans hl.1.symm) hown hK (hts _ kw983) (hts _ kw488) (hts _ kw487) (hts _ kw44) eM14 v_cpI (Nat.le_of_ble_eq_true rfl) (Nat.le_of_ble_eq_true rfl) dX2_copyFrom_55 ?_
  refine w_aload_n hx hb dX2_copyFrom_58 rfl (lv_at hl 1 rfl) ?_
  obtain ⟨a15, ea15, h⟩ := v_bnd h
  refine v_gA (ci := 4) hx hb hts iwX2 hown hK 2 ea15 rfl (by decide) (Or.inl (hts _ kw143)) (fun _ h9 => h9) dX2_copyFrom_59 ?_
  refine w_iconst (v := 0) hx hb dX2_copyFrom_62 (by decide) ?_
  refine w_aload_n hx hb dX2_copyFrom_63 rfl (lv_at hl 0 rfl) ?_
  obtain ⟨a16, ea16, h⟩ := v_bnd h
  refine v_gA (ci := 4) hx hb hts iwX2 hown hK 2 ea16 rfl (by decide) (Or.inl (hts _ kw143)) (fun _ h9 => h9) dX2_copyFrom_64 ?_
  refine w_iconst (v := 0) hx hb dX2_copyFrom_67 (by decide) ?_
  refine w_aload_n hx hb dX2_copyFrom_68 rfl (lv_at hl 0 rfl) ?_
  obtain ⟨v17, ev17, h⟩ := v_bnd h
  refine v_gI (ci := 4) hx hb hts iwX2 hown hK 3 ev17 rfl (by decide) (Or.inl (hts _ kw145)) (fun _ h9 => h9) dX2_copyFrom_69 ?_
  obtain ⟨M18, eM18, h⟩ := v_bnd h
  refine v_copy hx hb (hml.trans hl.1.symm) hown hK (hts _ kw983) (hts _ kw488) (hts _ kw487) (hts _ kw44) eM18 v_cpI (Nat.le_of_ble_eq_true rfl) (Nat.le_of_ble_eq_true rfl) dX2_copyFrom_72 ?_
  obtain rfl := Option.some.inj h
  rw [hQ]
  exact v_vret hx hb hr hlk dX2_copyFrom_75

def tX2_bitsBehind (x0 : Nat) (x1 : Int64) (x3 : Int32) (M : vMe) : Option Int64 :=
  (gA M x0 5 2).bind fun a1 =>
  (aI M a1 101 x3).bind fun v2 =>
  if v2 = (2 : Int32) then
  (some 0)
else
  ((gA M x0 5 1).bind fun a4 =>
  (aI M a4 101 x3).bind fun v5 =>
  (gA M x0 5 2).bind fun a6 =>
  (aI M a6 101 x3).bind fun v7 =>
  if v7 = 0 then
  (some (x1 ||| (1 <<< (v5.toInt64 &&& 63))))
else
  (some (x1 &&& ((1 <<< (v5.toInt64 &&& 63)) ^^^ ((-1))))))
def rmX2_bitsBehind : Room := { frames := 1, cells := 0, slots := 0, locals := 0 }
set_option maxHeartbeats 4000000 in
set_option maxRecDepth 100000 in
theorem mX2_bitsBehind (l : Launch) (hfl : l.stackTraces = false) (D : vD) (x0 : Nat) (x1 : Int64) (x3 : Int32) (M : vMe) (z : Int64) (h : tX2_bitsBehind x0 x1 x3 M = some z) : Met l yX2_bitsBehind (Cond.code yX2_bitsBehind cX2_bitsBehind 6 (some .long) :: TB) rmX2_bitsBehind (va_Pc [.ref x0, .long x1, .int x3] (vPre D M)) (qW D (some (.long z)) M) 0 0 (vA D) := by
  refine v_ofW (cc := cX2_bitsBehind) (maxL := 6) (ret := (some .long)) (by decide) (Nat.le_of_ble_eq_true rfl) ?_
  intro p e s m args below meth c Q hx hb hr hml hown hts hlk hnm hSS hR0 hQ ls hl
  have hK := hSS.1
  have hl : lv_has ls 6 [(0, .ref x0), (1, .long x1), (3, .int x3)] := hl
  unfold tX2_bitsBehind at h
  refine w_aload_n hx hb dX2_bitsBehind_0 rfl (lv_at hl 0 rfl) ?_
  obtain ⟨a1, ea1, h⟩ := v_bnd h
  refine v_gA (ci := 4) hx hb hts iwX2 hown hK 2 ea1 rfl (by decide) (Or.inl (hts _ kw143)) (fun _ h9 => h9) dX2_bitsBehind_1 ?_
  refine w_iload_n hx hb dX2_bitsBehind_4 rfl (lv_at hl 2 rfl) ?_
  obtain ⟨v2, ev2, h⟩ := v_bnd h
  refine v_iald hx hb hK ev2 dX2_bitsBehind_5 ?_
  refine w_iconst (v := 2) hx hb dX2_bitsBehind_6 (by decide) ?_
  refine w_icmp_ne (tgt := 12) hx hb dX2_bitsBehind_7 (by decide) (fun c3 => ?_) (fun c3 => ?_)
  · rw [if_pos c3] at h
    refine w_lconst (v := 0) hx hb dX2_bitsBehind_10 (by decide) ?_
    obtain rfl := Option.some.inj h
    rw [hQ]
    exact v_lret hx hb hr hlk dX2_bitsBehind_11
  · rw [if_neg c3] at h
    refine w_lconst (v := 1) hx hb dX2_bitsBehind_12 (by decide) ?_
    refine w_aload_n hx hb dX2_bitsBehind_13 rfl (lv_at hl 0 rfl) ?_
    obtain ⟨a4, ea4, h⟩ := v_bnd h
    refine v_gA (ci := 4) hx hb hts iwX2 hown hK 1 ea4 rfl (by decide) (Or.inl (hts _ kw141)) (fun _ h9 => h9) dX2_bitsBehind_14 ?_
    refine w_iload_n hx hb dX2_bitsBehind_17 rfl (lv_at hl 2 rfl) ?_
    obtain ⟨v5, ev5, h⟩ := v_bnd h
    refine v_iald hx hb hK ev5 dX2_bitsBehind_18 ?_
    refine w_lshl hx hb dX2_bitsBehind_19 ?_
    refine w_lstore (lv' := [(4, .long (1 <<< (v5.toInt64 &&& 63))), (0, .ref x0), (1, .long x1), (3, .int x3)]) hx hb dX2_bitsBehind_20 hl (by decide) rfl (fun ls hl => ?_)
    have hl : lv_has ls 6 [(0, .ref x0), (1, .long x1), (3, .int x3), (4, .long (1 <<< (v5.toInt64 &&& 63)))] := lv_sub hl [1, 2, 3, 0] rfl
    refine w_aload_n hx hb dX2_bitsBehind_22 rfl (lv_at hl 0 rfl) ?_
    obtain ⟨a6, ea6, h⟩ := v_bnd h
    refine v_gA (ci := 4) hx hb hts iwX2 hown hK 2 ea6 rfl (by decide) (Or.inl (hts _ kw143)) (fun _ h9 => h9) dX2_bitsBehind_23 ?_
    refine w_iload_n hx hb dX2_bitsBehind_26 rfl (lv_at hl 2 rfl) ?_
    obtain ⟨v7, ev7, h⟩ := v_bnd h
    refine v_iald hx hb hK ev7 dX2_bitsBehind_27 ?_
    refine w_if_ne (tgt := 38) hx hb dX2_bitsBehind_28 (by decide) (fun c8 => ?_) (fun c8 => ?_)
    · rw [if_pos c8] at h
      refine w_lload_n hx hb dX2_bitsBehind_31 rfl (lv_at hl 1 rfl) ?_
      refine w_lload hx hb dX2_bitsBehind_32 (lv_at hl 3 rfl) ?_
      refine w_lor hx hb dX2_bitsBehind_34 ?_
      refine w_goto (tgt := 46) hx hb dX2_bitsBehind_35 (by decide) ?_
      obtain rfl := Option.some.inj h
      rw [hQ]
      exact v_lret hx hb hr hlk dX2_bitsBehind_46
    · rw [if_neg c8] at h
      refine w_lload_n hx hb dX2_bitsBehind_38 rfl (lv_at hl 1 rfl) ?_
      refine w_lload hx hb dX2_bitsBehind_39 (lv_at hl 3 rfl) ?_
      refine w_ldcL hx hb hown (hts _ kw982) dX2_bitsBehind_41 ?_
      refine w_lxor hx hb dX2_bitsBehind_44 ?_
      refine w_land hx hb dX2_bitsBehind_45 ?_
      obtain rfl := Option.some.inj h
      rw [hQ]
      exact v_lret hx hb hr hlk dX2_bitsBehind_46

def tX2_note_J93 (x0 : Nat) (x1 : Int32) (x2 : Int32) (x3 : Int32) (Mj : vMe) : Option (Unit × vMe) :=
  (gA Mj x0 5 0).bind fun a3 =>
  (gI Mj x0 5 3).bind fun v4 =>
  (sA Mj a3 101 v4 (.int x1)).bind fun M5 =>
  (gA M5 x0 5 1).bind fun a6 =>
  (gI M5 x0 5 3).bind fun v7 =>
  (sA M5 a6 101 v7 (.int x2)).bind fun M8 =>
  (gA M8 x0 5 2).bind fun a9 =>
  (gI M8 x0 5 3).bind fun v10 =>
  (sA M8 a9 101 v10 (.int x3)).bind fun M11 =>
  (gI M11 x0 5 3).bind fun v12 =>
  (sV M11 x0 5 3 (.int (v12 + 1))).bind fun M13 =>
  some ((), M13)
def tX2_note (x0 : Nat) (x1 : Int32) (x2 : Int32) (x3 : Int32) (x4 : Int32) (M : vMe) : Option (Unit × vMe) :=
  (gI M x0 5 3).bind fun v1 =>
  if v1 < x4 then
  (tX2_note_J93 x0 x1 x2 x3 M)
else
  ((gA M x0 5 0).bind fun a14 =>
  (aI M a14 101 0).bind fun v15 =>
  (sV M x0 5 4 (.int v15)).bind fun M16 =>
  (gJ M16 x0 5 5).bind fun v17 =>
  if (M16.1 x0).1 = 5 then
  ((tX2_bitsBehind x0 v17 0 M16).bind fun z18 =>
  (sV M16 x0 5 5 (.long z18)).bind fun M19 =>
  (gI M19 x0 5 3).bind fun v20 =>
  (sV M19 x0 5 3 (.int (v20 - 1))).bind fun M21 =>
  (gA M21 x0 5 0).bind fun a22 =>
  (gA M21 x0 5 0).bind fun a23 =>
  (gI M21 x0 5 3).bind fun v24 =>
  (cpA M21 a22 a23 101 1 0 v24).bind fun M25 =>
  (gA M25 x0 5 1).bind fun a26 =>
  (gA M25 x0 5 1).bind fun a27 =>
  (gI M25 x0 5 3).bind fun v28 =>
  (cpA M25 a26 a27 101 1 0 v28).bind fun M29 =>
  (gA M29 x0 5 2).bind fun a30 =>
  (gA M29 x0 5 2).bind fun a31 =>
  (gI M29 x0 5 3).bind fun v32 =>
  (cpA M29 a30 a31 101 1 0 v32).bind fun M33 =>
  tX2_note_J93 x0 x1 x2 x3 M33)
else none)
def rmX2_note : Room := { frames := 2, cells := 0, slots := 0, locals := 60 }
set_option maxHeartbeats 4000000 in
set_option maxRecDepth 100000 in
theorem mX2_note (l : Launch) (hfl : l.stackTraces = false) (D : vD) (x0 : Nat) (x1 : Int32) (x2 : Int32) (x3 : Int32) (x4 : Int32) (M : vMe) (z : (Unit × vMe)) (h : tX2_note x0 x1 x2 x3 x4 M = some z) : Met l yX2_note (Cond.code yX2_note cX2_note 5 none :: TB) rmX2_note (va_Pc [.ref x0, .int x1, .int x2, .int x3, .int x4] (vPre D M)) (qW D none z.2) 0 0 (vA D) := by
  refine v_ofW (cc := cX2_note) (maxL := 5) (ret := none) (by decide) (Nat.le_of_ble_eq_true rfl) ?_
  intro p e s m args below meth c Q hx hb hr hml hown hts hlk hnm hSS hR0 hQ ls hl
  have hK := hSS.1
  have hl : lv_has ls 5 [(0, .ref x0), (1, .int x1), (2, .int x2), (3, .int x3), (4, .int x4)] := hl
  unfold tX2_note at h
  have X2_note_J93p : ∀ (x0 : Nat) (x1 : Int32) (x2 : Int32) (x3 : Int32) (Mj : vMe) (ls : Array Slot), lv_has ls 5 [(0, .ref x0), (1, .int x1), (2, .int x2), (3, .int x3)] → tX2_note_J93 x0 x1 x2 x3 Mj = some z → vV D p l e rmX2_note s m args below meth c 0 0 Q Mj (F0 m 93 ls []) := by
    intro x0 x1 x2 x3 Mj ls hl h
    unfold tX2_note_J93 at h
    refine w_aload_n hx hb dX2_note_93 rfl (lv_at hl 0 rfl) ?_
    obtain ⟨a3, ea3, h⟩ := v_bnd h
    refine v_gA (ci := 4) hx hb hts iwX2 hown hK 0 ea3 rfl (by decide) (Or.inl (hts _ kw139)) (fun _ h9 => h9) dX2_note_94 ?_
    refine w_aload_n hx hb dX2_note_97 rfl (lv_at hl 0 rfl) ?_
    obtain ⟨v4, ev4, h⟩ := v_bnd h
    refine v_gI (ci := 4) hx hb hts iwX2 hown hK 3 ev4 rfl (by decide) (Or.inl (hts _ kw145)) (fun _ h9 => h9) dX2_note_98 ?_
    refine w_iload_n hx hb dX2_note_101 rfl (lv_at hl 1 rfl) ?_
    obtain ⟨M5, eM5, h⟩ := v_bnd h
    refine v_iast hx hb hK eM5 dX2_note_102 ?_
    refine w_aload_n hx hb dX2_note_103 rfl (lv_at hl 0 rfl) ?_
    obtain ⟨a6, ea6, h⟩ := v_bnd h
    refine v_gA (ci := 4) hx hb hts iwX2 hown hK 1 ea6 rfl (by decide) (Or.inl (hts _ kw141)) (fun _ h9 => h9) dX2_note_104 ?_
    refine w_aload_n hx hb dX2_note_107 rfl (lv_at hl 0 rfl) ?_
    obtain ⟨v7, ev7, h⟩ := v_bnd h
    refine v_gI (ci := 4) hx hb hts iwX2 hown hK 3 ev7 rfl (by decide) (Or.inl (hts _ kw145)) (fun _ h9 => h9) dX2_note_108 ?_
    refine w_iload_n hx hb dX2_note_111 rfl (lv_at hl 2 rfl) ?_
    obtain ⟨M8, eM8, h⟩ := v_bnd h
    refine v_iast hx hb hK eM8 dX2_note_112 ?_
    refine w_aload_n hx hb dX2_note_113 rfl (lv_at hl 0 rfl) ?_
    obtain ⟨a9, ea9, h⟩ := v_bnd h
    refine v_gA (ci := 4) hx hb hts iwX2 hown hK 2 ea9 rfl (by decide) (Or.inl (hts _ kw143)) (fun _ h9 => h9) dX2_note_114 ?_
    refine w_aload_n hx hb dX2_note_117 rfl (lv_at hl 0 rfl) ?_
    obtain ⟨v10, ev10, h⟩ := v_bnd h
    refine v_gI (ci := 4) hx hb hts iwX2 hown hK 3 ev10 rfl (by decide) (Or.inl (hts _ kw145)) (fun _ h9 => h9) dX2_note_118 ?_
    refine w_iload_n hx hb dX2_note_121 rfl (lv_at hl 3 rfl) ?_
    obtain ⟨M11, eM11, h⟩ := v_bnd h
    refine v_iast hx hb hK eM11 dX2_note_122 ?_
    refine w_aload_n hx hb dX2_note_123 rfl (lv_at hl 0 rfl) ?_
    refine w_dup hx hb dX2_note_124 rfl ?_
    obtain ⟨v12, ev12, h⟩ := v_bnd h
    refine v_gI (ci := 4) hx hb hts iwX2 hown hK 3 ev12 rfl (by decide) (Or.inl (hts _ kw145)) (fun _ h9 => h9) dX2_note_125 ?_
    refine w_iconst (v := 1) hx hb dX2_note_128 (by decide) ?_
    refine w_iadd hx hb dX2_note_129 ?_
    obtain ⟨M13, eM13, h⟩ := v_bnd h
    refine v_putf (ci := 4) hx hb hts iwX2 hown hK tyX2_ok nmX2 3 eM13 rfl (by decide) (Or.inl (hts _ kw145)) (fun _ h9 => h9) (Or.inl rfl) rfl rfl dX2_note_130 ?_
    obtain rfl := Option.some.inj h
    rw [hQ]
    exact v_vret hx hb hr hlk dX2_note_133
  refine w_aload_n hx hb dX2_note_0 rfl (lv_at hl 0 rfl) ?_
  obtain ⟨v1, ev1, h⟩ := v_bnd h
  refine v_gI (ci := 4) hx hb hts iwX2 hown hK 3 ev1 rfl (by decide) (Or.inl (hts _ kw145)) (fun _ h9 => h9) dX2_note_1 ?_
  refine w_iload hx hb dX2_note_4 (lv_at hl 4 rfl) ?_
  refine w_icmp_lt (tgt := 93) hx hb dX2_note_6 (by decide) (fun c2 => ?_) (fun c2 => ?_)
  · rw [if_pos c2] at h
    exact X2_note_J93p x0 x1 x2 x3 M ls (lv_sub hl [0, 1, 2, 3] rfl) h
  · rw [if_neg c2] at h
    refine w_aload_n hx hb dX2_note_9 rfl (lv_at hl 0 rfl) ?_
    refine w_aload_n hx hb dX2_note_10 rfl (lv_at hl 0 rfl) ?_
    obtain ⟨a14, ea14, h⟩ := v_bnd h
    refine v_gA (ci := 4) hx hb hts iwX2 hown hK 0 ea14 rfl (by decide) (Or.inl (hts _ kw139)) (fun _ h9 => h9) dX2_note_11 ?_
    refine w_iconst (v := 0) hx hb dX2_note_14 (by decide) ?_
    obtain ⟨v15, ev15, h⟩ := v_bnd h
    refine v_iald hx hb hK ev15 dX2_note_15 ?_
    obtain ⟨M16, eM16, h⟩ := v_bnd h
    refine v_putf (ci := 4) hx hb hts iwX2 hown hK tyX2_ok nmX2 4 eM16 rfl (by decide) (Or.inl (hts _ kw147)) (fun _ h9 => h9) (Or.inl rfl) rfl rfl dX2_note_16 ?_
    refine w_aload_n hx hb dX2_note_19 rfl (lv_at hl 0 rfl) ?_
    refine w_aload_n hx hb dX2_note_20 rfl (lv_at hl 0 rfl) ?_
    refine w_aload_n hx hb dX2_note_21 rfl (lv_at hl 0 rfl) ?_
    obtain ⟨v17, ev17, h⟩ := v_bnd h
    refine v_gJ (ci := 4) hx hb hts iwX2 hown hK 5 ev17 rfl (by decide) (Or.inl (hts _ kw149)) (fun _ h9 => h9) dX2_note_22 ?_
    refine w_iconst (v := 0) hx hb dX2_note_25 (by decide) ?_
    obtain ⟨g8, h⟩ := v_ifs h
    obtain ⟨z18, ez18, h⟩ := v_bnd h
    refine v_call1 (v := .long z18) (M1 := M16) (mc := 0) (ms := 0) (fun H locs hR hS => va_runV (As := [.long v17, .int 0]) (rest := [.ref x0]) ⟨hx, hb, hml, hown, hts⟩ (mX2_bitsBehind l hfl D x0 v17 0 M16 z18 ez18) (cwV 2 hts (gdV kw978 kw980 kw15 kw33 kw981) rfl rfl rfl (by decide +kernel) ⟨Nat.le_of_ble_eq_true rfl, Nat.le_of_ble_eq_true rfl⟩) (v_preV (ci := 4) hSS hR hS g8 (by decide) rfl [.long v17, .int 0]) rfl rfl hl.1 rfl (lv_room (Nat.le_of_ble_eq_true rfl)) dX2_note_26 ⟨Nat.zero_le _, Nat.zero_le _⟩) ?_
    obtain ⟨M19, eM19, h⟩ := v_bnd h
    refine v_putf (ci := 4) hx hb hts iwX2 hown hK tyX2_ok nmX2 5 eM19 rfl (by decide) (Or.inl (hts _ kw149)) (fun _ h9 => h9) (Or.inl rfl) rfl rfl dX2_note_29 ?_
    refine w_aload_n hx hb dX2_note_32 rfl (lv_at hl 0 rfl) ?_
    refine w_dup hx hb dX2_note_33 rfl ?_
    obtain ⟨v20, ev20, h⟩ := v_bnd h
    refine v_gI (ci := 4) hx hb hts iwX2 hown hK 3 ev20 rfl (by decide) (Or.inl (hts _ kw145)) (fun _ h9 => h9) dX2_note_34 ?_
    refine w_iconst (v := 1) hx hb dX2_note_37 (by decide) ?_
    refine w_isub hx hb dX2_note_38 ?_
    obtain ⟨M21, eM21, h⟩ := v_bnd h
    refine v_putf (ci := 4) hx hb hts iwX2 hown hK tyX2_ok nmX2 3 eM21 rfl (by decide) (Or.inl (hts _ kw145)) (fun _ h9 => h9) (Or.inl rfl) rfl rfl dX2_note_39 ?_
    refine w_aload_n hx hb dX2_note_42 rfl (lv_at hl 0 rfl) ?_
    obtain ⟨a22, ea22, h⟩ := v_bnd h
    refine v_gA (ci := 4) hx hb hts iwX2 hown hK 0 ea22 rfl (by decide) (Or.inl (hts _ kw139)) (fun _ h9 => h9) dX2_note_43 ?_
    refine w_iconst (v := 1) hx hb dX2_note_46 (by decide) ?_
    refine w_aload_n hx hb dX2_note_47 rfl (lv_at hl 0 rfl) ?_
    obtain ⟨a23, ea23, h⟩ := v_bnd h
    refine v_gA (ci := 4) hx hb hts iwX2 hown hK 0 ea23 rfl (by decide) (Or.inl (hts _ kw139)) (fun _ h9 => h9) dX2_note_48 ?_
    refine w_iconst (v := 0) hx hb dX2_note_51 (by decide) ?_
    refine w_aload_n hx hb dX2_note_52 rfl (lv_at hl 0 rfl) ?_
    obtain ⟨v24, ev24, h⟩ := v_bnd h
    refine v_gI (ci := 4) hx hb hts iwX2 hown hK 3 ev24 rfl (by decide) (Or.inl (hts _ kw145)) (fun _ h9 => h9) dX2_note_53 ?_
    obtain ⟨M25, eM25, h⟩ := v_bnd h
    refine v_copy hx hb (hml.trans hl.1.symm) hown hK (hts _ kw983) (hts _ kw488) (hts _ kw487) (hts _ kw44) eM25 v_cpI (Nat.le_of_ble_eq_true rfl) (Nat.le_of_ble_eq_true rfl) dX2_note_56 ?_
    refine w_aload_n hx hb dX2_note_59 rfl (lv_at hl 0 rfl) ?_
    obtain ⟨a26, ea26, h⟩ := v_bnd h
    refine v_gA (ci := 4) hx hb hts iwX2 hown hK 1 ea26 rfl (by decide) (Or.inl (hts _ kw141)) (fun _ h9 => h9) dX2_note_60 ?_
    refine w_iconst (v := 1) hx hb dX2_note_63 (by decide) ?_
    refine w_aload_n hx hb dX2_note_64 rfl (lv_at hl 0 rfl) ?_
    obtain ⟨a27, ea27, h⟩ := v_bnd h
    refine v_gA (ci := 4) hx hb hts iwX2 hown hK 1 ea27 rfl (by decide) (Or.inl (hts _ kw141)) (fun _ h9 => h9) dX2_note_65 ?_
    refine w_iconst (v := 0) hx hb dX2_note_68 (by decide) ?_
    refine w_aload_n hx hb dX2_note_69 rfl (lv_at hl 0 rfl) ?_
    obtain ⟨v28, ev28, h⟩ := v_bnd h
    refine v_gI (ci := 4) hx hb hts iwX2 hown hK 3 ev28 rfl (by decide) (Or.inl (hts _ kw145)) (fun _ h9 => h9) dX2_note_70 ?_
    obtain ⟨M29, eM29, h⟩ := v_bnd h
    refine v_copy hx hb (hml.trans hl.1.symm) hown hK (hts _ kw983) (hts _ kw488) (hts _ kw487) (hts _ kw44) eM29 v_cpI (Nat.le_of_ble_eq_true rfl) (Nat.le_of_ble_eq_true rfl) dX2_note_73 ?_
    refine w_aload_n hx hb dX2_note_76 rfl (lv_at hl 0 rfl) ?_
    obtain ⟨a30, ea30, h⟩ := v_bnd h
    refine v_gA (ci := 4) hx hb hts iwX2 hown hK 2 ea30 rfl (by decide) (Or.inl (hts _ kw143)) (fun _ h9 => h9) dX2_note_77 ?_
    refine w_iconst (v := 1) hx hb dX2_note_80 (by decide) ?_
    refine w_aload_n hx hb dX2_note_81 rfl (lv_at hl 0 rfl) ?_
    obtain ⟨a31, ea31, h⟩ := v_bnd h
    refine v_gA (ci := 4) hx hb hts iwX2 hown hK 2 ea31 rfl (by decide) (Or.inl (hts _ kw143)) (fun _ h9 => h9) dX2_note_82 ?_
    refine w_iconst (v := 0) hx hb dX2_note_85 (by decide) ?_
    refine w_aload_n hx hb dX2_note_86 rfl (lv_at hl 0 rfl) ?_
    obtain ⟨v32, ev32, h⟩ := v_bnd h
    refine v_gI (ci := 4) hx hb hts iwX2 hown hK 3 ev32 rfl (by decide) (Or.inl (hts _ kw145)) (fun _ h9 => h9) dX2_note_87 ?_
    obtain ⟨M33, eM33, h⟩ := v_bnd h
    refine v_copy hx hb (hml.trans hl.1.symm) hown hK (hts _ kw983) (hts _ kw488) (hts _ kw487) (hts _ kw44) eM33 v_cpI (Nat.le_of_ble_eq_true rfl) (Nat.le_of_ble_eq_true rfl) dX2_note_90 ?_
    exact X2_note_J93p x0 x1 x2 x3 M33 ls (lv_sub hl [0, 1, 2, 3] rfl) h

def tX2_bitsAt_L8 (x0 : Nat) (x1 : Int32) (M : vMe) : Nat → Int64 → Int32 → Option Int64
  | 0, _, _ => none
  | f + 1, x2, x4 =>
  (gI M x0 5 3).bind fun v8 =>
  if v8 ≤ x4 then
  (some x2)
else
  ((gA M x0 5 0).bind fun a10 =>
  (aI M a10 101 x4).bind fun v11 =>
  if x1 < v11 then
  (some x2)
else
  (if (M.1 x0).1 = 5 then
  ((tX2_bitsBehind x0 x2 x4 M).bind fun z13 =>
  tX2_bitsAt_L8 x0 x1 M f z13 (x4 + 1))
else none))
def tX2_bitsAt (x0 : Nat) (x1 : Int32) (M : vMe) : Option Int64 :=
  (gJ M x0 5 5).bind fun v1 =>
  (tX2_bitsAt_L8 x0 x1 M vF v1 0).bind fun z14 =>
  some z14
def rmX2_bitsAt : Room := { frames := 2, cells := 0, slots := 0, locals := 25 }
set_option maxHeartbeats 4000000 in
set_option maxRecDepth 100000 in
theorem mX2_bitsAt (l : Launch) (hfl : l.stackTraces = false) (D : vD) (x0 : Nat) (x1 : Int32) (M : vMe) (z : Int64) (h : tX2_bitsAt x0 x1 M = some z) : Met l yX2_bitsAt (Cond.code yX2_bitsAt cX2_bitsAt 5 (some .long) :: TB) rmX2_bitsAt (va_Pc [.ref x0, .int x1] (vPre D M)) (qW D (some (.long z)) M) 0 0 (vA D) := by
  refine v_ofW (cc := cX2_bitsAt) (maxL := 5) (ret := (some .long)) (by decide) (Nat.le_of_ble_eq_true rfl) ?_
  intro p e s m args below meth c Q hx hb hr hml hown hts hlk hnm hSS hR0 hQ ls hl
  have hK := hSS.1
  have hl : lv_has ls 5 [(0, .ref x0), (1, .int x1)] := hl
  unfold tX2_bitsAt at h
  have X2_bitsAt_L8p : ∀ (x0 : Nat) (x1 : Int32), ∀ (f : Nat) (x2 : Int64) (x4 : Int32) (ls : Array Slot) (z : Int64), lv_has ls 5 [(0, .ref x0), (1, .int x1), (2, .long x2), (4, .int x4)] → tX2_bitsAt_L8 x0 x1 M f x2 x4 = some z → (∀ ls : Array Slot, lv_has ls 5 [(2, .long z)] → vV D p l e rmX2_bitsAt s m args below meth c 0 0 Q M (F0 m 42 ls [])) → vV D p l e rmX2_bitsAt s m args below meth c 0 0 Q M (F0 m 8 ls []) := by
    intro x0 x1 f
    induction f with
    | zero =>
      intro x2 x4 ls z hl h
      exact absurd h (by simp [tX2_bitsAt_L8])
    | succ f ih =>
      intro x2 x4 ls z hl h KX
      rw [tX2_bitsAt_L8] at h
      refine w_iload hx hb dX2_bitsAt_8 (lv_at hl 3 rfl) ?_
      refine w_aload_n hx hb dX2_bitsAt_10 rfl (lv_at hl 0 rfl) ?_
      obtain ⟨v8, ev8, h⟩ := v_bnd h
      refine v_gI (ci := 4) hx hb hts iwX2 hown hK 3 ev8 rfl (by decide) (Or.inl (hts _ kw145)) (fun _ h9 => h9) dX2_bitsAt_11 ?_
      refine w_icmp_ge (tgt := 42) hx hb dX2_bitsAt_14 (by decide) (fun c9 => ?_) (fun c9 => ?_)
      · rw [if_pos c9] at h
        obtain rfl := Option.some.inj h
        exact KX ls (lv_sub hl [2] rfl)
      · rw [if_neg c9] at h
        refine w_aload_n hx hb dX2_bitsAt_17 rfl (lv_at hl 0 rfl) ?_
        obtain ⟨a10, ea10, h⟩ := v_bnd h
        refine v_gA (ci := 4) hx hb hts iwX2 hown hK 0 ea10 rfl (by decide) (Or.inl (hts _ kw139)) (fun _ h9 => h9) dX2_bitsAt_18 ?_
        refine w_iload hx hb dX2_bitsAt_21 (lv_at hl 3 rfl) ?_
        obtain ⟨v11, ev11, h⟩ := v_bnd h
        refine v_iald hx hb hK ev11 dX2_bitsAt_23 ?_
        refine w_iload_n hx hb dX2_bitsAt_24 rfl (lv_at hl 1 rfl) ?_
        refine w_icmp_gt (tgt := 42) hx hb dX2_bitsAt_25 (by decide) (fun c12 => ?_) (fun c12 => ?_)
        · rw [if_pos c12] at h
          obtain rfl := Option.some.inj h
          exact KX ls (lv_sub hl [2] rfl)
        · rw [if_neg c12] at h
          refine w_aload_n hx hb dX2_bitsAt_28 rfl (lv_at hl 0 rfl) ?_
          refine w_lload_n hx hb dX2_bitsAt_29 rfl (lv_at hl 2 rfl) ?_
          refine w_iload hx hb dX2_bitsAt_30 (lv_at hl 3 rfl) ?_
          obtain ⟨g8, h⟩ := v_ifs h
          obtain ⟨z13, ez13, h⟩ := v_bnd h
          refine v_call1 (v := .long z13) (M1 := M) (mc := 0) (ms := 0) (fun H locs hR hS => va_runV (As := [.long x2, .int x4]) (rest := []) ⟨hx, hb, hml, hown, hts⟩ (mX2_bitsBehind l hfl D x0 x2 x4 M z13 ez13) (cwV 2 hts (gdV kw978 kw980 kw15 kw33 kw981) rfl rfl rfl (by decide +kernel) ⟨Nat.le_of_ble_eq_true rfl, Nat.le_of_ble_eq_true rfl⟩) (v_preV (ci := 4) hSS hR hS g8 (by decide) rfl [.long x2, .int x4]) rfl rfl hl.1 rfl (lv_room (Nat.le_of_ble_eq_true rfl)) dX2_bitsAt_32 ⟨Nat.zero_le _, Nat.zero_le _⟩) ?_
          refine w_lstore_n (lv' := [(2, .long z13), (0, .ref x0), (1, .int x1), (4, .int x4)]) hx hb dX2_bitsAt_35 rfl hl (by decide) rfl (fun ls hl => ?_)
          have hl : lv_has ls 5 [(0, .ref x0), (1, .int x1), (2, .long z13), (4, .int x4)] := lv_sub hl [1, 2, 0, 3] rfl
          refine w_iinc (v := x4 + 1) (lv' := [(4, .int (x4 + 1)), (0, .ref x0), (1, .int x1), (2, .long z13)]) hx hb dX2_bitsAt_36 hl (j := 3) rfl rfl (by decide) rfl (fun ls hl => ?_)
          have hl : lv_has ls 5 [(0, .ref x0), (1, .int x1), (2, .long z13), (4, .int (x4 + 1))] := lv_sub hl [1, 2, 3, 0] rfl
          refine w_goto (tgt := 8) hx hb dX2_bitsAt_39 (by decide) ?_
          exact ih z13 (x4 + 1) ls z (lv_sub hl [0, 1, 2, 3] rfl) h KX
  refine w_aload_n hx hb dX2_bitsAt_0 rfl (lv_at hl 0 rfl) ?_
  obtain ⟨v1, ev1, h⟩ := v_bnd h
  refine v_gJ (ci := 4) hx hb hts iwX2 hown hK 5 ev1 rfl (by decide) (Or.inl (hts _ kw149)) (fun _ h9 => h9) dX2_bitsAt_1 ?_
  refine w_lstore_n (lv' := [(2, .long v1), (0, .ref x0), (1, .int x1)]) hx hb dX2_bitsAt_4 rfl hl (by decide) rfl (fun ls hl => ?_)
  have hl : lv_has ls 5 [(0, .ref x0), (1, .int x1), (2, .long v1)] := lv_sub hl [1, 2, 0] rfl
  refine w_iconst (v := 0) hx hb dX2_bitsAt_5 (by decide) ?_
  refine w_istore (lv' := [(4, .int 0), (0, .ref x0), (1, .int x1), (2, .long v1)]) hx hb dX2_bitsAt_6 hl (by decide) rfl (fun ls hl => ?_)
  have hl : lv_has ls 5 [(0, .ref x0), (1, .int x1), (2, .long v1), (4, .int 0)] := lv_sub hl [1, 2, 3, 0] rfl
  obtain ⟨z14, ez14, h⟩ := v_bnd h
  refine X2_bitsAt_L8p x0 x1 vF v1 0 ls z14 (lv_sub hl [0, 1, 2, 3] rfl) ez14 (fun ls hl => ?_)
  refine w_lload_n hx hb dX2_bitsAt_42 rfl (lv_at hl 0 rfl) ?_
  obtain rfl := Option.some.inj h
  rw [hQ]
  exact v_lret hx hb hr hlk dX2_bitsAt_43

def tX2_latestChangeOf_J49_10 (rec : Int32 → Int64 → Int32 → Option Int32) (x0 : Nat) (x1 : Int32) (x2 : Int32) (x5 : Int32) (x6 : Int64) (M : vMe) : Option Int32 :=
  rec x2 x6 (x5 + 1)
def tX2_latestChangeOf_L10 (x0 : Nat) (x1 : Int32) (M : vMe) : Nat → Int32 → Int64 → Int32 → Option Int32
  | 0, _, _, _ => none
  | f + 1, x2, x3, x5 =>
  (gI M x0 5 3).bind fun v8 =>
  if v8 ≤ x5 then
  (some x2)
else
  (if (M.1 x0).1 = 5 then
  ((tX2_bitsBehind x0 x3 x5 M).bind fun z10 =>
  if (lg_cmp ((x3 ^^^ z10) &&& (1 <<< (x1.toInt64 &&& 63))) 0) = 0 then
  (tX2_latestChangeOf_J49_10 (tX2_latestChangeOf_L10 x0 x1 M f) x0 x1 x2 x5 z10 M)
else
  ((gA M x0 5 0).bind fun a12 =>
  (aI M a12 101 x5).bind fun v13 =>
  tX2_latestChangeOf_J49_10 (tX2_latestChangeOf_L10 x0 x1 M f) x0 x1 v13 x5 z10 M))
else none)
def tX2_latestChangeOf (x0 : Nat) (x1 : Int32) (M : vMe) : Option Int32 :=
  (gJ M x0 5 5).bind fun v1 =>
  (tX2_latestChangeOf_L10 x0 x1 M vF ((-1)) v1 0).bind fun z14 =>
  some z14
def rmX2_latestChangeOf : Room := { frames := 2, cells := 0, slots := 0, locals := 25 }
set_option maxHeartbeats 4000000 in
set_option maxRecDepth 100000 in
theorem mX2_latestChangeOf (l : Launch) (hfl : l.stackTraces = false) (D : vD) (x0 : Nat) (x1 : Int32) (M : vMe) (z : Int32) (h : tX2_latestChangeOf x0 x1 M = some z) : Met l yX2_latestChangeOf (Cond.code yX2_latestChangeOf cX2_latestChangeOf 8 (some .int) :: TB) rmX2_latestChangeOf (va_Pc [.ref x0, .int x1] (vPre D M)) (qW D (some (.int z)) M) 0 0 (vA D) := by
  refine v_ofW (cc := cX2_latestChangeOf) (maxL := 8) (ret := (some .int)) (by decide) (Nat.le_of_ble_eq_true rfl) ?_
  intro p e s m args below meth c Q hx hb hr hml hown hts hlk hnm hSS hR0 hQ ls hl
  have hK := hSS.1
  have hl : lv_has ls 8 [(0, .ref x0), (1, .int x1)] := hl
  unfold tX2_latestChangeOf at h
  have X2_latestChangeOf_L10p : ∀ (x0 : Nat) (x1 : Int32), ∀ (f : Nat) (x2 : Int32) (x3 : Int64) (x5 : Int32) (ls : Array Slot) (z : Int32), lv_has ls 8 [(0, .ref x0), (1, .int x1), (2, .int x2), (3, .long x3), (5, .int x5)] → tX2_latestChangeOf_L10 x0 x1 M f x2 x3 x5 = some z → (∀ ls : Array Slot, lv_has ls 8 [(2, .int z)] → vV D p l e rmX2_latestChangeOf s m args below meth c 0 0 Q M (F0 m 58 ls [])) → vV D p l e rmX2_latestChangeOf s m args below meth c 0 0 Q M (F0 m 10 ls []) := by
    intro x0 x1 f
    induction f with
    | zero =>
      intro x2 x3 x5 ls z hl h
      exact absurd h (by simp [tX2_latestChangeOf_L10])
    | succ f ih =>
      intro x2 x3 x5 ls z hl h KX
      rw [tX2_latestChangeOf_L10] at h
      have X2_latestChangeOf_J49_10p : ∀ (x2 : Int32) (x5 : Int32) (x6 : Int64) (ls : Array Slot), lv_has ls 8 [(0, .ref x0), (1, .int x1), (2, .int x2), (5, .int x5), (6, .long x6)] → tX2_latestChangeOf_J49_10 (tX2_latestChangeOf_L10 x0 x1 M f) x0 x1 x2 x5 x6 M = some z → vV D p l e rmX2_latestChangeOf s m args below meth c 0 0 Q M (F0 m 49 ls []) := by
        intro x2 x5 x6 ls hl h
        unfold tX2_latestChangeOf_J49_10 at h
        refine w_lload hx hb dX2_latestChangeOf_49 (lv_at hl 4 rfl) ?_
        refine w_lstore_n (lv' := [(3, .long x6), (0, .ref x0), (1, .int x1), (2, .int x2), (5, .int x5), (6, .long x6)]) hx hb dX2_latestChangeOf_51 rfl hl (by decide) rfl (fun ls hl => ?_)
        have hl : lv_has ls 8 [(0, .ref x0), (1, .int x1), (2, .int x2), (3, .long x6), (5, .int x5), (6, .long x6)] := lv_sub hl [1, 2, 3, 0, 4, 5] rfl
        refine w_iinc (v := x5 + 1) (lv' := [(5, .int (x5 + 1)), (0, .ref x0), (1, .int x1), (2, .int x2), (3, .long x6), (6, .long x6)]) hx hb dX2_latestChangeOf_52 hl (j := 4) rfl rfl (by decide) rfl (fun ls hl => ?_)
        have hl : lv_has ls 8 [(0, .ref x0), (1, .int x1), (2, .int x2), (3, .long x6), (5, .int (x5 + 1)), (6, .long x6)] := lv_sub hl [1, 2, 3, 4, 0, 5] rfl
        refine w_goto (tgt := 10) hx hb dX2_latestChangeOf_55 (by decide) ?_
        exact ih x2 x6 (x5 + 1) ls z (lv_sub hl [0, 1, 2, 3, 4] rfl) h KX
      refine w_iload hx hb dX2_latestChangeOf_10 (lv_at hl 4 rfl) ?_
      refine w_aload_n hx hb dX2_latestChangeOf_12 rfl (lv_at hl 0 rfl) ?_
      obtain ⟨v8, ev8, h⟩ := v_bnd h
      refine v_gI (ci := 4) hx hb hts iwX2 hown hK 3 ev8 rfl (by decide) (Or.inl (hts _ kw145)) (fun _ h9 => h9) dX2_latestChangeOf_13 ?_
      refine w_icmp_ge (tgt := 58) hx hb dX2_latestChangeOf_16 (by decide) (fun c9 => ?_) (fun c9 => ?_)
      · rw [if_pos c9] at h
        obtain rfl := Option.some.inj h
        exact KX ls (lv_sub hl [2] rfl)
      · rw [if_neg c9] at h
        refine w_aload_n hx hb dX2_latestChangeOf_19 rfl (lv_at hl 0 rfl) ?_
        refine w_lload_n hx hb dX2_latestChangeOf_20 rfl (lv_at hl 3 rfl) ?_
        refine w_iload hx hb dX2_latestChangeOf_21 (lv_at hl 4 rfl) ?_
        obtain ⟨g8, h⟩ := v_ifs h
        obtain ⟨z10, ez10, h⟩ := v_bnd h
        refine v_call1 (v := .long z10) (M1 := M) (mc := 0) (ms := 0) (fun H locs hR hS => va_runV (As := [.long x3, .int x5]) (rest := []) ⟨hx, hb, hml, hown, hts⟩ (mX2_bitsBehind l hfl D x0 x3 x5 M z10 ez10) (cwV 2 hts (gdV kw978 kw980 kw15 kw33 kw981) rfl rfl rfl (by decide +kernel) ⟨Nat.le_of_ble_eq_true rfl, Nat.le_of_ble_eq_true rfl⟩) (v_preV (ci := 4) hSS hR hS g8 (by decide) rfl [.long x3, .int x5]) rfl rfl hl.1 rfl (lv_room (Nat.le_of_ble_eq_true rfl)) dX2_latestChangeOf_23 ⟨Nat.zero_le _, Nat.zero_le _⟩) ?_
        refine w_lstore (lv' := [(6, .long z10), (0, .ref x0), (1, .int x1), (2, .int x2), (3, .long x3), (5, .int x5)]) hx hb dX2_latestChangeOf_26 hl (by decide) rfl (fun ls hl => ?_)
        have hl : lv_has ls 8 [(0, .ref x0), (1, .int x1), (2, .int x2), (3, .long x3), (5, .int x5), (6, .long z10)] := lv_sub hl [1, 2, 3, 4, 5, 0] rfl
        refine w_lload_n hx hb dX2_latestChangeOf_28 rfl (lv_at hl 3 rfl) ?_
        refine w_lload hx hb dX2_latestChangeOf_29 (lv_at hl 5 rfl) ?_
        refine w_lxor hx hb dX2_latestChangeOf_31 ?_
        refine w_lconst (v := 1) hx hb dX2_latestChangeOf_32 (by decide) ?_
        refine w_iload_n hx hb dX2_latestChangeOf_33 rfl (lv_at hl 1 rfl) ?_
        refine w_lshl hx hb dX2_latestChangeOf_34 ?_
        refine w_land hx hb dX2_latestChangeOf_35 ?_
        refine w_lconst (v := 0) hx hb dX2_latestChangeOf_36 (by decide) ?_
        refine w_lcmp hx hb dX2_latestChangeOf_37 ?_
        refine w_if_eq (tgt := 49) hx hb dX2_latestChangeOf_38 (by decide) (fun c11 => ?_) (fun c11 => ?_)
        · rw [if_pos c11] at h
          exact X2_latestChangeOf_J49_10p x2 x5 z10 ls (lv_sub hl [0, 1, 2, 4, 5] rfl) h
        · rw [if_neg c11] at h
          refine w_aload_n hx hb dX2_latestChangeOf_41 rfl (lv_at hl 0 rfl) ?_
          obtain ⟨a12, ea12, h⟩ := v_bnd h
          refine v_gA (ci := 4) hx hb hts iwX2 hown hK 0 ea12 rfl (by decide) (Or.inl (hts _ kw139)) (fun _ h9 => h9) dX2_latestChangeOf_42 ?_
          refine w_iload hx hb dX2_latestChangeOf_45 (lv_at hl 4 rfl) ?_
          obtain ⟨v13, ev13, h⟩ := v_bnd h
          refine v_iald hx hb hK ev13 dX2_latestChangeOf_47 ?_
          refine w_istore_n (lv' := [(2, .int v13), (0, .ref x0), (1, .int x1), (3, .long x3), (5, .int x5), (6, .long z10)]) hx hb dX2_latestChangeOf_48 rfl hl (by decide) rfl (fun ls hl => ?_)
          have hl : lv_has ls 8 [(0, .ref x0), (1, .int x1), (2, .int v13), (3, .long x3), (5, .int x5), (6, .long z10)] := lv_sub hl [1, 2, 0, 3, 4, 5] rfl
          exact X2_latestChangeOf_J49_10p v13 x5 z10 ls (lv_sub hl [0, 1, 2, 4, 5] rfl) h
  refine w_iconst (v := (-1)) hx hb dX2_latestChangeOf_0 (by decide) ?_
  refine w_istore_n (lv' := [(2, .int ((-1))), (0, .ref x0), (1, .int x1)]) hx hb dX2_latestChangeOf_1 rfl hl (by decide) rfl (fun ls hl => ?_)
  have hl : lv_has ls 8 [(0, .ref x0), (1, .int x1), (2, .int ((-1)))] := lv_sub hl [1, 2, 0] rfl
  refine w_aload_n hx hb dX2_latestChangeOf_2 rfl (lv_at hl 0 rfl) ?_
  obtain ⟨v1, ev1, h⟩ := v_bnd h
  refine v_gJ (ci := 4) hx hb hts iwX2 hown hK 5 ev1 rfl (by decide) (Or.inl (hts _ kw149)) (fun _ h9 => h9) dX2_latestChangeOf_3 ?_
  refine w_lstore_n (lv' := [(3, .long v1), (0, .ref x0), (1, .int x1), (2, .int ((-1)))]) hx hb dX2_latestChangeOf_6 rfl hl (by decide) rfl (fun ls hl => ?_)
  have hl : lv_has ls 8 [(0, .ref x0), (1, .int x1), (2, .int ((-1))), (3, .long v1)] := lv_sub hl [1, 2, 3, 0] rfl
  refine w_iconst (v := 0) hx hb dX2_latestChangeOf_7 (by decide) ?_
  refine w_istore (lv' := [(5, .int 0), (0, .ref x0), (1, .int x1), (2, .int ((-1))), (3, .long v1)]) hx hb dX2_latestChangeOf_8 hl (by decide) rfl (fun ls hl => ?_)
  have hl : lv_has ls 8 [(0, .ref x0), (1, .int x1), (2, .int ((-1))), (3, .long v1), (5, .int 0)] := lv_sub hl [1, 2, 3, 4, 0] rfl
  obtain ⟨z14, ez14, h⟩ := v_bnd h
  refine X2_latestChangeOf_L10p x0 x1 vF ((-1)) v1 0 ls z14 (lv_sub hl [0, 1, 2, 3, 4] rfl) ez14 (fun ls hl => ?_)
  refine w_iload_n hx hb dX2_latestChangeOf_58 rfl (lv_at hl 0 rfl) ?_
  obtain rfl := Option.some.inj h
  rw [hQ]
  exact v_iret hx hb hr hlk dX2_latestChangeOf_59

def tJ13_bitCount_95d88 (x0 : Int64) (M : vMe) : Option Int32 :=
  some ((((((((((x0 - (((x0.toUInt64 >>> ((1 : Int32).toInt64.toUInt64 &&& Int64.toUInt64 63)).toInt64) &&& 6148914691236517205)) &&& 3689348814741910323) + ((((x0 - (((x0.toUInt64 >>> ((1 : Int32).toInt64.toUInt64 &&& Int64.toUInt64 63)).toInt64) &&& 6148914691236517205)).toUInt64 >>> ((2 : Int32).toInt64.toUInt64 &&& Int64.toUInt64 63)).toInt64) &&& 3689348814741910323)) + (((((x0 - (((x0.toUInt64 >>> ((1 : Int32).toInt64.toUInt64 &&& Int64.toUInt64 63)).toInt64) &&& 6148914691236517205)) &&& 3689348814741910323) + ((((x0 - (((x0.toUInt64 >>> ((1 : Int32).toInt64.toUInt64 &&& Int64.toUInt64 63)).toInt64) &&& 6148914691236517205)).toUInt64 >>> ((2 : Int32).toInt64.toUInt64 &&& Int64.toUInt64 63)).toInt64) &&& 3689348814741910323)).toUInt64 >>> ((4 : Int32).toInt64.toUInt64 &&& Int64.toUInt64 63)).toInt64)) &&& 1085102592571150095) + (((((((x0 - (((x0.toUInt64 >>> ((1 : Int32).toInt64.toUInt64 &&& Int64.toUInt64 63)).toInt64) &&& 6148914691236517205)) &&& 3689348814741910323) + ((((x0 - (((x0.toUInt64 >>> ((1 : Int32).toInt64.toUInt64 &&& Int64.toUInt64 63)).toInt64) &&& 6148914691236517205)).toUInt64 >>> ((2 : Int32).toInt64.toUInt64 &&& Int64.toUInt64 63)).toInt64) &&& 3689348814741910323)) + (((((x0 - (((x0.toUInt64 >>> ((1 : Int32).toInt64.toUInt64 &&& Int64.toUInt64 63)).toInt64) &&& 6148914691236517205)) &&& 3689348814741910323) + ((((x0 - (((x0.toUInt64 >>> ((1 : Int32).toInt64.toUInt64 &&& Int64.toUInt64 63)).toInt64) &&& 6148914691236517205)).toUInt64 >>> ((2 : Int32).toInt64.toUInt64 &&& Int64.toUInt64 63)).toInt64) &&& 3689348814741910323)).toUInt64 >>> ((4 : Int32).toInt64.toUInt64 &&& Int64.toUInt64 63)).toInt64)) &&& 1085102592571150095).toUInt64 >>> ((8 : Int32).toInt64.toUInt64 &&& Int64.toUInt64 63)).toInt64)) + ((((((((x0 - (((x0.toUInt64 >>> ((1 : Int32).toInt64.toUInt64 &&& Int64.toUInt64 63)).toInt64) &&& 6148914691236517205)) &&& 3689348814741910323) + ((((x0 - (((x0.toUInt64 >>> ((1 : Int32).toInt64.toUInt64 &&& Int64.toUInt64 63)).toInt64) &&& 6148914691236517205)).toUInt64 >>> ((2 : Int32).toInt64.toUInt64 &&& Int64.toUInt64 63)).toInt64) &&& 3689348814741910323)) + (((((x0 - (((x0.toUInt64 >>> ((1 : Int32).toInt64.toUInt64 &&& Int64.toUInt64 63)).toInt64) &&& 6148914691236517205)) &&& 3689348814741910323) + ((((x0 - (((x0.toUInt64 >>> ((1 : Int32).toInt64.toUInt64 &&& Int64.toUInt64 63)).toInt64) &&& 6148914691236517205)).toUInt64 >>> ((2 : Int32).toInt64.toUInt64 &&& Int64.toUInt64 63)).toInt64) &&& 3689348814741910323)).toUInt64 >>> ((4 : Int32).toInt64.toUInt64 &&& Int64.toUInt64 63)).toInt64)) &&& 1085102592571150095) + (((((((x0 - (((x0.toUInt64 >>> ((1 : Int32).toInt64.toUInt64 &&& Int64.toUInt64 63)).toInt64) &&& 6148914691236517205)) &&& 3689348814741910323) + ((((x0 - (((x0.toUInt64 >>> ((1 : Int32).toInt64.toUInt64 &&& Int64.toUInt64 63)).toInt64) &&& 6148914691236517205)).toUInt64 >>> ((2 : Int32).toInt64.toUInt64 &&& Int64.toUInt64 63)).toInt64) &&& 3689348814741910323)) + (((((x0 - (((x0.toUInt64 >>> ((1 : Int32).toInt64.toUInt64 &&& Int64.toUInt64 63)).toInt64) &&& 6148914691236517205)) &&& 3689348814741910323) + ((((x0 - (((x0.toUInt64 >>> ((1 : Int32).toInt64.toUInt64 &&& Int64.toUInt64 63)).toInt64) &&& 6148914691236517205)).toUInt64 >>> ((2 : Int32).toInt64.toUInt64 &&& Int64.toUInt64 63)).toInt64) &&& 3689348814741910323)).toUInt64 >>> ((4 : Int32).toInt64.toUInt64 &&& Int64.toUInt64 63)).toInt64)) &&& 1085102592571150095).toUInt64 >>> ((8 : Int32).toInt64.toUInt64 &&& Int64.toUInt64 63)).toInt64)).toUInt64 >>> ((16 : Int32).toInt64.toUInt64 &&& Int64.toUInt64 63)).toInt64)) + (((((((((x0 - (((x0.toUInt64 >>> ((1 : Int32).toInt64.toUInt64 &&& Int64.toUInt64 63)).toInt64) &&& 6148914691236517205)) &&& 3689348814741910323) + ((((x0 - (((x0.toUInt64 >>> ((1 : Int32).toInt64.toUInt64 &&& Int64.toUInt64 63)).toInt64) &&& 6148914691236517205)).toUInt64 >>> ((2 : Int32).toInt64.toUInt64 &&& Int64.toUInt64 63)).toInt64) &&& 3689348814741910323)) + (((((x0 - (((x0.toUInt64 >>> ((1 : Int32).toInt64.toUInt64 &&& Int64.toUInt64 63)).toInt64) &&& 6148914691236517205)) &&& 3689348814741910323) + ((((x0 - (((x0.toUInt64 >>> ((1 : Int32).toInt64.toUInt64 &&& Int64.toUInt64 63)).toInt64) &&& 6148914691236517205)).toUInt64 >>> ((2 : Int32).toInt64.toUInt64 &&& Int64.toUInt64 63)).toInt64) &&& 3689348814741910323)).toUInt64 >>> ((4 : Int32).toInt64.toUInt64 &&& Int64.toUInt64 63)).toInt64)) &&& 1085102592571150095) + (((((((x0 - (((x0.toUInt64 >>> ((1 : Int32).toInt64.toUInt64 &&& Int64.toUInt64 63)).toInt64) &&& 6148914691236517205)) &&& 3689348814741910323) + ((((x0 - (((x0.toUInt64 >>> ((1 : Int32).toInt64.toUInt64 &&& Int64.toUInt64 63)).toInt64) &&& 6148914691236517205)).toUInt64 >>> ((2 : Int32).toInt64.toUInt64 &&& Int64.toUInt64 63)).toInt64) &&& 3689348814741910323)) + (((((x0 - (((x0.toUInt64 >>> ((1 : Int32).toInt64.toUInt64 &&& Int64.toUInt64 63)).toInt64) &&& 6148914691236517205)) &&& 3689348814741910323) + ((((x0 - (((x0.toUInt64 >>> ((1 : Int32).toInt64.toUInt64 &&& Int64.toUInt64 63)).toInt64) &&& 6148914691236517205)).toUInt64 >>> ((2 : Int32).toInt64.toUInt64 &&& Int64.toUInt64 63)).toInt64) &&& 3689348814741910323)).toUInt64 >>> ((4 : Int32).toInt64.toUInt64 &&& Int64.toUInt64 63)).toInt64)) &&& 1085102592571150095).toUInt64 >>> ((8 : Int32).toInt64.toUInt64 &&& Int64.toUInt64 63)).toInt64)) + ((((((((x0 - (((x0.toUInt64 >>> ((1 : Int32).toInt64.toUInt64 &&& Int64.toUInt64 63)).toInt64) &&& 6148914691236517205)) &&& 3689348814741910323) + ((((x0 - (((x0.toUInt64 >>> ((1 : Int32).toInt64.toUInt64 &&& Int64.toUInt64 63)).toInt64) &&& 6148914691236517205)).toUInt64 >>> ((2 : Int32).toInt64.toUInt64 &&& Int64.toUInt64 63)).toInt64) &&& 3689348814741910323)) + (((((x0 - (((x0.toUInt64 >>> ((1 : Int32).toInt64.toUInt64 &&& Int64.toUInt64 63)).toInt64) &&& 6148914691236517205)) &&& 3689348814741910323) + ((((x0 - (((x0.toUInt64 >>> ((1 : Int32).toInt64.toUInt64 &&& Int64.toUInt64 63)).toInt64) &&& 6148914691236517205)).toUInt64 >>> ((2 : Int32).toInt64.toUInt64 &&& Int64.toUInt64 63)).toInt64) &&& 3689348814741910323)).toUInt64 >>> ((4 : Int32).toInt64.toUInt64 &&& Int64.toUInt64 63)).toInt64)) &&& 1085102592571150095) + (((((((x0 - (((x0.toUInt64 >>> ((1 : Int32).toInt64.toUInt64 &&& Int64.toUInt64 63)).toInt64) &&& 6148914691236517205)) &&& 3689348814741910323) + ((((x0 - (((x0.toUInt64 >>> ((1 : Int32).toInt64.toUInt64 &&& Int64.toUInt64 63)).toInt64) &&& 6148914691236517205)).toUInt64 >>> ((2 : Int32).toInt64.toUInt64 &&& Int64.toUInt64 63)).toInt64) &&& 3689348814741910323)) + (((((x0 - (((x0.toUInt64 >>> ((1 : Int32).toInt64.toUInt64 &&& Int64.toUInt64 63)).toInt64) &&& 6148914691236517205)) &&& 3689348814741910323) + ((((x0 - (((x0.toUInt64 >>> ((1 : Int32).toInt64.toUInt64 &&& Int64.toUInt64 63)).toInt64) &&& 6148914691236517205)).toUInt64 >>> ((2 : Int32).toInt64.toUInt64 &&& Int64.toUInt64 63)).toInt64) &&& 3689348814741910323)).toUInt64 >>> ((4 : Int32).toInt64.toUInt64 &&& Int64.toUInt64 63)).toInt64)) &&& 1085102592571150095).toUInt64 >>> ((8 : Int32).toInt64.toUInt64 &&& Int64.toUInt64 63)).toInt64)).toUInt64 >>> ((16 : Int32).toInt64.toUInt64 &&& Int64.toUInt64 63)).toInt64)).toUInt64 >>> ((32 : Int32).toInt64.toUInt64 &&& Int64.toUInt64 63)).toInt64)).toInt32) &&& 127)
def rmJ13_bitCount_95d88 : Room := { frames := 1, cells := 0, slots := 0, locals := 0 }
set_option maxHeartbeats 4000000 in
set_option maxRecDepth 100000 in
theorem mJ13_bitCount_95d88 (l : Launch) (hfl : l.stackTraces = false) (D : vD) (x0 : Int64) (M : vMe) (z : Int32) (h : tJ13_bitCount_95d88 x0 M = some z) : Met l yJ13_bitCount_95d88 (Cond.code yJ13_bitCount_95d88 cJ13_bitCount_95d88 2 (some .int) :: TB) rmJ13_bitCount_95d88 (va_Pc [.long x0] (vPre D M)) (qW D (some (.int z)) M) 0 0 (vA D) := by
  refine v_ofW (cc := cJ13_bitCount_95d88) (maxL := 2) (ret := (some .int)) (by decide) (Nat.le_of_ble_eq_true rfl) ?_
  intro p e s m args below meth c Q hx hb hr hml hown hts hlk hnm hSS hR0 hQ ls hl
  have hK := hSS.1
  have hl : lv_has ls 2 [(0, .long x0)] := hl
  unfold tJ13_bitCount_95d88 at h
  refine w_lload_n hx hb dJ13_bitCount_95d88_0 rfl (lv_at hl 0 rfl) ?_
  refine w_lload_n hx hb dJ13_bitCount_95d88_1 rfl (lv_at hl 0 rfl) ?_
  refine w_iconst (v := 1) hx hb dJ13_bitCount_95d88_2 (by decide) ?_
  refine w_lushr hx hb dJ13_bitCount_95d88_3 ?_
  refine w_ldcL hx hb hown (hts _ kw1341) dJ13_bitCount_95d88_4 ?_
  refine w_land hx hb dJ13_bitCount_95d88_7 ?_
  refine w_lsub hx hb dJ13_bitCount_95d88_8 ?_
  refine w_lstore_n (lv' := [(0, .long (x0 - (((x0.toUInt64 >>> ((1 : Int32).toInt64.toUInt64 &&& Int64.toUInt64 63)).toInt64) &&& 6148914691236517205)))]) hx hb dJ13_bitCount_95d88_9 rfl hl (by decide) rfl (fun ls hl => ?_)
  have hl : lv_has ls 2 [(0, .long (x0 - (((x0.toUInt64 >>> ((1 : Int32).toInt64.toUInt64 &&& Int64.toUInt64 63)).toInt64) &&& 6148914691236517205)))] := lv_sub hl [0] rfl
  refine w_lload_n hx hb dJ13_bitCount_95d88_10 rfl (lv_at hl 0 rfl) ?_
  refine w_ldcL hx hb hown (hts _ kw1342) dJ13_bitCount_95d88_11 ?_
  refine w_land hx hb dJ13_bitCount_95d88_14 ?_
  refine w_lload_n hx hb dJ13_bitCount_95d88_15 rfl (lv_at hl 0 rfl) ?_
  refine w_iconst (v := 2) hx hb dJ13_bitCount_95d88_16 (by decide) ?_
  refine w_lushr hx hb dJ13_bitCount_95d88_17 ?_
  refine w_ldcL hx hb hown (hts _ kw1342) dJ13_bitCount_95d88_18 ?_
  refine w_land hx hb dJ13_bitCount_95d88_21 ?_
  refine w_ladd hx hb dJ13_bitCount_95d88_22 ?_
  refine w_lstore_n (lv' := [(0, .long (((x0 - (((x0.toUInt64 >>> ((1 : Int32).toInt64.toUInt64 &&& Int64.toUInt64 63)).toInt64) &&& 6148914691236517205)) &&& 3689348814741910323) + ((((x0 - (((x0.toUInt64 >>> ((1 : Int32).toInt64.toUInt64 &&& Int64.toUInt64 63)).toInt64) &&& 6148914691236517205)).toUInt64 >>> ((2 : Int32).toInt64.toUInt64 &&& Int64.toUInt64 63)).toInt64) &&& 3689348814741910323)))]) hx hb dJ13_bitCount_95d88_23 rfl hl (by decide) rfl (fun ls hl => ?_)
  have hl : lv_has ls 2 [(0, .long (((x0 - (((x0.toUInt64 >>> ((1 : Int32).toInt64.toUInt64 &&& Int64.toUInt64 63)).toInt64) &&& 6148914691236517205)) &&& 3689348814741910323) + ((((x0 - (((x0.toUInt64 >>> ((1 : Int32).toInt64.toUInt64 &&& Int64.toUInt64 63)).toInt64) &&& 6148914691236517205)).toUInt64 >>> ((2 : Int32).toInt64.toUInt64 &&& Int64.toUInt64 63)).toInt64) &&& 3689348814741910323)))] := lv_sub hl [0] rfl
  refine w_lload_n hx hb dJ13_bitCount_95d88_24 rfl (lv_at hl 0 rfl) ?_
  refine w_lload_n hx hb dJ13_bitCount_95d88_25 rfl (lv_at hl 0 rfl) ?_
  refine w_iconst (v := 4) hx hb dJ13_bitCount_95d88_26 (by decide) ?_
  refine w_lushr hx hb dJ13_bitCount_95d88_27 ?_
  refine w_ladd hx hb dJ13_bitCount_95d88_28 ?_
  refine w_ldcL hx hb hown (hts _ kw1343) dJ13_bitCount_95d88_29 ?_
  refine w_land hx hb dJ13_bitCount_95d88_32 ?_
  refine w_lstore_n (lv' := [(0, .long (((((x0 - (((x0.toUInt64 >>> ((1 : Int32).toInt64.toUInt64 &&& Int64.toUInt64 63)).toInt64) &&& 6148914691236517205)) &&& 3689348814741910323) + ((((x0 - (((x0.toUInt64 >>> ((1 : Int32).toInt64.toUInt64 &&& Int64.toUInt64 63)).toInt64) &&& 6148914691236517205)).toUInt64 >>> ((2 : Int32).toInt64.toUInt64 &&& Int64.toUInt64 63)).toInt64) &&& 3689348814741910323)) + (((((x0 - (((x0.toUInt64 >>> ((1 : Int32).toInt64.toUInt64 &&& Int64.toUInt64 63)).toInt64) &&& 6148914691236517205)) &&& 3689348814741910323) + ((((x0 - (((x0.toUInt64 >>> ((1 : Int32).toInt64.toUInt64 &&& Int64.toUInt64 63)).toInt64) &&& 6148914691236517205)).toUInt64 >>> ((2 : Int32).toInt64.toUInt64 &&& Int64.toUInt64 63)).toInt64) &&& 3689348814741910323)).toUInt64 >>> ((4 : Int32).toInt64.toUInt64 &&& Int64.toUInt64 63)).toInt64)) &&& 1085102592571150095))]) hx hb dJ13_bitCount_95d88_33 rfl hl (by decide) rfl (fun ls hl => ?_)
  have hl : lv_has ls 2 [(0, .long (((((x0 - (((x0.toUInt64 >>> ((1 : Int32).toInt64.toUInt64 &&& Int64.toUInt64 63)).toInt64) &&& 6148914691236517205)) &&& 3689348814741910323) + ((((x0 - (((x0.toUInt64 >>> ((1 : Int32).toInt64.toUInt64 &&& Int64.toUInt64 63)).toInt64) &&& 6148914691236517205)).toUInt64 >>> ((2 : Int32).toInt64.toUInt64 &&& Int64.toUInt64 63)).toInt64) &&& 3689348814741910323)) + (((((x0 - (((x0.toUInt64 >>> ((1 : Int32).toInt64.toUInt64 &&& Int64.toUInt64 63)).toInt64) &&& 6148914691236517205)) &&& 3689348814741910323) + ((((x0 - (((x0.toUInt64 >>> ((1 : Int32).toInt64.toUInt64 &&& Int64.toUInt64 63)).toInt64) &&& 6148914691236517205)).toUInt64 >>> ((2 : Int32).toInt64.toUInt64 &&& Int64.toUInt64 63)).toInt64) &&& 3689348814741910323)).toUInt64 >>> ((4 : Int32).toInt64.toUInt64 &&& Int64.toUInt64 63)).toInt64)) &&& 1085102592571150095))] := lv_sub hl [0] rfl
  refine w_lload_n hx hb dJ13_bitCount_95d88_34 rfl (lv_at hl 0 rfl) ?_
  refine w_lload_n hx hb dJ13_bitCount_95d88_35 rfl (lv_at hl 0 rfl) ?_
  refine w_bipush (v := 8) hx hb dJ13_bitCount_95d88_36 (by decide) ?_
  refine w_lushr hx hb dJ13_bitCount_95d88_38 ?_
  refine w_ladd hx hb dJ13_bitCount_95d88_39 ?_
  refine w_lstore_n (lv' := [(0, .long ((((((x0 - (((x0.toUInt64 >>> ((1 : Int32).toInt64.toUInt64 &&& Int64.toUInt64 63)).toInt64) &&& 6148914691236517205)) &&& 3689348814741910323) + ((((x0 - (((x0.toUInt64 >>> ((1 : Int32).toInt64.toUInt64 &&& Int64.toUInt64 63)).toInt64) &&& 6148914691236517205)).toUInt64 >>> ((2 : Int32).toInt64.toUInt64 &&& Int64.toUInt64 63)).toInt64) &&& 3689348814741910323)) + (((((x0 - (((x0.toUInt64 >>> ((1 : Int32).toInt64.toUInt64 &&& Int64.toUInt64 63)).toInt64) &&& 6148914691236517205)) &&& 3689348814741910323) + ((((x0 - (((x0.toUInt64 >>> ((1 : Int32).toInt64.toUInt64 &&& Int64.toUInt64 63)).toInt64) &&& 6148914691236517205)).toUInt64 >>> ((2 : Int32).toInt64.toUInt64 &&& Int64.toUInt64 63)).toInt64) &&& 3689348814741910323)).toUInt64 >>> ((4 : Int32).toInt64.toUInt64 &&& Int64.toUInt64 63)).toInt64)) &&& 1085102592571150095) + (((((((x0 - (((x0.toUInt64 >>> ((1 : Int32).toInt64.toUInt64 &&& Int64.toUInt64 63)).toInt64) &&& 6148914691236517205)) &&& 3689348814741910323) + ((((x0 - (((x0.toUInt64 >>> ((1 : Int32).toInt64.toUInt64 &&& Int64.toUInt64 63)).toInt64) &&& 6148914691236517205)).toUInt64 >>> ((2 : Int32).toInt64.toUInt64 &&& Int64.toUInt64 63)).toInt64) &&& 3689348814741910323)) + (((((x0 - (((x0.toUInt64 >>> ((1 : Int32).toInt64.toUInt64 &&& Int64.toUInt64 63)).toInt64) &&& 6148914691236517205)) &&& 3689348814741910323) + ((((x0 - (((x0.toUInt64 >>> ((1 : Int32).toInt64.toUInt64 &&& Int64.toUInt64 63)).toInt64) &&& 6148914691236517205)).toUInt64 >>> ((2 : Int32).toInt64.toUInt64 &&& Int64.toUInt64 63)).toInt64) &&& 3689348814741910323)).toUInt64 >>> ((4 : Int32).toInt64.toUInt64 &&& Int64.toUInt64 63)).toInt64)) &&& 1085102592571150095).toUInt64 >>> ((8 : Int32).toInt64.toUInt64 &&& Int64.toUInt64 63)).toInt64)))]) hx hb dJ13_bitCount_95d88_40 rfl hl (by decide) rfl (fun ls hl => ?_)
  have hl : lv_has ls 2 [(0, .long ((((((x0 - (((x0.toUInt64 >>> ((1 : Int32).toInt64.toUInt64 &&& Int64.toUInt64 63)).toInt64) &&& 6148914691236517205)) &&& 3689348814741910323) + ((((x0 - (((x0.toUInt64 >>> ((1 : Int32).toInt64.toUInt64 &&& Int64.toUInt64 63)).toInt64) &&& 6148914691236517205)).toUInt64 >>> ((2 : Int32).toInt64.toUInt64 &&& Int64.toUInt64 63)).toInt64) &&& 3689348814741910323)) + (((((x0 - (((x0.toUInt64 >>> ((1 : Int32).toInt64.toUInt64 &&& Int64.toUInt64 63)).toInt64) &&& 6148914691236517205)) &&& 3689348814741910323) + ((((x0 - (((x0.toUInt64 >>> ((1 : Int32).toInt64.toUInt64 &&& Int64.toUInt64 63)).toInt64) &&& 6148914691236517205)).toUInt64 >>> ((2 : Int32).toInt64.toUInt64 &&& Int64.toUInt64 63)).toInt64) &&& 3689348814741910323)).toUInt64 >>> ((4 : Int32).toInt64.toUInt64 &&& Int64.toUInt64 63)).toInt64)) &&& 1085102592571150095) + (((((((x0 - (((x0.toUInt64 >>> ((1 : Int32).toInt64.toUInt64 &&& Int64.toUInt64 63)).toInt64) &&& 6148914691236517205)) &&& 3689348814741910323) + ((((x0 - (((x0.toUInt64 >>> ((1 : Int32).toInt64.toUInt64 &&& Int64.toUInt64 63)).toInt64) &&& 6148914691236517205)).toUInt64 >>> ((2 : Int32).toInt64.toUInt64 &&& Int64.toUInt64 63)).toInt64) &&& 3689348814741910323)) + (((((x0 - (((x0.toUInt64 >>> ((1 : Int32).toInt64.toUInt64 &&& Int64.toUInt64 63)).toInt64) &&& 6148914691236517205)) &&& 3689348814741910323) + ((((x0 - (((x0.toUInt64 >>> ((1 : Int32).toInt64.toUInt64 &&& Int64.toUInt64 63)).toInt64) &&& 6148914691236517205)).toUInt64 >>> ((2 : Int32).toInt64.toUInt64 &&& Int64.toUInt64 63)).toInt64) &&& 3689348814741910323)).toUInt64 >>> ((4 : Int32).toInt64.toUInt64 &&& Int64.toUInt64 63)).toInt64)) &&& 1085102592571150095).toUInt64 >>> ((8 : Int32).toInt64.toUInt64 &&& Int64.toUInt64 63)).toInt64)))] := lv_sub hl [0] rfl
  refine w_lload_n hx hb dJ13_bitCount_95d88_41 rfl (lv_at hl 0 rfl) ?_
  refine w_lload_n hx hb dJ13_bitCount_95d88_42 rfl (lv_at hl 0 rfl) ?_
  refine w_bipush (v := 16) hx hb dJ13_bitCount_95d88_43 (by decide) ?_
  refine w_lushr hx hb dJ13_bitCount_95d88_45 ?_
  refine w_ladd hx hb dJ13_bitCount_95d88_46 ?_
  refine w_lstore_n (lv' := [(0, .long (((((((x0 - (((x0.toUInt64 >>> ((1 : Int32).toInt64.toUInt64 &&& Int64.toUInt64 63)).toInt64) &&& 6148914691236517205)) &&& 3689348814741910323) + ((((x0 - (((x0.toUInt64 >>> ((1 : Int32).toInt64.toUInt64 &&& Int64.toUInt64 63)).toInt64) &&& 6148914691236517205)).toUInt64 >>> ((2 : Int32).toInt64.toUInt64 &&& Int64.toUInt64 63)).toInt64) &&& 3689348814741910323)) + (((((x0 - (((x0.toUInt64 >>> ((1 : Int32).toInt64.toUInt64 &&& Int64.toUInt64 63)).toInt64) &&& 6148914691236517205)) &&& 3689348814741910323) + ((((x0 - (((x0.toUInt64 >>> ((1 : Int32).toInt64.toUInt64 &&& Int64.toUInt64 63)).toInt64) &&& 6148914691236517205)).toUInt64 >>> ((2 : Int32).toInt64.toUInt64 &&& Int64.toUInt64 63)).toInt64) &&& 3689348814741910323)).toUInt64 >>> ((4 : Int32).toInt64.toUInt64 &&& Int64.toUInt64 63)).toInt64)) &&& 1085102592571150095) + (((((((x0 - (((x0.toUInt64 >>> ((1 : Int32).toInt64.toUInt64 &&& Int64.toUInt64 63)).toInt64) &&& 6148914691236517205)) &&& 3689348814741910323) + ((((x0 - (((x0.toUInt64 >>> ((1 : Int32).toInt64.toUInt64 &&& Int64.toUInt64 63)).toInt64) &&& 6148914691236517205)).toUInt64 >>> ((2 : Int32).toInt64.toUInt64 &&& Int64.toUInt64 63)).toInt64) &&& 3689348814741910323)) + (((((x0 - (((x0.toUInt64 >>> ((1 : Int32).toInt64.toUInt64 &&& Int64.toUInt64 63)).toInt64) &&& 6148914691236517205)) &&& 3689348814741910323) + ((((x0 - (((x0.toUInt64 >>> ((1 : Int32).toInt64.toUInt64 &&& Int64.toUInt64 63)).toInt64) &&& 6148914691236517205)).toUInt64 >>> ((2 : Int32).toInt64.toUInt64 &&& Int64.toUInt64 63)).toInt64) &&& 3689348814741910323)).toUInt64 >>> ((4 : Int32).toInt64.toUInt64 &&& Int64.toUInt64 63)).toInt64)) &&& 1085102592571150095).toUInt64 >>> ((8 : Int32).toInt64.toUInt64 &&& Int64.toUInt64 63)).toInt64)) + ((((((((x0 - (((x0.toUInt64 >>> ((1 : Int32).toInt64.toUInt64 &&& Int64.toUInt64 63)).toInt64) &&& 6148914691236517205)) &&& 3689348814741910323) + ((((x0 - (((x0.toUInt64 >>> ((1 : Int32).toInt64.toUInt64 &&& Int64.toUInt64 63)).toInt64) &&& 6148914691236517205)).toUInt64 >>> ((2 : Int32).toInt64.toUInt64 &&& Int64.toUInt64 63)).toInt64) &&& 3689348814741910323)) + (((((x0 - (((x0.toUInt64 >>> ((1 : Int32).toInt64.toUInt64 &&& Int64.toUInt64 63)).toInt64) &&& 6148914691236517205)) &&& 3689348814741910323) + ((((x0 - (((x0.toUInt64 >>> ((1 : Int32).toInt64.toUInt64 &&& Int64.toUInt64 63)).toInt64) &&& 6148914691236517205)).toUInt64 >>> ((2 : Int32).toInt64.toUInt64 &&& Int64.toUInt64 63)).toInt64) &&& 3689348814741910323)).toUInt64 >>> ((4 : Int32).toInt64.toUInt64 &&& Int64.toUInt64 63)).toInt64)) &&& 1085102592571150095) + (((((((x0 - (((x0.toUInt64 >>> ((1 : Int32).toInt64.toUInt64 &&& Int64.toUInt64 63)).toInt64) &&& 6148914691236517205)) &&& 3689348814741910323) + ((((x0 - (((x0.toUInt64 >>> ((1 : Int32).toInt64.toUInt64 &&& Int64.toUInt64 63)).toInt64) &&& 6148914691236517205)).toUInt64 >>> ((2 : Int32).toInt64.toUInt64 &&& Int64.toUInt64 63)).toInt64) &&& 3689348814741910323)) + (((((x0 - (((x0.toUInt64 >>> ((1 : Int32).toInt64.toUInt64 &&& Int64.toUInt64 63)).toInt64) &&& 6148914691236517205)) &&& 3689348814741910323) + ((((x0 - (((x0.toUInt64 >>> ((1 : Int32).toInt64.toUInt64 &&& Int64.toUInt64 63)).toInt64) &&& 6148914691236517205)).toUInt64 >>> ((2 : Int32).toInt64.toUInt64 &&& Int64.toUInt64 63)).toInt64) &&& 3689348814741910323)).toUInt64 >>> ((4 : Int32).toInt64.toUInt64 &&& Int64.toUInt64 63)).toInt64)) &&& 1085102592571150095).toUInt64 >>> ((8 : Int32).toInt64.toUInt64 &&& Int64.toUInt64 63)).toInt64)).toUInt64 >>> ((16 : Int32).toInt64.toUInt64 &&& Int64.toUInt64 63)).toInt64)))]) hx hb dJ13_bitCount_95d88_47 rfl hl (by decide) rfl (fun ls hl => ?_)
  have hl : lv_has ls 2 [(0, .long (((((((x0 - (((x0.toUInt64 >>> ((1 : Int32).toInt64.toUInt64 &&& Int64.toUInt64 63)).toInt64) &&& 6148914691236517205)) &&& 3689348814741910323) + ((((x0 - (((x0.toUInt64 >>> ((1 : Int32).toInt64.toUInt64 &&& Int64.toUInt64 63)).toInt64) &&& 6148914691236517205)).toUInt64 >>> ((2 : Int32).toInt64.toUInt64 &&& Int64.toUInt64 63)).toInt64) &&& 3689348814741910323)) + (((((x0 - (((x0.toUInt64 >>> ((1 : Int32).toInt64.toUInt64 &&& Int64.toUInt64 63)).toInt64) &&& 6148914691236517205)) &&& 3689348814741910323) + ((((x0 - (((x0.toUInt64 >>> ((1 : Int32).toInt64.toUInt64 &&& Int64.toUInt64 63)).toInt64) &&& 6148914691236517205)).toUInt64 >>> ((2 : Int32).toInt64.toUInt64 &&& Int64.toUInt64 63)).toInt64) &&& 3689348814741910323)).toUInt64 >>> ((4 : Int32).toInt64.toUInt64 &&& Int64.toUInt64 63)).toInt64)) &&& 1085102592571150095) + (((((((x0 - (((x0.toUInt64 >>> ((1 : Int32).toInt64.toUInt64 &&& Int64.toUInt64 63)).toInt64) &&& 6148914691236517205)) &&& 3689348814741910323) + ((((x0 - (((x0.toUInt64 >>> ((1 : Int32).toInt64.toUInt64 &&& Int64.toUInt64 63)).toInt64) &&& 6148914691236517205)).toUInt64 >>> ((2 : Int32).toInt64.toUInt64 &&& Int64.toUInt64 63)).toInt64) &&& 3689348814741910323)) + (((((x0 - (((x0.toUInt64 >>> ((1 : Int32).toInt64.toUInt64 &&& Int64.toUInt64 63)).toInt64) &&& 6148914691236517205)) &&& 3689348814741910323) + ((((x0 - (((x0.toUInt64 >>> ((1 : Int32).toInt64.toUInt64 &&& Int64.toUInt64 63)).toInt64) &&& 6148914691236517205)).toUInt64 >>> ((2 : Int32).toInt64.toUInt64 &&& Int64.toUInt64 63)).toInt64) &&& 3689348814741910323)).toUInt64 >>> ((4 : Int32).toInt64.toUInt64 &&& Int64.toUInt64 63)).toInt64)) &&& 1085102592571150095).toUInt64 >>> ((8 : Int32).toInt64.toUInt64 &&& Int64.toUInt64 63)).toInt64)) + ((((((((x0 - (((x0.toUInt64 >>> ((1 : Int32).toInt64.toUInt64 &&& Int64.toUInt64 63)).toInt64) &&& 6148914691236517205)) &&& 3689348814741910323) + ((((x0 - (((x0.toUInt64 >>> ((1 : Int32).toInt64.toUInt64 &&& Int64.toUInt64 63)).toInt64) &&& 6148914691236517205)).toUInt64 >>> ((2 : Int32).toInt64.toUInt64 &&& Int64.toUInt64 63)).toInt64) &&& 3689348814741910323)) + (((((x0 - (((x0.toUInt64 >>> ((1 : Int32).toInt64.toUInt64 &&& Int64.toUInt64 63)).toInt64) &&& 6148914691236517205)) &&& 3689348814741910323) + ((((x0 - (((x0.toUInt64 >>> ((1 : Int32).toInt64.toUInt64 &&& Int64.toUInt64 63)).toInt64) &&& 6148914691236517205)).toUInt64 >>> ((2 : Int32).toInt64.toUInt64 &&& Int64.toUInt64 63)).toInt64) &&& 3689348814741910323)).toUInt64 >>> ((4 : Int32).toInt64.toUInt64 &&& Int64.toUInt64 63)).toInt64)) &&& 1085102592571150095) + (((((((x0 - (((x0.toUInt64 >>> ((1 : Int32).toInt64.toUInt64 &&& Int64.toUInt64 63)).toInt64) &&& 6148914691236517205)) &&& 3689348814741910323) + ((((x0 - (((x0.toUInt64 >>> ((1 : Int32).toInt64.toUInt64 &&& Int64.toUInt64 63)).toInt64) &&& 6148914691236517205)).toUInt64 >>> ((2 : Int32).toInt64.toUInt64 &&& Int64.toUInt64 63)).toInt64) &&& 3689348814741910323)) + (((((x0 - (((x0.toUInt64 >>> ((1 : Int32).toInt64.toUInt64 &&& Int64.toUInt64 63)).toInt64) &&& 6148914691236517205)) &&& 3689348814741910323) + ((((x0 - (((x0.toUInt64 >>> ((1 : Int32).toInt64.toUInt64 &&& Int64.toUInt64 63)).toInt64) &&& 6148914691236517205)).toUInt64 >>> ((2 : Int32).toInt64.toUInt64 &&& Int64.toUInt64 63)).toInt64) &&& 3689348814741910323)).toUInt64 >>> ((4 : Int32).toInt64.toUInt64 &&& Int64.toUInt64 63)).toInt64)) &&& 1085102592571150095).toUInt64 >>> ((8 : Int32).toInt64.toUInt64 &&& Int64.toUInt64 63)).toInt64)).toUInt64 >>> ((16 : Int32).toInt64.toUInt64 &&& Int64.toUInt64 63)).toInt64)))] := lv_sub hl [0] rfl
  refine w_lload_n hx hb dJ13_bitCount_95d88_48 rfl (lv_at hl 0 rfl) ?_
  refine w_lload_n hx hb dJ13_bitCount_95d88_49 rfl (lv_at hl 0 rfl) ?_
  refine w_bipush (v := 32) hx hb dJ13_bitCount_95d88_50 (by decide) ?_
  refine w_lushr hx hb dJ13_bitCount_95d88_52 ?_
  refine w_ladd hx hb dJ13_bitCount_95d88_53 ?_
  refine w_lstore_n (lv' := [(0, .long ((((((((x0 - (((x0.toUInt64 >>> ((1 : Int32).toInt64.toUInt64 &&& Int64.toUInt64 63)).toInt64) &&& 6148914691236517205)) &&& 3689348814741910323) + ((((x0 - (((x0.toUInt64 >>> ((1 : Int32).toInt64.toUInt64 &&& Int64.toUInt64 63)).toInt64) &&& 6148914691236517205)).toUInt64 >>> ((2 : Int32).toInt64.toUInt64 &&& Int64.toUInt64 63)).toInt64) &&& 3689348814741910323)) + (((((x0 - (((x0.toUInt64 >>> ((1 : Int32).toInt64.toUInt64 &&& Int64.toUInt64 63)).toInt64) &&& 6148914691236517205)) &&& 3689348814741910323) + ((((x0 - (((x0.toUInt64 >>> ((1 : Int32).toInt64.toUInt64 &&& Int64.toUInt64 63)).toInt64) &&& 6148914691236517205)).toUInt64 >>> ((2 : Int32).toInt64.toUInt64 &&& Int64.toUInt64 63)).toInt64) &&& 3689348814741910323)).toUInt64 >>> ((4 : Int32).toInt64.toUInt64 &&& Int64.toUInt64 63)).toInt64)) &&& 1085102592571150095) + (((((((x0 - (((x0.toUInt64 >>> ((1 : Int32).toInt64.toUInt64 &&& Int64.toUInt64 63)).toInt64) &&& 6148914691236517205)) &&& 3689348814741910323) + ((((x0 - (((x0.toUInt64 >>> ((1 : Int32).toInt64.toUInt64 &&& Int64.toUInt64 63)).toInt64) &&& 6148914691236517205)).toUInt64 >>> ((2 : Int32).toInt64.toUInt64 &&& Int64.toUInt64 63)).toInt64) &&& 3689348814741910323)) + (((((x0 - (((x0.toUInt64 >>> ((1 : Int32).toInt64.toUInt64 &&& Int64.toUInt64 63)).toInt64) &&& 6148914691236517205)) &&& 3689348814741910323) + ((((x0 - (((x0.toUInt64 >>> ((1 : Int32).toInt64.toUInt64 &&& Int64.toUInt64 63)).toInt64) &&& 6148914691236517205)).toUInt64 >>> ((2 : Int32).toInt64.toUInt64 &&& Int64.toUInt64 63)).toInt64) &&& 3689348814741910323)).toUInt64 >>> ((4 : Int32).toInt64.toUInt64 &&& Int64.toUInt64 63)).toInt64)) &&& 1085102592571150095).toUInt64 >>> ((8 : Int32).toInt64.toUInt64 &&& Int64.toUInt64 63)).toInt64)) + ((((((((x0 - (((x0.toUInt64 >>> ((1 : Int32).toInt64.toUInt64 &&& Int64.toUInt64 63)).toInt64) &&& 6148914691236517205)) &&& 3689348814741910323) + ((((x0 - (((x0.toUInt64 >>> ((1 : Int32).toInt64.toUInt64 &&& Int64.toUInt64 63)).toInt64) &&& 6148914691236517205)).toUInt64 >>> ((2 : Int32).toInt64.toUInt64 &&& Int64.toUInt64 63)).toInt64) &&& 3689348814741910323)) + (((((x0 - (((x0.toUInt64 >>> ((1 : Int32).toInt64.toUInt64 &&& Int64.toUInt64 63)).toInt64) &&& 6148914691236517205)) &&& 3689348814741910323) + ((((x0 - (((x0.toUInt64 >>> ((1 : Int32).toInt64.toUInt64 &&& Int64.toUInt64 63)).toInt64) &&& 6148914691236517205)).toUInt64 >>> ((2 : Int32).toInt64.toUInt64 &&& Int64.toUInt64 63)).toInt64) &&& 3689348814741910323)).toUInt64 >>> ((4 : Int32).toInt64.toUInt64 &&& Int64.toUInt64 63)).toInt64)) &&& 1085102592571150095) + (((((((x0 - (((x0.toUInt64 >>> ((1 : Int32).toInt64.toUInt64 &&& Int64.toUInt64 63)).toInt64) &&& 6148914691236517205)) &&& 3689348814741910323) + ((((x0 - (((x0.toUInt64 >>> ((1 : Int32).toInt64.toUInt64 &&& Int64.toUInt64 63)).toInt64) &&& 6148914691236517205)).toUInt64 >>> ((2 : Int32).toInt64.toUInt64 &&& Int64.toUInt64 63)).toInt64) &&& 3689348814741910323)) + (((((x0 - (((x0.toUInt64 >>> ((1 : Int32).toInt64.toUInt64 &&& Int64.toUInt64 63)).toInt64) &&& 6148914691236517205)) &&& 3689348814741910323) + ((((x0 - (((x0.toUInt64 >>> ((1 : Int32).toInt64.toUInt64 &&& Int64.toUInt64 63)).toInt64) &&& 6148914691236517205)).toUInt64 >>> ((2 : Int32).toInt64.toUInt64 &&& Int64.toUInt64 63)).toInt64) &&& 3689348814741910323)).toUInt64 >>> ((4 : Int32).toInt64.toUInt64 &&& Int64.toUInt64 63)).toInt64)) &&& 1085102592571150095).toUInt64 >>> ((8 : Int32).toInt64.toUInt64 &&& Int64.toUInt64 63)).toInt64)).toUInt64 >>> ((16 : Int32).toInt64.toUInt64 &&& Int64.toUInt64 63)).toInt64)) + (((((((((x0 - (((x0.toUInt64 >>> ((1 : Int32).toInt64.toUInt64 &&& Int64.toUInt64 63)).toInt64) &&& 6148914691236517205)) &&& 3689348814741910323) + ((((x0 - (((x0.toUInt64 >>> ((1 : Int32).toInt64.toUInt64 &&& Int64.toUInt64 63)).toInt64) &&& 6148914691236517205)).toUInt64 >>> ((2 : Int32).toInt64.toUInt64 &&& Int64.toUInt64 63)).toInt64) &&& 3689348814741910323)) + (((((x0 - (((x0.toUInt64 >>> ((1 : Int32).toInt64.toUInt64 &&& Int64.toUInt64 63)).toInt64) &&& 6148914691236517205)) &&& 3689348814741910323) + ((((x0 - (((x0.toUInt64 >>> ((1 : Int32).toInt64.toUInt64 &&& Int64.toUInt64 63)).toInt64) &&& 6148914691236517205)).toUInt64 >>> ((2 : Int32).toInt64.toUInt64 &&& Int64.toUInt64 63)).toInt64) &&& 3689348814741910323)).toUInt64 >>> ((4 : Int32).toInt64.toUInt64 &&& Int64.toUInt64 63)).toInt64)) &&& 1085102592571150095) + (((((((x0 - (((x0.toUInt64 >>> ((1 : Int32).toInt64.toUInt64 &&& Int64.toUInt64 63)).toInt64) &&& 6148914691236517205)) &&& 3689348814741910323) + ((((x0 - (((x0.toUInt64 >>> ((1 : Int32).toInt64.toUInt64 &&& Int64.toUInt64 63)).toInt64) &&& 6148914691236517205)).toUInt64 >>> ((2 : Int32).toInt64.toUInt64 &&& Int64.toUInt64 63)).toInt64) &&& 3689348814741910323)) + (((((x0 - (((x0.toUInt64 >>> ((1 : Int32).toInt64.toUInt64 &&& Int64.toUInt64 63)).toInt64) &&& 6148914691236517205)) &&& 3689348814741910323) + ((((x0 - (((x0.toUInt64 >>> ((1 : Int32).toInt64.toUInt64 &&& Int64.toUInt64 63)).toInt64) &&& 6148914691236517205)).toUInt64 >>> ((2 : Int32).toInt64.toUInt64 &&& Int64.toUInt64 63)).toInt64) &&& 3689348814741910323)).toUInt64 >>> ((4 : Int32).toInt64.toUInt64 &&& Int64.toUInt64 63)).toInt64)) &&& 1085102592571150095).toUInt64 >>> ((8 : Int32).toInt64.toUInt64 &&& Int64.toUInt64 63)).toInt64)) + ((((((((x0 - (((x0.toUInt64 >>> ((1 : Int32).toInt64.toUInt64 &&& Int64.toUInt64 63)).toInt64) &&& 6148914691236517205)) &&& 3689348814741910323) + ((((x0 - (((x0.toUInt64 >>> ((1 : Int32).toInt64.toUInt64 &&& Int64.toUInt64 63)).toInt64) &&& 6148914691236517205)).toUInt64 >>> ((2 : Int32).toInt64.toUInt64 &&& Int64.toUInt64 63)).toInt64) &&& 3689348814741910323)) + (((((x0 - (((x0.toUInt64 >>> ((1 : Int32).toInt64.toUInt64 &&& Int64.toUInt64 63)).toInt64) &&& 6148914691236517205)) &&& 3689348814741910323) + ((((x0 - (((x0.toUInt64 >>> ((1 : Int32).toInt64.toUInt64 &&& Int64.toUInt64 63)).toInt64) &&& 6148914691236517205)).toUInt64 >>> ((2 : Int32).toInt64.toUInt64 &&& Int64.toUInt64 63)).toInt64) &&& 3689348814741910323)).toUInt64 >>> ((4 : Int32).toInt64.toUInt64 &&& Int64.toUInt64 63)).toInt64)) &&& 1085102592571150095) + (((((((x0 - (((x0.toUInt64 >>> ((1 : Int32).toInt64.toUInt64 &&& Int64.toUInt64 63)).toInt64) &&& 6148914691236517205)) &&& 3689348814741910323) + ((((x0 - (((x0.toUInt64 >>> ((1 : Int32).toInt64.toUInt64 &&& Int64.toUInt64 63)).toInt64) &&& 6148914691236517205)).toUInt64 >>> ((2 : Int32).toInt64.toUInt64 &&& Int64.toUInt64 63)).toInt64) &&& 3689348814741910323)) + (((((x0 - (((x0.toUInt64 >>> ((1 : Int32).toInt64.toUInt64 &&& Int64.toUInt64 63)).toInt64) &&& 6148914691236517205)) &&& 3689348814741910323) + ((((x0 - (((x0.toUInt64 >>> ((1 : Int32).toInt64.toUInt64 &&& Int64.toUInt64 63)).toInt64) &&& 6148914691236517205)).toUInt64 >>> ((2 : Int32).toInt64.toUInt64 &&& Int64.toUInt64 63)).toInt64) &&& 3689348814741910323)).toUInt64 >>> ((4 : Int32).toInt64.toUInt64 &&& Int64.toUInt64 63)).toInt64)) &&& 1085102592571150095).toUInt64 >>> ((8 : Int32).toInt64.toUInt64 &&& Int64.toUInt64 63)).toInt64)).toUInt64 >>> ((16 : Int32).toInt64.toUInt64 &&& Int64.toUInt64 63)).toInt64)).toUInt64 >>> ((32 : Int32).toInt64.toUInt64 &&& Int64.toUInt64 63)).toInt64)))]) hx hb dJ13_bitCount_95d88_54 rfl hl (by decide) rfl (fun ls hl => ?_)
  have hl : lv_has ls 2 [(0, .long ((((((((x0 - (((x0.toUInt64 >>> ((1 : Int32).toInt64.toUInt64 &&& Int64.toUInt64 63)).toInt64) &&& 6148914691236517205)) &&& 3689348814741910323) + ((((x0 - (((x0.toUInt64 >>> ((1 : Int32).toInt64.toUInt64 &&& Int64.toUInt64 63)).toInt64) &&& 6148914691236517205)).toUInt64 >>> ((2 : Int32).toInt64.toUInt64 &&& Int64.toUInt64 63)).toInt64) &&& 3689348814741910323)) + (((((x0 - (((x0.toUInt64 >>> ((1 : Int32).toInt64.toUInt64 &&& Int64.toUInt64 63)).toInt64) &&& 6148914691236517205)) &&& 3689348814741910323) + ((((x0 - (((x0.toUInt64 >>> ((1 : Int32).toInt64.toUInt64 &&& Int64.toUInt64 63)).toInt64) &&& 6148914691236517205)).toUInt64 >>> ((2 : Int32).toInt64.toUInt64 &&& Int64.toUInt64 63)).toInt64) &&& 3689348814741910323)).toUInt64 >>> ((4 : Int32).toInt64.toUInt64 &&& Int64.toUInt64 63)).toInt64)) &&& 1085102592571150095) + (((((((x0 - (((x0.toUInt64 >>> ((1 : Int32).toInt64.toUInt64 &&& Int64.toUInt64 63)).toInt64) &&& 6148914691236517205)) &&& 3689348814741910323) + ((((x0 - (((x0.toUInt64 >>> ((1 : Int32).toInt64.toUInt64 &&& Int64.toUInt64 63)).toInt64) &&& 6148914691236517205)).toUInt64 >>> ((2 : Int32).toInt64.toUInt64 &&& Int64.toUInt64 63)).toInt64) &&& 3689348814741910323)) + (((((x0 - (((x0.toUInt64 >>> ((1 : Int32).toInt64.toUInt64 &&& Int64.toUInt64 63)).toInt64) &&& 6148914691236517205)) &&& 3689348814741910323) + ((((x0 - (((x0.toUInt64 >>> ((1 : Int32).toInt64.toUInt64 &&& Int64.toUInt64 63)).toInt64) &&& 6148914691236517205)).toUInt64 >>> ((2 : Int32).toInt64.toUInt64 &&& Int64.toUInt64 63)).toInt64) &&& 3689348814741910323)).toUInt64 >>> ((4 : Int32).toInt64.toUInt64 &&& Int64.toUInt64 63)).toInt64)) &&& 1085102592571150095).toUInt64 >>> ((8 : Int32).toInt64.toUInt64 &&& Int64.toUInt64 63)).toInt64)) + ((((((((x0 - (((x0.toUInt64 >>> ((1 : Int32).toInt64.toUInt64 &&& Int64.toUInt64 63)).toInt64) &&& 6148914691236517205)) &&& 3689348814741910323) + ((((x0 - (((x0.toUInt64 >>> ((1 : Int32).toInt64.toUInt64 &&& Int64.toUInt64 63)).toInt64) &&& 6148914691236517205)).toUInt64 >>> ((2 : Int32).toInt64.toUInt64 &&& Int64.toUInt64 63)).toInt64) &&& 3689348814741910323)) + (((((x0 - (((x0.toUInt64 >>> ((1 : Int32).toInt64.toUInt64 &&& Int64.toUInt64 63)).toInt64) &&& 6148914691236517205)) &&& 3689348814741910323) + ((((x0 - (((x0.toUInt64 >>> ((1 : Int32).toInt64.toUInt64 &&& Int64.toUInt64 63)).toInt64) &&& 6148914691236517205)).toUInt64 >>> ((2 : Int32).toInt64.toUInt64 &&& Int64.toUInt64 63)).toInt64) &&& 3689348814741910323)).toUInt64 >>> ((4 : Int32).toInt64.toUInt64 &&& Int64.toUInt64 63)).toInt64)) &&& 1085102592571150095) + (((((((x0 - (((x0.toUInt64 >>> ((1 : Int32).toInt64.toUInt64 &&& Int64.toUInt64 63)).toInt64) &&& 6148914691236517205)) &&& 3689348814741910323) + ((((x0 - (((x0.toUInt64 >>> ((1 : Int32).toInt64.toUInt64 &&& Int64.toUInt64 63)).toInt64) &&& 6148914691236517205)).toUInt64 >>> ((2 : Int32).toInt64.toUInt64 &&& Int64.toUInt64 63)).toInt64) &&& 3689348814741910323)) + (((((x0 - (((x0.toUInt64 >>> ((1 : Int32).toInt64.toUInt64 &&& Int64.toUInt64 63)).toInt64) &&& 6148914691236517205)) &&& 3689348814741910323) + ((((x0 - (((x0.toUInt64 >>> ((1 : Int32).toInt64.toUInt64 &&& Int64.toUInt64 63)).toInt64) &&& 6148914691236517205)).toUInt64 >>> ((2 : Int32).toInt64.toUInt64 &&& Int64.toUInt64 63)).toInt64) &&& 3689348814741910323)).toUInt64 >>> ((4 : Int32).toInt64.toUInt64 &&& Int64.toUInt64 63)).toInt64)) &&& 1085102592571150095).toUInt64 >>> ((8 : Int32).toInt64.toUInt64 &&& Int64.toUInt64 63)).toInt64)).toUInt64 >>> ((16 : Int32).toInt64.toUInt64 &&& Int64.toUInt64 63)).toInt64)) + (((((((((x0 - (((x0.toUInt64 >>> ((1 : Int32).toInt64.toUInt64 &&& Int64.toUInt64 63)).toInt64) &&& 6148914691236517205)) &&& 3689348814741910323) + ((((x0 - (((x0.toUInt64 >>> ((1 : Int32).toInt64.toUInt64 &&& Int64.toUInt64 63)).toInt64) &&& 6148914691236517205)).toUInt64 >>> ((2 : Int32).toInt64.toUInt64 &&& Int64.toUInt64 63)).toInt64) &&& 3689348814741910323)) + (((((x0 - (((x0.toUInt64 >>> ((1 : Int32).toInt64.toUInt64 &&& Int64.toUInt64 63)).toInt64) &&& 6148914691236517205)) &&& 3689348814741910323) + ((((x0 - (((x0.toUInt64 >>> ((1 : Int32).toInt64.toUInt64 &&& Int64.toUInt64 63)).toInt64) &&& 6148914691236517205)).toUInt64 >>> ((2 : Int32).toInt64.toUInt64 &&& Int64.toUInt64 63)).toInt64) &&& 3689348814741910323)).toUInt64 >>> ((4 : Int32).toInt64.toUInt64 &&& Int64.toUInt64 63)).toInt64)) &&& 1085102592571150095) + (((((((x0 - (((x0.toUInt64 >>> ((1 : Int32).toInt64.toUInt64 &&& Int64.toUInt64 63)).toInt64) &&& 6148914691236517205)) &&& 3689348814741910323) + ((((x0 - (((x0.toUInt64 >>> ((1 : Int32).toInt64.toUInt64 &&& Int64.toUInt64 63)).toInt64) &&& 6148914691236517205)).toUInt64 >>> ((2 : Int32).toInt64.toUInt64 &&& Int64.toUInt64 63)).toInt64) &&& 3689348814741910323)) + (((((x0 - (((x0.toUInt64 >>> ((1 : Int32).toInt64.toUInt64 &&& Int64.toUInt64 63)).toInt64) &&& 6148914691236517205)) &&& 3689348814741910323) + ((((x0 - (((x0.toUInt64 >>> ((1 : Int32).toInt64.toUInt64 &&& Int64.toUInt64 63)).toInt64) &&& 6148914691236517205)).toUInt64 >>> ((2 : Int32).toInt64.toUInt64 &&& Int64.toUInt64 63)).toInt64) &&& 3689348814741910323)).toUInt64 >>> ((4 : Int32).toInt64.toUInt64 &&& Int64.toUInt64 63)).toInt64)) &&& 1085102592571150095).toUInt64 >>> ((8 : Int32).toInt64.toUInt64 &&& Int64.toUInt64 63)).toInt64)) + ((((((((x0 - (((x0.toUInt64 >>> ((1 : Int32).toInt64.toUInt64 &&& Int64.toUInt64 63)).toInt64) &&& 6148914691236517205)) &&& 3689348814741910323) + ((((x0 - (((x0.toUInt64 >>> ((1 : Int32).toInt64.toUInt64 &&& Int64.toUInt64 63)).toInt64) &&& 6148914691236517205)).toUInt64 >>> ((2 : Int32).toInt64.toUInt64 &&& Int64.toUInt64 63)).toInt64) &&& 3689348814741910323)) + (((((x0 - (((x0.toUInt64 >>> ((1 : Int32).toInt64.toUInt64 &&& Int64.toUInt64 63)).toInt64) &&& 6148914691236517205)) &&& 3689348814741910323) + ((((x0 - (((x0.toUInt64 >>> ((1 : Int32).toInt64.toUInt64 &&& Int64.toUInt64 63)).toInt64) &&& 6148914691236517205)).toUInt64 >>> ((2 : Int32).toInt64.toUInt64 &&& Int64.toUInt64 63)).toInt64) &&& 3689348814741910323)).toUInt64 >>> ((4 : Int32).toInt64.toUInt64 &&& Int64.toUInt64 63)).toInt64)) &&& 1085102592571150095) + (((((((x0 - (((x0.toUInt64 >>> ((1 : Int32).toInt64.toUInt64 &&& Int64.toUInt64 63)).toInt64) &&& 6148914691236517205)) &&& 3689348814741910323) + ((((x0 - (((x0.toUInt64 >>> ((1 : Int32).toInt64.toUInt64 &&& Int64.toUInt64 63)).toInt64) &&& 6148914691236517205)).toUInt64 >>> ((2 : Int32).toInt64.toUInt64 &&& Int64.toUInt64 63)).toInt64) &&& 3689348814741910323)) + (((((x0 - (((x0.toUInt64 >>> ((1 : Int32).toInt64.toUInt64 &&& Int64.toUInt64 63)).toInt64) &&& 6148914691236517205)) &&& 3689348814741910323) + ((((x0 - (((x0.toUInt64 >>> ((1 : Int32).toInt64.toUInt64 &&& Int64.toUInt64 63)).toInt64) &&& 6148914691236517205)).toUInt64 >>> ((2 : Int32).toInt64.toUInt64 &&& Int64.toUInt64 63)).toInt64) &&& 3689348814741910323)).toUInt64 >>> ((4 : Int32).toInt64.toUInt64 &&& Int64.toUInt64 63)).toInt64)) &&& 1085102592571150095).toUInt64 >>> ((8 : Int32).toInt64.toUInt64 &&& Int64.toUInt64 63)).toInt64)).toUInt64 >>> ((16 : Int32).toInt64.toUInt64 &&& Int64.toUInt64 63)).toInt64)).toUInt64 >>> ((32 : Int32).toInt64.toUInt64 &&& Int64.toUInt64 63)).toInt64)))] := lv_sub hl [0] rfl
  refine w_lload_n hx hb dJ13_bitCount_95d88_55 rfl (lv_at hl 0 rfl) ?_
  refine w_l2i hx hb dJ13_bitCount_95d88_56 ?_
  refine w_bipush (v := 127) hx hb dJ13_bitCount_95d88_57 (by decide) ?_
  refine w_iand hx hb dJ13_bitCount_95d88_59 ?_
  obtain rfl := Option.some.inj h
  rw [hQ]
  exact v_iret hx hb hr hlk dJ13_bitCount_95d88_60

def tX2_stampOfMostMembers_J59_19 (rec : Int32 → Int64 → Int32 → Int32 → Option Int32) (x0 : Nat) (x1 : Int32) (x2 : Int64) (x4 : Int32) (x5 : Int32) (M : vMe) : Option Int32 :=
  rec x1 x2 x4 (x5 + 1)
def tX2_stampOfMostMembers_L19 (x0 : Nat) (M : vMe) : Nat → Int32 → Int64 → Int32 → Int32 → Option Int32
  | 0, _, _, _, _ => none
  | f + 1, x1, x2, x4, x5 =>
  (gI M x0 5 3).bind fun v12 =>
  if v12 ≤ x5 then
  (some x1)
else
  (if (M.1 x0).1 = 5 then
  ((tX2_bitsBehind x0 x2 x5 M).bind fun z14 =>
  (tJ13_bitCount_95d88 z14 M).bind fun z15 =>
  if z15 ≤ x4 then
  (tX2_stampOfMostMembers_J59_19 (tX2_stampOfMostMembers_L19 x0 M f) x0 x1 z14 x4 x5 M)
else
  ((tJ13_bitCount_95d88 z14 M).bind fun z17 =>
  (gA M x0 5 0).bind fun a18 =>
  (aI M a18 101 x5).bind fun v19 =>
  tX2_stampOfMostMembers_J59_19 (tX2_stampOfMostMembers_L19 x0 M f) x0 v19 z14 z17 x5 M))
else none)
def tX2_stampOfMostMembers (x0 : Nat) (M : vMe) : Option Int32 :=
  (gI M x0 5 4).bind fun v1 =>
  (gJ M x0 5 5).bind fun v2 =>
  (tJ13_bitCount_95d88 v2 M).bind fun z3 =>
  (tX2_stampOfMostMembers_L19 x0 M vF v1 v2 z3 0).bind fun z20 =>
  some z20
def rmX2_stampOfMostMembers : Room := { frames := 2, cells := 0, slots := 0, locals := 25 }
set_option maxHeartbeats 4000000 in
set_option maxRecDepth 100000 in
theorem mX2_stampOfMostMembers (l : Launch) (hfl : l.stackTraces = false) (D : vD) (x0 : Nat) (M : vMe) (z : Int32) (h : tX2_stampOfMostMembers x0 M = some z) : Met l yX2_stampOfMostMembers (Cond.code yX2_stampOfMostMembers cX2_stampOfMostMembers 6 (some .int) :: TB) rmX2_stampOfMostMembers (va_Pc [.ref x0] (vPre D M)) (qW D (some (.int z)) M) 0 0 (vA D) := by
  refine v_ofW (cc := cX2_stampOfMostMembers) (maxL := 6) (ret := (some .int)) (by decide) (Nat.le_of_ble_eq_true rfl) ?_
  intro p e s m args below meth c Q hx hb hr hml hown hts hlk hnm hSS hR0 hQ ls hl
  have hK := hSS.1
  have hl : lv_has ls 6 [(0, .ref x0)] := hl
  unfold tX2_stampOfMostMembers at h
  have X2_stampOfMostMembers_L19p : ∀ (x0 : Nat), ∀ (f : Nat) (x1 : Int32) (x2 : Int64) (x4 : Int32) (x5 : Int32) (ls : Array Slot) (z : Int32), lv_has ls 6 [(0, .ref x0), (1, .int x1), (2, .long x2), (4, .int x4), (5, .int x5)] → tX2_stampOfMostMembers_L19 x0 M f x1 x2 x4 x5 = some z → (∀ ls : Array Slot, lv_has ls 6 [(1, .int z)] → vV D p l e rmX2_stampOfMostMembers s m args below meth c 0 0 Q M (F0 m 65 ls [])) → vV D p l e rmX2_stampOfMostMembers s m args below meth c 0 0 Q M (F0 m 19 ls []) := by
    intro x0 f
    induction f with
    | zero =>
      intro x1 x2 x4 x5 ls z hl h
      exact absurd h (by simp [tX2_stampOfMostMembers_L19])
    | succ f ih =>
      intro x1 x2 x4 x5 ls z hl h KX
      rw [tX2_stampOfMostMembers_L19] at h
      have X2_stampOfMostMembers_J59_19p : ∀ (x1 : Int32) (x2 : Int64) (x4 : Int32) (x5 : Int32) (ls : Array Slot), lv_has ls 6 [(0, .ref x0), (1, .int x1), (2, .long x2), (4, .int x4), (5, .int x5)] → tX2_stampOfMostMembers_J59_19 (tX2_stampOfMostMembers_L19 x0 M f) x0 x1 x2 x4 x5 M = some z → vV D p l e rmX2_stampOfMostMembers s m args below meth c 0 0 Q M (F0 m 59 ls []) := by
        intro x1 x2 x4 x5 ls hl h
        unfold tX2_stampOfMostMembers_J59_19 at h
        refine w_iinc (v := x5 + 1) (lv' := [(5, .int (x5 + 1)), (0, .ref x0), (1, .int x1), (2, .long x2), (4, .int x4)]) hx hb dX2_stampOfMostMembers_59 hl (j := 4) rfl rfl (by decide) rfl (fun ls hl => ?_)
        have hl : lv_has ls 6 [(0, .ref x0), (1, .int x1), (2, .long x2), (4, .int x4), (5, .int (x5 + 1))] := lv_sub hl [1, 2, 3, 4, 0] rfl
        refine w_goto (tgt := 19) hx hb dX2_stampOfMostMembers_62 (by decide) ?_
        exact ih x1 x2 x4 (x5 + 1) ls z (lv_sub hl [0, 1, 2, 3, 4] rfl) h KX
      refine w_iload hx hb dX2_stampOfMostMembers_19 (lv_at hl 4 rfl) ?_
      refine w_aload_n hx hb dX2_stampOfMostMembers_21 rfl (lv_at hl 0 rfl) ?_
      obtain ⟨v12, ev12, h⟩ := v_bnd h
      refine v_gI (ci := 4) hx hb hts iwX2 hown hK 3 ev12 rfl (by decide) (Or.inl (hts _ kw145)) (fun _ h9 => h9) dX2_stampOfMostMembers_22 ?_
      refine w_icmp_ge (tgt := 65) hx hb dX2_stampOfMostMembers_25 (by decide) (fun c13 => ?_) (fun c13 => ?_)
      · rw [if_pos c13] at h
        obtain rfl := Option.some.inj h
        exact KX ls (lv_sub hl [1] rfl)
      · rw [if_neg c13] at h
        refine w_aload_n hx hb dX2_stampOfMostMembers_28 rfl (lv_at hl 0 rfl) ?_
        refine w_lload_n hx hb dX2_stampOfMostMembers_29 rfl (lv_at hl 2 rfl) ?_
        refine w_iload hx hb dX2_stampOfMostMembers_30 (lv_at hl 4 rfl) ?_
        obtain ⟨g8, h⟩ := v_ifs h
        obtain ⟨z14, ez14, h⟩ := v_bnd h
        refine v_call1 (v := .long z14) (M1 := M) (mc := 0) (ms := 0) (fun H locs hR hS => va_runV (As := [.long x2, .int x5]) (rest := []) ⟨hx, hb, hml, hown, hts⟩ (mX2_bitsBehind l hfl D x0 x2 x5 M z14 ez14) (cwV 2 hts (gdV kw978 kw980 kw15 kw33 kw981) rfl rfl rfl (by decide +kernel) ⟨Nat.le_of_ble_eq_true rfl, Nat.le_of_ble_eq_true rfl⟩) (v_preV (ci := 4) hSS hR hS g8 (by decide) rfl [.long x2, .int x5]) rfl rfl hl.1 rfl (lv_room (Nat.le_of_ble_eq_true rfl)) dX2_stampOfMostMembers_32 ⟨Nat.zero_le _, Nat.zero_le _⟩) ?_
        refine w_lstore_n (lv' := [(2, .long z14), (0, .ref x0), (1, .int x1), (4, .int x4), (5, .int x5)]) hx hb dX2_stampOfMostMembers_35 rfl hl (by decide) rfl (fun ls hl => ?_)
        have hl : lv_has ls 6 [(0, .ref x0), (1, .int x1), (2, .long z14), (4, .int x4), (5, .int x5)] := lv_sub hl [1, 2, 0, 3, 4] rfl
        refine w_lload_n hx hb dX2_stampOfMostMembers_36 rfl (lv_at hl 2 rfl) ?_
        obtain ⟨z15, ez15, h⟩ := v_bnd h
        refine v_call1 (v := .int z15) (M1 := M) (mc := 0) (ms := 0) (fun H locs hR hS => va_runS (As := [.long z14]) (rest := []) ⟨hx, hb, hml, hown, hts⟩ (mJ13_bitCount_95d88 l hfl D z14 M z15 ez15) (va_cwS 1 hts (gdS kw1354 kw1339 kw59 kw1340) rfl rfl rfl (by decide +kernel) ⟨Nat.le_of_ble_eq_true rfl, Nat.le_of_ble_eq_true rfl⟩) (v_preS hSS hR hS [.long z14]) rfl rfl hl.1 rfl (lv_room (Nat.le_of_ble_eq_true rfl)) dX2_stampOfMostMembers_37 ⟨Nat.zero_le _, Nat.zero_le _⟩) ?_
        refine w_iload hx hb dX2_stampOfMostMembers_40 (lv_at hl 3 rfl) ?_
        refine w_icmp_le (tgt := 59) hx hb dX2_stampOfMostMembers_42 (by decide) (fun c16 => ?_) (fun c16 => ?_)
        · rw [if_pos c16] at h
          exact X2_stampOfMostMembers_J59_19p x1 z14 x4 x5 ls (lv_sub hl [0, 1, 2, 3, 4] rfl) h
        · rw [if_neg c16] at h
          refine w_lload_n hx hb dX2_stampOfMostMembers_45 rfl (lv_at hl 2 rfl) ?_
          obtain ⟨z17, ez17, h⟩ := v_bnd h
          refine v_call1 (v := .int z17) (M1 := M) (mc := 0) (ms := 0) (fun H locs hR hS => va_runS (As := [.long z14]) (rest := []) ⟨hx, hb, hml, hown, hts⟩ (mJ13_bitCount_95d88 l hfl D z14 M z17 ez17) (va_cwS 1 hts (gdS kw1354 kw1339 kw59 kw1340) rfl rfl rfl (by decide +kernel) ⟨Nat.le_of_ble_eq_true rfl, Nat.le_of_ble_eq_true rfl⟩) (v_preS hSS hR hS [.long z14]) rfl rfl hl.1 rfl (lv_room (Nat.le_of_ble_eq_true rfl)) dX2_stampOfMostMembers_46 ⟨Nat.zero_le _, Nat.zero_le _⟩) ?_
          refine w_istore (lv' := [(4, .int z17), (0, .ref x0), (1, .int x1), (2, .long z14), (5, .int x5)]) hx hb dX2_stampOfMostMembers_49 hl (by decide) rfl (fun ls hl => ?_)
          have hl : lv_has ls 6 [(0, .ref x0), (1, .int x1), (2, .long z14), (4, .int z17), (5, .int x5)] := lv_sub hl [1, 2, 3, 0, 4] rfl
          refine w_aload_n hx hb dX2_stampOfMostMembers_51 rfl (lv_at hl 0 rfl) ?_
          obtain ⟨a18, ea18, h⟩ := v_bnd h
          refine v_gA (ci := 4) hx hb hts iwX2 hown hK 0 ea18 rfl (by decide) (Or.inl (hts _ kw139)) (fun _ h9 => h9) dX2_stampOfMostMembers_52 ?_
          refine w_iload hx hb dX2_stampOfMostMembers_55 (lv_at hl 4 rfl) ?_
          obtain ⟨v19, ev19, h⟩ := v_bnd h
          refine v_iald hx hb hK ev19 dX2_stampOfMostMembers_57 ?_
          refine w_istore_n (lv' := [(1, .int v19), (0, .ref x0), (2, .long z14), (4, .int z17), (5, .int x5)]) hx hb dX2_stampOfMostMembers_58 rfl hl (by decide) rfl (fun ls hl => ?_)
          have hl : lv_has ls 6 [(0, .ref x0), (1, .int v19), (2, .long z14), (4, .int z17), (5, .int x5)] := lv_sub hl [1, 0, 2, 3, 4] rfl
          exact X2_stampOfMostMembers_J59_19p v19 z14 z17 x5 ls (lv_sub hl [0, 1, 2, 3, 4] rfl) h
  refine w_aload_n hx hb dX2_stampOfMostMembers_0 rfl (lv_at hl 0 rfl) ?_
  obtain ⟨v1, ev1, h⟩ := v_bnd h
  refine v_gI (ci := 4) hx hb hts iwX2 hown hK 4 ev1 rfl (by decide) (Or.inl (hts _ kw147)) (fun _ h9 => h9) dX2_stampOfMostMembers_1 ?_
  refine w_istore_n (lv' := [(1, .int v1), (0, .ref x0)]) hx hb dX2_stampOfMostMembers_4 rfl hl (by decide) rfl (fun ls hl => ?_)
  have hl : lv_has ls 6 [(0, .ref x0), (1, .int v1)] := lv_sub hl [1, 0] rfl
  refine w_aload_n hx hb dX2_stampOfMostMembers_5 rfl (lv_at hl 0 rfl) ?_
  obtain ⟨v2, ev2, h⟩ := v_bnd h
  refine v_gJ (ci := 4) hx hb hts iwX2 hown hK 5 ev2 rfl (by decide) (Or.inl (hts _ kw149)) (fun _ h9 => h9) dX2_stampOfMostMembers_6 ?_
  refine w_lstore_n (lv' := [(2, .long v2), (0, .ref x0), (1, .int v1)]) hx hb dX2_stampOfMostMembers_9 rfl hl (by decide) rfl (fun ls hl => ?_)
  have hl : lv_has ls 6 [(0, .ref x0), (1, .int v1), (2, .long v2)] := lv_sub hl [1, 2, 0] rfl
  refine w_lload_n hx hb dX2_stampOfMostMembers_10 rfl (lv_at hl 2 rfl) ?_
  obtain ⟨z3, ez3, h⟩ := v_bnd h
  refine v_call1 (v := .int z3) (M1 := M) (mc := 0) (ms := 0) (fun H locs hR hS => va_runS (As := [.long v2]) (rest := []) ⟨hx, hb, hml, hown, hts⟩ (mJ13_bitCount_95d88 l hfl D v2 M z3 ez3) (va_cwS 1 hts (gdS kw1354 kw1339 kw59 kw1340) rfl rfl rfl (by decide +kernel) ⟨Nat.le_of_ble_eq_true rfl, Nat.le_of_ble_eq_true rfl⟩) (v_preS hSS hR hS [.long v2]) rfl rfl hl.1 rfl (lv_room (Nat.le_of_ble_eq_true rfl)) dX2_stampOfMostMembers_11 ⟨Nat.zero_le _, Nat.zero_le _⟩) ?_
  refine w_istore (lv' := [(4, .int z3), (0, .ref x0), (1, .int v1), (2, .long v2)]) hx hb dX2_stampOfMostMembers_14 hl (by decide) rfl (fun ls hl => ?_)
  have hl : lv_has ls 6 [(0, .ref x0), (1, .int v1), (2, .long v2), (4, .int z3)] := lv_sub hl [1, 2, 3, 0] rfl
  refine w_iconst (v := 0) hx hb dX2_stampOfMostMembers_16 (by decide) ?_
  refine w_istore (lv' := [(5, .int 0), (0, .ref x0), (1, .int v1), (2, .long v2), (4, .int z3)]) hx hb dX2_stampOfMostMembers_17 hl (by decide) rfl (fun ls hl => ?_)
  have hl : lv_has ls 6 [(0, .ref x0), (1, .int v1), (2, .long v2), (4, .int z3), (5, .int 0)] := lv_sub hl [1, 2, 3, 4, 0] rfl
  obtain ⟨z20, ez20, h⟩ := v_bnd h
  refine X2_stampOfMostMembers_L19p x0 vF v1 v2 z3 0 ls z20 (lv_sub hl [0, 1, 2, 3, 4] rfl) ez20 (fun ls hl => ?_)
  refine w_iload_n hx hb dX2_stampOfMostMembers_65 rfl (lv_at hl 0 rfl) ?_
  obtain rfl := Option.some.inj h
  rw [hQ]
  exact v_iret hx hb hr hlk dX2_stampOfMostMembers_66

def tX3_init (G : Nat → Nat) (x0 : Nat) (x1 : Nat) (x2 : Int32) (x3 : Nat) (M : vMe) : Option (Unit × vMe) :=
  (sV M x0 6 0 (.ref x1)).bind fun M1 =>
  (sV M1 x0 6 1 (.int x2)).bind fun M2 =>
  (sV M2 x0 6 2 (.ref x3)).bind fun M3 =>
  (sV M3 x0 6 3 (.ref (G 104))).bind fun M4 =>
  (sV M4 x0 6 8 (.int ((-1)))).bind fun M5 =>
  some ((), M5)
def rmX3_init : Room := { frames := 1, cells := 0, slots := 0, locals := 60 }
set_option maxHeartbeats 4000000 in
set_option maxRecDepth 100000 in
theorem mX3_init (l : Launch) (hfl : l.stackTraces = false) (D : vD) (x0 : Nat) (x1 : Nat) (x2 : Int32) (x3 : Nat) (M : vMe) (z : (Unit × vMe)) (h : tX3_init D.2.2.2.2 x0 x1 x2 x3 M = some z) : Met l yX3_init (Cond.code yX3_init cX3_init 4 none :: TB) rmX3_init (va_Pc [.ref x0, .ref x1, .int x2, .ref x3] (vPre D M)) (qW D none z.2) 0 0 (vA D) := by
  refine v_ofW (cc := cX3_init) (maxL := 4) (ret := none) (by decide) (Nat.le_of_ble_eq_true rfl) ?_
  intro p e s m args below meth c Q hx hb hr hml hown hts hlk hnm hSS hR0 hQ ls hl
  have hK := hSS.1
  have hl : lv_has ls 4 [(0, .ref x0), (1, .ref x1), (2, .int x2), (3, .ref x3)] := hl
  unfold tX3_init at h
  refine w_aload_n hx hb dX3_init_0 rfl (lv_at hl 0 rfl) ?_
  refine v_objInit hx hb hown (hts _ kw815) (hts _ kw66) (hts _ kw67) (hl.1.trans hml.symm) dX3_init_1 (Nat.le_of_ble_eq_true rfl) (Nat.le_of_ble_eq_true rfl) ?_
  refine w_aload_n hx hb dX3_init_4 rfl (lv_at hl 0 rfl) ?_
  refine w_aload_n hx hb dX3_init_5 rfl (lv_at hl 1 rfl) ?_
  obtain ⟨M1, eM1, h⟩ := v_bnd h
  refine v_putf (ci := 5) hx hb hts iwX3 hown hK tyX3_ok nmX3 0 eM1 rfl (by decide) (Or.inl (hts _ kw818)) (fun _ h9 => h9) (Or.inr ⟨rfl, hnm, rfl, (hts _ kw818)⟩) rfl rfl dX3_init_6 ?_
  refine w_aload_n hx hb dX3_init_9 rfl (lv_at hl 0 rfl) ?_
  refine w_iload_n hx hb dX3_init_10 rfl (lv_at hl 2 rfl) ?_
  obtain ⟨M2, eM2, h⟩ := v_bnd h
  refine v_putf (ci := 5) hx hb hts iwX3 hown hK tyX3_ok nmX3 1 eM2 rfl (by decide) (Or.inl (hts _ kw819)) (fun _ h9 => h9) (Or.inr ⟨rfl, hnm, rfl, (hts _ kw819)⟩) rfl rfl dX3_init_11 ?_
  refine w_aload_n hx hb dX3_init_14 rfl (lv_at hl 0 rfl) ?_
  refine w_aload_n hx hb dX3_init_15 rfl (lv_at hl 3 rfl) ?_
  obtain ⟨M3, eM3, h⟩ := v_bnd h
  refine v_putf (ci := 5) hx hb hts iwX3 hown hK tyX3_ok nmX3 2 eM3 rfl (by decide) (Or.inl (hts _ kw820)) (fun _ h9 => h9) (Or.inr ⟨rfl, hnm, rfl, (hts _ kw820)⟩) rfl rfl dX3_init_16 ?_
  refine w_aload_n hx hb dX3_init_19 rfl (lv_at hl 0 rfl) ?_
  refine w_gets hx hb (hSS.2.2.2.1 4 _ rfl) hown (hts _ kw816) (fun _ h9 => h9) dX3_init_20 ?_
  obtain ⟨M4, eM4, h⟩ := v_bnd h
  refine v_putf (ci := 5) hx hb hts iwX3 hown hK tyX3_ok nmX3 3 eM4 rfl (by decide) (Or.inl (hts _ kw821)) (fun _ h9 => h9) (Or.inl rfl) rfl rfl dX3_init_23 ?_
  refine w_aload_n hx hb dX3_init_26 rfl (lv_at hl 0 rfl) ?_
  refine w_iconst (v := (-1)) hx hb dX3_init_27 (by decide) ?_
  obtain ⟨M5, eM5, h⟩ := v_bnd h
  refine v_putf (ci := 5) hx hb hts iwX3 hown hK tyX3_ok nmX3 8 eM5 rfl (by decide) (Or.inl (hts _ kw827)) (fun _ h9 => h9) (Or.inl rfl) rfl rfl dX3_init_28 ?_
  obtain rfl := Option.some.inj h
  rw [hQ]
  exact v_vret hx hb hr hlk dX3_init_31

def tX3_passLetters_L8 (x0 : Nat) : Nat → vMe → Option (Unit × vMe)
  | 0, _ => none
  | f + 1, Mi =>
  (gI Mi x0 6 5).bind fun v12 =>
  (gI Mi x0 6 1).bind fun v13 =>
  if v13 ≤ v12 then
  (some ((), Mi))
else
  ((gA Mi x0 6 0).bind fun a15 =>
  (gI Mi x0 6 5).bind fun v16 =>
  if (Mi.1 a15).1 = 4 then
  ((tX1_isLetter a15 v16 Mi).bind fun z17 =>
  if z17 = 0 then
  (some ((), Mi))
else
  ((gI Mi x0 6 5).bind fun v19 =>
  (sV Mi x0 6 5 (.int (v19 + 1))).bind fun M20 =>
  tX3_passLetters_L8 x0 f M20))
else none)
def tX3_passLetters_J70 (y0 : Nat) (y1 : Nat) (Mj : vMe) : Option (Unit × vMe) :=
  (sV Mj y0 6 3 (.ref y1)).bind fun M25 =>
  some ((), M25)
def tX3_passLetters_J46 (G : Nat → Nat) (x0 : Nat) (Mj : vMe) : Option (Unit × vMe) :=
  (gI Mj x0 6 5).bind fun v22 =>
  (gI Mj x0 6 4).bind fun v23 =>
  if (v22 - v23) ≤ (8 : Int32) then
  (tX3_passLetters_J70 x0 (G 100) Mj)
else
  (tX3_passLetters_J70 x0 (G 103) Mj)
def tX3_passLetters (G : Nat → Nat) (x0 : Nat) (M : vMe) : Option (Unit × vMe) :=
  (gI M x0 6 4).bind fun v1 =>
  (sV M x0 6 5 (.int v1)).bind fun M2 =>
  (tX3_passLetters_L8 x0 vF M2).bind fun z21 =>
  tX3_passLetters_J46 G x0 z21.2
def rmX3_passLetters : Room := { frames := 2, cells := 0, slots := 0, locals := 21 }
set_option maxHeartbeats 4000000 in
set_option maxRecDepth 100000 in
theorem mX3_passLetters (l : Launch) (hfl : l.stackTraces = false) (D : vD) (x0 : Nat) (M : vMe) (z : (Unit × vMe)) (h : tX3_passLetters D.2.2.2.2 x0 M = some z) : Met l yX3_passLetters (Cond.code yX3_passLetters cX3_passLetters 1 none :: TB) rmX3_passLetters (va_Pc [.ref x0] (vPre D M)) (qW D none z.2) 0 0 (vA D) := by
  refine v_ofW (cc := cX3_passLetters) (maxL := 1) (ret := none) (by decide) (Nat.le_of_ble_eq_true rfl) ?_
  intro p e s m args below meth c Q hx hb hr hml hown hts hlk hnm hSS hR0 hQ ls hl
  have hK := hSS.1
  have hl : lv_has ls 1 [(0, .ref x0)] := hl
  unfold tX3_passLetters at h
  have X3_passLetters_L8p : ∀ (x0 : Nat), ∀ (f : Nat) (Mi : vMe) (ls : Array Slot) (z : (Unit × vMe)), lv_has ls 1 [(0, .ref x0)] → tX3_passLetters_L8 x0 f Mi = some z → (∀ ls : Array Slot, lv_has ls 1 [(0, .ref x0)] → vV D p l e rmX3_passLetters s m args below meth c 0 0 Q z.2 (F0 m 46 ls [])) → vV D p l e rmX3_passLetters s m args below meth c 0 0 Q Mi (F0 m 8 ls []) := by
    intro x0 f
    induction f with
    | zero =>
      intro  Mi ls z hl h
      exact absurd h (by simp [tX3_passLetters_L8])
    | succ f ih =>
      intro  Mi ls z hl h KX
      rw [tX3_passLetters_L8] at h
      refine w_aload_n hx hb dX3_passLetters_8 rfl (lv_at hl 0 rfl) ?_
      obtain ⟨v12, ev12, h⟩ := v_bnd h
      refine v_gI (ci := 5) hx hb hts iwX3 hown hK 5 ev12 rfl (by decide) (Or.inl (hts _ kw823)) (fun _ h9 => h9) dX3_passLetters_9 ?_
      refine w_aload_n hx hb dX3_passLetters_12 rfl (lv_at hl 0 rfl) ?_
      obtain ⟨v13, ev13, h⟩ := v_bnd h
      refine v_gI (ci := 5) hx hb hts iwX3 hown hK 1 ev13 rfl (by decide) (Or.inl (hts _ kw819)) (fun _ h9 => h9) dX3_passLetters_13 ?_
      refine w_icmp_ge (tgt := 46) hx hb dX3_passLetters_16 (by decide) (fun c14 => ?_) (fun c14 => ?_)
      · rw [if_pos c14] at h
        obtain rfl := Option.some.inj h
        exact KX ls (lv_sub hl [0] rfl)
      · rw [if_neg c14] at h
        refine w_aload_n hx hb dX3_passLetters_19 rfl (lv_at hl 0 rfl) ?_
        obtain ⟨a15, ea15, h⟩ := v_bnd h
        refine v_gA (ci := 5) hx hb hts iwX3 hown hK 0 ea15 rfl (by decide) (Or.inl (hts _ kw818)) (fun _ h9 => h9) dX3_passLetters_20 ?_
        refine w_aload_n hx hb dX3_passLetters_23 rfl (lv_at hl 0 rfl) ?_
        obtain ⟨v16, ev16, h⟩ := v_bnd h
        refine v_gI (ci := 5) hx hb hts iwX3 hown hK 5 ev16 rfl (by decide) (Or.inl (hts _ kw823)) (fun _ h9 => h9) dX3_passLetters_24 ?_
        obtain ⟨g8, h⟩ := v_ifs h
        obtain ⟨z17, ez17, h⟩ := v_bnd h
        refine v_call1 (v := .int z17) (M1 := Mi) (mc := 0) (ms := 0) (fun H locs hR hS => va_runV (As := [.int v16]) (rest := []) ⟨hx, hb, hml, hown, hts⟩ (mX1_isLetter l hfl D a15 v16 Mi z17 ez17) (cwV 1 hts (gdV kw860 kw861 kw862 kw28 kw863) rfl rfl rfl (by decide +kernel) ⟨Nat.le_of_ble_eq_true rfl, Nat.le_of_ble_eq_true rfl⟩) (v_preV (ci := 3) hSS hR hS g8 (by decide) rfl [.int v16]) rfl rfl hl.1 rfl (lv_room (Nat.le_of_ble_eq_true rfl)) dX3_passLetters_27 ⟨Nat.zero_le _, Nat.zero_le _⟩) ?_
        refine w_if_eq (tgt := 46) hx hb dX3_passLetters_30 (by decide) (fun c18 => ?_) (fun c18 => ?_)
        · rw [if_pos c18] at h
          obtain rfl := Option.some.inj h
          exact KX ls (lv_sub hl [0] rfl)
        · rw [if_neg c18] at h
          refine w_aload_n hx hb dX3_passLetters_33 rfl (lv_at hl 0 rfl) ?_
          refine w_dup hx hb dX3_passLetters_34 rfl ?_
          obtain ⟨v19, ev19, h⟩ := v_bnd h
          refine v_gI (ci := 5) hx hb hts iwX3 hown hK 5 ev19 rfl (by decide) (Or.inl (hts _ kw823)) (fun _ h9 => h9) dX3_passLetters_35 ?_
          refine w_iconst (v := 1) hx hb dX3_passLetters_38 (by decide) ?_
          refine w_iadd hx hb dX3_passLetters_39 ?_
          obtain ⟨M20, eM20, h⟩ := v_bnd h
          refine v_putf (ci := 5) hx hb hts iwX3 hown hK tyX3_ok nmX3 5 eM20 rfl (by decide) (Or.inl (hts _ kw823)) (fun _ h9 => h9) (Or.inl rfl) rfl rfl dX3_passLetters_40 ?_
          refine w_goto (tgt := 8) hx hb dX3_passLetters_43 (by decide) ?_
          exact ih M20 ls z (lv_sub hl [0] rfl) h KX
  have X3_passLetters_J70p : ∀ (y0 : Nat) (y1 : Nat) (Mj : vMe) (ls : Array Slot), lv_has ls 1 [] → tX3_passLetters_J70 y0 y1 Mj = some z → vV D p l e rmX3_passLetters s m args below meth c 0 0 Q Mj (F0 m 70 ls [.ref y1, .ref y0]) := by
    intro y0 y1 Mj ls hl h
    unfold tX3_passLetters_J70 at h
    obtain ⟨M25, eM25, h⟩ := v_bnd h
    refine v_putf (ci := 5) hx hb hts iwX3 hown hK tyX3_ok nmX3 3 eM25 rfl (by decide) (Or.inl (hts _ kw821)) (fun _ h9 => h9) (Or.inl rfl) rfl rfl dX3_passLetters_70 ?_
    obtain rfl := Option.some.inj h
    rw [hQ]
    exact v_vret hx hb hr hlk dX3_passLetters_73
  have X3_passLetters_J46p : ∀ (x0 : Nat) (Mj : vMe) (ls : Array Slot), lv_has ls 1 [(0, .ref x0)] → tX3_passLetters_J46 D.2.2.2.2 x0 Mj = some z → vV D p l e rmX3_passLetters s m args below meth c 0 0 Q Mj (F0 m 46 ls []) := by
    intro x0 Mj ls hl h
    unfold tX3_passLetters_J46 at h
    refine w_aload_n hx hb dX3_passLetters_46 rfl (lv_at hl 0 rfl) ?_
    refine w_aload_n hx hb dX3_passLetters_47 rfl (lv_at hl 0 rfl) ?_
    obtain ⟨v22, ev22, h⟩ := v_bnd h
    refine v_gI (ci := 5) hx hb hts iwX3 hown hK 5 ev22 rfl (by decide) (Or.inl (hts _ kw823)) (fun _ h9 => h9) dX3_passLetters_48 ?_
    refine w_aload_n hx hb dX3_passLetters_51 rfl (lv_at hl 0 rfl) ?_
    obtain ⟨v23, ev23, h⟩ := v_bnd h
    refine v_gI (ci := 5) hx hb hts iwX3 hown hK 4 ev23 rfl (by decide) (Or.inl (hts _ kw822)) (fun _ h9 => h9) dX3_passLetters_52 ?_
    refine w_isub hx hb dX3_passLetters_55 ?_
    refine w_bipush (v := 8) hx hb dX3_passLetters_56 (by decide) ?_
    refine w_icmp_le (tgt := 67) hx hb dX3_passLetters_58 (by decide) (fun c24 => ?_) (fun c24 => ?_)
    · rw [if_pos c24] at h
      refine w_gets hx hb (hSS.2.2.2.1 0 _ rfl) hown (hts _ kw870) (fun _ h9 => h9) dX3_passLetters_67 ?_
      exact X3_passLetters_J70p x0 (D.2.2.2.2 100) Mj ls (lv_sub hl [] rfl) h
    · rw [if_neg c24] at h
      refine w_gets hx hb (hSS.2.2.2.1 3 _ rfl) hown (hts _ kw868) (fun _ h9 => h9) dX3_passLetters_61 ?_
      refine w_goto (tgt := 70) hx hb dX3_passLetters_64 (by decide) ?_
      exact X3_passLetters_J70p x0 (D.2.2.2.2 103) Mj ls (lv_sub hl [] rfl) h
  refine w_aload_n hx hb dX3_passLetters_0 rfl (lv_at hl 0 rfl) ?_
  refine w_aload_n hx hb dX3_passLetters_1 rfl (lv_at hl 0 rfl) ?_
  obtain ⟨v1, ev1, h⟩ := v_bnd h
  refine v_gI (ci := 5) hx hb hts iwX3 hown hK 4 ev1 rfl (by decide) (Or.inl (hts _ kw822)) (fun _ h9 => h9) dX3_passLetters_2 ?_
  obtain ⟨M2, eM2, h⟩ := v_bnd h
  refine v_putf (ci := 5) hx hb hts iwX3 hown hK tyX3_ok nmX3 5 eM2 rfl (by decide) (Or.inl (hts _ kw823)) (fun _ h9 => h9) (Or.inl rfl) rfl rfl dX3_passLetters_5 ?_
  obtain ⟨z21, ez21, h⟩ := v_bnd h
  refine X3_passLetters_L8p x0 vF  M2 ls z21 (lv_sub hl [0] rfl) ez21 (fun ls hl => ?_)
  exact X3_passLetters_J46p x0 z21.2 ls (lv_sub hl [0] rfl) h

def tX3_passDigits_L13 (x0 : Nat) : Nat → vMe → Option (Unit × vMe)
  | 0, _ => none
  | f + 1, Mi =>
  (gI Mi x0 6 5).bind fun v19 =>
  (gI Mi x0 6 1).bind fun v20 =>
  if v20 ≤ v19 then
  (some ((), Mi))
else
  ((gA Mi x0 6 0).bind fun a22 =>
  (gI Mi x0 6 5).bind fun v23 =>
  if (Mi.1 a22).1 = 4 then
  ((tX1_isDigit a22 v23 Mi).bind fun z24 =>
  if z24 = 0 then
  (some ((), Mi))
else
  ((gI Mi x0 6 6).bind fun v26 =>
  (gA Mi x0 6 0).bind fun a27 =>
  (gA Mi a27 4 0).bind fun a28 =>
  (gI Mi x0 6 5).bind fun v29 =>
  (aI Mi a28 102 v29).bind fun v30 =>
  (sV Mi x0 6 6 (.int ((v26 * 10) + (v30 - 48)))).bind fun M31 =>
  (gI M31 x0 6 5).bind fun v32 =>
  (sV M31 x0 6 5 (.int (v32 + 1))).bind fun M33 =>
  tX3_passDigits_L13 x0 f M33))
else none)
def tX3_passDigits_J101 (y0 : Nat) (y1 : Nat) (Mj : vMe) : Option (Unit × vMe) :=
  (sV Mj y0 6 3 (.ref y1)).bind fun M38 =>
  some ((), M38)
def tX3_passDigits_J78 (G : Nat → Nat) (x0 : Nat) (Mj : vMe) : Option (Unit × vMe) :=
  (gI Mj x0 6 5).bind fun v35 =>
  (gI Mj x0 6 4).bind fun v36 =>
  if (v35 - v36) ≤ (3 : Int32) then
  (tX3_passDigits_J101 x0 (G 101) Mj)
else
  (tX3_passDigits_J101 x0 (G 103) Mj)
def tX3_passDigits (G : Nat → Nat) (x0 : Nat) (M : vMe) : Option (Unit × vMe) :=
  (sV M x0 6 6 (.int 0)).bind fun M1 =>
  (gI M1 x0 6 4).bind fun v2 =>
  (sV M1 x0 6 5 (.int v2)).bind fun M3 =>
  (tX3_passDigits_L13 x0 vF M3).bind fun z34 =>
  tX3_passDigits_J78 G x0 z34.2
def rmX3_passDigits : Room := { frames := 2, cells := 0, slots := 0, locals := 21 }
set_option maxHeartbeats 4000000 in
set_option maxRecDepth 100000 in
theorem mX3_passDigits (l : Launch) (hfl : l.stackTraces = false) (D : vD) (x0 : Nat) (M : vMe) (z : (Unit × vMe)) (h : tX3_passDigits D.2.2.2.2 x0 M = some z) : Met l yX3_passDigits (Cond.code yX3_passDigits cX3_passDigits 1 none :: TB) rmX3_passDigits (va_Pc [.ref x0] (vPre D M)) (qW D none z.2) 0 0 (vA D) := by
  refine v_ofW (cc := cX3_passDigits) (maxL := 1) (ret := none) (by decide) (Nat.le_of_ble_eq_true rfl) ?_
  intro p e s m args below meth c Q hx hb hr hml hown hts hlk hnm hSS hR0 hQ ls hl
  have hK := hSS.1
  have hl : lv_has ls 1 [(0, .ref x0)] := hl
  unfold tX3_passDigits at h
  have X3_passDigits_L13p : ∀ (x0 : Nat), ∀ (f : Nat) (Mi : vMe) (ls : Array Slot) (z : (Unit × vMe)), lv_has ls 1 [(0, .ref x0)] → tX3_passDigits_L13 x0 f Mi = some z → (∀ ls : Array Slot, lv_has ls 1 [(0, .ref x0)] → vV D p l e rmX3_passDigits s m args below meth c 0 0 Q z.2 (F0 m 78 ls [])) → vV D p l e rmX3_passDigits s m args below meth c 0 0 Q Mi (F0 m 13 ls []) := by
    intro x0 f
    induction f with
    | zero =>
      intro  Mi ls z hl h
      exact absurd h (by simp [tX3_passDigits_L13])
    | succ f ih =>
      intro  Mi ls z hl h KX
      rw [tX3_passDigits_L13] at h
      refine w_aload_n hx hb dX3_passDigits_13 rfl (lv_at hl 0 rfl) ?_
      obtain ⟨v19, ev19, h⟩ := v_bnd h
      refine v_gI (ci := 5) hx hb hts iwX3 hown hK 5 ev19 rfl (by decide) (Or.inl (hts _ kw823)) (fun _ h9 => h9) dX3_passDigits_14 ?_
      refine w_aload_n hx hb dX3_passDigits_17 rfl (lv_at hl 0 rfl) ?_
      obtain ⟨v20, ev20, h⟩ := v_bnd h
      refine v_gI (ci := 5) hx hb hts iwX3 hown hK 1 ev20 rfl (by decide) (Or.inl (hts _ kw819)) (fun _ h9 => h9) dX3_passDigits_18 ?_
      refine w_icmp_ge (tgt := 78) hx hb dX3_passDigits_21 (by decide) (fun c21 => ?_) (fun c21 => ?_)
      · rw [if_pos c21] at h
        obtain rfl := Option.some.inj h
        exact KX ls (lv_sub hl [0] rfl)
      · rw [if_neg c21] at h
        refine w_aload_n hx hb dX3_passDigits_24 rfl (lv_at hl 0 rfl) ?_
        obtain ⟨a22, ea22, h⟩ := v_bnd h
        refine v_gA (ci := 5) hx hb hts iwX3 hown hK 0 ea22 rfl (by decide) (Or.inl (hts _ kw818)) (fun _ h9 => h9) dX3_passDigits_25 ?_
        refine w_aload_n hx hb dX3_passDigits_28 rfl (lv_at hl 0 rfl) ?_
        obtain ⟨v23, ev23, h⟩ := v_bnd h
        refine v_gI (ci := 5) hx hb hts iwX3 hown hK 5 ev23 rfl (by decide) (Or.inl (hts _ kw823)) (fun _ h9 => h9) dX3_passDigits_29 ?_
        obtain ⟨g8, h⟩ := v_ifs h
        obtain ⟨z24, ez24, h⟩ := v_bnd h
        refine v_call1 (v := .int z24) (M1 := Mi) (mc := 0) (ms := 0) (fun H locs hR hS => va_runV (As := [.int v23]) (rest := []) ⟨hx, hb, hml, hown, hts⟩ (mX1_isDigit l hfl D a22 v23 Mi z24 ez24) (cwV 1 hts (gdV kw872 kw873 kw874 kw28 kw875) rfl rfl rfl (by decide +kernel) ⟨Nat.le_of_ble_eq_true rfl, Nat.le_of_ble_eq_true rfl⟩) (v_preV (ci := 3) hSS hR hS g8 (by decide) rfl [.int v23]) rfl rfl hl.1 rfl (lv_room (Nat.le_of_ble_eq_true rfl)) dX3_passDigits_32 ⟨Nat.zero_le _, Nat.zero_le _⟩) ?_
        refine w_if_eq (tgt := 78) hx hb dX3_passDigits_35 (by decide) (fun c25 => ?_) (fun c25 => ?_)
        · rw [if_pos c25] at h
          obtain rfl := Option.some.inj h
          exact KX ls (lv_sub hl [0] rfl)
        · rw [if_neg c25] at h
          refine w_aload_n hx hb dX3_passDigits_38 rfl (lv_at hl 0 rfl) ?_
          refine w_aload_n hx hb dX3_passDigits_39 rfl (lv_at hl 0 rfl) ?_
          obtain ⟨v26, ev26, h⟩ := v_bnd h
          refine v_gI (ci := 5) hx hb hts iwX3 hown hK 6 ev26 rfl (by decide) (Or.inl (hts _ kw824)) (fun _ h9 => h9) dX3_passDigits_40 ?_
          refine w_bipush (v := 10) hx hb dX3_passDigits_43 (by decide) ?_
          refine w_imul hx hb dX3_passDigits_45 ?_
          refine w_aload_n hx hb dX3_passDigits_46 rfl (lv_at hl 0 rfl) ?_
          obtain ⟨a27, ea27, h⟩ := v_bnd h
          refine v_gA (ci := 5) hx hb hts iwX3 hown hK 0 ea27 rfl (by decide) (Or.inl (hts _ kw818)) (fun _ h9 => h9) dX3_passDigits_47 ?_
          obtain ⟨a28, ea28, h⟩ := v_bnd h
          refine v_gA (ci := 3) hx hb hts iwX1 hown hK 0 ea28 rfl (by decide) (Or.inr ⟨_, kn0 hSS _⟩) (fun _ h9 => h9) dX3_passDigits_50 ?_
          refine w_aload_n hx hb dX3_passDigits_53 rfl (lv_at hl 0 rfl) ?_
          obtain ⟨v29, ev29, h⟩ := v_bnd h
          refine v_gI (ci := 5) hx hb hts iwX3 hown hK 5 ev29 rfl (by decide) (Or.inl (hts _ kw823)) (fun _ h9 => h9) dX3_passDigits_54 ?_
          obtain ⟨v30, ev30, h⟩ := v_bnd h
          refine v_bald hx hb hK ev30 dX3_passDigits_57 ?_
          refine w_bipush (v := 48) hx hb dX3_passDigits_58 (by decide) ?_
          refine w_isub hx hb dX3_passDigits_60 ?_
          refine w_iadd hx hb dX3_passDigits_61 ?_
          obtain ⟨M31, eM31, h⟩ := v_bnd h
          refine v_putf (ci := 5) hx hb hts iwX3 hown hK tyX3_ok nmX3 6 eM31 rfl (by decide) (Or.inl (hts _ kw824)) (fun _ h9 => h9) (Or.inl rfl) rfl rfl dX3_passDigits_62 ?_
          refine w_aload_n hx hb dX3_passDigits_65 rfl (lv_at hl 0 rfl) ?_
          refine w_dup hx hb dX3_passDigits_66 rfl ?_
          obtain ⟨v32, ev32, h⟩ := v_bnd h
          refine v_gI (ci := 5) hx hb hts iwX3 hown hK 5 ev32 rfl (by decide) (Or.inl (hts _ kw823)) (fun _ h9 => h9) dX3_passDigits_67 ?_
          refine w_iconst (v := 1) hx hb dX3_passDigits_70 (by decide) ?_
          refine w_iadd hx hb dX3_passDigits_71 ?_
          obtain ⟨M33, eM33, h⟩ := v_bnd h
          refine v_putf (ci := 5) hx hb hts iwX3 hown hK tyX3_ok nmX3 5 eM33 rfl (by decide) (Or.inl (hts _ kw823)) (fun _ h9 => h9) (Or.inl rfl) rfl rfl dX3_passDigits_72 ?_
          refine w_goto (tgt := 13) hx hb dX3_passDigits_75 (by decide) ?_
          exact ih M33 ls z (lv_sub hl [0] rfl) h KX
  have X3_passDigits_J101p : ∀ (y0 : Nat) (y1 : Nat) (Mj : vMe) (ls : Array Slot), lv_has ls 1 [] → tX3_passDigits_J101 y0 y1 Mj = some z → vV D p l e rmX3_passDigits s m args below meth c 0 0 Q Mj (F0 m 101 ls [.ref y1, .ref y0]) := by
    intro y0 y1 Mj ls hl h
    unfold tX3_passDigits_J101 at h
    obtain ⟨M38, eM38, h⟩ := v_bnd h
    refine v_putf (ci := 5) hx hb hts iwX3 hown hK tyX3_ok nmX3 3 eM38 rfl (by decide) (Or.inl (hts _ kw821)) (fun _ h9 => h9) (Or.inl rfl) rfl rfl dX3_passDigits_101 ?_
    obtain rfl := Option.some.inj h
    rw [hQ]
    exact v_vret hx hb hr hlk dX3_passDigits_104
  have X3_passDigits_J78p : ∀ (x0 : Nat) (Mj : vMe) (ls : Array Slot), lv_has ls 1 [(0, .ref x0)] → tX3_passDigits_J78 D.2.2.2.2 x0 Mj = some z → vV D p l e rmX3_passDigits s m args below meth c 0 0 Q Mj (F0 m 78 ls []) := by
    intro x0 Mj ls hl h
    unfold tX3_passDigits_J78 at h
    refine w_aload_n hx hb dX3_passDigits_78 rfl (lv_at hl 0 rfl) ?_
    refine w_aload_n hx hb dX3_passDigits_79 rfl (lv_at hl 0 rfl) ?_
    obtain ⟨v35, ev35, h⟩ := v_bnd h
    refine v_gI (ci := 5) hx hb hts iwX3 hown hK 5 ev35 rfl (by decide) (Or.inl (hts _ kw823)) (fun _ h9 => h9) dX3_passDigits_80 ?_
    refine w_aload_n hx hb dX3_passDigits_83 rfl (lv_at hl 0 rfl) ?_
    obtain ⟨v36, ev36, h⟩ := v_bnd h
    refine v_gI (ci := 5) hx hb hts iwX3 hown hK 4 ev36 rfl (by decide) (Or.inl (hts _ kw822)) (fun _ h9 => h9) dX3_passDigits_84 ?_
    refine w_isub hx hb dX3_passDigits_87 ?_
    refine w_iconst (v := 3) hx hb dX3_passDigits_88 (by decide) ?_
    refine w_icmp_le (tgt := 98) hx hb dX3_passDigits_89 (by decide) (fun c37 => ?_) (fun c37 => ?_)
    · rw [if_pos c37] at h
      refine w_gets hx hb (hSS.2.2.2.1 1 _ rfl) hown (hts _ kw880) (fun _ h9 => h9) dX3_passDigits_98 ?_
      exact X3_passDigits_J101p x0 (D.2.2.2.2 101) Mj ls (lv_sub hl [] rfl) h
    · rw [if_neg c37] at h
      refine w_gets hx hb (hSS.2.2.2.1 3 _ rfl) hown (hts _ kw868) (fun _ h9 => h9) dX3_passDigits_92 ?_
      refine w_goto (tgt := 101) hx hb dX3_passDigits_95 (by decide) ?_
      exact X3_passDigits_J101p x0 (D.2.2.2.2 103) Mj ls (lv_sub hl [] rfl) h
  refine w_aload_n hx hb dX3_passDigits_0 rfl (lv_at hl 0 rfl) ?_
  refine w_iconst (v := 0) hx hb dX3_passDigits_1 (by decide) ?_
  obtain ⟨M1, eM1, h⟩ := v_bnd h
  refine v_putf (ci := 5) hx hb hts iwX3 hown hK tyX3_ok nmX3 6 eM1 rfl (by decide) (Or.inl (hts _ kw824)) (fun _ h9 => h9) (Or.inl rfl) rfl rfl dX3_passDigits_2 ?_
  refine w_aload_n hx hb dX3_passDigits_5 rfl (lv_at hl 0 rfl) ?_
  refine w_aload_n hx hb dX3_passDigits_6 rfl (lv_at hl 0 rfl) ?_
  obtain ⟨v2, ev2, h⟩ := v_bnd h
  refine v_gI (ci := 5) hx hb hts iwX3 hown hK 4 ev2 rfl (by decide) (Or.inl (hts _ kw822)) (fun _ h9 => h9) dX3_passDigits_7 ?_
  obtain ⟨M3, eM3, h⟩ := v_bnd h
  refine v_putf (ci := 5) hx hb hts iwX3 hown hK tyX3_ok nmX3 5 eM3 rfl (by decide) (Or.inl (hts _ kw823)) (fun _ h9 => h9) (Or.inl rfl) rfl rfl dX3_passDigits_10 ?_
  obtain ⟨z34, ez34, h⟩ := v_bnd h
  refine X3_passDigits_L13p x0 vF  M3 ls z34 (lv_sub hl [0] rfl) ez34 (fun ls hl => ?_)
  exact X3_passDigits_J78p x0 z34.2 ls (lv_sub hl [0] rfl) h

def tX3_toNextToken_L8 (x0 : Nat) : Nat → vMe → Option (Unit × vMe)
  | 0, _ => none
  | f + 1, Mi =>
  (gI Mi x0 6 4).bind fun v12 =>
  (gI Mi x0 6 1).bind fun v13 =>
  if v13 ≤ v12 then
  (some ((), Mi))
else
  ((gA Mi x0 6 0).bind fun a15 =>
  (gI Mi x0 6 4).bind fun v16 =>
  if (Mi.1 a15).1 = 4 then
  ((tX1_isBlank a15 v16 Mi).bind fun z17 =>
  if z17 = 0 then
  (some ((), Mi))
else
  ((gI Mi x0 6 4).bind fun v19 =>
  (sV Mi x0 6 4 (.int (v19 + 1))).bind fun M20 =>
  tX3_toNextToken_L8 x0 f M20))
else none)
def tX3_toNextToken_J154 (y0 : Nat) (y1 : Nat) (Mj : vMe) : Option (Unit × vMe) :=
  (sV Mj y0 6 3 (.ref y1)).bind fun M40 =>
  some ((), M40)
def tX3_toNextToken_J46 (G : Nat → Nat) (x0 : Nat) (Mj : vMe) : Option (Unit × vMe) :=
  (gI Mj x0 6 4).bind fun v22 =>
  (gI Mj x0 6 1).bind fun v23 =>
  if v22 < v23 then
  ((gA Mj x0 6 0).bind fun a25 =>
  (gI Mj x0 6 4).bind fun v26 =>
  if (Mj.1 a25).1 = 4 then
  ((tX1_isLetter a25 v26 Mj).bind fun z27 =>
  if z27 = 0 then
  ((gA Mj x0 6 0).bind fun a29 =>
  (gI Mj x0 6 4).bind fun v30 =>
  if (Mj.1 a29).1 = 4 then
  ((tX1_isDigit a29 v30 Mj).bind fun z31 =>
  if z31 = 0 then
  ((gI Mj x0 6 4).bind fun v33 =>
  (sV Mj x0 6 5 (.int (v33 + 1))).bind fun M34 =>
  (gA M34 x0 6 0).bind fun a35 =>
  (gA M34 a35 4 0).bind fun a36 =>
  (gI M34 x0 6 4).bind fun v37 =>
  (aI M34 a36 102 v37).bind fun v38 =>
  if v38 = (59 : Int32) then
  (tX3_toNextToken_J154 x0 (G 102) M34)
else
  (tX3_toNextToken_J154 x0 (G 103) M34))
else
  (if (Mj.1 x0).1 = 6 then
  ((tX3_passDigits G x0 Mj).bind fun z41 =>
  some ((), z41.2))
else none))
else none)
else
  (if (Mj.1 x0).1 = 6 then
  ((tX3_passLetters G x0 Mj).bind fun z42 =>
  some ((), z42.2))
else none))
else none)
else
  ((gI Mj x0 6 4).bind fun v43 =>
  (sV Mj x0 6 5 (.int v43)).bind fun M44 =>
  (sV M44 x0 6 3 (.ref (G 104))).bind fun M45 =>
  some ((), M45))
def tX3_toNextToken (G : Nat → Nat) (x0 : Nat) (M : vMe) : Option (Unit × vMe) :=
  (gI M x0 6 5).bind fun v1 =>
  (sV M x0 6 4 (.int v1)).bind fun M2 =>
  (tX3_toNextToken_L8 x0 vF M2).bind fun z21 =>
  tX3_toNextToken_J46 G x0 z21.2
def rmX3_toNextToken : Room := { frames := 3, cells := 0, slots := 0, locals := 41 }
set_option maxHeartbeats 4000000 in
set_option maxRecDepth 100000 in
theorem mX3_toNextToken (l : Launch) (hfl : l.stackTraces = false) (D : vD) (x0 : Nat) (M : vMe) (z : (Unit × vMe)) (h : tX3_toNextToken D.2.2.2.2 x0 M = some z) : Met l yX3_toNextToken (Cond.code yX3_toNextToken cX3_toNextToken 1 none :: TB) rmX3_toNextToken (va_Pc [.ref x0] (vPre D M)) (qW D none z.2) 0 0 (vA D) := by
  refine v_ofW (cc := cX3_toNextToken) (maxL := 1) (ret := none) (by decide) (Nat.le_of_ble_eq_true rfl) ?_
  intro p e s m args below meth c Q hx hb hr hml hown hts hlk hnm hSS hR0 hQ ls hl
  have hK := hSS.1
  have hl : lv_has ls 1 [(0, .ref x0)] := hl
  unfold tX3_toNextToken at h
  have X3_toNextToken_L8p : ∀ (x0 : Nat), ∀ (f : Nat) (Mi : vMe) (ls : Array Slot) (z : (Unit × vMe)), lv_has ls 1 [(0, .ref x0)] → tX3_toNextToken_L8 x0 f Mi = some z → (∀ ls : Array Slot, lv_has ls 1 [(0, .ref x0)] → vV D p l e rmX3_toNextToken s m args below meth c 0 0 Q z.2 (F0 m 46 ls [])) → vV D p l e rmX3_toNextToken s m args below meth c 0 0 Q Mi (F0 m 8 ls []) := by
    intro x0 f
    induction f with
    | zero =>
      intro  Mi ls z hl h
      exact absurd h (by simp [tX3_toNextToken_L8])
    | succ f ih =>
      intro  Mi ls z hl h KX
      rw [tX3_toNextToken_L8] at h
      refine w_aload_n hx hb dX3_toNextToken_8 rfl (lv_at hl 0 rfl) ?_
      obtain ⟨v12, ev12, h⟩ := v_bnd h
      refine v_gI (ci := 5) hx hb hts iwX3 hown hK 4 ev12 rfl (by decide) (Or.inl (hts _ kw822)) (fun _ h9 => h9) dX3_toNextToken_9 ?_
      refine w_aload_n hx hb dX3_toNextToken_12 rfl (lv_at hl 0 rfl) ?_
      obtain ⟨v13, ev13, h⟩ := v_bnd h
      refine v_gI (ci := 5) hx hb hts iwX3 hown hK 1 ev13 rfl (by decide) (Or.inl (hts _ kw819)) (fun _ h9 => h9) dX3_toNextToken_13 ?_
      refine w_icmp_ge (tgt := 46) hx hb dX3_toNextToken_16 (by decide) (fun c14 => ?_) (fun c14 => ?_)
      · rw [if_pos c14] at h
        obtain rfl := Option.some.inj h
        exact KX ls (lv_sub hl [0] rfl)
      · rw [if_neg c14] at h
        refine w_aload_n hx hb dX3_toNextToken_19 rfl (lv_at hl 0 rfl) ?_
        obtain ⟨a15, ea15, h⟩ := v_bnd h
        refine v_gA (ci := 5) hx hb hts iwX3 hown hK 0 ea15 rfl (by decide) (Or.inl (hts _ kw818)) (fun _ h9 => h9) dX3_toNextToken_20 ?_
        refine w_aload_n hx hb dX3_toNextToken_23 rfl (lv_at hl 0 rfl) ?_
        obtain ⟨v16, ev16, h⟩ := v_bnd h
        refine v_gI (ci := 5) hx hb hts iwX3 hown hK 4 ev16 rfl (by decide) (Or.inl (hts _ kw822)) (fun _ h9 => h9) dX3_toNextToken_24 ?_
        obtain ⟨g8, h⟩ := v_ifs h
        obtain ⟨z17, ez17, h⟩ := v_bnd h
        refine v_call1 (v := .int z17) (M1 := Mi) (mc := 0) (ms := 0) (fun H locs hR hS => va_runV (As := [.int v16]) (rest := []) ⟨hx, hb, hml, hown, hts⟩ (mX1_isBlank l hfl D a15 v16 Mi z17 ez17) (cwV 1 hts (gdV kw856 kw857 kw858 kw28 kw859) rfl rfl rfl (by decide +kernel) ⟨Nat.le_of_ble_eq_true rfl, Nat.le_of_ble_eq_true rfl⟩) (v_preV (ci := 3) hSS hR hS g8 (by decide) rfl [.int v16]) rfl rfl hl.1 rfl (lv_room (Nat.le_of_ble_eq_true rfl)) dX3_toNextToken_27 ⟨Nat.zero_le _, Nat.zero_le _⟩) ?_
        refine w_if_eq (tgt := 46) hx hb dX3_toNextToken_30 (by decide) (fun c18 => ?_) (fun c18 => ?_)
        · rw [if_pos c18] at h
          obtain rfl := Option.some.inj h
          exact KX ls (lv_sub hl [0] rfl)
        · rw [if_neg c18] at h
          refine w_aload_n hx hb dX3_toNextToken_33 rfl (lv_at hl 0 rfl) ?_
          refine w_dup hx hb dX3_toNextToken_34 rfl ?_
          obtain ⟨v19, ev19, h⟩ := v_bnd h
          refine v_gI (ci := 5) hx hb hts iwX3 hown hK 4 ev19 rfl (by decide) (Or.inl (hts _ kw822)) (fun _ h9 => h9) dX3_toNextToken_35 ?_
          refine w_iconst (v := 1) hx hb dX3_toNextToken_38 (by decide) ?_
          refine w_iadd hx hb dX3_toNextToken_39 ?_
          obtain ⟨M20, eM20, h⟩ := v_bnd h
          refine v_putf (ci := 5) hx hb hts iwX3 hown hK tyX3_ok nmX3 4 eM20 rfl (by decide) (Or.inl (hts _ kw822)) (fun _ h9 => h9) (Or.inl rfl) rfl rfl dX3_toNextToken_40 ?_
          refine w_goto (tgt := 8) hx hb dX3_toNextToken_43 (by decide) ?_
          exact ih M20 ls z (lv_sub hl [0] rfl) h KX
  have X3_toNextToken_J154p : ∀ (y0 : Nat) (y1 : Nat) (Mj : vMe) (ls : Array Slot), lv_has ls 1 [] → tX3_toNextToken_J154 y0 y1 Mj = some z → vV D p l e rmX3_toNextToken s m args below meth c 0 0 Q Mj (F0 m 154 ls [.ref y1, .ref y0]) := by
    intro y0 y1 Mj ls hl h
    unfold tX3_toNextToken_J154 at h
    obtain ⟨M40, eM40, h⟩ := v_bnd h
    refine v_putf (ci := 5) hx hb hts iwX3 hown hK tyX3_ok nmX3 3 eM40 rfl (by decide) (Or.inl (hts _ kw821)) (fun _ h9 => h9) (Or.inl rfl) rfl rfl dX3_toNextToken_154 ?_
    obtain rfl := Option.some.inj h
    rw [hQ]
    exact v_vret hx hb hr hlk dX3_toNextToken_157
  have X3_toNextToken_J46p : ∀ (x0 : Nat) (Mj : vMe) (ls : Array Slot), lv_has ls 1 [(0, .ref x0)] → tX3_toNextToken_J46 D.2.2.2.2 x0 Mj = some z → vV D p l e rmX3_toNextToken s m args below meth c 0 0 Q Mj (F0 m 46 ls []) := by
    intro x0 Mj ls hl h
    unfold tX3_toNextToken_J46 at h
    refine w_aload_n hx hb dX3_toNextToken_46 rfl (lv_at hl 0 rfl) ?_
    obtain ⟨v22, ev22, h⟩ := v_bnd h
    refine v_gI (ci := 5) hx hb hts iwX3 hown hK 4 ev22 rfl (by decide) (Or.inl (hts _ kw822)) (fun _ h9 => h9) dX3_toNextToken_47 ?_
    refine w_aload_n hx hb dX3_toNextToken_50 rfl (lv_at hl 0 rfl) ?_
    obtain ⟨v23, ev23, h⟩ := v_bnd h
    refine v_gI (ci := 5) hx hb hts iwX3 hown hK 1 ev23 rfl (by decide) (Or.inl (hts _ kw819)) (fun _ h9 => h9) dX3_toNextToken_51 ?_
    refine w_icmp_lt (tgt := 75) hx hb dX3_toNextToken_54 (by decide) (fun c24 => ?_) (fun c24 => ?_)
    · rw [if_pos c24] at h
      refine w_aload_n hx hb dX3_toNextToken_75 rfl (lv_at hl 0 rfl) ?_
      obtain ⟨a25, ea25, h⟩ := v_bnd h
      refine v_gA (ci := 5) hx hb hts iwX3 hown hK 0 ea25 rfl (by decide) (Or.inl (hts _ kw818)) (fun _ h9 => h9) dX3_toNextToken_76 ?_
      refine w_aload_n hx hb dX3_toNextToken_79 rfl (lv_at hl 0 rfl) ?_
      obtain ⟨v26, ev26, h⟩ := v_bnd h
      refine v_gI (ci := 5) hx hb hts iwX3 hown hK 4 ev26 rfl (by decide) (Or.inl (hts _ kw822)) (fun _ h9 => h9) dX3_toNextToken_80 ?_
      obtain ⟨g8, h⟩ := v_ifs h
      obtain ⟨z27, ez27, h⟩ := v_bnd h
      refine v_call1 (v := .int z27) (M1 := Mj) (mc := 0) (ms := 0) (fun H locs hR hS => va_runV (As := [.int v26]) (rest := []) ⟨hx, hb, hml, hown, hts⟩ (mX1_isLetter l hfl D a25 v26 Mj z27 ez27) (cwV 1 hts (gdV kw860 kw861 kw862 kw28 kw863) rfl rfl rfl (by decide +kernel) ⟨Nat.le_of_ble_eq_true rfl, Nat.le_of_ble_eq_true rfl⟩) (v_preV (ci := 3) hSS hR hS g8 (by decide) rfl [.int v26]) rfl rfl hl.1 rfl (lv_room (Nat.le_of_ble_eq_true rfl)) dX3_toNextToken_83 ⟨Nat.zero_le _, Nat.zero_le _⟩) ?_
      refine w_if_eq (tgt := 96) hx hb dX3_toNextToken_86 (by decide) (fun c28 => ?_) (fun c28 => ?_)
      · rw [if_pos c28] at h
        refine w_aload_n hx hb dX3_toNextToken_96 rfl (lv_at hl 0 rfl) ?_
        obtain ⟨a29, ea29, h⟩ := v_bnd h
        refine v_gA (ci := 5) hx hb hts iwX3 hown hK 0 ea29 rfl (by decide) (Or.inl (hts _ kw818)) (fun _ h9 => h9) dX3_toNextToken_97 ?_
        refine w_aload_n hx hb dX3_toNextToken_100 rfl (lv_at hl 0 rfl) ?_
        obtain ⟨v30, ev30, h⟩ := v_bnd h
        refine v_gI (ci := 5) hx hb hts iwX3 hown hK 4 ev30 rfl (by decide) (Or.inl (hts _ kw822)) (fun _ h9 => h9) dX3_toNextToken_101 ?_
        obtain ⟨g8, h⟩ := v_ifs h
        obtain ⟨z31, ez31, h⟩ := v_bnd h
        refine v_call1 (v := .int z31) (M1 := Mj) (mc := 0) (ms := 0) (fun H locs hR hS => va_runV (As := [.int v30]) (rest := []) ⟨hx, hb, hml, hown, hts⟩ (mX1_isDigit l hfl D a29 v30 Mj z31 ez31) (cwV 1 hts (gdV kw872 kw873 kw874 kw28 kw875) rfl rfl rfl (by decide +kernel) ⟨Nat.le_of_ble_eq_true rfl, Nat.le_of_ble_eq_true rfl⟩) (v_preV (ci := 3) hSS hR hS g8 (by decide) rfl [.int v30]) rfl rfl hl.1 rfl (lv_room (Nat.le_of_ble_eq_true rfl)) dX3_toNextToken_104 ⟨Nat.zero_le _, Nat.zero_le _⟩) ?_
        refine w_if_eq (tgt := 117) hx hb dX3_toNextToken_107 (by decide) (fun c32 => ?_) (fun c32 => ?_)
        · rw [if_pos c32] at h
          refine w_aload_n hx hb dX3_toNextToken_117 rfl (lv_at hl 0 rfl) ?_
          refine w_aload_n hx hb dX3_toNextToken_118 rfl (lv_at hl 0 rfl) ?_
          obtain ⟨v33, ev33, h⟩ := v_bnd h
          refine v_gI (ci := 5) hx hb hts iwX3 hown hK 4 ev33 rfl (by decide) (Or.inl (hts _ kw822)) (fun _ h9 => h9) dX3_toNextToken_119 ?_
          refine w_iconst (v := 1) hx hb dX3_toNextToken_122 (by decide) ?_
          refine w_iadd hx hb dX3_toNextToken_123 ?_
          obtain ⟨M34, eM34, h⟩ := v_bnd h
          refine v_putf (ci := 5) hx hb hts iwX3 hown hK tyX3_ok nmX3 5 eM34 rfl (by decide) (Or.inl (hts _ kw823)) (fun _ h9 => h9) (Or.inl rfl) rfl rfl dX3_toNextToken_124 ?_
          refine w_aload_n hx hb dX3_toNextToken_127 rfl (lv_at hl 0 rfl) ?_
          refine w_aload_n hx hb dX3_toNextToken_128 rfl (lv_at hl 0 rfl) ?_
          obtain ⟨a35, ea35, h⟩ := v_bnd h
          refine v_gA (ci := 5) hx hb hts iwX3 hown hK 0 ea35 rfl (by decide) (Or.inl (hts _ kw818)) (fun _ h9 => h9) dX3_toNextToken_129 ?_
          obtain ⟨a36, ea36, h⟩ := v_bnd h
          refine v_gA (ci := 3) hx hb hts iwX1 hown hK 0 ea36 rfl (by decide) (Or.inr ⟨_, kn0 hSS _⟩) (fun _ h9 => h9) dX3_toNextToken_132 ?_
          refine w_aload_n hx hb dX3_toNextToken_135 rfl (lv_at hl 0 rfl) ?_
          obtain ⟨v37, ev37, h⟩ := v_bnd h
          refine v_gI (ci := 5) hx hb hts iwX3 hown hK 4 ev37 rfl (by decide) (Or.inl (hts _ kw822)) (fun _ h9 => h9) dX3_toNextToken_136 ?_
          obtain ⟨v38, ev38, h⟩ := v_bnd h
          refine v_bald hx hb hK ev38 dX3_toNextToken_139 ?_
          refine w_bipush (v := 59) hx hb dX3_toNextToken_140 (by decide) ?_
          refine w_icmp_ne (tgt := 151) hx hb dX3_toNextToken_142 (by decide) (fun c39 => ?_) (fun c39 => ?_)
          · rw [if_pos c39] at h
            refine w_gets hx hb (hSS.2.2.2.1 2 _ rfl) hown (hts _ kw882) (fun _ h9 => h9) dX3_toNextToken_145 ?_
            refine w_goto (tgt := 154) hx hb dX3_toNextToken_148 (by decide) ?_
            exact X3_toNextToken_J154p x0 (D.2.2.2.2 102) M34 ls (lv_sub hl [] rfl) h
          · rw [if_neg c39] at h
            refine w_gets hx hb (hSS.2.2.2.1 3 _ rfl) hown (hts _ kw868) (fun _ h9 => h9) dX3_toNextToken_151 ?_
            exact X3_toNextToken_J154p x0 (D.2.2.2.2 103) M34 ls (lv_sub hl [] rfl) h
        · rw [if_neg c32] at h
          refine w_aload_n hx hb dX3_toNextToken_110 rfl (lv_at hl 0 rfl) ?_
          obtain ⟨g8, h⟩ := v_ifs h
          obtain ⟨z41, ez41, h⟩ := v_bnd h
          refine v_call0 (M1 := z41.2) (mc := 0) (ms := 0) (fun H locs hR hS => va_runV (As := []) (rest := []) ⟨hx, hb, hml, hown, hts⟩ (mX3_passDigits l hfl D x0 Mj z41 ez41) (cwV 0 hts (gdV kw876 kw878 kw3 kw53 kw879) rfl rfl rfl (by decide +kernel) ⟨Nat.le_of_ble_eq_true rfl, Nat.le_of_ble_eq_true rfl⟩) (v_preV (ci := 5) hSS hR hS g8 (by decide) rfl []) rfl rfl hl.1 rfl (lv_room (Nat.le_of_ble_eq_true rfl)) dX3_toNextToken_111 ⟨Nat.zero_le _, Nat.zero_le _⟩) ?_
          refine w_goto (tgt := 157) hx hb dX3_toNextToken_114 (by decide) ?_
          obtain rfl := Option.some.inj h
          rw [hQ]
          exact v_vret hx hb hr hlk dX3_toNextToken_157
      · rw [if_neg c28] at h
        refine w_aload_n hx hb dX3_toNextToken_89 rfl (lv_at hl 0 rfl) ?_
        obtain ⟨g8, h⟩ := v_ifs h
        obtain ⟨z42, ez42, h⟩ := v_bnd h
        refine v_call0 (M1 := z42.2) (mc := 0) (ms := 0) (fun H locs hR hS => va_runV (As := []) (rest := []) ⟨hx, hb, hml, hown, hts⟩ (mX3_passLetters l hfl D x0 Mj z42 ez42) (cwV 0 hts (gdV kw864 kw866 kw2 kw53 kw867) rfl rfl rfl (by decide +kernel) ⟨Nat.le_of_ble_eq_true rfl, Nat.le_of_ble_eq_true rfl⟩) (v_preV (ci := 5) hSS hR hS g8 (by decide) rfl []) rfl rfl hl.1 rfl (lv_room (Nat.le_of_ble_eq_true rfl)) dX3_toNextToken_90 ⟨Nat.zero_le _, Nat.zero_le _⟩) ?_
        refine w_goto (tgt := 157) hx hb dX3_toNextToken_93 (by decide) ?_
        obtain rfl := Option.some.inj h
        rw [hQ]
        exact v_vret hx hb hr hlk dX3_toNextToken_157
    · rw [if_neg c24] at h
      refine w_aload_n hx hb dX3_toNextToken_57 rfl (lv_at hl 0 rfl) ?_
      refine w_aload_n hx hb dX3_toNextToken_58 rfl (lv_at hl 0 rfl) ?_
      obtain ⟨v43, ev43, h⟩ := v_bnd h
      refine v_gI (ci := 5) hx hb hts iwX3 hown hK 4 ev43 rfl (by decide) (Or.inl (hts _ kw822)) (fun _ h9 => h9) dX3_toNextToken_59 ?_
      obtain ⟨M44, eM44, h⟩ := v_bnd h
      refine v_putf (ci := 5) hx hb hts iwX3 hown hK tyX3_ok nmX3 5 eM44 rfl (by decide) (Or.inl (hts _ kw823)) (fun _ h9 => h9) (Or.inl rfl) rfl rfl dX3_toNextToken_62 ?_
      refine w_aload_n hx hb dX3_toNextToken_65 rfl (lv_at hl 0 rfl) ?_
      refine w_gets hx hb (hSS.2.2.2.1 4 _ rfl) hown (hts _ kw816) (fun _ h9 => h9) dX3_toNextToken_66 ?_
      obtain ⟨M45, eM45, h⟩ := v_bnd h
      refine v_putf (ci := 5) hx hb hts iwX3 hown hK tyX3_ok nmX3 3 eM45 rfl (by decide) (Or.inl (hts _ kw821)) (fun _ h9 => h9) (Or.inl rfl) rfl rfl dX3_toNextToken_69 ?_
      refine w_goto (tgt := 157) hx hb dX3_toNextToken_72 (by decide) ?_
      obtain rfl := Option.some.inj h
      rw [hQ]
      exact v_vret hx hb hr hlk dX3_toNextToken_157
  refine w_aload_n hx hb dX3_toNextToken_0 rfl (lv_at hl 0 rfl) ?_
  refine w_aload_n hx hb dX3_toNextToken_1 rfl (lv_at hl 0 rfl) ?_
  obtain ⟨v1, ev1, h⟩ := v_bnd h
  refine v_gI (ci := 5) hx hb hts iwX3 hown hK 5 ev1 rfl (by decide) (Or.inl (hts _ kw823)) (fun _ h9 => h9) dX3_toNextToken_2 ?_
  obtain ⟨M2, eM2, h⟩ := v_bnd h
  refine v_putf (ci := 5) hx hb hts iwX3 hown hK tyX3_ok nmX3 4 eM2 rfl (by decide) (Or.inl (hts _ kw822)) (fun _ h9 => h9) (Or.inl rfl) rfl rfl dX3_toNextToken_5 ?_
  obtain ⟨z21, ez21, h⟩ := v_bnd h
  refine X3_toNextToken_L8p x0 vF  M2 ls z21 (lv_sub hl [0] rfl) ez21 (fun ls hl => ?_)
  exact X3_toNextToken_J46p x0 z21.2 ls (lv_sub hl [0] rfl) h

def tX3_isWord (G : Nat → Nat) (x0 : Nat) (x1 : Nat) (M : vMe) : Option (Int32 × vMe) :=
  (gA M x0 6 3).bind fun a1 =>
  if a1 = (G 100) then
  ((gA M x0 6 0).bind fun a3 =>
  (gI M x0 6 4).bind fun v4 =>
  (gI M x0 6 5).bind fun v5 =>
  if (M.1 a3).1 = 4 then
  ((tX1_holds G a3 v4 v5 x1 M).bind fun z6 =>
  if z6.1 = 0 then
  (some (0, z6.2))
else
  (some (1, z6.2)))
else none)
else
  (some (0, M))
def rmX3_isWord : Room := { frames := 6, cells := 0, slots := 0, locals := 109 }
set_option maxHeartbeats 4000000 in
set_option maxRecDepth 100000 in
theorem mX3_isWord (l : Launch) (hfl : l.stackTraces = false) (D : vD) (x0 : Nat) (x1 : Nat) (M : vMe) (z : (Int32 × vMe)) (h : tX3_isWord D.2.2.2.2 x0 x1 M = some z) : Met l yX3_isWord (Cond.code yX3_isWord cX3_isWord 2 (some .boolean) :: TB) rmX3_isWord (va_Pc [.ref x0, .ref x1] (vPre D M)) (qW D (some (.int z.1)) z.2) 0 0 (vA D) := by
  refine v_ofW (cc := cX3_isWord) (maxL := 2) (ret := (some .boolean)) (by decide) (Nat.le_of_ble_eq_true rfl) ?_
  intro p e s m args below meth c Q hx hb hr hml hown hts hlk hnm hSS hR0 hQ ls hl
  have hK := hSS.1
  have hl : lv_has ls 2 [(0, .ref x0), (1, .ref x1)] := hl
  unfold tX3_isWord at h
  refine w_aload_n hx hb dX3_isWord_0 rfl (lv_at hl 0 rfl) ?_
  obtain ⟨a1, ea1, h⟩ := v_bnd h
  refine v_gA (ci := 5) hx hb hts iwX3 hown hK 3 ea1 rfl (by decide) (Or.inl (hts _ kw821)) (fun _ h9 => h9) dX3_isWord_1 ?_
  refine w_gets hx hb (hSS.2.2.2.1 0 _ rfl) hown (hts _ kw870) (fun _ h9 => h9) dX3_isWord_4 ?_
  refine w_acmp_ne (tgt := 33) hx hb dX3_isWord_7 (by decide) (fun c2 => ?_) (fun c2 => ?_)
  · rw [if_pos c2] at h
    refine w_aload_n hx hb dX3_isWord_10 rfl (lv_at hl 0 rfl) ?_
    obtain ⟨a3, ea3, h⟩ := v_bnd h
    refine v_gA (ci := 5) hx hb hts iwX3 hown hK 0 ea3 rfl (by decide) (Or.inl (hts _ kw818)) (fun _ h9 => h9) dX3_isWord_11 ?_
    refine w_aload_n hx hb dX3_isWord_14 rfl (lv_at hl 0 rfl) ?_
    obtain ⟨v4, ev4, h⟩ := v_bnd h
    refine v_gI (ci := 5) hx hb hts iwX3 hown hK 4 ev4 rfl (by decide) (Or.inl (hts _ kw822)) (fun _ h9 => h9) dX3_isWord_15 ?_
    refine w_aload_n hx hb dX3_isWord_18 rfl (lv_at hl 0 rfl) ?_
    obtain ⟨v5, ev5, h⟩ := v_bnd h
    refine v_gI (ci := 5) hx hb hts iwX3 hown hK 5 ev5 rfl (by decide) (Or.inl (hts _ kw823)) (fun _ h9 => h9) dX3_isWord_19 ?_
    refine w_aload_n hx hb dX3_isWord_22 rfl (lv_at hl 1 rfl) ?_
    obtain ⟨g8, h⟩ := v_ifs h
    obtain ⟨z6, ez6, h⟩ := v_bnd h
    refine v_call1 (v := .int z6.1) (M1 := z6.2) (mc := 0) (ms := 0) (fun H locs hR hS => va_runV (As := [.int v4, .int v5, .ref x1]) (rest := []) ⟨hx, hb, hml, hown, hts⟩ (mX1_holds l hfl D a3 v4 v5 x1 M z6 ez6) (cwV 3 hts (gdV kw893 kw894 kw895 kw28 kw896) rfl rfl rfl (by decide +kernel) ⟨Nat.le_of_ble_eq_true rfl, Nat.le_of_ble_eq_true rfl⟩) (v_preV (ci := 3) hSS hR hS g8 (by decide) rfl [.int v4, .int v5, .ref x1]) rfl rfl hl.1 rfl (lv_room (Nat.le_of_ble_eq_true rfl)) dX3_isWord_23 ⟨Nat.zero_le _, Nat.zero_le _⟩) ?_
    refine w_if_eq (tgt := 33) hx hb dX3_isWord_26 (by decide) (fun c7 => ?_) (fun c7 => ?_)
    · rw [if_pos c7] at h
      refine w_iconst (v := 0) hx hb dX3_isWord_33 (by decide) ?_
      obtain rfl := Option.some.inj h
      rw [hQ]
      exact v_zret (x := 0) hx hb hr hlk rfl dX3_isWord_34
    · rw [if_neg c7] at h
      refine w_iconst (v := 1) hx hb dX3_isWord_29 (by decide) ?_
      refine w_goto (tgt := 34) hx hb dX3_isWord_30 (by decide) ?_
      obtain rfl := Option.some.inj h
      rw [hQ]
      exact v_zret (x := 1) hx hb hr hlk rfl dX3_isWord_34
  · rw [if_neg c2] at h
    refine w_iconst (v := 0) hx hb dX3_isWord_33 (by decide) ?_
    obtain rfl := Option.some.inj h
    rw [hQ]
    exact v_zret (x := 0) hx hb hr hlk rfl dX3_isWord_34

def tX3_fail (x0 : Nat) (x1 : Int32) (M : vMe) : Option (Int32 × vMe) :=
  (sV M x0 6 7 (.int x1)).bind fun M1 =>
  (gI M1 x0 6 4).bind fun v2 =>
  (sV M1 x0 6 8 (.int v2)).bind fun M3 =>
  some (0, M3)
def rmX3_fail : Room := { frames := 1, cells := 0, slots := 0, locals := 0 }
set_option maxHeartbeats 4000000 in
set_option maxRecDepth 100000 in
theorem mX3_fail (l : Launch) (hfl : l.stackTraces = false) (D : vD) (x0 : Nat) (x1 : Int32) (M : vMe) (z : (Int32 × vMe)) (h : tX3_fail x0 x1 M = some z) : Met l yX3_fail (Cond.code yX3_fail cX3_fail 2 (some .boolean) :: TB) rmX3_fail (va_Pc [.ref x0, .int x1] (vPre D M)) (qW D (some (.int z.1)) z.2) 0 0 (vA D) := by
  refine v_ofW (cc := cX3_fail) (maxL := 2) (ret := (some .boolean)) (by decide) (Nat.le_of_ble_eq_true rfl) ?_
  intro p e s m args below meth c Q hx hb hr hml hown hts hlk hnm hSS hR0 hQ ls hl
  have hK := hSS.1
  have hl : lv_has ls 2 [(0, .ref x0), (1, .int x1)] := hl
  unfold tX3_fail at h
  refine w_aload_n hx hb dX3_fail_0 rfl (lv_at hl 0 rfl) ?_
  refine w_iload_n hx hb dX3_fail_1 rfl (lv_at hl 1 rfl) ?_
  obtain ⟨M1, eM1, h⟩ := v_bnd h
  refine v_putf (ci := 5) hx hb hts iwX3 hown hK tyX3_ok nmX3 7 eM1 rfl (by decide) (Or.inl (hts _ kw826)) (fun _ h9 => h9) (Or.inl rfl) rfl rfl dX3_fail_2 ?_
  refine w_aload_n hx hb dX3_fail_5 rfl (lv_at hl 0 rfl) ?_
  refine w_aload_n hx hb dX3_fail_6 rfl (lv_at hl 0 rfl) ?_
  obtain ⟨v2, ev2, h⟩ := v_bnd h
  refine v_gI (ci := 5) hx hb hts iwX3 hown hK 4 ev2 rfl (by decide) (Or.inl (hts _ kw822)) (fun _ h9 => h9) dX3_fail_7 ?_
  obtain ⟨M3, eM3, h⟩ := v_bnd h
  refine v_putf (ci := 5) hx hb hts iwX3 hown hK tyX3_ok nmX3 8 eM3 rfl (by decide) (Or.inl (hts _ kw827)) (fun _ h9 => h9) (Or.inl rfl) rfl rfl dX3_fail_10 ?_
  refine w_iconst (v := 0) hx hb dX3_fail_13 (by decide) ?_
  obtain rfl := Option.some.inj h
  rw [hQ]
  exact v_zret (x := 0) hx hb hr hlk rfl dX3_fail_14

def tX3_passWord (G : Nat → Nat) (x0 : Nat) (x1 : Nat) (M : vMe) : Option (Int32 × vMe) :=
  if (M.1 x0).1 = 6 then
  ((tX3_isWord G x0 x1 M).bind fun z1 =>
  if z1.1 = 0 then
  (if (z1.2.1 x0).1 = 6 then
  ((tX3_fail x0 1 z1.2).bind fun z3 =>
  if fits .boolean (.int z3.1) = true then some (z3.1, z3.2) else none)
else none)
else
  (if (z1.2.1 x0).1 = 6 then
  ((tX3_toNextToken G x0 z1.2).bind fun z4 =>
  some (1, z4.2))
else none))
else none
def rmX3_passWord : Room := { frames := 7, cells := 0, slots := 0, locals := 130 }
set_option maxHeartbeats 4000000 in
set_option maxRecDepth 100000 in
theorem mX3_passWord (l : Launch) (hfl : l.stackTraces = false) (D : vD) (x0 : Nat) (x1 : Nat) (M : vMe) (z : (Int32 × vMe)) (h : tX3_passWord D.2.2.2.2 x0 x1 M = some z) : Met l yX3_passWord (Cond.code yX3_passWord cX3_passWord 2 (some .boolean) :: TB) rmX3_passWord (va_Pc [.ref x0, .ref x1] (vPre D M)) (qW D (some (.int z.1)) z.2) 0 0 (vA D) := by
  refine v_ofW (cc := cX3_passWord) (maxL := 2) (ret := (some .boolean)) (by decide) (Nat.le_of_ble_eq_true rfl) ?_
  intro p e s m args below meth c Q hx hb hr hml hown hts hlk hnm hSS hR0 hQ ls hl
  have hK := hSS.1
  have hl : lv_has ls 2 [(0, .ref x0), (1, .ref x1)] := hl
  unfold tX3_passWord at h
  refine w_aload_n hx hb dX3_passWord_0 rfl (lv_at hl 0 rfl) ?_
  refine w_aload_n hx hb dX3_passWord_1 rfl (lv_at hl 1 rfl) ?_
  obtain ⟨g8, h⟩ := v_ifs h
  obtain ⟨z1, ez1, h⟩ := v_bnd h
  refine v_call1 (v := .int z1.1) (M1 := z1.2) (mc := 0) (ms := 0) (fun H locs hR hS => va_runV (As := [.ref x1]) (rest := []) ⟨hx, hb, hml, hown, hts⟩ (mX3_isWord l hfl D x0 x1 M z1 ez1) (cwV 1 hts (gdV kw889 kw891 kw5 kw53 kw892) rfl rfl rfl (by decide +kernel) ⟨Nat.le_of_ble_eq_true rfl, Nat.le_of_ble_eq_true rfl⟩) (v_preV (ci := 5) hSS hR hS g8 (by decide) rfl [.ref x1]) rfl rfl hl.1 rfl (lv_room (Nat.le_of_ble_eq_true rfl)) dX3_passWord_2 ⟨Nat.zero_le _, Nat.zero_le _⟩) ?_
  refine w_if_ne (tgt := 14) hx hb dX3_passWord_5 (by decide) (fun c2 => ?_) (fun c2 => ?_)
  · rw [if_pos c2] at h
    refine w_aload_n hx hb dX3_passWord_8 rfl (lv_at hl 0 rfl) ?_
    refine w_iconst (v := 1) hx hb dX3_passWord_9 (by decide) ?_
    obtain ⟨g8, h⟩ := v_ifs h
    obtain ⟨z3, ez3, h⟩ := v_bnd h
    refine v_call1 (v := .int z3.1) (M1 := z3.2) (mc := 0) (ms := 0) (fun H locs hR hS => va_runV (As := [.int 1]) (rest := []) ⟨hx, hb, hml, hown, hts⟩ (mX3_fail l hfl D x0 1 z1.2 z3 ez3) (cwV 1 hts (gdV kw899 kw901 kw6 kw53 kw902) rfl rfl rfl (by decide +kernel) ⟨Nat.le_of_ble_eq_true rfl, Nat.le_of_ble_eq_true rfl⟩) (v_preV (ci := 5) hSS hR hS g8 (by decide) rfl [.int 1]) rfl rfl hl.1 rfl (lv_room (Nat.le_of_ble_eq_true rfl)) dX3_passWord_10 ⟨Nat.zero_le _, Nat.zero_le _⟩) ?_
    obtain ⟨g6, h⟩ := v_ifs h
    obtain rfl := Option.some.inj h
    rw [hQ]
    exact v_zret hx hb hr hlk (v_narZ g6) dX3_passWord_13
  · rw [if_neg c2] at h
    refine w_aload_n hx hb dX3_passWord_14 rfl (lv_at hl 0 rfl) ?_
    obtain ⟨g8, h⟩ := v_ifs h
    obtain ⟨z4, ez4, h⟩ := v_bnd h
    refine v_call0 (M1 := z4.2) (mc := 0) (ms := 0) (fun H locs hR hS => va_runV (As := []) (rest := []) ⟨hx, hb, hml, hown, hts⟩ (mX3_toNextToken l hfl D x0 z1.2 z4 ez4) (cwV 0 hts (gdV kw852 kw854 kw1 kw53 kw855) rfl rfl rfl (by decide +kernel) ⟨Nat.le_of_ble_eq_true rfl, Nat.le_of_ble_eq_true rfl⟩) (v_preV (ci := 5) hSS hR hS g8 (by decide) rfl []) rfl rfl hl.1 rfl (lv_room (Nat.le_of_ble_eq_true rfl)) dX3_passWord_15 ⟨Nat.zero_le _, Nat.zero_le _⟩) ?_
    refine w_iconst (v := 1) hx hb dX3_passWord_18 (by decide) ?_
    obtain rfl := Option.some.inj h
    rw [hQ]
    exact v_zret (x := 1) hx hb hr hlk rfl dX3_passWord_19

def tX3_isNumber_J32 (x0 : Nat) (Mj : vMe) : Option (Int32 × vMe) :=
  if (Mj.1 x0).1 = 6 then
  ((tX3_fail x0 3 Mj).bind fun z5 =>
  if z5.1 = 0 then
  (some (0, z5.2))
else
  (some (1, z5.2)))
else none
def tX3_isNumber (G : Nat → Nat) (x0 : Nat) (x1 : Int32) (x2 : Int32) (M : vMe) : Option (Int32 × vMe) :=
  (gA M x0 6 3).bind fun a1 =>
  if a1 = (G 101) then
  ((gI M x0 6 6).bind fun v3 =>
  if v3 < x1 then
  (tX3_isNumber_J32 x0 M)
else
  ((gI M x0 6 6).bind fun v7 =>
  if v7 ≤ x2 then
  (some (1, M))
else
  (tX3_isNumber_J32 x0 M)))
else
  (if (M.1 x0).1 = 6 then
  ((tX3_fail x0 1 M).bind fun z9 =>
  if fits .boolean (.int z9.1) = true then some (z9.1, z9.2) else none)
else none)
def rmX3_isNumber : Room := { frames := 2, cells := 0, slots := 0, locals := 21 }
set_option maxHeartbeats 4000000 in
set_option maxRecDepth 100000 in
theorem mX3_isNumber (l : Launch) (hfl : l.stackTraces = false) (D : vD) (x0 : Nat) (x1 : Int32) (x2 : Int32) (M : vMe) (z : (Int32 × vMe)) (h : tX3_isNumber D.2.2.2.2 x0 x1 x2 M = some z) : Met l yX3_isNumber (Cond.code yX3_isNumber cX3_isNumber 3 (some .boolean) :: TB) rmX3_isNumber (va_Pc [.ref x0, .int x1, .int x2] (vPre D M)) (qW D (some (.int z.1)) z.2) 0 0 (vA D) := by
  refine v_ofW (cc := cX3_isNumber) (maxL := 3) (ret := (some .boolean)) (by decide) (Nat.le_of_ble_eq_true rfl) ?_
  intro p e s m args below meth c Q hx hb hr hml hown hts hlk hnm hSS hR0 hQ ls hl
  have hK := hSS.1
  have hl : lv_has ls 3 [(0, .ref x0), (1, .int x1), (2, .int x2)] := hl
  unfold tX3_isNumber at h
  have X3_isNumber_J32p : ∀ (x0 : Nat) (Mj : vMe) (ls : Array Slot), lv_has ls 3 [(0, .ref x0)] → tX3_isNumber_J32 x0 Mj = some z → vV D p l e rmX3_isNumber s m args below meth c 0 0 Q Mj (F0 m 32 ls []) := by
    intro x0 Mj ls hl h
    unfold tX3_isNumber_J32 at h
    refine w_aload_n hx hb dX3_isNumber_32 rfl (lv_at hl 0 rfl) ?_
    refine w_iconst (v := 3) hx hb dX3_isNumber_33 (by decide) ?_
    obtain ⟨g8, h⟩ := v_ifs h
    obtain ⟨z5, ez5, h⟩ := v_bnd h
    refine v_call1 (v := .int z5.1) (M1 := z5.2) (mc := 0) (ms := 0) (fun H locs hR hS => va_runV (As := [.int 3]) (rest := []) ⟨hx, hb, hml, hown, hts⟩ (mX3_fail l hfl D x0 3 Mj z5 ez5) (cwV 1 hts (gdV kw899 kw901 kw6 kw53 kw902) rfl rfl rfl (by decide +kernel) ⟨Nat.le_of_ble_eq_true rfl, Nat.le_of_ble_eq_true rfl⟩) (v_preV (ci := 5) hSS hR hS g8 (by decide) rfl [.int 3]) rfl rfl hl.1 rfl (lv_room (Nat.le_of_ble_eq_true rfl)) dX3_isNumber_34 ⟨Nat.zero_le _, Nat.zero_le _⟩) ?_
    refine w_if_eq (tgt := 44) hx hb dX3_isNumber_37 (by decide) (fun c6 => ?_) (fun c6 => ?_)
    · rw [if_pos c6] at h
      refine w_iconst (v := 0) hx hb dX3_isNumber_44 (by decide) ?_
      obtain rfl := Option.some.inj h
      rw [hQ]
      exact v_zret (x := 0) hx hb hr hlk rfl dX3_isNumber_45
    · rw [if_neg c6] at h
      refine w_iconst (v := 1) hx hb dX3_isNumber_40 (by decide) ?_
      refine w_goto (tgt := 45) hx hb dX3_isNumber_41 (by decide) ?_
      obtain rfl := Option.some.inj h
      rw [hQ]
      exact v_zret (x := 1) hx hb hr hlk rfl dX3_isNumber_45
  refine w_aload_n hx hb dX3_isNumber_0 rfl (lv_at hl 0 rfl) ?_
  obtain ⟨a1, ea1, h⟩ := v_bnd h
  refine v_gA (ci := 5) hx hb hts iwX3 hown hK 3 ea1 rfl (by decide) (Or.inl (hts _ kw821)) (fun _ h9 => h9) dX3_isNumber_1 ?_
  refine w_gets hx hb (hSS.2.2.2.1 1 _ rfl) hown (hts _ kw880) (fun _ h9 => h9) dX3_isNumber_4 ?_
  refine w_acmp_eq (tgt := 16) hx hb dX3_isNumber_7 (by decide) (fun c2 => ?_) (fun c2 => ?_)
  · rw [if_pos c2] at h
    refine w_aload_n hx hb dX3_isNumber_16 rfl (lv_at hl 0 rfl) ?_
    obtain ⟨v3, ev3, h⟩ := v_bnd h
    refine v_gI (ci := 5) hx hb hts iwX3 hown hK 6 ev3 rfl (by decide) (Or.inl (hts _ kw824)) (fun _ h9 => h9) dX3_isNumber_17 ?_
    refine w_iload_n hx hb dX3_isNumber_20 rfl (lv_at hl 1 rfl) ?_
    refine w_icmp_lt (tgt := 32) hx hb dX3_isNumber_21 (by decide) (fun c4 => ?_) (fun c4 => ?_)
    · rw [if_pos c4] at h
      exact X3_isNumber_J32p x0 M ls (lv_sub hl [0] rfl) h
    · rw [if_neg c4] at h
      refine w_aload_n hx hb dX3_isNumber_24 rfl (lv_at hl 0 rfl) ?_
      obtain ⟨v7, ev7, h⟩ := v_bnd h
      refine v_gI (ci := 5) hx hb hts iwX3 hown hK 6 ev7 rfl (by decide) (Or.inl (hts _ kw824)) (fun _ h9 => h9) dX3_isNumber_25 ?_
      refine w_iload_n hx hb dX3_isNumber_28 rfl (lv_at hl 2 rfl) ?_
      refine w_icmp_le (tgt := 40) hx hb dX3_isNumber_29 (by decide) (fun c8 => ?_) (fun c8 => ?_)
      · rw [if_pos c8] at h
        refine w_iconst (v := 1) hx hb dX3_isNumber_40 (by decide) ?_
        refine w_goto (tgt := 45) hx hb dX3_isNumber_41 (by decide) ?_
        obtain rfl := Option.some.inj h
        rw [hQ]
        exact v_zret (x := 1) hx hb hr hlk rfl dX3_isNumber_45
      · rw [if_neg c8] at h
        exact X3_isNumber_J32p x0 M ls (lv_sub hl [0] rfl) h
  · rw [if_neg c2] at h
    refine w_aload_n hx hb dX3_isNumber_10 rfl (lv_at hl 0 rfl) ?_
    refine w_iconst (v := 1) hx hb dX3_isNumber_11 (by decide) ?_
    obtain ⟨g8, h⟩ := v_ifs h
    obtain ⟨z9, ez9, h⟩ := v_bnd h
    refine v_call1 (v := .int z9.1) (M1 := z9.2) (mc := 0) (ms := 0) (fun H locs hR hS => va_runV (As := [.int 1]) (rest := []) ⟨hx, hb, hml, hown, hts⟩ (mX3_fail l hfl D x0 1 M z9 ez9) (cwV 1 hts (gdV kw899 kw901 kw6 kw53 kw902) rfl rfl rfl (by decide +kernel) ⟨Nat.le_of_ble_eq_true rfl, Nat.le_of_ble_eq_true rfl⟩) (v_preV (ci := 5) hSS hR hS g8 (by decide) rfl [.int 1]) rfl rfl hl.1 rfl (lv_room (Nat.le_of_ble_eq_true rfl)) dX3_isNumber_12 ⟨Nat.zero_le _, Nat.zero_le _⟩) ?_
    obtain ⟨g6, h⟩ := v_ifs h
    obtain rfl := Option.some.inj h
    rw [hQ]
    exact v_zret hx hb hr hlk (v_narZ g6) dX3_isNumber_15

def tX5_begin_L32 (x0 : Nat) : Nat → Int32 → vMe → Option (Unit × vMe)
  | 0, _, _ => none
  | f + 1, x3, Mi =>
  if (6 : Int32) ≤ x3 then
  (some ((), Mi))
else
  ((gA Mi x0 8 1).bind fun a15 =>
  (aA Mi a15 108 x3).bind fun a16 =>
  (sV Mi a16 3 0 (.int 0)).bind fun M17 =>
  (gA M17 x0 8 1).bind fun a18 =>
  (aA M17 a18 108 x3).bind fun a19 =>
  (sV M17 a19 3 1 (.int 0)).bind fun M20 =>
  tX5_begin_L32 x0 f (x3 + 1) M20)
def tX5_begin (x0 : Nat) (x1 : Int32) (x2 : Int32) (M : vMe) : Option (Unit × vMe) :=
  (sV M x0 8 3 (.int x1)).bind fun M1 =>
  (sV M1 x0 8 4 (.int x2)).bind fun M2 =>
  (sV M2 x0 8 5 (.int 0)).bind fun M3 =>
  (sV M3 x0 8 6 (.int 0)).bind fun M4 =>
  (sV M4 x0 8 7 (.int 0)).bind fun M5 =>
  (sV M5 x0 8 8 (.int 0)).bind fun M6 =>
  (tX5_begin_L32 x0 vF 0 M6).bind fun z21 =>
  some ((), z21.2)
def rmX5_begin : Room := { frames := 1, cells := 0, slots := 0, locals := 0 }
set_option maxHeartbeats 4000000 in
set_option maxRecDepth 100000 in
theorem mX5_begin (l : Launch) (hfl : l.stackTraces = false) (D : vD) (x0 : Nat) (x1 : Int32) (x2 : Int32) (M : vMe) (z : (Unit × vMe)) (h : tX5_begin x0 x1 x2 M = some z) : Met l yX5_begin (Cond.code yX5_begin cX5_begin 4 none :: TB) rmX5_begin (va_Pc [.ref x0, .int x1, .int x2] (vPre D M)) (qW D none z.2) 0 0 (vA D) := by
  refine v_ofW (cc := cX5_begin) (maxL := 4) (ret := none) (by decide) (Nat.le_of_ble_eq_true rfl) ?_
  intro p e s m args below meth c Q hx hb hr hml hown hts hlk hnm hSS hR0 hQ ls hl
  have hK := hSS.1
  have hl : lv_has ls 4 [(0, .ref x0), (1, .int x1), (2, .int x2)] := hl
  unfold tX5_begin at h
  have X5_begin_L32p : ∀ (x0 : Nat), ∀ (f : Nat) (x3 : Int32) (Mi : vMe) (ls : Array Slot) (z : (Unit × vMe)), lv_has ls 4 [(0, .ref x0), (3, .int x3)] → tX5_begin_L32 x0 f x3 Mi = some z → (∀ ls : Array Slot, lv_has ls 4 [] → vV D p l e rmX5_begin s m args below meth c 0 0 Q z.2 (F0 m 64 ls [])) → vV D p l e rmX5_begin s m args below meth c 0 0 Q Mi (F0 m 32 ls []) := by
    intro x0 f
    induction f with
    | zero =>
      intro x3 Mi ls z hl h
      exact absurd h (by simp [tX5_begin_L32])
    | succ f ih =>
      intro x3 Mi ls z hl h KX
      rw [tX5_begin_L32] at h
      refine w_iload_n hx hb dX5_begin_32 rfl (lv_at hl 1 rfl) ?_
      refine w_bipush (v := 6) hx hb dX5_begin_33 (by decide) ?_
      refine w_icmp_ge (tgt := 64) hx hb dX5_begin_35 (by decide) (fun c14 => ?_) (fun c14 => ?_)
      · rw [if_pos c14] at h
        obtain rfl := Option.some.inj h
        exact KX ls (lv_sub hl [] rfl)
      · rw [if_neg c14] at h
        refine w_aload_n hx hb dX5_begin_38 rfl (lv_at hl 0 rfl) ?_
        obtain ⟨a15, ea15, h⟩ := v_bnd h
        refine v_gA (ci := 7) hx hb hts iwX5 hown hK 1 ea15 rfl (by decide) (Or.inl (hts _ kw247)) (fun _ h9 => h9) dX5_begin_39 ?_
        refine w_iload_n hx hb dX5_begin_42 rfl (lv_at hl 1 rfl) ?_
        obtain ⟨a16, ea16, h⟩ := v_bnd h
        refine v_aaldA hx hb hK ea16 (by decide) dX5_begin_43 ?_
        refine w_iconst (v := 0) hx hb dX5_begin_44 (by decide) ?_
        obtain ⟨M17, eM17, h⟩ := v_bnd h
        refine v_putf (ci := 2) hx hb hts iwX0 hown hK tyX0_ok nmX0 0 eM17 rfl (by decide) (Or.inr ⟨_, kn21 hSS _⟩) (fun _ h9 => h9) (Or.inl rfl) (by decide) (by decide) dX5_begin_45 ?_
        refine w_aload_n hx hb dX5_begin_48 rfl (lv_at hl 0 rfl) ?_
        obtain ⟨a18, ea18, h⟩ := v_bnd h
        refine v_gA (ci := 7) hx hb hts iwX5 hown hK 1 ea18 rfl (by decide) (Or.inl (hts _ kw247)) (fun _ h9 => h9) dX5_begin_49 ?_
        refine w_iload_n hx hb dX5_begin_52 rfl (lv_at hl 1 rfl) ?_
        obtain ⟨a19, ea19, h⟩ := v_bnd h
        refine v_aaldA hx hb hK ea19 (by decide) dX5_begin_53 ?_
        refine w_iconst (v := 0) hx hb dX5_begin_54 (by decide) ?_
        obtain ⟨M20, eM20, h⟩ := v_bnd h
        refine v_putf (ci := 2) hx hb hts iwX0 hown hK tyX0_ok nmX0 1 eM20 rfl (by decide) (Or.inr ⟨_, kn23 hSS _⟩) (fun _ h9 => h9) (Or.inl rfl) (by decide) (by decide) dX5_begin_55 ?_
        refine w_iinc (v := x3 + 1) (lv' := [(3, .int (x3 + 1)), (0, .ref x0)]) hx hb dX5_begin_58 hl (j := 1) rfl rfl (by decide) rfl (fun ls hl => ?_)
        have hl : lv_has ls 4 [(0, .ref x0), (3, .int (x3 + 1))] := lv_sub hl [1, 0] rfl
        refine w_goto (tgt := 32) hx hb dX5_begin_61 (by decide) ?_
        exact ih (x3 + 1) M20 ls z (lv_sub hl [0, 1] rfl) h KX
  refine w_aload_n hx hb dX5_begin_0 rfl (lv_at hl 0 rfl) ?_
  refine w_iload_n hx hb dX5_begin_1 rfl (lv_at hl 1 rfl) ?_
  obtain ⟨M1, eM1, h⟩ := v_bnd h
  refine v_putf (ci := 7) hx hb hts iwX5 hown hK tyX5_ok nmX5 3 eM1 rfl (by decide) (Or.inl (hts _ kw251)) (fun _ h9 => h9) (Or.inl rfl) rfl rfl dX5_begin_2 ?_
  refine w_aload_n hx hb dX5_begin_5 rfl (lv_at hl 0 rfl) ?_
  refine w_iload_n hx hb dX5_begin_6 rfl (lv_at hl 2 rfl) ?_
  obtain ⟨M2, eM2, h⟩ := v_bnd h
  refine v_putf (ci := 7) hx hb hts iwX5 hown hK tyX5_ok nmX5 4 eM2 rfl (by decide) (Or.inl (hts _ kw254)) (fun _ h9 => h9) (Or.inl rfl) rfl rfl dX5_begin_7 ?_
  refine w_aload_n hx hb dX5_begin_10 rfl (lv_at hl 0 rfl) ?_
  refine w_iconst (v := 0) hx hb dX5_begin_11 (by decide) ?_
  obtain ⟨M3, eM3, h⟩ := v_bnd h
  refine v_putf (ci := 7) hx hb hts iwX5 hown hK tyX5_ok nmX5 5 eM3 rfl (by decide) (Or.inl (hts _ kw256)) (fun _ h9 => h9) (Or.inl rfl) rfl rfl dX5_begin_12 ?_
  refine w_aload_n hx hb dX5_begin_15 rfl (lv_at hl 0 rfl) ?_
  refine w_iconst (v := 0) hx hb dX5_begin_16 (by decide) ?_
  obtain ⟨M4, eM4, h⟩ := v_bnd h
  refine v_putf (ci := 7) hx hb hts iwX5 hown hK tyX5_ok nmX5 6 eM4 rfl (by decide) (Or.inl (hts _ kw259)) (fun _ h9 => h9) (Or.inl rfl) rfl rfl dX5_begin_17 ?_
  refine w_aload_n hx hb dX5_begin_20 rfl (lv_at hl 0 rfl) ?_
  refine w_iconst (v := 0) hx hb dX5_begin_21 (by decide) ?_
  obtain ⟨M5, eM5, h⟩ := v_bnd h
  refine v_putf (ci := 7) hx hb hts iwX5 hown hK tyX5_ok nmX5 7 eM5 rfl (by decide) (Or.inl (hts _ kw262)) (fun _ h9 => h9) (Or.inl rfl) rfl rfl dX5_begin_22 ?_
  refine w_aload_n hx hb dX5_begin_25 rfl (lv_at hl 0 rfl) ?_
  refine w_iconst (v := 0) hx hb dX5_begin_26 (by decide) ?_
  obtain ⟨M6, eM6, h⟩ := v_bnd h
  refine v_putf (ci := 7) hx hb hts iwX5 hown hK tyX5_ok nmX5 8 eM6 rfl (by decide) (Or.inl (hts _ kw264)) (fun _ h9 => h9) (Or.inl rfl) rfl rfl dX5_begin_27 ?_
  refine w_iconst (v := 0) hx hb dX5_begin_30 (by decide) ?_
  refine w_istore_n (lv' := [(3, .int 0), (0, .ref x0), (1, .int x1), (2, .int x2)]) hx hb dX5_begin_31 rfl hl (by decide) rfl (fun ls hl => ?_)
  have hl : lv_has ls 4 [(0, .ref x0), (1, .int x1), (2, .int x2), (3, .int 0)] := lv_sub hl [1, 2, 3, 0] rfl
  obtain ⟨z21, ez21, h⟩ := v_bnd h
  refine X5_begin_L32p x0 vF 0 M6 ls z21 (lv_sub hl [0, 3] rfl) ez21 (fun ls hl => ?_)
  obtain rfl := Option.some.inj h
  rw [hQ]
  exact v_vret hx hb hr hlk dX5_begin_64

def tX3_passSemicolon (G : Nat → Nat) (x0 : Nat) (M : vMe) : Option (Int32 × vMe) :=
  (gA M x0 6 3).bind fun a1 =>
  if a1 = (G 102) then
  (if (M.1 x0).1 = 6 then
  ((tX3_toNextToken G x0 M).bind fun z3 =>
  some (1, z3.2))
else none)
else
  (if (M.1 x0).1 = 6 then
  ((tX3_fail x0 1 M).bind fun z4 =>
  if fits .boolean (.int z4.1) = true then some (z4.1, z4.2) else none)
else none)
def rmX3_passSemicolon : Room := { frames := 4, cells := 0, slots := 0, locals := 61 }
set_option maxHeartbeats 4000000 in
set_option maxRecDepth 100000 in
theorem mX3_passSemicolon (l : Launch) (hfl : l.stackTraces = false) (D : vD) (x0 : Nat) (M : vMe) (z : (Int32 × vMe)) (h : tX3_passSemicolon D.2.2.2.2 x0 M = some z) : Met l yX3_passSemicolon (Cond.code yX3_passSemicolon cX3_passSemicolon 1 (some .boolean) :: TB) rmX3_passSemicolon (va_Pc [.ref x0] (vPre D M)) (qW D (some (.int z.1)) z.2) 0 0 (vA D) := by
  refine v_ofW (cc := cX3_passSemicolon) (maxL := 1) (ret := (some .boolean)) (by decide) (Nat.le_of_ble_eq_true rfl) ?_
  intro p e s m args below meth c Q hx hb hr hml hown hts hlk hnm hSS hR0 hQ ls hl
  have hK := hSS.1
  have hl : lv_has ls 1 [(0, .ref x0)] := hl
  unfold tX3_passSemicolon at h
  refine w_aload_n hx hb dX3_passSemicolon_0 rfl (lv_at hl 0 rfl) ?_
  obtain ⟨a1, ea1, h⟩ := v_bnd h
  refine v_gA (ci := 5) hx hb hts iwX3 hown hK 3 ea1 rfl (by decide) (Or.inl (hts _ kw821)) (fun _ h9 => h9) dX3_passSemicolon_1 ?_
  refine w_gets hx hb (hSS.2.2.2.1 2 _ rfl) hown (hts _ kw882) (fun _ h9 => h9) dX3_passSemicolon_4 ?_
  refine w_acmp_eq (tgt := 16) hx hb dX3_passSemicolon_7 (by decide) (fun c2 => ?_) (fun c2 => ?_)
  · rw [if_pos c2] at h
    refine w_aload_n hx hb dX3_passSemicolon_16 rfl (lv_at hl 0 rfl) ?_
    obtain ⟨g8, h⟩ := v_ifs h
    obtain ⟨z3, ez3, h⟩ := v_bnd h
    refine v_call0 (M1 := z3.2) (mc := 0) (ms := 0) (fun H locs hR hS => va_runV (As := []) (rest := []) ⟨hx, hb, hml, hown, hts⟩ (mX3_toNextToken l hfl D x0 M z3 ez3) (cwV 0 hts (gdV kw852 kw854 kw1 kw53 kw855) rfl rfl rfl (by decide +kernel) ⟨Nat.le_of_ble_eq_true rfl, Nat.le_of_ble_eq_true rfl⟩) (v_preV (ci := 5) hSS hR hS g8 (by decide) rfl []) rfl rfl hl.1 rfl (lv_room (Nat.le_of_ble_eq_true rfl)) dX3_passSemicolon_17 ⟨Nat.zero_le _, Nat.zero_le _⟩) ?_
    refine w_iconst (v := 1) hx hb dX3_passSemicolon_20 (by decide) ?_
    obtain rfl := Option.some.inj h
    rw [hQ]
    exact v_zret (x := 1) hx hb hr hlk rfl dX3_passSemicolon_21
  · rw [if_neg c2] at h
    refine w_aload_n hx hb dX3_passSemicolon_10 rfl (lv_at hl 0 rfl) ?_
    refine w_iconst (v := 1) hx hb dX3_passSemicolon_11 (by decide) ?_
    obtain ⟨g8, h⟩ := v_ifs h
    obtain ⟨z4, ez4, h⟩ := v_bnd h
    refine v_call1 (v := .int z4.1) (M1 := z4.2) (mc := 0) (ms := 0) (fun H locs hR hS => va_runV (As := [.int 1]) (rest := []) ⟨hx, hb, hml, hown, hts⟩ (mX3_fail l hfl D x0 1 M z4 ez4) (cwV 1 hts (gdV kw899 kw901 kw6 kw53 kw902) rfl rfl rfl (by decide +kernel) ⟨Nat.le_of_ble_eq_true rfl, Nat.le_of_ble_eq_true rfl⟩) (v_preV (ci := 5) hSS hR hS g8 (by decide) rfl [.int 1]) rfl rfl hl.1 rfl (lv_room (Nat.le_of_ble_eq_true rfl)) dX3_passSemicolon_12 ⟨Nat.zero_le _, Nat.zero_le _⟩) ?_
    obtain ⟨g6, h⟩ := v_ifs h
    obtain rfl := Option.some.inj h
    rw [hQ]
    exact v_zret hx hb hr hlk (v_narZ g6) dX3_passSemicolon_15

def tX5_setNamed_L3 (G : Nat → Nat) (x0 : Nat) (x1 : Nat) (x2 : Int32) (x3 : Int32) : Nat → Int32 → vMe → Option ((Int32 ⊕ Unit) × vMe)
  | 0, _, _ => none
  | f + 1, x4, Mi =>
  (gI Mi x0 8 5).bind fun v1 =>
  if v1 ≤ x4 then
  (some (Sum.inr (()), Mi))
else
  ((gA Mi x0 8 0).bind fun a3 =>
  (aA Mi a3 107 x4).bind fun a4 =>
  (gA Mi a4 9 4).bind fun a5 =>
  if (Mi.1 x1).1 = 4 then
  ((tX1_holds G x1 x2 x3 a5 Mi).bind fun z6 =>
  if z6.1 = 0 then
  (tX5_setNamed_L3 G x0 x1 x2 x3 f (x4 + 1) z6.2)
else
  (some (Sum.inl x4, z6.2)))
else none)
def tX5_setNamed (G : Nat → Nat) (x0 : Nat) (x1 : Nat) (x2 : Int32) (x3 : Int32) (M : vMe) : Option (Int32 × vMe) :=
  (tX5_setNamed_L3 G x0 x1 x2 x3 vF 0 M).bind fun z8 =>
  Sum.elim (fun r10 => some (r10, z8.2)) (fun w9 =>
  some ((-1), z8.2)) z8.1
def rmX5_setNamed : Room := { frames := 6, cells := 0, slots := 0, locals := 109 }
set_option maxHeartbeats 4000000 in
set_option maxRecDepth 100000 in
theorem mX5_setNamed (l : Launch) (hfl : l.stackTraces = false) (D : vD) (x0 : Nat) (x1 : Nat) (x2 : Int32) (x3 : Int32) (M : vMe) (z : (Int32 × vMe)) (h : tX5_setNamed D.2.2.2.2 x0 x1 x2 x3 M = some z) : Met l yX5_setNamed (Cond.code yX5_setNamed cX5_setNamed 5 (some .int) :: TB) rmX5_setNamed (va_Pc [.ref x0, .ref x1, .int x2, .int x3] (vPre D M)) (qW D (some (.int z.1)) z.2) 0 0 (vA D) := by
  refine v_ofW (cc := cX5_setNamed) (maxL := 5) (ret := (some .int)) (by decide) (Nat.le_of_ble_eq_true rfl) ?_
  intro p e s m args below meth c Q hx hb hr hml hown hts hlk hnm hSS hR0 hQ ls hl
  have hK := hSS.1
  have hl : lv_has ls 5 [(0, .ref x0), (1, .ref x1), (2, .int x2), (3, .int x3)] := hl
  unfold tX5_setNamed at h
  have X5_setNamed_L3p : ∀ (x0 : Nat) (x1 : Nat) (x2 : Int32) (x3 : Int32), ∀ (f : Nat) (x4 : Int32) (Mi : vMe) (ls : Array Slot) (z : ((Int32 ⊕ Unit) × vMe)), lv_has ls 5 [(0, .ref x0), (1, .ref x1), (2, .int x2), (3, .int x3), (4, .int x4)] → tX5_setNamed_L3 D.2.2.2.2 x0 x1 x2 x3 f x4 Mi = some z → (∀ w, z.1 = Sum.inr w → ∀ ls : Array Slot, lv_has ls 5 [] → vV D p l e rmX5_setNamed s m args below meth c 0 0 Q z.2 (F0 m 40 ls [])) → (∀ r9, z.1 = Sum.inl r9 → Q = MQ below (qW D (some (.int r9)) z.2) args s 0 0 (vA D)) → vV D p l e rmX5_setNamed s m args below meth c 0 0 Q Mi (F0 m 3 ls []) := by
    intro x0 x1 x2 x3 f
    induction f with
    | zero =>
      intro x4 Mi ls z hl h
      exact absurd h (by simp [tX5_setNamed_L3])
    | succ f ih =>
      intro x4 Mi ls z hl h KX KR
      rw [tX5_setNamed_L3] at h
      refine w_iload hx hb dX5_setNamed_3 (lv_at hl 4 rfl) ?_
      refine w_aload_n hx hb dX5_setNamed_5 rfl (lv_at hl 0 rfl) ?_
      obtain ⟨v1, ev1, h⟩ := v_bnd h
      refine v_gI (ci := 7) hx hb hts iwX5 hown hK 5 ev1 rfl (by decide) (Or.inl (hts _ kw256)) (fun _ h9 => h9) dX5_setNamed_6 ?_
      refine w_icmp_ge (tgt := 40) hx hb dX5_setNamed_9 (by decide) (fun c2 => ?_) (fun c2 => ?_)
      · rw [if_pos c2] at h
        obtain rfl := Option.some.inj h
        exact KX _ rfl ls (lv_sub hl [] rfl)
      · rw [if_neg c2] at h
        refine w_aload_n hx hb dX5_setNamed_12 rfl (lv_at hl 1 rfl) ?_
        refine w_iload_n hx hb dX5_setNamed_13 rfl (lv_at hl 2 rfl) ?_
        refine w_iload_n hx hb dX5_setNamed_14 rfl (lv_at hl 3 rfl) ?_
        refine w_aload_n hx hb dX5_setNamed_15 rfl (lv_at hl 0 rfl) ?_
        obtain ⟨a3, ea3, h⟩ := v_bnd h
        refine v_gA (ci := 7) hx hb hts iwX5 hown hK 0 ea3 rfl (by decide) (Or.inl (hts _ kw244)) (fun _ h9 => h9) dX5_setNamed_16 ?_
        refine w_iload hx hb dX5_setNamed_19 (lv_at hl 4 rfl) ?_
        obtain ⟨a4, ea4, h⟩ := v_bnd h
        refine v_aaldA hx hb hK ea4 (by decide) dX5_setNamed_21 ?_
        obtain ⟨a5, ea5, h⟩ := v_bnd h
        refine v_gA (ci := 8) hx hb hts iwX7 hown hK 4 ea5 rfl (by decide) (Or.inr ⟨_, kn16 hSS _⟩) (fun _ h9 => h9) dX5_setNamed_22 ?_
        obtain ⟨g8, h⟩ := v_ifs h
        obtain ⟨z6, ez6, h⟩ := v_bnd h
        refine v_call1 (v := .int z6.1) (M1 := z6.2) (mc := 0) (ms := 0) (fun H locs hR hS => va_runV (As := [.int x2, .int x3, .ref a5]) (rest := []) ⟨hx, hb, hml, hown, hts⟩ (mX1_holds l hfl D x1 x2 x3 a5 Mi z6 ez6) (cwV 3 hts (gdV kw925 kw894 kw895 kw28 kw896) rfl rfl rfl (by decide +kernel) ⟨Nat.le_of_ble_eq_true rfl, Nat.le_of_ble_eq_true rfl⟩) (v_preV (ci := 3) hSS hR hS g8 (by decide) rfl [.int x2, .int x3, .ref a5]) rfl rfl hl.1 rfl (lv_room (Nat.le_of_ble_eq_true rfl)) dX5_setNamed_25 ⟨Nat.zero_le _, Nat.zero_le _⟩) ?_
        refine w_if_eq (tgt := 34) hx hb dX5_setNamed_28 (by decide) (fun c7 => ?_) (fun c7 => ?_)
        · rw [if_pos c7] at h
          refine w_iinc (v := x4 + 1) (lv' := [(4, .int (x4 + 1)), (0, .ref x0), (1, .ref x1), (2, .int x2), (3, .int x3)]) hx hb dX5_setNamed_34 hl (j := 4) rfl rfl (by decide) rfl (fun ls hl => ?_)
          have hl : lv_has ls 5 [(0, .ref x0), (1, .ref x1), (2, .int x2), (3, .int x3), (4, .int (x4 + 1))] := lv_sub hl [1, 2, 3, 4, 0] rfl
          refine w_goto (tgt := 3) hx hb dX5_setNamed_37 (by decide) ?_
          exact ih (x4 + 1) z6.2 ls z (lv_sub hl [0, 1, 2, 3, 4] rfl) h KX KR
        · rw [if_neg c7] at h
          refine w_iload hx hb dX5_setNamed_31 (lv_at hl 4 rfl) ?_
          obtain rfl := Option.some.inj h
          rw [KR _ rfl]
          exact v_iret hx hb hr hlk dX5_setNamed_33
  refine w_iconst (v := 0) hx hb dX5_setNamed_0 (by decide) ?_
  refine w_istore (lv' := [(4, .int 0), (0, .ref x0), (1, .ref x1), (2, .int x2), (3, .int x3)]) hx hb dX5_setNamed_1 hl (by decide) rfl (fun ls hl => ?_)
  have hl : lv_has ls 5 [(0, .ref x0), (1, .ref x1), (2, .int x2), (3, .int x3), (4, .int 0)] := lv_sub hl [1, 2, 3, 4, 0] rfl
  obtain ⟨z8, ez8, h⟩ := v_bnd h
  refine X5_setNamed_L3p x0 x1 x2 x3 vF 0 M ls z8 (lv_sub hl [0, 1, 2, 3, 4] rfl) ez8 (fun w9 qw9 ls hl => ?_) (fun r10 qr10 => ?_)
  · replace h := v_inr qw9 h
    refine w_iconst (v := (-1)) hx hb dX5_setNamed_40 (by decide) ?_
    obtain rfl := Option.some.inj h
    rw [hQ]
    exact v_iret hx hb hr hlk dX5_setNamed_41
  · replace h := v_inl qr10 h
    obtain rfl := Option.some.inj h
    exact hQ

def tJ5_init_d00df (x0 : Nat) (x1 : Int32) (M : vMe) : Option (Unit × vMe) :=
  if (1 : Int32) = 0 then
  (none)
else
  (if ¬ x1 < 0 ∧ x1.toNatClampNeg ≤ 65536 then
  ((nwO M 102 x1.toNatClampNeg x1.toNatClampNeg (fun _ => .int 0) M.2.1 M.2.2.1 1 16).bind fun M2 =>
  (sV M2 x0 2 0 (.ref M.2.1)).bind fun M3 =>
  (sV M3 x0 2 1 (.int 0)).bind fun M4 =>
  if M4.2.1 ≤ M.2.1 + 1 ∧ M4.2.2.1 ≤ M.2.2.1 + 16 then some ((), M4) else none)
else none)
def rmJ5_init_d00df : Room := { frames := 1, cells := 1, slots := 16, locals := 60 }
set_option maxHeartbeats 4000000 in
set_option maxRecDepth 100000 in
theorem mJ5_init_d00df (l : Launch) (hfl : l.stackTraces = false) (D : vD) (x0 : Nat) (x1 : Int32) (M : vMe) (z : (Unit × vMe)) (h : tJ5_init_d00df x0 x1 M = some z) : Met l yJ5_init_d00df (Cond.code yJ5_init_d00df cJ5_init_d00df 2 none :: TB) rmJ5_init_d00df (va_Pc [.ref x0, .int x1] (vPre D M)) (qW D none z.2) 1 16 (vA D) := by
  refine v_ofW (cc := cJ5_init_d00df) (maxL := 2) (ret := none) (by decide) (Nat.le_of_ble_eq_true rfl) ?_
  intro p e s m args below meth c Q hx hb hr hml hown hts hlk hnm hSS hR0 hQ ls hl
  have hz0 := hR0.2.1
  have hs0 := hR0.2.2.1
  have hb0 : D.2.2.2.1 ≤ s.heap.size := hR0.2.2.2.2.1
  refine v_tight hb0 ?_
  have hK := hSS.1
  have hl : lv_has ls 2 [(0, .ref x0), (1, .int x1)] := hl
  unfold tJ5_init_d00df at h
  refine w_aload_n hx hb dJ5_init_d00df_0 rfl (lv_at hl 0 rfl) ?_
  refine v_objInit hx hb hown (hts _ kw419) (hts _ kw66) (hts _ kw67) (hl.1.trans hml.symm) dJ5_init_d00df_1 (Nat.le_of_ble_eq_true rfl) (Nat.le_of_ble_eq_true rfl) ?_
  refine w_gets hx hb hSS.2.2.2.2.1 hown (hts _ kw420) (fun _ h9 => h9) dJ5_init_d00df_4 ?_
  refine w_if_eq (tgt := 25) hx hb dJ5_init_d00df_7 (by decide) (fun c1 => ?_) (fun c1 => ?_)
  · rw [if_pos c1] at h
    refine w_aload_n hx hb dJ5_init_d00df_25 rfl (lv_at hl 0 rfl) ?_
    refine w_iload_n hx hb dJ5_init_d00df_26 rfl (lv_at hl 1 rfl) ?_
    exact nomatch h
  · rw [if_neg c1] at h
    refine w_aload_n hx hb dJ5_init_d00df_10 rfl (lv_at hl 0 rfl) ?_
    refine w_iload_n hx hb dJ5_init_d00df_11 rfl (lv_at hl 1 rfl) ?_
    obtain ⟨g8, h⟩ := v_ifs h
    obtain ⟨M2, eM2, h⟩ := v_bnd h
    refine u_newa (x := x1) (atype := .byte) hx hb hK (hts _ kw83) (by decide) g8.1 rfl (Nat.le_trans (Nat.mul_le_mul_right _ g8.2) (by decide)) (v_nclt _) (by decide) hb0 hz0 hs0 rfl rfl eM2 dJ5_init_d00df_12 ?_
    obtain ⟨M3, eM3, h⟩ := v_bnd h
    refine v_putf (ci := 1) hx hb hts iwJ4 hown hK tyJ4_ok nmJ4 0 eM3 rfl (by decide) (Or.inl (hts _ kw429)) (fun _ h9 => h9) (Or.inl rfl) rfl rfl dJ5_init_d00df_14 ?_
    refine w_aload_n hx hb dJ5_init_d00df_17 rfl (lv_at hl 0 rfl) ?_
    refine w_iconst (v := 0) hx hb dJ5_init_d00df_18 (by decide) ?_
    obtain ⟨M4, eM4, h⟩ := v_bnd h
    refine v_putf (ci := 1) hx hb hts iwJ4 hown hK tyJ4_ok nmJ4 1 eM4 rfl (by decide) (Or.inl (hts _ kw430)) (fun _ h9 => h9) (Or.inl rfl) (by decide) (by decide) dJ5_init_d00df_19 ?_
    refine w_goto (tgt := 38) hx hb dJ5_init_d00df_22 (by decide) ?_
    obtain ⟨g9, h⟩ := v_ifs h
    refine v_tight hb0 (vV.widen (n' := 1) (k' := 16) (by omega) (by omega) ?_)
    obtain rfl := Option.some.inj h
    rw [hQ]
    exact v_vret hx hb hr hlk dJ5_init_d00df_38

def tJ4_init_da8c8 (x0 : Nat) (M : vMe) : Option (Unit × vMe) :=
  if M.2.1 + 1 ≤ M.2.1 + 1 ∧ M.2.2.1 + 16 ≤ M.2.2.1 + 16 then
  ((tJ5_init_d00df x0 16 M).bind fun z1 =>
  if z1.2.2.1 ≤ M.2.1 + 1 ∧ z1.2.2.2.1 ≤ M.2.2.1 + 16 then some ((), z1.2) else none)
else none
def rmJ4_init_da8c8 : Room := { frames := 2, cells := 1, slots := 16, locals := 81 }
set_option maxHeartbeats 4000000 in
set_option maxRecDepth 100000 in
theorem mJ4_init_da8c8 (l : Launch) (hfl : l.stackTraces = false) (D : vD) (x0 : Nat) (M : vMe) (z : (Unit × vMe)) (h : tJ4_init_da8c8 x0 M = some z) : Met l yJ4_init_da8c8 (Cond.code yJ4_init_da8c8 cJ4_init_da8c8 1 none :: TB) rmJ4_init_da8c8 (va_Pc [.ref x0] (vPre D M)) (qW D none z.2) 1 16 (vA D) := by
  refine v_ofW (cc := cJ4_init_da8c8) (maxL := 1) (ret := none) (by decide) (Nat.le_of_ble_eq_true rfl) ?_
  intro p e s m args below meth c Q hx hb hr hml hown hts hlk hnm hSS hR0 hQ ls hl
  have hz0 := hR0.2.1
  have hs0 := hR0.2.2.1
  have hb0 : D.2.2.2.1 ≤ s.heap.size := hR0.2.2.2.2.1
  refine v_tight hb0 ?_
  have hK := hSS.1
  have hl : lv_has ls 1 [(0, .ref x0)] := hl
  unfold tJ4_init_da8c8 at h
  refine w_aload_n hx hb dJ4_init_da8c8_0 rfl (lv_at hl 0 rfl) ?_
  refine w_bipush (v := 16) hx hb dJ4_init_da8c8_1 (by decide) ?_
  obtain ⟨g7, h⟩ := v_ifs h
  refine v_tight hb0 ?_
  obtain ⟨z1, ez1, h⟩ := v_bnd h
  refine v_call0 (M1 := z1.2) (mc := 1) (ms := 16) (fun H locs hR hS => va_runI (As := [.int 16]) (rest := []) ⟨hx, hb, hml, hown, hts⟩ (mJ5_init_d00df l hfl D x0 16 M z1 ez1) (cwI 1 hts (gdI kw418) rfl rfl rfl (hts _ kw37) (hts _ kw416) (hts _ kw417) rfl (by decide +kernel) ⟨Nat.le_of_ble_eq_true rfl, Nat.le_of_ble_eq_true rfl⟩) (v_preS hSS hR hS [.ref x0, .int 16]) rfl rfl hl.1 rfl (lv_room (Nat.le_of_ble_eq_true rfl)) dJ4_init_da8c8_3 ⟨by show _ + _ ≤ 1; omega, by show _ + _ ≤ 16; omega⟩) ?_
  obtain ⟨g9, h⟩ := v_ifs h
  refine v_tight hb0 (vV.widen (n' := 1) (k' := 16) (by omega) (by omega) ?_)
  obtain rfl := Option.some.inj h
  rw [hQ]
  exact v_vret hx hb hr hlk dJ4_init_da8c8_6

def tJ8_newLength_cabcc_J21 (x0 : Int32) (x1 : Int32) (M : vMe) : Option Int32 :=
  none
def tJ8_newLength_cabcc (x0 : Int32) (x1 : Int32) (x2 : Int32) (M : vMe) : Option Int32 :=
  if (x0 + (if x1 < x2 then x2 else x1)) ≤ (0 : Int32) then
  (tJ8_newLength_cabcc_J21 x0 x1 M)
else
  (if (2147483639 : Int32) < (x0 + (if x1 < x2 then x2 else x1)) then
  (tJ8_newLength_cabcc_J21 x0 x1 M)
else
  (some (x0 + (if x1 < x2 then x2 else x1))))
def rmJ8_newLength_cabcc : Room := { frames := 1, cells := 0, slots := 0, locals := 60 }
set_option maxHeartbeats 4000000 in
set_option maxRecDepth 100000 in
theorem mJ8_newLength_cabcc (l : Launch) (hfl : l.stackTraces = false) (D : vD) (x0 : Int32) (x1 : Int32) (x2 : Int32) (M : vMe) (z : Int32) (h : tJ8_newLength_cabcc x0 x1 x2 M = some z) : Met l yJ8_newLength_cabcc (Cond.code yJ8_newLength_cabcc cJ8_newLength_cabcc 4 (some .int) :: TB) rmJ8_newLength_cabcc (va_Pc [.int x0, .int x1, .int x2] (vPre D M)) (qW D (some (.int z)) M) 0 0 (vA D) := by
  refine v_ofW (cc := cJ8_newLength_cabcc) (maxL := 4) (ret := (some .int)) (by decide) (Nat.le_of_ble_eq_true rfl) ?_
  intro p e s m args below meth c Q hx hb hr hml hown hts hlk hnm hSS hR0 hQ ls hl
  have hK := hSS.1
  have hl : lv_has ls 4 [(0, .int x0), (1, .int x1), (2, .int x2)] := hl
  unfold tJ8_newLength_cabcc at h
  have J8_newLength_cabcc_J21p : ∀ (x0 : Int32) (x1 : Int32) (ls : Array Slot), lv_has ls 4 [(0, .int x0), (1, .int x1)] → tJ8_newLength_cabcc_J21 x0 x1 M = some z → vV D p l e rmJ8_newLength_cabcc s m args below meth c 0 0 Q M (F0 m 21 ls []) := by
    intro x0 x1 ls hl h
    unfold tJ8_newLength_cabcc_J21 at h
    refine w_iload_n hx hb dJ8_newLength_cabcc_21 rfl (lv_at hl 0 rfl) ?_
    refine w_iload_n hx hb dJ8_newLength_cabcc_22 rfl (lv_at hl 1 rfl) ?_
    exact nomatch h
  refine w_iload_n hx hb dJ8_newLength_cabcc_0 rfl (lv_at hl 0 rfl) ?_
  refine w_iload_n hx hb dJ8_newLength_cabcc_1 rfl (lv_at hl 1 rfl) ?_
  refine w_iload_n hx hb dJ8_newLength_cabcc_2 rfl (lv_at hl 2 rfl) ?_
  refine w_max hx hb (hml.trans hl.1.symm) hown (hts _ kw465) (hts _ kw466) (hts _ kw42) (hts _ kw467) (Nat.le_of_ble_eq_true rfl) (Nat.le_of_ble_eq_true rfl) (Nat.zero_le _) (Nat.zero_le _) dJ8_newLength_cabcc_3 ?_
  refine w_iadd hx hb dJ8_newLength_cabcc_6 ?_
  refine w_istore_n (lv' := [(3, .int (x0 + (if x1 < x2 then x2 else x1))), (0, .int x0), (1, .int x1), (2, .int x2)]) hx hb dJ8_newLength_cabcc_7 rfl hl (by decide) rfl (fun ls hl => ?_)
  have hl : lv_has ls 4 [(0, .int x0), (1, .int x1), (2, .int x2), (3, .int (x0 + (if x1 < x2 then x2 else x1)))] := lv_sub hl [1, 2, 3, 0] rfl
  refine w_iconst (v := 0) hx hb dJ8_newLength_cabcc_8 (by decide) ?_
  refine w_iload_n hx hb dJ8_newLength_cabcc_9 rfl (lv_at hl 3 rfl) ?_
  refine w_icmp_ge (tgt := 21) hx hb dJ8_newLength_cabcc_10 (by decide) (fun c1 => ?_) (fun c1 => ?_)
  · rw [if_pos c1] at h
    exact J8_newLength_cabcc_J21p x0 x1 ls (lv_sub hl [0, 1] rfl) h
  · rw [if_neg c1] at h
    refine w_iload_n hx hb dJ8_newLength_cabcc_13 rfl (lv_at hl 3 rfl) ?_
    refine w_ldcI hx hb hown (hts _ kw468) dJ8_newLength_cabcc_14 ?_
    refine w_icmp_gt (tgt := 21) hx hb dJ8_newLength_cabcc_16 (by decide) (fun c2 => ?_) (fun c2 => ?_)
    · rw [if_pos c2] at h
      exact J8_newLength_cabcc_J21p x0 x1 ls (lv_sub hl [0, 1] rfl) h
    · rw [if_neg c2] at h
      refine w_iload_n hx hb dJ8_newLength_cabcc_19 rfl (lv_at hl 3 rfl) ?_
      obtain rfl := Option.some.inj h
      rw [hQ]
      exact v_iret hx hb hr hlk dJ8_newLength_cabcc_20

def tJ5_newCapacity_0f7a4 (x0 : Nat) (x1 : Int32) (M : vMe) : Option (Int32 × vMe) :=
  (gA M x0 2 0).bind fun a1 =>
  (aN M a1 102).bind fun v2 =>
  (gI M x0 2 1).bind fun v3 =>
  (gI M x0 2 1).bind fun v4 =>
  (tJ8_newLength_cabcc v2 ((x1 <<< (v3 &&& 31)) - v2) (v2 + (2 <<< (v4 &&& 31))) M).bind fun z5 =>
  if z5 = (2147483647 : Int32) then
  (none)
else
  ((gI M x0 2 1).bind fun v7 =>
  some (z5 >>> (v7 &&& 31), M))
def rmJ5_newCapacity_0f7a4 : Room := { frames := 2, cells := 0, slots := 0, locals := 83 }
set_option maxHeartbeats 4000000 in
set_option maxRecDepth 100000 in
theorem mJ5_newCapacity_0f7a4 (l : Launch) (hfl : l.stackTraces = false) (D : vD) (x0 : Nat) (x1 : Int32) (M : vMe) (z : (Int32 × vMe)) (h : tJ5_newCapacity_0f7a4 x0 x1 M = some z) : Met l yJ5_newCapacity_0f7a4 (Cond.code yJ5_newCapacity_0f7a4 cJ5_newCapacity_0f7a4 6 (some .int) :: TB) rmJ5_newCapacity_0f7a4 (va_Pc [.ref x0, .int x1] (vPre D M)) (qW D (some (.int z.1)) z.2) 0 0 (vA D) := by
  refine v_ofW (cc := cJ5_newCapacity_0f7a4) (maxL := 6) (ret := (some .int)) (by decide) (Nat.le_of_ble_eq_true rfl) ?_
  intro p e s m args below meth c Q hx hb hr hml hown hts hlk hnm hSS hR0 hQ ls hl
  have hK := hSS.1
  have hl : lv_has ls 6 [(0, .ref x0), (1, .int x1)] := hl
  unfold tJ5_newCapacity_0f7a4 at h
  refine w_aload_n hx hb dJ5_newCapacity_0f7a4_0 rfl (lv_at hl 0 rfl) ?_
  obtain ⟨a1, ea1, h⟩ := v_bnd h
  refine v_gA (ci := 1) hx hb hts iwJ4 hown hK 0 ea1 rfl (by decide) (Or.inl (hts _ kw429)) (fun _ h9 => h9) dJ5_newCapacity_0f7a4_1 ?_
  obtain ⟨v2, ev2, h⟩ := v_bnd h
  refine v_alen hx hb hK ev2 (by decide) dJ5_newCapacity_0f7a4_4 ?_
  refine w_istore_n (lv' := [(2, .int v2), (0, .ref x0), (1, .int x1)]) hx hb dJ5_newCapacity_0f7a4_5 rfl hl (by decide) rfl (fun ls hl => ?_)
  have hl : lv_has ls 6 [(0, .ref x0), (1, .int x1), (2, .int v2)] := lv_sub hl [1, 2, 0] rfl
  refine w_iload_n hx hb dJ5_newCapacity_0f7a4_6 rfl (lv_at hl 1 rfl) ?_
  refine w_aload_n hx hb dJ5_newCapacity_0f7a4_7 rfl (lv_at hl 0 rfl) ?_
  obtain ⟨v3, ev3, h⟩ := v_bnd h
  refine v_gI (ci := 1) hx hb hts iwJ4 hown hK 1 ev3 rfl (by decide) (Or.inl (hts _ kw430)) (fun _ h9 => h9) dJ5_newCapacity_0f7a4_8 ?_
  refine w_ishl hx hb dJ5_newCapacity_0f7a4_11 ?_
  refine w_istore_n (lv' := [(3, .int (x1 <<< (v3 &&& 31))), (0, .ref x0), (1, .int x1), (2, .int v2)]) hx hb dJ5_newCapacity_0f7a4_12 rfl hl (by decide) rfl (fun ls hl => ?_)
  have hl : lv_has ls 6 [(0, .ref x0), (1, .int x1), (2, .int v2), (3, .int (x1 <<< (v3 &&& 31)))] := lv_sub hl [1, 2, 3, 0] rfl
  refine w_iload_n hx hb dJ5_newCapacity_0f7a4_13 rfl (lv_at hl 3 rfl) ?_
  refine w_iload_n hx hb dJ5_newCapacity_0f7a4_14 rfl (lv_at hl 2 rfl) ?_
  refine w_isub hx hb dJ5_newCapacity_0f7a4_15 ?_
  refine w_istore (lv' := [(4, .int ((x1 <<< (v3 &&& 31)) - v2)), (0, .ref x0), (1, .int x1), (2, .int v2), (3, .int (x1 <<< (v3 &&& 31)))]) hx hb dJ5_newCapacity_0f7a4_16 hl (by decide) rfl (fun ls hl => ?_)
  have hl : lv_has ls 6 [(0, .ref x0), (1, .int x1), (2, .int v2), (3, .int (x1 <<< (v3 &&& 31))), (4, .int ((x1 <<< (v3 &&& 31)) - v2))] := lv_sub hl [1, 2, 3, 4, 0] rfl
  refine w_iload_n hx hb dJ5_newCapacity_0f7a4_18 rfl (lv_at hl 2 rfl) ?_
  refine w_iload hx hb dJ5_newCapacity_0f7a4_19 (lv_at hl 4 rfl) ?_
  refine w_iload_n hx hb dJ5_newCapacity_0f7a4_21 rfl (lv_at hl 2 rfl) ?_
  refine w_iconst (v := 2) hx hb dJ5_newCapacity_0f7a4_22 (by decide) ?_
  refine w_aload_n hx hb dJ5_newCapacity_0f7a4_23 rfl (lv_at hl 0 rfl) ?_
  obtain ⟨v4, ev4, h⟩ := v_bnd h
  refine v_gI (ci := 1) hx hb hts iwJ4 hown hK 1 ev4 rfl (by decide) (Or.inl (hts _ kw430)) (fun _ h9 => h9) dJ5_newCapacity_0f7a4_24 ?_
  refine w_ishl hx hb dJ5_newCapacity_0f7a4_27 ?_
  refine w_iadd hx hb dJ5_newCapacity_0f7a4_28 ?_
  obtain ⟨z5, ez5, h⟩ := v_bnd h
  refine v_call1 (v := .int z5) (M1 := M) (mc := 0) (ms := 0) (fun H locs hR hS => va_runS (As := [.int v2, .int ((x1 <<< (v3 &&& 31)) - v2), .int (v2 + (2 <<< (v4 &&& 31)))]) (rest := []) ⟨hx, hb, hml, hown, hts⟩ (mJ8_newLength_cabcc l hfl D v2 ((x1 <<< (v3 &&& 31)) - v2) (v2 + (2 <<< (v4 &&& 31))) M z5 ez5) (va_cwS 3 hts (gdS kw462 kw463 kw41 kw464) rfl rfl rfl (by decide +kernel) ⟨Nat.le_of_ble_eq_true rfl, Nat.le_of_ble_eq_true rfl⟩) (v_preS hSS hR hS [.int v2, .int ((x1 <<< (v3 &&& 31)) - v2), .int (v2 + (2 <<< (v4 &&& 31)))]) rfl rfl hl.1 rfl (lv_room (Nat.le_of_ble_eq_true rfl)) dJ5_newCapacity_0f7a4_29 ⟨Nat.zero_le _, Nat.zero_le _⟩) ?_
  refine w_istore (lv' := [(5, .int z5), (0, .ref x0), (1, .int x1), (2, .int v2), (3, .int (x1 <<< (v3 &&& 31))), (4, .int ((x1 <<< (v3 &&& 31)) - v2))]) hx hb dJ5_newCapacity_0f7a4_32 hl (by decide) rfl (fun ls hl => ?_)
  have hl : lv_has ls 6 [(0, .ref x0), (1, .int x1), (2, .int v2), (3, .int (x1 <<< (v3 &&& 31))), (4, .int ((x1 <<< (v3 &&& 31)) - v2)), (5, .int z5)] := lv_sub hl [1, 2, 3, 4, 5, 0] rfl
  refine w_iload hx hb dJ5_newCapacity_0f7a4_34 (lv_at hl 5 rfl) ?_
  refine w_ldcI hx hb hown (hts _ kw472) dJ5_newCapacity_0f7a4_36 ?_
  refine w_icmp_ne (tgt := 51) hx hb dJ5_newCapacity_0f7a4_38 (by decide) (fun c6 => ?_) (fun c6 => ?_)
  · rw [if_pos c6] at h
    exact nomatch h
  · rw [if_neg c6] at h
    refine w_iload hx hb dJ5_newCapacity_0f7a4_51 (lv_at hl 5 rfl) ?_
    refine w_aload_n hx hb dJ5_newCapacity_0f7a4_53 rfl (lv_at hl 0 rfl) ?_
    obtain ⟨v7, ev7, h⟩ := v_bnd h
    refine v_gI (ci := 1) hx hb hts iwJ4 hown hK 1 ev7 rfl (by decide) (Or.inl (hts _ kw430)) (fun _ h9 => h9) dJ5_newCapacity_0f7a4_54 ?_
    refine w_ishr hx hb dJ5_newCapacity_0f7a4_57 ?_
    obtain rfl := Option.some.inj h
    rw [hQ]
    exact v_iret hx hb hr hlk dJ5_newCapacity_0f7a4_58

def tJ7_copyOf_9075b (x0 : Nat) (x1 : Int32) (M : vMe) : Option (Nat × vMe) :=
  (aN M x0 102).bind fun v1 =>
  if x1 = v1 then
  ((clA M x0 M.2.1 M.2.2.1 1 250).bind fun M3 =>
  if M3.2.1 ≤ M.2.1 + 1 ∧ M3.2.2.1 ≤ M.2.2.1 + 250 then some (M.2.1, M3) else none)
else
  (if ¬ x1 < 0 ∧ x1.toNatClampNeg ≤ 65536 then
  ((nwO M 102 x1.toNatClampNeg x1.toNatClampNeg (fun _ => .int 0) M.2.1 M.2.2.1 1 250).bind fun M4 =>
  (aN M4 x0 102).bind fun v5 =>
  if M4.2.1 ≤ M.2.1 + 1 ∧ M4.2.2.1 ≤ M.2.2.1 + 250 then
  ((cpA M4 x0 M.2.1 102 0 0 (if x1 < v5 then x1 else v5)).bind fun M6 =>
  if M6.2.1 ≤ M.2.1 + 1 ∧ M6.2.2.1 ≤ M.2.2.1 + 250 then some (M.2.1, M6) else none)
else none)
else none)
def rmJ7_copyOf_9075b : Room := { frames := 1, cells := 1, slots := 250, locals := 60 }
set_option maxHeartbeats 4000000 in
set_option maxRecDepth 100000 in
theorem mJ7_copyOf_9075b (l : Launch) (hfl : l.stackTraces = false) (D : vD) (x0 : Nat) (x1 : Int32) (M : vMe) (z : (Nat × vMe)) (h : tJ7_copyOf_9075b x0 x1 M = some z) : Met l yJ7_copyOf_9075b (Cond.code yJ7_copyOf_9075b cJ7_copyOf_9075b 3 (some (.array .byte)) :: TB) rmJ7_copyOf_9075b (va_Pc [.ref x0, .int x1] (vPre D M)) (qW D (some (.ref z.1)) z.2) 1 250 (vA D) := by
  refine v_ofW (cc := cJ7_copyOf_9075b) (maxL := 3) (ret := (some (.array .byte))) (by decide) (Nat.le_of_ble_eq_true rfl) ?_
  intro p e s m args below meth c Q hx hb hr hml hown hts hlk hnm hSS hR0 hQ ls hl
  have hz0 := hR0.2.1
  have hs0 := hR0.2.2.1
  have hb0 : D.2.2.2.1 ≤ s.heap.size := hR0.2.2.2.2.1
  refine v_tight hb0 ?_
  have hK := hSS.1
  have hl : lv_has ls 3 [(0, .ref x0), (1, .int x1)] := hl
  unfold tJ7_copyOf_9075b at h
  refine w_iload_n hx hb dJ7_copyOf_9075b_0 rfl (lv_at hl 1 rfl) ?_
  refine w_aload_n hx hb dJ7_copyOf_9075b_1 rfl (lv_at hl 0 rfl) ?_
  obtain ⟨v1, ev1, h⟩ := v_bnd h
  refine v_alen hx hb hK ev1 (by decide) dJ7_copyOf_9075b_2 ?_
  refine w_icmp_ne (tgt := 14) hx hb dJ7_copyOf_9075b_3 (by decide) (fun c2 => ?_) (fun c2 => ?_)
  · rw [if_pos c2] at h
    refine w_aload_n hx hb dJ7_copyOf_9075b_6 rfl (lv_at hl 0 rfl) ?_
    obtain ⟨M3, eM3, h⟩ := v_bnd h
    refine u_clone hx hb (hml.trans hl.1.symm) hown hK (hts _ kw476) (hts _ kw477) (hts _ kw478) (hts _ kw479) (hts _ kw480) (va_Nw.use (A := args) rfl hSS.2.2.2.2.2.2.2.2.2.2.2.2.2.2) hb0 hz0 hs0 rfl rfl eM3 (Nat.le_of_ble_eq_true rfl) (Nat.le_of_ble_eq_true rfl) dJ7_copyOf_9075b_7 ?_
    refine v_castB hx hb hown hK (hts _ kw482) (clA_tag eM3) dJ7_copyOf_9075b_10 ?_
    obtain ⟨g9, h⟩ := v_ifs h
    refine v_tight hb0 (vV.widen (n' := 1) (k' := 250) (by omega) (by omega) ?_)
    obtain rfl := Option.some.inj h
    rw [hQ]
    exact v_aret hx hb hr (Or.inr ⟨_, rfl⟩) (Or.inr ⟨_, rfl⟩) hlk dJ7_copyOf_9075b_13
  · rw [if_neg c2] at h
    refine w_iload_n hx hb dJ7_copyOf_9075b_14 rfl (lv_at hl 1 rfl) ?_
    obtain ⟨g8, h⟩ := v_ifs h
    obtain ⟨M4, eM4, h⟩ := v_bnd h
    refine u_newa (x := x1) (atype := .byte) hx hb hK (hts _ kw83) (by decide) g8.1 rfl (Nat.le_trans (Nat.mul_le_mul_right _ g8.2) (by decide)) (v_nclt _) (by decide) hb0 hz0 hs0 rfl rfl eM4 dJ7_copyOf_9075b_15 ?_
    refine w_astore_n (lv' := [(2, .ref M.2.1), (0, .ref x0), (1, .int x1)]) hx hb dJ7_copyOf_9075b_17 rfl hl (by decide) rfl (fun ls hl => ?_)
    have hl : lv_has ls 3 [(0, .ref x0), (1, .int x1), (2, .ref M.2.1)] := lv_sub hl [1, 2, 0] rfl
    refine w_aload_n hx hb dJ7_copyOf_9075b_18 rfl (lv_at hl 0 rfl) ?_
    refine w_iconst (v := 0) hx hb dJ7_copyOf_9075b_19 (by decide) ?_
    refine w_aload_n hx hb dJ7_copyOf_9075b_20 rfl (lv_at hl 2 rfl) ?_
    refine w_iconst (v := 0) hx hb dJ7_copyOf_9075b_21 (by decide) ?_
    refine w_aload_n hx hb dJ7_copyOf_9075b_22 rfl (lv_at hl 0 rfl) ?_
    obtain ⟨v5, ev5, h⟩ := v_bnd h
    refine v_alen hx hb hK ev5 (by decide) dJ7_copyOf_9075b_23 ?_
    refine w_iload_n hx hb dJ7_copyOf_9075b_24 rfl (lv_at hl 1 rfl) ?_
    obtain ⟨g9, h⟩ := v_ifs h
    refine v_tight hb0 ?_
    refine w_min hx hb (hml.trans hl.1.symm) hown (hts _ kw483) (hts _ kw484) (hts _ kw42) (hts _ kw485) (Nat.le_of_ble_eq_true rfl) (Nat.le_of_ble_eq_true rfl) (by show _ ≤ 1; omega) (by show _ ≤ 250; omega) dJ7_copyOf_9075b_25 ?_
    obtain ⟨M6, eM6, h⟩ := v_bnd h
    refine v_copy hx hb (hml.trans hl.1.symm) hown hK (hts _ kw486) (hts _ kw488) (hts _ kw487) (hts _ kw44) eM6 v_cpB (Nat.le_of_ble_eq_true rfl) (Nat.le_of_ble_eq_true rfl) dJ7_copyOf_9075b_28 ?_
    refine w_aload_n hx hb dJ7_copyOf_9075b_31 rfl (lv_at hl 2 rfl) ?_
    obtain ⟨g9, h⟩ := v_ifs h
    refine v_tight hb0 (vV.widen (n' := 1) (k' := 250) (by omega) (by omega) ?_)
    obtain rfl := Option.some.inj h
    rw [hQ]
    exact v_aret hx hb hr (Or.inr ⟨_, rfl⟩) (Or.inr ⟨_, rfl⟩) hlk dJ7_copyOf_9075b_32

def tJ5_ensureCapacityInternal_d00df (x0 : Nat) (x1 : Int32) (M : vMe) : Option (Unit × vMe) :=
  (gA M x0 2 0).bind fun a1 =>
  (aN M a1 102).bind fun v2 =>
  (gI M x0 2 1).bind fun v3 =>
  if (x1 - (v2 >>> (v3 &&& 31))) ≤ 0 then
  (if M.2.1 ≤ M.2.1 + 1 ∧ M.2.2.1 ≤ M.2.2.1 + 250 then some ((), M) else none)
else
  ((gA M x0 2 0).bind fun a5 =>
  if M.2.1 + 0 ≤ M.2.1 + 1 ∧ M.2.2.1 + 0 ≤ M.2.2.1 + 250 then
  (if (M.1 x0).1 = 2 then
  ((tJ5_newCapacity_0f7a4 x0 x1 M).bind fun z6 =>
  (gI z6.2 x0 2 1).bind fun v7 =>
  if z6.2.2.1 + 1 ≤ M.2.1 + 1 ∧ z6.2.2.2.1 + 250 ≤ M.2.2.1 + 250 then
  ((tJ7_copyOf_9075b a5 (z6.1 <<< (v7 &&& 31)) z6.2).bind fun z8 =>
  (sV z8.2 x0 2 0 (.ref z8.1)).bind fun M9 =>
  if M9.2.1 ≤ M.2.1 + 1 ∧ M9.2.2.1 ≤ M.2.2.1 + 250 then some ((), M9) else none)
else none)
else none)
else none)
def rmJ5_ensureCapacityInternal_d00df : Room := { frames := 3, cells := 1, slots := 250, locals := 108 }
set_option maxHeartbeats 4000000 in
set_option maxRecDepth 100000 in
theorem mJ5_ensureCapacityInternal_d00df (l : Launch) (hfl : l.stackTraces = false) (D : vD) (x0 : Nat) (x1 : Int32) (M : vMe) (z : (Unit × vMe)) (h : tJ5_ensureCapacityInternal_d00df x0 x1 M = some z) : Met l yJ5_ensureCapacityInternal_d00df (Cond.code yJ5_ensureCapacityInternal_d00df cJ5_ensureCapacityInternal_d00df 3 none :: TB) rmJ5_ensureCapacityInternal_d00df (va_Pc [.ref x0, .int x1] (vPre D M)) (qW D none z.2) 1 250 (vA D) := by
  refine v_ofW (cc := cJ5_ensureCapacityInternal_d00df) (maxL := 3) (ret := none) (by decide) (Nat.le_of_ble_eq_true rfl) ?_
  intro p e s m args below meth c Q hx hb hr hml hown hts hlk hnm hSS hR0 hQ ls hl
  have hz0 := hR0.2.1
  have hs0 := hR0.2.2.1
  have hb0 : D.2.2.2.1 ≤ s.heap.size := hR0.2.2.2.2.1
  refine v_tight hb0 ?_
  have hK := hSS.1
  have hl : lv_has ls 3 [(0, .ref x0), (1, .int x1)] := hl
  unfold tJ5_ensureCapacityInternal_d00df at h
  refine w_aload_n hx hb dJ5_ensureCapacityInternal_d00df_0 rfl (lv_at hl 0 rfl) ?_
  obtain ⟨a1, ea1, h⟩ := v_bnd h
  refine v_gA (ci := 1) hx hb hts iwJ4 hown hK 0 ea1 rfl (by decide) (Or.inl (hts _ kw429)) (fun _ h9 => h9) dJ5_ensureCapacityInternal_d00df_1 ?_
  obtain ⟨v2, ev2, h⟩ := v_bnd h
  refine v_alen hx hb hK ev2 (by decide) dJ5_ensureCapacityInternal_d00df_4 ?_
  refine w_aload_n hx hb dJ5_ensureCapacityInternal_d00df_5 rfl (lv_at hl 0 rfl) ?_
  obtain ⟨v3, ev3, h⟩ := v_bnd h
  refine v_gI (ci := 1) hx hb hts iwJ4 hown hK 1 ev3 rfl (by decide) (Or.inl (hts _ kw430)) (fun _ h9 => h9) dJ5_ensureCapacityInternal_d00df_6 ?_
  refine w_ishr hx hb dJ5_ensureCapacityInternal_d00df_9 ?_
  refine w_istore_n (lv' := [(2, .int (v2 >>> (v3 &&& 31))), (0, .ref x0), (1, .int x1)]) hx hb dJ5_ensureCapacityInternal_d00df_10 rfl hl (by decide) rfl (fun ls hl => ?_)
  have hl : lv_has ls 3 [(0, .ref x0), (1, .int x1), (2, .int (v2 >>> (v3 &&& 31)))] := lv_sub hl [1, 2, 0] rfl
  refine w_iload_n hx hb dJ5_ensureCapacityInternal_d00df_11 rfl (lv_at hl 1 rfl) ?_
  refine w_iload_n hx hb dJ5_ensureCapacityInternal_d00df_12 rfl (lv_at hl 2 rfl) ?_
  refine w_isub hx hb dJ5_ensureCapacityInternal_d00df_13 ?_
  refine w_if_le (tgt := 38) hx hb dJ5_ensureCapacityInternal_d00df_14 (by decide) (fun c4 => ?_) (fun c4 => ?_)
  · rw [if_pos c4] at h
    obtain ⟨g9, h⟩ := v_ifs h
    refine v_tight hb0 (vV.widen (n' := 1) (k' := 250) (by omega) (by omega) ?_)
    obtain rfl := Option.some.inj h
    rw [hQ]
    exact v_vret hx hb hr hlk dJ5_ensureCapacityInternal_d00df_38
  · rw [if_neg c4] at h
    refine w_aload_n hx hb dJ5_ensureCapacityInternal_d00df_17 rfl (lv_at hl 0 rfl) ?_
    refine w_aload_n hx hb dJ5_ensureCapacityInternal_d00df_18 rfl (lv_at hl 0 rfl) ?_
    obtain ⟨a5, ea5, h⟩ := v_bnd h
    refine v_gA (ci := 1) hx hb hts iwJ4 hown hK 0 ea5 rfl (by decide) (Or.inl (hts _ kw429)) (fun _ h9 => h9) dJ5_ensureCapacityInternal_d00df_19 ?_
    refine w_aload_n hx hb dJ5_ensureCapacityInternal_d00df_22 rfl (lv_at hl 0 rfl) ?_
    refine w_iload_n hx hb dJ5_ensureCapacityInternal_d00df_23 rfl (lv_at hl 1 rfl) ?_
    obtain ⟨g7, h⟩ := v_ifs h
    refine v_tight hb0 ?_
    obtain ⟨g8, h⟩ := v_ifs h
    obtain ⟨z6, ez6, h⟩ := v_bnd h
    refine v_call1 (v := .int z6.1) (M1 := z6.2) (mc := 0) (ms := 0) (fun H locs hR hS => va_runU (As := [.int x1]) (rest := [.ref a5, .ref x0]) ⟨hx, hb, hml, hown, hts⟩ (mJ5_newCapacity_0f7a4 l hfl D x0 x1 M z6 ez6) (va_cwU 1 hts (gdU kw458 kw1383 kwE1 kw460 kw37 kw461) rfl rfl rfl rfl (by decide +kernel) ⟨Nat.le_of_ble_eq_true rfl, Nat.le_of_ble_eq_true rfl⟩) (v_preV (ci := 1) hSS hR hS g8 (by decide) rfl [.int x1]) rfl rfl hl.1 rfl (lv_room (Nat.le_of_ble_eq_true rfl)) dJ5_ensureCapacityInternal_d00df_24 ⟨by show _ + _ ≤ 1; omega, by show _ + _ ≤ 250; omega⟩) ?_
    refine w_aload_n hx hb dJ5_ensureCapacityInternal_d00df_27 rfl (lv_at hl 0 rfl) ?_
    obtain ⟨v7, ev7, h⟩ := v_bnd h
    refine v_gI (ci := 1) hx hb hts iwJ4 hown hK 1 ev7 rfl (by decide) (Or.inl (hts _ kw430)) (fun _ h9 => h9) dJ5_ensureCapacityInternal_d00df_28 ?_
    refine w_ishl hx hb dJ5_ensureCapacityInternal_d00df_31 ?_
    obtain ⟨g7, h⟩ := v_ifs h
    refine v_tight hb0 ?_
    obtain ⟨z8, ez8, h⟩ := v_bnd h
    refine v_call1 (v := .ref z8.1) (M1 := z8.2) (mc := 1) (ms := 250) (fun H locs hR hS => va_runS (As := [.ref a5, .int (z6.1 <<< (v7 &&& 31))]) (rest := [.ref x0]) ⟨hx, hb, hml, hown, hts⟩ (mJ7_copyOf_9075b l hfl D a5 (z6.1 <<< (v7 &&& 31)) z6.2 z8 ez8) (va_cwS 2 hts (gdS kw473 kw474 kw43 kw475) rfl rfl rfl (by decide +kernel) ⟨Nat.le_of_ble_eq_true rfl, Nat.le_of_ble_eq_true rfl⟩) (v_preS hSS hR hS [.ref a5, .int (z6.1 <<< (v7 &&& 31))]) rfl rfl hl.1 rfl (lv_room (Nat.le_of_ble_eq_true rfl)) dJ5_ensureCapacityInternal_d00df_32 ⟨by show _ + _ ≤ 1; omega, by show _ + _ ≤ 250; omega⟩) ?_
    obtain ⟨M9, eM9, h⟩ := v_bnd h
    refine v_putf (ci := 1) hx hb hts iwJ4 hown hK tyJ4_ok nmJ4 0 eM9 rfl (by decide) (Or.inl (hts _ kw429)) (fun _ h9 => h9) (Or.inl rfl) rfl rfl dJ5_ensureCapacityInternal_d00df_35 ?_
    obtain ⟨g9, h⟩ := v_ifs h
    refine v_tight hb0 (vV.widen (n' := 1) (k' := 250) (by omega) (by omega) ?_)
    obtain rfl := Option.some.inj h
    rw [hQ]
    exact v_vret hx hb hr hlk dJ5_ensureCapacityInternal_d00df_38

def tJ5_isLatin1_aae02 (x0 : Nat) (M : vMe) : Option Int32 :=
  if (1 : Int32) = 0 then
  (some 0)
else
  ((gI M x0 2 1).bind fun v2 =>
  if v2 = 0 then
  (some 1)
else
  (some 0))
def rmJ5_isLatin1_aae02 : Room := { frames := 1, cells := 0, slots := 0, locals := 0 }
set_option maxHeartbeats 4000000 in
set_option maxRecDepth 100000 in
theorem mJ5_isLatin1_aae02 (l : Launch) (hfl : l.stackTraces = false) (D : vD) (x0 : Nat) (M : vMe) (z : Int32) (h : tJ5_isLatin1_aae02 x0 M = some z) : Met l yJ5_isLatin1_aae02 (Cond.code yJ5_isLatin1_aae02 cJ5_isLatin1_aae02 1 (some .boolean) :: TB) rmJ5_isLatin1_aae02 (va_Pc [.ref x0] (vPre D M)) (qW D (some (.int z)) M) 0 0 (vA D) := by
  refine v_ofW (cc := cJ5_isLatin1_aae02) (maxL := 1) (ret := (some .boolean)) (by decide) (Nat.le_of_ble_eq_true rfl) ?_
  intro p e s m args below meth c Q hx hb hr hml hown hts hlk hnm hSS hR0 hQ ls hl
  have hK := hSS.1
  have hl : lv_has ls 1 [(0, .ref x0)] := hl
  unfold tJ5_isLatin1_aae02 at h
  refine w_gets hx hb hSS.2.2.2.2.1 hown (hts _ kw420) (fun _ h9 => h9) dJ5_isLatin1_aae02_0 ?_
  refine w_if_eq (tgt := 17) hx hb dJ5_isLatin1_aae02_3 (by decide) (fun c1 => ?_) (fun c1 => ?_)
  · rw [if_pos c1] at h
    refine w_iconst (v := 0) hx hb dJ5_isLatin1_aae02_17 (by decide) ?_
    obtain rfl := Option.some.inj h
    rw [hQ]
    exact v_zret (x := 0) hx hb hr hlk rfl dJ5_isLatin1_aae02_18
  · rw [if_neg c1] at h
    refine w_aload_n hx hb dJ5_isLatin1_aae02_6 rfl (lv_at hl 0 rfl) ?_
    obtain ⟨v2, ev2, h⟩ := v_bnd h
    refine v_gI (ci := 1) hx hb hts iwJ4 hown hK 1 ev2 rfl (by decide) (Or.inl (hts _ kw430)) (fun _ h9 => h9) dJ5_isLatin1_aae02_7 ?_
    refine w_if_ne (tgt := 17) hx hb dJ5_isLatin1_aae02_10 (by decide) (fun c3 => ?_) (fun c3 => ?_)
    · rw [if_pos c3] at h
      refine w_iconst (v := 1) hx hb dJ5_isLatin1_aae02_13 (by decide) ?_
      refine w_goto (tgt := 18) hx hb dJ5_isLatin1_aae02_14 (by decide) ?_
      obtain rfl := Option.some.inj h
      rw [hQ]
      exact v_zret (x := 1) hx hb hr hlk rfl dJ5_isLatin1_aae02_18
    · rw [if_neg c3] at h
      refine w_iconst (v := 0) hx hb dJ5_isLatin1_aae02_17 (by decide) ?_
      obtain rfl := Option.some.inj h
      rw [hQ]
      exact v_zret (x := 0) hx hb hr hlk rfl dJ5_isLatin1_aae02_18

def tJ1_canEncode_fc78d (x0 : Int32) (M : vMe) : Option Int32 :=
  if (255 : Int32) < x0 then
  (some 0)
else
  (some 1)
def rmJ1_canEncode_fc78d : Room := { frames := 1, cells := 0, slots := 0, locals := 0 }
set_option maxHeartbeats 4000000 in
set_option maxRecDepth 100000 in
theorem mJ1_canEncode_fc78d (l : Launch) (hfl : l.stackTraces = false) (D : vD) (x0 : Int32) (M : vMe) (z : Int32) (h : tJ1_canEncode_fc78d x0 M = some z) : Met l yJ1_canEncode_fc78d (Cond.code yJ1_canEncode_fc78d cJ1_canEncode_fc78d 1 (some .boolean) :: TB) rmJ1_canEncode_fc78d (va_Pc [.int x0] (vPre D M)) (qW D (some (.int z)) M) 0 0 (vA D) := by
  refine v_ofW (cc := cJ1_canEncode_fc78d) (maxL := 1) (ret := (some .boolean)) (by decide) (Nat.le_of_ble_eq_true rfl) ?_
  intro p e s m args below meth c Q hx hb hr hml hown hts hlk hnm hSS hR0 hQ ls hl
  have hK := hSS.1
  have hl : lv_has ls 1 [(0, .int x0)] := hl
  unfold tJ1_canEncode_fc78d at h
  refine w_iload_n hx hb dJ1_canEncode_fc78d_0 rfl (lv_at hl 0 rfl) ?_
  refine w_sipush (v := 255) hx hb dJ1_canEncode_fc78d_1 (by decide) ?_
  refine w_icmp_gt (tgt := 11) hx hb dJ1_canEncode_fc78d_4 (by decide) (fun c1 => ?_) (fun c1 => ?_)
  · rw [if_pos c1] at h
    refine w_iconst (v := 0) hx hb dJ1_canEncode_fc78d_11 (by decide) ?_
    obtain rfl := Option.some.inj h
    rw [hQ]
    exact v_zret (x := 0) hx hb hr hlk rfl dJ1_canEncode_fc78d_12
  · rw [if_neg c1] at h
    refine w_iconst (v := 1) hx hb dJ1_canEncode_fc78d_7 (by decide) ?_
    refine w_goto (tgt := 12) hx hb dJ1_canEncode_fc78d_8 (by decide) ?_
    obtain rfl := Option.some.inj h
    rw [hQ]
    exact v_zret (x := 1) hx hb hr hlk rfl dJ1_canEncode_fc78d_12

def tJ5_append_3fe6f_J56 (n0 s0 : Nat) (x0 : Nat) (x1 : Int32) (Mj : vMe) : Option (Nat × vMe) :=
  (gA Mj x0 2 0).bind fun a7 =>
  (gI Mj x0 2 3).bind fun v8 =>
  (sV Mj x0 2 3 (.int (v8 + 1))).bind fun M9 =>
  none
def tJ5_append_3fe6f_J45 (n0 s0 : Nat) (x0 : Nat) (x1 : Int32) (Mj : vMe) : Option (Nat × vMe) :=
  if Mj.2.1 + 0 ≤ n0 + 1 ∧ Mj.2.2.1 + 0 ≤ s0 + 250 then
  (if (Mj.1 x0).1 = 2 then
  ((tJ5_isLatin1_aae02 x0 Mj).bind fun z5 =>
  if z5 = 0 then
  (tJ5_append_3fe6f_J56 n0 s0 x0 x1 Mj)
else
  (none))
else none)
else none
def tJ5_append_3fe6f (x0 : Nat) (x1 : Int32) (M : vMe) : Option (Nat × vMe) :=
  (gI M x0 2 3).bind fun v1 =>
  if M.2.1 + 1 ≤ M.2.1 + 1 ∧ M.2.2.1 + 250 ≤ M.2.2.1 + 250 then
  (if (M.1 x0).1 = 2 then
  ((tJ5_ensureCapacityInternal_d00df x0 (v1 + 1) M).bind fun z2 =>
  if z2.2.2.1 + 0 ≤ M.2.1 + 1 ∧ z2.2.2.2.1 + 0 ≤ M.2.2.1 + 250 then
  (if (z2.2.1 x0).1 = 2 then
  ((tJ5_isLatin1_aae02 x0 z2.2).bind fun z3 =>
  if z3 = 0 then
  (tJ5_append_3fe6f_J45 M.2.1 M.2.2.1 x0 x1 z2.2)
else
  (if z2.2.2.1 + 0 ≤ M.2.1 + 1 ∧ z2.2.2.2.1 + 0 ≤ M.2.2.1 + 250 then
  ((tJ1_canEncode_fc78d x1 z2.2).bind fun z10 =>
  if z10 = 0 then
  (tJ5_append_3fe6f_J45 M.2.1 M.2.2.1 x0 x1 z2.2)
else
  ((gA z2.2 x0 2 0).bind fun a12 =>
  (gI z2.2 x0 2 3).bind fun v13 =>
  (sV z2.2 x0 2 3 (.int (v13 + 1))).bind fun M14 =>
  (sA M14 a12 102 v13 (.int x1.toInt8.toInt32.toInt8.toInt32)).bind fun M15 =>
  if M15.2.1 ≤ M.2.1 + 1 ∧ M15.2.2.1 ≤ M.2.2.1 + 250 then some (x0, M15) else none))
else none))
else none)
else none)
else none)
else none
def rmJ5_append_3fe6f : Room := { frames := 4, cells := 1, slots := 250, locals := 130 }
set_option maxHeartbeats 4000000 in
set_option maxRecDepth 100000 in
theorem mJ5_append_3fe6f (l : Launch) (hfl : l.stackTraces = false) (D : vD) (x0 : Nat) (x1 : Int32) (M : vMe) (z : (Nat × vMe)) (h : tJ5_append_3fe6f x0 x1 M = some z) : Met l yJ5_append_3fe6f (Cond.code yJ5_append_3fe6f cJ5_append_3fe6f 2 (some (.object "java/lang/AbstractStringBuilder")) :: TB) rmJ5_append_3fe6f (va_Pc [.ref x0, .int x1] (vPre D M)) (qW D (some (.ref z.1)) z.2) 1 250 (vA D) := by
  refine v_ofW (cc := cJ5_append_3fe6f) (maxL := 2) (ret := (some (.object "java/lang/AbstractStringBuilder"))) (by decide) (Nat.le_of_ble_eq_true rfl) ?_
  intro p e s m args below meth c Q hx hb hr hml hown hts hlk hnm hSS hR0 hQ ls hl
  have hz0 := hR0.2.1
  have hs0 := hR0.2.2.1
  have hb0 : D.2.2.2.1 ≤ s.heap.size := hR0.2.2.2.2.1
  refine v_tight hb0 ?_
  have hK := hSS.1
  have hl : lv_has ls 2 [(0, .ref x0), (1, .int x1)] := hl
  unfold tJ5_append_3fe6f at h
  have J5_append_3fe6f_J56p : ∀ (x0 : Nat) (x1 : Int32) (Mj : vMe) (ls : Array Slot), lv_has ls 2 [(0, .ref x0), (1, .int x1)] → tJ5_append_3fe6f_J56 M.2.1 M.2.2.1 x0 x1 Mj = some z → vV D p l e rmJ5_append_3fe6f s m args below meth c (Mj.2.1 - s.heap.size) (Mj.2.2.1 - vSum D.2.2.2.1 s.heap) Q Mj (F0 m 56 ls []) := by
    intro x0 x1 Mj ls hl h
    unfold tJ5_append_3fe6f_J56 at h
    refine w_aload_n hx hb dJ5_append_3fe6f_56 rfl (lv_at hl 0 rfl) ?_
    obtain ⟨a7, ea7, h⟩ := v_bnd h
    refine v_gA (ci := 1) hx hb hts iwJ4 hown hK 0 ea7 rfl (by decide) (Or.inl (hts _ kw429)) (fun _ h9 => h9) dJ5_append_3fe6f_57 ?_
    refine w_aload_n hx hb dJ5_append_3fe6f_60 rfl (lv_at hl 0 rfl) ?_
    refine w_dup hx hb dJ5_append_3fe6f_61 rfl ?_
    obtain ⟨v8, ev8, h⟩ := v_bnd h
    refine v_gI (ci := 1) hx hb hts iwJ4 hown hK 3 ev8 rfl (by decide) (Or.inl (hts _ kw432)) (fun _ h9 => h9) dJ5_append_3fe6f_62 ?_
    refine w_dup_x1 hx hb dJ5_append_3fe6f_65 rfl rfl ?_
    refine w_iconst (v := 1) hx hb dJ5_append_3fe6f_66 (by decide) ?_
    refine w_iadd hx hb dJ5_append_3fe6f_67 ?_
    obtain ⟨M9, eM9, h⟩ := v_bnd h
    refine v_putf (ci := 1) hx hb hts iwJ4 hown hK tyJ4_ok nmJ4 3 eM9 rfl (by decide) (Or.inl (hts _ kw432)) (fun _ h9 => h9) (Or.inl rfl) rfl rfl dJ5_append_3fe6f_68 ?_
    refine w_iload_n hx hb dJ5_append_3fe6f_71 rfl (lv_at hl 1 rfl) ?_
    exact nomatch h
  have J5_append_3fe6f_J45p : ∀ (x0 : Nat) (x1 : Int32) (Mj : vMe) (ls : Array Slot), lv_has ls 2 [(0, .ref x0), (1, .int x1)] → tJ5_append_3fe6f_J45 M.2.1 M.2.2.1 x0 x1 Mj = some z → vV D p l e rmJ5_append_3fe6f s m args below meth c (Mj.2.1 - s.heap.size) (Mj.2.2.1 - vSum D.2.2.2.1 s.heap) Q Mj (F0 m 45 ls []) := by
    intro x0 x1 Mj ls hl h
    unfold tJ5_append_3fe6f_J45 at h
    refine w_aload_n hx hb dJ5_append_3fe6f_45 rfl (lv_at hl 0 rfl) ?_
    obtain ⟨g7, h⟩ := v_ifs h
    refine v_tight hb0 ?_
    obtain ⟨g8, h⟩ := v_ifs h
    obtain ⟨z5, ez5, h⟩ := v_bnd h
    refine v_call1 (v := .int z5) (M1 := Mj) (mc := 0) (ms := 0) (fun H locs hR hS => va_runU (As := []) (rest := []) ⟨hx, hb, hml, hown, hts⟩ (mJ5_isLatin1_aae02 l hfl D x0 Mj z5 ez5) (va_cwU 0 hts (gdU kw489 kw491 kw492 kw490 kw37 kw493) rfl rfl rfl rfl (by decide +kernel) ⟨Nat.le_of_ble_eq_true rfl, Nat.le_of_ble_eq_true rfl⟩) (v_preV (ci := 1) hSS hR hS g8 (by decide) rfl []) rfl rfl hl.1 rfl (lv_room (Nat.le_of_ble_eq_true rfl)) dJ5_append_3fe6f_46 ⟨by show _ + _ ≤ 1; omega, by show _ + _ ≤ 250; omega⟩) ?_
    refine w_if_eq (tgt := 56) hx hb dJ5_append_3fe6f_49 (by decide) (fun c6 => ?_) (fun c6 => ?_)
    · rw [if_pos c6] at h
      refine v_tight hb0 ?_
      exact J5_append_3fe6f_J56p x0 x1 Mj ls (lv_sub hl [0, 1] rfl) h
    · rw [if_neg c6] at h
      refine w_aload_n hx hb dJ5_append_3fe6f_52 rfl (lv_at hl 0 rfl) ?_
      exact nomatch h
  refine w_aload_n hx hb dJ5_append_3fe6f_0 rfl (lv_at hl 0 rfl) ?_
  refine w_aload_n hx hb dJ5_append_3fe6f_1 rfl (lv_at hl 0 rfl) ?_
  obtain ⟨v1, ev1, h⟩ := v_bnd h
  refine v_gI (ci := 1) hx hb hts iwJ4 hown hK 3 ev1 rfl (by decide) (Or.inl (hts _ kw432)) (fun _ h9 => h9) dJ5_append_3fe6f_2 ?_
  refine w_iconst (v := 1) hx hb dJ5_append_3fe6f_5 (by decide) ?_
  refine w_iadd hx hb dJ5_append_3fe6f_6 ?_
  obtain ⟨g7, h⟩ := v_ifs h
  refine v_tight hb0 ?_
  obtain ⟨g8, h⟩ := v_ifs h
  obtain ⟨z2, ez2, h⟩ := v_bnd h
  refine v_call0 (M1 := z2.2) (mc := 1) (ms := 250) (fun H locs hR hS => va_runU (As := [.int (v1 + 1)]) (rest := []) ⟨hx, hb, hml, hown, hts⟩ (mJ5_ensureCapacityInternal_d00df l hfl D x0 (v1 + 1) M z2 ez2) (va_cwU 1 hts (gdU kw454 kw1382 kwE0 kw456 kw37 kw457) rfl rfl rfl rfl (by decide +kernel) ⟨Nat.le_of_ble_eq_true rfl, Nat.le_of_ble_eq_true rfl⟩) (v_preV (ci := 1) hSS hR hS g8 (by decide) rfl [.int (v1 + 1)]) rfl rfl hl.1 rfl (lv_room (Nat.le_of_ble_eq_true rfl)) dJ5_append_3fe6f_7 ⟨by show _ + _ ≤ 1; omega, by show _ + _ ≤ 250; omega⟩) ?_
  refine w_aload_n hx hb dJ5_append_3fe6f_10 rfl (lv_at hl 0 rfl) ?_
  obtain ⟨g7, h⟩ := v_ifs h
  refine v_tight hb0 ?_
  obtain ⟨g8, h⟩ := v_ifs h
  obtain ⟨z3, ez3, h⟩ := v_bnd h
  refine v_call1 (v := .int z3) (M1 := z2.2) (mc := 0) (ms := 0) (fun H locs hR hS => va_runU (As := []) (rest := []) ⟨hx, hb, hml, hown, hts⟩ (mJ5_isLatin1_aae02 l hfl D x0 z2.2 z3 ez3) (va_cwU 0 hts (gdU kw489 kw491 kw492 kw490 kw37 kw493) rfl rfl rfl rfl (by decide +kernel) ⟨Nat.le_of_ble_eq_true rfl, Nat.le_of_ble_eq_true rfl⟩) (v_preV (ci := 1) hSS hR hS g8 (by decide) rfl []) rfl rfl hl.1 rfl (lv_room (Nat.le_of_ble_eq_true rfl)) dJ5_append_3fe6f_11 ⟨by show _ + _ ≤ 1; omega, by show _ + _ ≤ 250; omega⟩) ?_
  refine w_if_eq (tgt := 45) hx hb dJ5_append_3fe6f_14 (by decide) (fun c4 => ?_) (fun c4 => ?_)
  · rw [if_pos c4] at h
    refine v_tight hb0 ?_
    exact J5_append_3fe6f_J45p x0 x1 z2.2 ls (lv_sub hl [0, 1] rfl) h
  · rw [if_neg c4] at h
    refine w_iload_n hx hb dJ5_append_3fe6f_17 rfl (lv_at hl 1 rfl) ?_
    obtain ⟨g7, h⟩ := v_ifs h
    refine v_tight hb0 ?_
    obtain ⟨z10, ez10, h⟩ := v_bnd h
    refine v_call1 (v := .int z10) (M1 := z2.2) (mc := 0) (ms := 0) (fun H locs hR hS => va_runS (As := [.int x1]) (rest := []) ⟨hx, hb, hml, hown, hts⟩ (mJ1_canEncode_fc78d l hfl D x1 z2.2 z10 ez10) (va_cwS 1 hts (gdS kw669 kw670 kw46 kw671) rfl rfl rfl (by decide +kernel) ⟨Nat.le_of_ble_eq_true rfl, Nat.le_of_ble_eq_true rfl⟩) (v_preS hSS hR hS [.int x1]) rfl rfl hl.1 rfl (lv_room (Nat.le_of_ble_eq_true rfl)) dJ5_append_3fe6f_18 ⟨by show _ + _ ≤ 1; omega, by show _ + _ ≤ 250; omega⟩) ?_
    refine w_if_eq (tgt := 45) hx hb dJ5_append_3fe6f_21 (by decide) (fun c11 => ?_) (fun c11 => ?_)
    · rw [if_pos c11] at h
      refine v_tight hb0 ?_
      exact J5_append_3fe6f_J45p x0 x1 z2.2 ls (lv_sub hl [0, 1] rfl) h
    · rw [if_neg c11] at h
      refine w_aload_n hx hb dJ5_append_3fe6f_24 rfl (lv_at hl 0 rfl) ?_
      obtain ⟨a12, ea12, h⟩ := v_bnd h
      refine v_gA (ci := 1) hx hb hts iwJ4 hown hK 0 ea12 rfl (by decide) (Or.inl (hts _ kw429)) (fun _ h9 => h9) dJ5_append_3fe6f_25 ?_
      refine w_aload_n hx hb dJ5_append_3fe6f_28 rfl (lv_at hl 0 rfl) ?_
      refine w_dup hx hb dJ5_append_3fe6f_29 rfl ?_
      obtain ⟨v13, ev13, h⟩ := v_bnd h
      refine v_gI (ci := 1) hx hb hts iwJ4 hown hK 3 ev13 rfl (by decide) (Or.inl (hts _ kw432)) (fun _ h9 => h9) dJ5_append_3fe6f_30 ?_
      refine w_dup_x1 hx hb dJ5_append_3fe6f_33 rfl rfl ?_
      refine w_iconst (v := 1) hx hb dJ5_append_3fe6f_34 (by decide) ?_
      refine w_iadd hx hb dJ5_append_3fe6f_35 ?_
      obtain ⟨M14, eM14, h⟩ := v_bnd h
      refine v_putf (ci := 1) hx hb hts iwJ4 hown hK tyJ4_ok nmJ4 3 eM14 rfl (by decide) (Or.inl (hts _ kw432)) (fun _ h9 => h9) (Or.inl rfl) rfl rfl dJ5_append_3fe6f_36 ?_
      refine w_iload_n hx hb dJ5_append_3fe6f_39 rfl (lv_at hl 1 rfl) ?_
      refine w_i2b hx hb dJ5_append_3fe6f_40 ?_
      obtain ⟨M15, eM15, h⟩ := v_bnd h
      refine v_bast hx hb hK eM15 dJ5_append_3fe6f_41 ?_
      refine w_goto (tgt := 75) hx hb dJ5_append_3fe6f_42 (by decide) ?_
      refine w_aload_n hx hb dJ5_append_3fe6f_75 rfl (lv_at hl 0 rfl) ?_
      obtain ⟨g9, h⟩ := v_ifs h
      refine v_tight hb0 (vV.widen (n' := 1) (k' := 250) (by omega) (by omega) ?_)
      obtain rfl := Option.some.inj h
      rw [hQ]
      exact v_aret hx hb hr (Or.inl ⟨_, rfl⟩) (Or.inr ⟨_, rfl⟩) hlk dJ5_append_3fe6f_76

def tJ4_append_cf468 (x0 : Nat) (x1 : Int32) (M : vMe) : Option (Nat × vMe) :=
  if M.2.1 + 1 ≤ M.2.1 + 1 ∧ M.2.2.1 + 250 ≤ M.2.2.1 + 250 then
  (if (M.1 x0).1 = 2 then
  ((tJ5_append_3fe6f x0 x1 M).bind fun z1 =>
  if z1.2.2.1 ≤ M.2.1 + 1 ∧ z1.2.2.2.1 ≤ M.2.2.1 + 250 then some (x0, z1.2) else none)
else none)
else none
def rmJ4_append_cf468 : Room := { frames := 5, cells := 1, slots := 250, locals := 151 }
set_option maxHeartbeats 4000000 in
set_option maxRecDepth 100000 in
theorem mJ4_append_cf468 (l : Launch) (hfl : l.stackTraces = false) (D : vD) (x0 : Nat) (x1 : Int32) (M : vMe) (z : (Nat × vMe)) (h : tJ4_append_cf468 x0 x1 M = some z) : Met l yJ4_append_cf468 (Cond.code yJ4_append_cf468 cJ4_append_cf468 2 (some (.object "java/lang/StringBuilder")) :: TB) rmJ4_append_cf468 (va_Pc [.ref x0, .int x1] (vPre D M)) (qW D (some (.ref z.1)) z.2) 1 250 (vA D) := by
  refine v_ofW (cc := cJ4_append_cf468) (maxL := 2) (ret := (some (.object "java/lang/StringBuilder"))) (by decide) (Nat.le_of_ble_eq_true rfl) ?_
  intro p e s m args below meth c Q hx hb hr hml hown hts hlk hnm hSS hR0 hQ ls hl
  have hz0 := hR0.2.1
  have hs0 := hR0.2.2.1
  have hb0 : D.2.2.2.1 ≤ s.heap.size := hR0.2.2.2.2.1
  refine v_tight hb0 ?_
  have hK := hSS.1
  have hl : lv_has ls 2 [(0, .ref x0), (1, .int x1)] := hl
  unfold tJ4_append_cf468 at h
  refine w_aload_n hx hb dJ4_append_cf468_0 rfl (lv_at hl 0 rfl) ?_
  refine w_iload_n hx hb dJ4_append_cf468_1 rfl (lv_at hl 1 rfl) ?_
  obtain ⟨g7, h⟩ := v_ifs h
  refine v_tight hb0 ?_
  obtain ⟨g8, h⟩ := v_ifs h
  obtain ⟨z1, ez1, h⟩ := v_bnd h
  refine v_call1 (v := .ref z1.1) (M1 := z1.2) (mc := 1) (ms := 250) (fun H locs hR hS => va_runSU (As := [.int x1]) (rest := []) (hSS.1.1 1 _ rfl).2 ⟨hx, hb, hml, hown, hts⟩ (mJ5_append_3fe6f l hfl D x0 x1 M z1 ez1) (va_cwSU 1 hts (gdSU kw666 kw1389 kw441 kw667 kw37 kw668) rfl rfl rfl (by decide +kernel) ⟨Nat.le_of_ble_eq_true rfl, Nat.le_of_ble_eq_true rfl⟩) (v_preV (ci := 1) hSS hR hS g8 (by decide) rfl [.int x1]) rfl rfl hl.1 rfl (lv_room (Nat.le_of_ble_eq_true rfl)) dJ4_append_cf468_2 ⟨by show _ + _ ≤ 1; omega, by show _ + _ ≤ 250; omega⟩) ?_
  refine w_pop hx hb dJ4_append_cf468_5 rfl ?_
  refine w_aload_n hx hb dJ4_append_cf468_6 rfl (lv_at hl 0 rfl) ?_
  obtain ⟨g9, h⟩ := v_ifs h
  refine v_tight hb0 (vV.widen (n' := 1) (k' := 250) (by omega) (by omega) ?_)
  obtain rfl := Option.some.inj h
  rw [hQ]
  exact v_aret hx hb hr (Or.inl ⟨_, rfl⟩) (Or.inr ⟨_, rfl⟩) hlk dJ4_append_cf468_7

def tJ5_getValue_6d5f1 (x0 : Nat) (M : vMe) : Option Nat :=
  (gA M x0 2 0).bind fun a1 =>
  some a1
def rmJ5_getValue_6d5f1 : Room := { frames := 1, cells := 0, slots := 0, locals := 0 }
set_option maxHeartbeats 4000000 in
set_option maxRecDepth 100000 in
theorem mJ5_getValue_6d5f1 (l : Launch) (hfl : l.stackTraces = false) (D : vD) (x0 : Nat) (M : vMe) (z : Nat) (h : tJ5_getValue_6d5f1 x0 M = some z) : Met l yJ5_getValue_6d5f1 (Cond.code yJ5_getValue_6d5f1 cJ5_getValue_6d5f1 1 (some (.array .byte)) :: TB) rmJ5_getValue_6d5f1 (va_Pc [.ref x0] (vPre D M)) (qW D (some (.ref z)) M) 0 0 (vA D) := by
  refine v_ofW (cc := cJ5_getValue_6d5f1) (maxL := 1) (ret := (some (.array .byte))) (by decide) (Nat.le_of_ble_eq_true rfl) ?_
  intro p e s m args below meth c Q hx hb hr hml hown hts hlk hnm hSS hR0 hQ ls hl
  have hK := hSS.1
  have hl : lv_has ls 1 [(0, .ref x0)] := hl
  unfold tJ5_getValue_6d5f1 at h
  refine w_aload_n hx hb dJ5_getValue_6d5f1_0 rfl (lv_at hl 0 rfl) ?_
  obtain ⟨a1, ea1, h⟩ := v_bnd h
  refine v_gA (ci := 1) hx hb hts iwJ4 hown hK 0 ea1 rfl (by decide) (Or.inl (hts _ kw429)) (fun _ h9 => h9) dJ5_getValue_6d5f1_1 ?_
  obtain rfl := Option.some.inj h
  rw [hQ]
  exact v_aret hx hb hr (Or.inr ⟨_, rfl⟩) (Or.inr ⟨_, rfl⟩) hlk dJ5_getValue_6d5f1_4

def tJ5_length_8abf5 (x0 : Nat) (M : vMe) : Option Int32 :=
  (gI M x0 2 3).bind fun v1 =>
  some v1
def rmJ5_length_8abf5 : Room := { frames := 1, cells := 0, slots := 0, locals := 0 }
set_option maxHeartbeats 4000000 in
set_option maxRecDepth 100000 in
theorem mJ5_length_8abf5 (l : Launch) (hfl : l.stackTraces = false) (D : vD) (x0 : Nat) (M : vMe) (z : Int32) (h : tJ5_length_8abf5 x0 M = some z) : Met l yJ5_length_8abf5 (Cond.code yJ5_length_8abf5 cJ5_length_8abf5 1 (some .int) :: TB) rmJ5_length_8abf5 (va_Pc [.ref x0] (vPre D M)) (qW D (some (.int z)) M) 0 0 (vA D) := by
  refine v_ofW (cc := cJ5_length_8abf5) (maxL := 1) (ret := (some .int)) (by decide) (Nat.le_of_ble_eq_true rfl) ?_
  intro p e s m args below meth c Q hx hb hr hml hown hts hlk hnm hSS hR0 hQ ls hl
  have hK := hSS.1
  have hl : lv_has ls 1 [(0, .ref x0)] := hl
  unfold tJ5_length_8abf5 at h
  refine w_aload_n hx hb dJ5_length_8abf5_0 rfl (lv_at hl 0 rfl) ?_
  obtain ⟨v1, ev1, h⟩ := v_bnd h
  refine v_gI (ci := 1) hx hb hts iwJ4 hown hK 3 ev1 rfl (by decide) (Or.inl (hts _ kw432)) (fun _ h9 => h9) dJ5_length_8abf5_1 ?_
  obtain rfl := Option.some.inj h
  rw [hQ]
  exact v_iret hx hb hr hlk dJ5_length_8abf5_4

def tJ4_length_8abf5 (x0 : Nat) (M : vMe) : Option Int32 :=
  if (M.1 x0).1 = 2 then
  ((tJ5_length_8abf5 x0 M).bind fun z1 =>
  some z1)
else none
def rmJ4_length_8abf5 : Room := { frames := 2, cells := 0, slots := 0, locals := 20 }
set_option maxHeartbeats 4000000 in
set_option maxRecDepth 100000 in
theorem mJ4_length_8abf5 (l : Launch) (hfl : l.stackTraces = false) (D : vD) (x0 : Nat) (M : vMe) (z : Int32) (h : tJ4_length_8abf5 x0 M = some z) : Met l yJ4_length_8abf5 (Cond.code yJ4_length_8abf5 cJ4_length_8abf5 1 (some .int) :: TB) rmJ4_length_8abf5 (va_Pc [.ref x0] (vPre D M)) (qW D (some (.int z)) M) 0 0 (vA D) := by
  refine v_ofW (cc := cJ4_length_8abf5) (maxL := 1) (ret := (some .int)) (by decide) (Nat.le_of_ble_eq_true rfl) ?_
  intro p e s m args below meth c Q hx hb hr hml hown hts hlk hnm hSS hR0 hQ ls hl
  have hK := hSS.1
  have hl : lv_has ls 1 [(0, .ref x0)] := hl
  unfold tJ4_length_8abf5 at h
  refine w_aload_n hx hb dJ4_length_8abf5_0 rfl (lv_at hl 0 rfl) ?_
  obtain ⟨g8, h⟩ := v_ifs h
  obtain ⟨z1, ez1, h⟩ := v_bnd h
  refine v_call1 (v := .int z1) (M1 := M) (mc := 0) (ms := 0) (fun H locs hR hS => va_runSU (As := []) (rest := []) (hSS.1.1 1 _ rfl).2 ⟨hx, hb, hml, hown, hts⟩ (mJ5_length_8abf5 l hfl D x0 M z1 ez1) (va_cwSU 0 hts (gdSU kw614 kw610 kw441 kw609 kw37 kw615) rfl rfl rfl (by decide +kernel) ⟨Nat.le_of_ble_eq_true rfl, Nat.le_of_ble_eq_true rfl⟩) (v_preV (ci := 1) hSS hR hS g8 (by decide) rfl []) rfl rfl hl.1 rfl (lv_room (Nat.le_of_ble_eq_true rfl)) dJ4_length_8abf5_1 ⟨Nat.zero_le _, Nat.zero_le _⟩) ?_
  obtain rfl := Option.some.inj h
  rw [hQ]
  exact v_iret hx hb hr hlk dJ4_length_8abf5_4

def tJ7_checkLength_df160 (x0 : Int32) (x1 : Int32) (M : vMe) : Option (Unit × vMe) :=
  if x0 ≤ x1 then
  (some ((), M))
else
  (none)
def rmJ7_checkLength_df160 : Room := { frames := 1, cells := 0, slots := 0, locals := 0 }
set_option maxHeartbeats 4000000 in
set_option maxRecDepth 100000 in
theorem mJ7_checkLength_df160 (l : Launch) (hfl : l.stackTraces = false) (D : vD) (x0 : Int32) (x1 : Int32) (M : vMe) (z : (Unit × vMe)) (h : tJ7_checkLength_df160 x0 x1 M = some z) : Met l yJ7_checkLength_df160 (Cond.code yJ7_checkLength_df160 cJ7_checkLength_df160 2 none :: TB) rmJ7_checkLength_df160 (va_Pc [.int x0, .int x1] (vPre D M)) (qW D none z.2) 0 0 (vA D) := by
  refine v_ofW (cc := cJ7_checkLength_df160) (maxL := 2) (ret := none) (by decide) (Nat.le_of_ble_eq_true rfl) ?_
  intro p e s m args below meth c Q hx hb hr hml hown hts hlk hnm hSS hR0 hQ ls hl
  have hK := hSS.1
  have hl : lv_has ls 2 [(0, .int x0), (1, .int x1)] := hl
  unfold tJ7_checkLength_df160 at h
  refine w_iload_n hx hb dJ7_checkLength_df160_0 rfl (lv_at hl 1 rfl) ?_
  refine w_iload_n hx hb dJ7_checkLength_df160_1 rfl (lv_at hl 0 rfl) ?_
  refine w_icmp_ge (tgt := 37) hx hb dJ7_checkLength_df160_2 (by decide) (fun c1 => ?_) (fun c1 => ?_)
  · rw [if_pos c1] at h
    obtain rfl := Option.some.inj h
    rw [hQ]
    exact v_vret hx hb hr hlk dJ7_checkLength_df160_37
  · rw [if_neg c1] at h
    exact nomatch h

def tJ7_copyOfRangeByte_39247 (x0 : Nat) (x1 : Int32) (x2 : Int32) (M : vMe) : Option (Nat × vMe) :=
  if M.2.1 + 0 ≤ M.2.1 + 1 ∧ M.2.2.1 + 0 ≤ M.2.2.1 + 250 then
  ((tJ7_checkLength_df160 x1 x2 M).bind fun z1 =>
  if ¬ (x2 - x1) < 0 ∧ (x2 - x1).toNatClampNeg ≤ 65536 then
  ((nwO z1.2 102 (x2 - x1).toNatClampNeg (x2 - x1).toNatClampNeg (fun _ => .int 0) M.2.1 M.2.2.1 1 250).bind fun M2 =>
  (aN M2 x0 102).bind fun v3 =>
  if M2.2.1 ≤ M.2.1 + 1 ∧ M2.2.2.1 ≤ M.2.2.1 + 250 then
  ((cpA M2 x0 z1.2.2.1 102 x1 0 (if (x2 - x1) < (v3 - x1) then x2 - x1 else v3 - x1)).bind fun M4 =>
  if M4.2.1 ≤ M.2.1 + 1 ∧ M4.2.2.1 ≤ M.2.2.1 + 250 then some (z1.2.2.1, M4) else none)
else none)
else none)
else none
def rmJ7_copyOfRangeByte_39247 : Room := { frames := 2, cells := 1, slots := 250, locals := 60 }
set_option maxHeartbeats 4000000 in
set_option maxRecDepth 100000 in
theorem mJ7_copyOfRangeByte_39247 (l : Launch) (hfl : l.stackTraces = false) (D : vD) (x0 : Nat) (x1 : Int32) (x2 : Int32) (M : vMe) (z : (Nat × vMe)) (h : tJ7_copyOfRangeByte_39247 x0 x1 x2 M = some z) : Met l yJ7_copyOfRangeByte_39247 (Cond.code yJ7_copyOfRangeByte_39247 cJ7_copyOfRangeByte_39247 5 (some (.array .byte)) :: TB) rmJ7_copyOfRangeByte_39247 (va_Pc [.ref x0, .int x1, .int x2] (vPre D M)) (qW D (some (.ref z.1)) z.2) 1 250 (vA D) := by
  refine v_ofW (cc := cJ7_copyOfRangeByte_39247) (maxL := 5) (ret := (some (.array .byte))) (by decide) (Nat.le_of_ble_eq_true rfl) ?_
  intro p e s m args below meth c Q hx hb hr hml hown hts hlk hnm hSS hR0 hQ ls hl
  have hz0 := hR0.2.1
  have hs0 := hR0.2.2.1
  have hb0 : D.2.2.2.1 ≤ s.heap.size := hR0.2.2.2.2.1
  refine v_tight hb0 ?_
  have hK := hSS.1
  have hl : lv_has ls 5 [(0, .ref x0), (1, .int x1), (2, .int x2)] := hl
  unfold tJ7_copyOfRangeByte_39247 at h
  refine w_iload_n hx hb dJ7_copyOfRangeByte_39247_0 rfl (lv_at hl 1 rfl) ?_
  refine w_iload_n hx hb dJ7_copyOfRangeByte_39247_1 rfl (lv_at hl 2 rfl) ?_
  obtain ⟨g7, h⟩ := v_ifs h
  refine v_tight hb0 ?_
  obtain ⟨z1, ez1, h⟩ := v_bnd h
  refine v_call0 (M1 := z1.2) (mc := 0) (ms := 0) (fun H locs hR hS => va_runS (As := [.int x1, .int x2]) (rest := []) ⟨hx, hb, hml, hown, hts⟩ (mJ7_checkLength_df160 l hfl D x1 x2 M z1 ez1) (va_cwS 2 hts (gdS kw623 kw624 kw43 kw625) rfl rfl rfl (by decide +kernel) ⟨Nat.le_of_ble_eq_true rfl, Nat.le_of_ble_eq_true rfl⟩) (v_preS hSS hR hS [.int x1, .int x2]) rfl rfl hl.1 rfl (lv_room (Nat.le_of_ble_eq_true rfl)) dJ7_copyOfRangeByte_39247_2 ⟨by show _ + _ ≤ 1; omega, by show _ + _ ≤ 250; omega⟩) ?_
  refine w_iload_n hx hb dJ7_copyOfRangeByte_39247_5 rfl (lv_at hl 2 rfl) ?_
  refine w_iload_n hx hb dJ7_copyOfRangeByte_39247_6 rfl (lv_at hl 1 rfl) ?_
  refine w_isub hx hb dJ7_copyOfRangeByte_39247_7 ?_
  refine w_istore_n (lv' := [(3, .int (x2 - x1)), (0, .ref x0), (1, .int x1), (2, .int x2)]) hx hb dJ7_copyOfRangeByte_39247_8 rfl hl (by decide) rfl (fun ls hl => ?_)
  have hl : lv_has ls 5 [(0, .ref x0), (1, .int x1), (2, .int x2), (3, .int (x2 - x1))] := lv_sub hl [1, 2, 3, 0] rfl
  refine w_iload_n hx hb dJ7_copyOfRangeByte_39247_9 rfl (lv_at hl 3 rfl) ?_
  obtain ⟨g8, h⟩ := v_ifs h
  obtain ⟨M2, eM2, h⟩ := v_bnd h
  refine u_newa (x := x2 - x1) (atype := .byte) hx hb hK (hts _ kw83) (by decide) g8.1 rfl (Nat.le_trans (Nat.mul_le_mul_right _ g8.2) (by decide)) (v_nclt _) (by decide) hb0 hz0 hs0 rfl rfl eM2 dJ7_copyOfRangeByte_39247_10 ?_
  refine w_astore (lv' := [(4, .ref z1.2.2.1), (0, .ref x0), (1, .int x1), (2, .int x2), (3, .int (x2 - x1))]) hx hb dJ7_copyOfRangeByte_39247_12 hl (by decide) rfl (fun ls hl => ?_)
  have hl : lv_has ls 5 [(0, .ref x0), (1, .int x1), (2, .int x2), (3, .int (x2 - x1)), (4, .ref z1.2.2.1)] := lv_sub hl [1, 2, 3, 4, 0] rfl
  refine w_aload_n hx hb dJ7_copyOfRangeByte_39247_14 rfl (lv_at hl 0 rfl) ?_
  refine w_iload_n hx hb dJ7_copyOfRangeByte_39247_15 rfl (lv_at hl 1 rfl) ?_
  refine w_aload hx hb dJ7_copyOfRangeByte_39247_16 (lv_at hl 4 rfl) ?_
  refine w_iconst (v := 0) hx hb dJ7_copyOfRangeByte_39247_18 (by decide) ?_
  refine w_aload_n hx hb dJ7_copyOfRangeByte_39247_19 rfl (lv_at hl 0 rfl) ?_
  obtain ⟨v3, ev3, h⟩ := v_bnd h
  refine v_alen hx hb hK ev3 (by decide) dJ7_copyOfRangeByte_39247_20 ?_
  refine w_iload_n hx hb dJ7_copyOfRangeByte_39247_21 rfl (lv_at hl 1 rfl) ?_
  refine w_isub hx hb dJ7_copyOfRangeByte_39247_22 ?_
  refine w_iload_n hx hb dJ7_copyOfRangeByte_39247_23 rfl (lv_at hl 3 rfl) ?_
  obtain ⟨g9, h⟩ := v_ifs h
  refine v_tight hb0 ?_
  refine w_min hx hb (hml.trans hl.1.symm) hown (hts _ kw483) (hts _ kw484) (hts _ kw42) (hts _ kw485) (Nat.le_of_ble_eq_true rfl) (Nat.le_of_ble_eq_true rfl) (by show _ ≤ 1; omega) (by show _ ≤ 250; omega) dJ7_copyOfRangeByte_39247_24 ?_
  obtain ⟨M4, eM4, h⟩ := v_bnd h
  refine v_copy hx hb (hml.trans hl.1.symm) hown hK (hts _ kw486) (hts _ kw488) (hts _ kw487) (hts _ kw44) eM4 v_cpB (Nat.le_of_ble_eq_true rfl) (Nat.le_of_ble_eq_true rfl) dJ7_copyOfRangeByte_39247_27 ?_
  refine w_aload hx hb dJ7_copyOfRangeByte_39247_30 (lv_at hl 4 rfl) ?_
  obtain ⟨g9, h⟩ := v_ifs h
  refine v_tight hb0 (vV.widen (n' := 1) (k' := 250) (by omega) (by omega) ?_)
  obtain rfl := Option.some.inj h
  rw [hQ]
  exact v_aret hx hb hr (Or.inr ⟨_, rfl⟩) (Or.inr ⟨_, rfl⟩) hlk dJ7_copyOfRangeByte_39247_32

def tJ7_copyOfRange_39247_J10 (n0 s0 : Nat) (x0 : Nat) (x1 : Int32) (x2 : Int32) (Mj : vMe) : Option (Nat × vMe) :=
  if Mj.2.1 + 1 ≤ n0 + 1 ∧ Mj.2.2.1 + 250 ≤ s0 + 250 then
  ((tJ7_copyOfRangeByte_39247 x0 x1 x2 Mj).bind fun z5 =>
  if z5.2.2.1 ≤ n0 + 1 ∧ z5.2.2.2.1 ≤ s0 + 250 then some (z5.1, z5.2) else none)
else none
def tJ7_copyOfRange_39247 (x0 : Nat) (x1 : Int32) (x2 : Int32) (M : vMe) : Option (Nat × vMe) :=
  if x1 = 0 then
  ((aN M x0 102).bind fun v2 =>
  if x2 = v2 then
  ((clA M x0 M.2.1 M.2.2.1 1 250).bind fun M4 =>
  if M4.2.1 ≤ M.2.1 + 1 ∧ M4.2.2.1 ≤ M.2.2.1 + 250 then some (M.2.1, M4) else none)
else
  (tJ7_copyOfRange_39247_J10 M.2.1 M.2.2.1 x0 x1 x2 M))
else
  (tJ7_copyOfRange_39247_J10 M.2.1 M.2.2.1 x0 x1 x2 M)
def rmJ7_copyOfRange_39247 : Room := { frames := 3, cells := 1, slots := 250, locals := 84 }
set_option maxHeartbeats 4000000 in
set_option maxRecDepth 100000 in
theorem mJ7_copyOfRange_39247 (l : Launch) (hfl : l.stackTraces = false) (D : vD) (x0 : Nat) (x1 : Int32) (x2 : Int32) (M : vMe) (z : (Nat × vMe)) (h : tJ7_copyOfRange_39247 x0 x1 x2 M = some z) : Met l yJ7_copyOfRange_39247 (Cond.code yJ7_copyOfRange_39247 cJ7_copyOfRange_39247 3 (some (.array .byte)) :: TB) rmJ7_copyOfRange_39247 (va_Pc [.ref x0, .int x1, .int x2] (vPre D M)) (qW D (some (.ref z.1)) z.2) 1 250 (vA D) := by
  refine v_ofW (cc := cJ7_copyOfRange_39247) (maxL := 3) (ret := (some (.array .byte))) (by decide) (Nat.le_of_ble_eq_true rfl) ?_
  intro p e s m args below meth c Q hx hb hr hml hown hts hlk hnm hSS hR0 hQ ls hl
  have hz0 := hR0.2.1
  have hs0 := hR0.2.2.1
  have hb0 : D.2.2.2.1 ≤ s.heap.size := hR0.2.2.2.2.1
  refine v_tight hb0 ?_
  have hK := hSS.1
  have hl : lv_has ls 3 [(0, .ref x0), (1, .int x1), (2, .int x2)] := hl
  unfold tJ7_copyOfRange_39247 at h
  have J7_copyOfRange_39247_J10p : ∀ (x0 : Nat) (x1 : Int32) (x2 : Int32) (Mj : vMe) (ls : Array Slot), lv_has ls 3 [(0, .ref x0), (1, .int x1), (2, .int x2)] → tJ7_copyOfRange_39247_J10 M.2.1 M.2.2.1 x0 x1 x2 Mj = some z → vV D p l e rmJ7_copyOfRange_39247 s m args below meth c (Mj.2.1 - s.heap.size) (Mj.2.2.1 - vSum D.2.2.2.1 s.heap) Q Mj (F0 m 10 ls []) := by
    intro x0 x1 x2 Mj ls hl h
    unfold tJ7_copyOfRange_39247_J10 at h
    refine w_aload_n hx hb dJ7_copyOfRange_39247_10 rfl (lv_at hl 0 rfl) ?_
    refine w_iload_n hx hb dJ7_copyOfRange_39247_11 rfl (lv_at hl 1 rfl) ?_
    refine w_iload_n hx hb dJ7_copyOfRange_39247_12 rfl (lv_at hl 2 rfl) ?_
    obtain ⟨g7, h⟩ := v_ifs h
    refine v_tight hb0 ?_
    obtain ⟨z5, ez5, h⟩ := v_bnd h
    refine v_call1 (v := .ref z5.1) (M1 := z5.2) (mc := 1) (ms := 250) (fun H locs hR hS => va_runS (As := [.ref x0, .int x1, .int x2]) (rest := []) ⟨hx, hb, hml, hown, hts⟩ (mJ7_copyOfRangeByte_39247 l hfl D x0 x1 x2 Mj z5 ez5) (va_cwS 3 hts (gdS kw620 kw621 kw43 kw622) rfl rfl rfl (by decide +kernel) ⟨Nat.le_of_ble_eq_true rfl, Nat.le_of_ble_eq_true rfl⟩) (v_preS hSS hR hS [.ref x0, .int x1, .int x2]) rfl rfl hl.1 rfl (lv_room (Nat.le_of_ble_eq_true rfl)) dJ7_copyOfRange_39247_13 ⟨by show _ + _ ≤ 1; omega, by show _ + _ ≤ 250; omega⟩) ?_
    obtain ⟨g9, h⟩ := v_ifs h
    refine v_tight hb0 (vV.widen (n' := 1) (k' := 250) (by omega) (by omega) ?_)
    obtain rfl := Option.some.inj h
    rw [hQ]
    exact v_aret hx hb hr (Or.inr ⟨_, rfl⟩) (Or.inr ⟨_, rfl⟩) hlk dJ7_copyOfRange_39247_16
  refine w_iload_n hx hb dJ7_copyOfRange_39247_0 rfl (lv_at hl 1 rfl) ?_
  refine w_if_ne (tgt := 10) hx hb dJ7_copyOfRange_39247_1 (by decide) (fun c1 => ?_) (fun c1 => ?_)
  · rw [if_pos c1] at h
    refine w_iload_n hx hb dJ7_copyOfRange_39247_4 rfl (lv_at hl 2 rfl) ?_
    refine w_aload_n hx hb dJ7_copyOfRange_39247_5 rfl (lv_at hl 0 rfl) ?_
    obtain ⟨v2, ev2, h⟩ := v_bnd h
    refine v_alen hx hb hK ev2 (by decide) dJ7_copyOfRange_39247_6 ?_
    refine w_icmp_eq (tgt := 17) hx hb dJ7_copyOfRange_39247_7 (by decide) (fun c3 => ?_) (fun c3 => ?_)
    · rw [if_pos c3] at h
      refine w_aload_n hx hb dJ7_copyOfRange_39247_17 rfl (lv_at hl 0 rfl) ?_
      obtain ⟨M4, eM4, h⟩ := v_bnd h
      refine u_clone hx hb (hml.trans hl.1.symm) hown hK (hts _ kw476) (hts _ kw477) (hts _ kw478) (hts _ kw479) (hts _ kw480) (va_Nw.use (A := args) rfl hSS.2.2.2.2.2.2.2.2.2.2.2.2.2.2) hb0 hz0 hs0 rfl rfl eM4 (Nat.le_of_ble_eq_true rfl) (Nat.le_of_ble_eq_true rfl) dJ7_copyOfRange_39247_18 ?_
      refine v_castB hx hb hown hK (hts _ kw482) (clA_tag eM4) dJ7_copyOfRange_39247_21 ?_
      obtain ⟨g9, h⟩ := v_ifs h
      refine v_tight hb0 (vV.widen (n' := 1) (k' := 250) (by omega) (by omega) ?_)
      obtain rfl := Option.some.inj h
      rw [hQ]
      exact v_aret hx hb hr (Or.inr ⟨_, rfl⟩) (Or.inr ⟨_, rfl⟩) hlk dJ7_copyOfRange_39247_24
    · rw [if_neg c3] at h
      refine v_tight hb0 ?_
      exact J7_copyOfRange_39247_J10p x0 x1 x2 M ls (lv_sub hl [0, 1, 2] rfl) h
  · rw [if_neg c1] at h
    refine v_tight hb0 ?_
    exact J7_copyOfRange_39247_J10p x0 x1 x2 M ls (lv_sub hl [0, 1, 2] rfl) h

def tJ0_init_db425_J79 (n0 s0 : Nat) (x0 : Nat) (x3 : Nat) (x4 : Int32) (Mj : vMe) : Option (Unit × vMe) :=
  (sV Mj x0 1 1 (.int 1)).bind fun M6 =>
  if M6.2.1 + 1 ≤ n0 + 1 ∧ M6.2.2.1 + 250 ≤ s0 + 250 then
  ((tJ7_copyOfRange_39247 x3 0 (x4 <<< (1 &&& 31)) M6).bind fun z7 =>
  (sV z7.2 x0 1 0 (.ref z7.1)).bind fun M8 =>
  if M8.2.1 ≤ n0 + 1 ∧ M8.2.2.1 ≤ s0 + 250 then some ((), M8) else none)
else none
def tJ0_init_db425 (x0 : Nat) (x1 : Nat) (M : vMe) : Option (Unit × vMe) :=
  if M.2.1 + 0 ≤ M.2.1 + 1 ∧ M.2.2.1 + 0 ≤ M.2.2.1 + 250 then
  (if (M.1 x1).1 = 2 then
  ((tJ5_getValue_6d5f1 x1 M).bind fun z1 =>
  if M.2.1 + 0 ≤ M.2.1 + 1 ∧ M.2.2.1 + 0 ≤ M.2.2.1 + 250 then
  (if (M.1 x1).1 = 2 then
  ((tJ4_length_8abf5 x1 M).bind fun z2 =>
  if M.2.1 + 0 ≤ M.2.1 + 1 ∧ M.2.2.1 + 0 ≤ M.2.2.1 + 250 then
  (if (M.1 x1).1 = 2 then
  ((tJ5_isLatin1_aae02 x1 M).bind fun z3 =>
  if z3 = 0 then
  (if (1 : Int32) = 0 then
  (tJ0_init_db425_J79 M.2.1 M.2.2.1 x0 z1 z2 M)
else
  ((gI M x1 2 2).bind fun v9 =>
  if v9 = 0 then
  (tJ0_init_db425_J79 M.2.1 M.2.2.1 x0 z1 z2 M)
else
  (none)))
else
  ((sV M x0 1 1 (.int 0)).bind fun M11 =>
  if M11.2.1 + 1 ≤ M.2.1 + 1 ∧ M11.2.2.1 + 250 ≤ M.2.2.1 + 250 then
  ((tJ7_copyOfRange_39247 z1 0 z2 M11).bind fun z12 =>
  (sV z12.2 x0 1 0 (.ref z12.1)).bind fun M13 =>
  if M13.2.1 ≤ M.2.1 + 1 ∧ M13.2.2.1 ≤ M.2.2.1 + 250 then some ((), M13) else none)
else none))
else none)
else none)
else none)
else none)
else none)
else none
def rmJ0_init_db425 : Room := { frames := 4, cells := 1, slots := 250, locals := 106 }
set_option maxHeartbeats 4000000 in
set_option maxRecDepth 100000 in
theorem mJ0_init_db425 (l : Launch) (hfl : l.stackTraces = false) (D : vD) (x0 : Nat) (x1 : Nat) (M : vMe) (z : (Unit × vMe)) (h : tJ0_init_db425 x0 x1 M = some z) : Met l yJ0_init_db425 (Cond.code yJ0_init_db425 cJ0_init_db425 5 none :: TB) rmJ0_init_db425 (va_Pc [.ref x0, .ref x1, .null] (vPre D M)) (qW D none z.2) 1 250 (vA D) := by
  refine v_ofW (cc := cJ0_init_db425) (maxL := 5) (ret := none) (by decide) (Nat.le_of_ble_eq_true rfl) ?_
  intro p e s m args below meth c Q hx hb hr hml hown hts hlk hnm hSS hR0 hQ ls hl
  have hz0 := hR0.2.1
  have hs0 := hR0.2.2.1
  have hb0 : D.2.2.2.1 ≤ s.heap.size := hR0.2.2.2.2.1
  refine v_tight hb0 ?_
  have hK := hSS.1
  have hl : lv_has ls 5 [(0, .ref x0), (1, .ref x1), (2, .null)] := hl
  unfold tJ0_init_db425 at h
  have J0_init_db425_J79p : ∀ (x0 : Nat) (x3 : Nat) (x4 : Int32) (Mj : vMe) (ls : Array Slot), lv_has ls 5 [(0, .ref x0), (3, .ref x3), (4, .int x4)] → tJ0_init_db425_J79 M.2.1 M.2.2.1 x0 x3 x4 Mj = some z → vV D p l e rmJ0_init_db425 s m args below meth c (Mj.2.1 - s.heap.size) (Mj.2.2.1 - vSum D.2.2.2.1 s.heap) Q Mj (F0 m 79 ls []) := by
    intro x0 x3 x4 Mj ls hl h
    unfold tJ0_init_db425_J79 at h
    refine w_aload_n hx hb dJ0_init_db425_79 rfl (lv_at hl 0 rfl) ?_
    refine w_iconst (v := 1) hx hb dJ0_init_db425_80 (by decide) ?_
    obtain ⟨M6, eM6, h⟩ := v_bnd h
    refine v_putf (ci := 0) hx hb hts iwJ0 hown hK (fun i hi => tyJ0_ok i (by omega)) (fun a ha b hb => nmJ0 a (by omega) b (by omega)) 1 eM6 rfl (by decide) (Or.inl (hts _ kw640)) (fun _ h9 => h9) (Or.inr ⟨rfl, hnm, rfl, (hts _ kw640)⟩) (by decide) (by decide) dJ0_init_db425_81 ?_
    refine w_aload_n hx hb dJ0_init_db425_84 rfl (lv_at hl 0 rfl) ?_
    refine w_aload_n hx hb dJ0_init_db425_85 rfl (lv_at hl 1 rfl) ?_
    refine w_iconst (v := 0) hx hb dJ0_init_db425_86 (by decide) ?_
    refine w_iload hx hb dJ0_init_db425_87 (lv_at hl 2 rfl) ?_
    refine w_iconst (v := 1) hx hb dJ0_init_db425_89 (by decide) ?_
    refine w_ishl hx hb dJ0_init_db425_90 ?_
    obtain ⟨g7, h⟩ := v_ifs h
    refine v_tight hb0 ?_
    obtain ⟨z7, ez7, h⟩ := v_bnd h
    refine v_call1 (v := .ref z7.1) (M1 := z7.2) (mc := 1) (ms := 250) (fun H locs hR hS => va_runS (As := [.ref x3, .int 0, .int (x4 <<< (1 &&& 31))]) (rest := [.ref x0]) ⟨hx, hb, hml, hown, hts⟩ (mJ7_copyOfRange_39247 l hfl D x3 0 (x4 <<< (1 &&& 31)) M6 z7 ez7) (va_cwS 3 hts (gdS kw617 kw618 kw43 kw619) rfl rfl rfl (by decide +kernel) ⟨Nat.le_of_ble_eq_true rfl, Nat.le_of_ble_eq_true rfl⟩) (v_preS hSS hR hS [.ref x3, .int 0, .int (x4 <<< (1 &&& 31))]) rfl rfl hl.1 rfl (lv_room (Nat.le_of_ble_eq_true rfl)) dJ0_init_db425_91 ⟨by show _ + _ ≤ 1; omega, by show _ + _ ≤ 250; omega⟩) ?_
    obtain ⟨M8, eM8, h⟩ := v_bnd h
    refine v_putf (ci := 0) hx hb hts iwJ0 hown hK (fun i hi => tyJ0_ok i (by omega)) (fun a ha b hb => nmJ0 a (by omega) b (by omega)) 0 eM8 rfl (by decide) (Or.inl (hts _ kw639)) (fun _ h9 => h9) (Or.inr ⟨rfl, hnm, rfl, (hts _ kw639)⟩) rfl rfl dJ0_init_db425_94 ?_
    obtain ⟨g9, h⟩ := v_ifs h
    refine v_tight hb0 (vV.widen (n' := 1) (k' := 250) (by omega) (by omega) ?_)
    obtain rfl := Option.some.inj h
    rw [hQ]
    exact v_vret hx hb hr hlk dJ0_init_db425_97
  refine w_aload_n hx hb dJ0_init_db425_0 rfl (lv_at hl 0 rfl) ?_
  refine v_objInit hx hb hown (hts _ kw602) (hts _ kw66) (hts _ kw67) (hl.1.trans hml.symm) dJ0_init_db425_1 (Nat.le_of_ble_eq_true rfl) (Nat.le_of_ble_eq_true rfl) ?_
  refine w_aload_n hx hb dJ0_init_db425_4 rfl (lv_at hl 1 rfl) ?_
  obtain ⟨g7, h⟩ := v_ifs h
  refine v_tight hb0 ?_
  obtain ⟨g8, h⟩ := v_ifs h
  obtain ⟨z1, ez1, h⟩ := v_bnd h
  refine v_call1 (v := .ref z1) (M1 := M) (mc := 0) (ms := 0) (fun H locs hR hS => va_runU (As := []) (rest := []) ⟨hx, hb, hml, hown, hts⟩ (mJ5_getValue_6d5f1 l hfl D x1 M z1 ez1) (va_cwU 0 hts (gdU kw603 kw605 kw606 kw604 kw37 kw607) rfl rfl rfl rfl (by decide +kernel) ⟨Nat.le_of_ble_eq_true rfl, Nat.le_of_ble_eq_true rfl⟩) (v_preV (ci := 1) hSS hR hS g8 (by decide) rfl []) rfl rfl hl.1 rfl (lv_room (Nat.le_of_ble_eq_true rfl)) dJ0_init_db425_5 ⟨by show _ + _ ≤ 1; omega, by show _ + _ ≤ 250; omega⟩) ?_
  refine w_astore_n (lv' := [(3, .ref z1), (0, .ref x0), (1, .ref x1), (2, .null)]) hx hb dJ0_init_db425_8 rfl hl (by decide) rfl (fun ls hl => ?_)
  have hl : lv_has ls 5 [(0, .ref x0), (1, .ref x1), (2, .null), (3, .ref z1)] := lv_sub hl [1, 2, 3, 0] rfl
  refine w_aload_n hx hb dJ0_init_db425_9 rfl (lv_at hl 1 rfl) ?_
  obtain ⟨g7, h⟩ := v_ifs h
  refine v_tight hb0 ?_
  obtain ⟨g8, h⟩ := v_ifs h
  obtain ⟨z2, ez2, h⟩ := v_bnd h
  refine v_call1 (v := .int z2) (M1 := M) (mc := 0) (ms := 0) (fun H locs hR hS => va_runU (As := []) (rest := []) ⟨hx, hb, hml, hown, hts⟩ (mJ4_length_8abf5 l hfl D x1 M z2 ez2) (va_cwO 0 hts (gdO kw608 kw610 kw609 kw611 kw612 kw38 kw613) rfl rfl rfl kw615 (by decide +kernel) ⟨Nat.le_of_ble_eq_true rfl, Nat.le_of_ble_eq_true rfl⟩) (v_preV (ci := 1) hSS hR hS g8 (by decide) rfl []) rfl rfl hl.1 rfl (lv_room (Nat.le_of_ble_eq_true rfl)) dJ0_init_db425_10 ⟨by show _ + _ ≤ 1; omega, by show _ + _ ≤ 250; omega⟩) ?_
  refine w_istore (lv' := [(4, .int z2), (0, .ref x0), (1, .ref x1), (2, .null), (3, .ref z1)]) hx hb dJ0_init_db425_13 hl (by decide) rfl (fun ls hl => ?_)
  have hl : lv_has ls 5 [(0, .ref x0), (1, .ref x1), (2, .null), (3, .ref z1), (4, .int z2)] := lv_sub hl [1, 2, 3, 4, 0] rfl
  refine w_aload_n hx hb dJ0_init_db425_15 rfl (lv_at hl 1 rfl) ?_
  obtain ⟨g7, h⟩ := v_ifs h
  refine v_tight hb0 ?_
  obtain ⟨g8, h⟩ := v_ifs h
  obtain ⟨z3, ez3, h⟩ := v_bnd h
  refine v_call1 (v := .int z3) (M1 := M) (mc := 0) (ms := 0) (fun H locs hR hS => va_runU (As := []) (rest := []) ⟨hx, hb, hml, hown, hts⟩ (mJ5_isLatin1_aae02 l hfl D x1 M z3 ez3) (va_cwU 0 hts (gdU kw616 kw491 kw492 kw490 kw37 kw493) rfl rfl rfl rfl (by decide +kernel) ⟨Nat.le_of_ble_eq_true rfl, Nat.le_of_ble_eq_true rfl⟩) (v_preV (ci := 1) hSS hR hS g8 (by decide) rfl []) rfl rfl hl.1 rfl (lv_room (Nat.le_of_ble_eq_true rfl)) dJ0_init_db425_16 ⟨by show _ + _ ≤ 1; omega, by show _ + _ ≤ 250; omega⟩) ?_
  refine w_if_eq (tgt := 41) hx hb dJ0_init_db425_19 (by decide) (fun c4 => ?_) (fun c4 => ?_)
  · rw [if_pos c4] at h
    refine w_gets hx hb hSS.2.2.2.2.1 hown (hts _ kw528) (fun _ h9 => h9) dJ0_init_db425_41 ?_
    refine w_if_eq (tgt := 79) hx hb dJ0_init_db425_44 (by decide) (fun c5 => ?_) (fun c5 => ?_)
    · rw [if_pos c5] at h
      refine v_tight hb0 ?_
      exact J0_init_db425_J79p x0 z1 z2 M ls (lv_sub hl [0, 3, 4] rfl) h
    · rw [if_neg c5] at h
      refine w_aload_n hx hb dJ0_init_db425_47 rfl (lv_at hl 1 rfl) ?_
      obtain ⟨v9, ev9, h⟩ := v_bnd h
      refine v_gI (ci := 1) hx hb hts iwJ4 hown hK 2 ev9 rfl (by decide) (Or.inl (hts _ kw431)) (fun _ h9 => h9) dJ0_init_db425_48 ?_
      refine w_if_eq (tgt := 79) hx hb dJ0_init_db425_51 (by decide) (fun c10 => ?_) (fun c10 => ?_)
      · rw [if_pos c10] at h
        refine v_tight hb0 ?_
        exact J0_init_db425_J79p x0 z1 z2 M ls (lv_sub hl [0, 3, 4] rfl) h
      · rw [if_neg c10] at h
        refine w_aload_n hx hb dJ0_init_db425_54 rfl (lv_at hl 0 rfl) ?_
        refine w_aload_n hx hb dJ0_init_db425_55 rfl (lv_at hl 3 rfl) ?_
        refine w_iconst (v := 0) hx hb dJ0_init_db425_56 (by decide) ?_
        refine w_iload hx hb dJ0_init_db425_57 (lv_at hl 4 rfl) ?_
        exact nomatch h
  · rw [if_neg c4] at h
    refine w_aload_n hx hb dJ0_init_db425_22 rfl (lv_at hl 0 rfl) ?_
    refine w_iconst (v := 0) hx hb dJ0_init_db425_23 (by decide) ?_
    obtain ⟨M11, eM11, h⟩ := v_bnd h
    refine v_putf (ci := 0) hx hb hts iwJ0 hown hK (fun i hi => tyJ0_ok i (by omega)) (fun a ha b hb => nmJ0 a (by omega) b (by omega)) 1 eM11 rfl (by decide) (Or.inl (hts _ kw640)) (fun _ h9 => h9) (Or.inr ⟨rfl, hnm, rfl, (hts _ kw640)⟩) (by decide) (by decide) dJ0_init_db425_24 ?_
    refine w_aload_n hx hb dJ0_init_db425_27 rfl (lv_at hl 0 rfl) ?_
    refine w_aload_n hx hb dJ0_init_db425_28 rfl (lv_at hl 3 rfl) ?_
    refine w_iconst (v := 0) hx hb dJ0_init_db425_29 (by decide) ?_
    refine w_iload hx hb dJ0_init_db425_30 (lv_at hl 4 rfl) ?_
    obtain ⟨g7, h⟩ := v_ifs h
    refine v_tight hb0 ?_
    obtain ⟨z12, ez12, h⟩ := v_bnd h
    refine v_call1 (v := .ref z12.1) (M1 := z12.2) (mc := 1) (ms := 250) (fun H locs hR hS => va_runS (As := [.ref z1, .int 0, .int z2]) (rest := [.ref x0]) ⟨hx, hb, hml, hown, hts⟩ (mJ7_copyOfRange_39247 l hfl D z1 0 z2 M11 z12 ez12) (va_cwS 3 hts (gdS kw617 kw618 kw43 kw619) rfl rfl rfl (by decide +kernel) ⟨Nat.le_of_ble_eq_true rfl, Nat.le_of_ble_eq_true rfl⟩) (v_preS hSS hR hS [.ref z1, .int 0, .int z2]) rfl rfl hl.1 rfl (lv_room (Nat.le_of_ble_eq_true rfl)) dJ0_init_db425_32 ⟨by show _ + _ ≤ 1; omega, by show _ + _ ≤ 250; omega⟩) ?_
    obtain ⟨M13, eM13, h⟩ := v_bnd h
    refine v_putf (ci := 0) hx hb hts iwJ0 hown hK (fun i hi => tyJ0_ok i (by omega)) (fun a ha b hb => nmJ0 a (by omega) b (by omega)) 0 eM13 rfl (by decide) (Or.inl (hts _ kw639)) (fun _ h9 => h9) (Or.inr ⟨rfl, hnm, rfl, (hts _ kw639)⟩) rfl rfl dJ0_init_db425_35 ?_
    refine w_goto (tgt := 97) hx hb dJ0_init_db425_38 (by decide) ?_
    obtain ⟨g9, h⟩ := v_ifs h
    refine v_tight hb0 (vV.widen (n' := 1) (k' := 250) (by omega) (by omega) ?_)
    obtain rfl := Option.some.inj h
    rw [hQ]
    exact v_vret hx hb hr hlk dJ0_init_db425_97

def tJ0_init_81219 (x0 : Nat) (x1 : Nat) (M : vMe) : Option (Unit × vMe) :=
  if M.2.1 + 1 ≤ M.2.1 + 1 ∧ M.2.2.1 + 250 ≤ M.2.2.1 + 250 then
  ((tJ0_init_db425 x0 x1 M).bind fun z1 =>
  if z1.2.2.1 ≤ M.2.1 + 1 ∧ z1.2.2.2.1 ≤ M.2.2.1 + 250 then some ((), z1.2) else none)
else none
def rmJ0_init_81219 : Room := { frames := 5, cells := 1, slots := 250, locals := 130 }
set_option maxHeartbeats 4000000 in
set_option maxRecDepth 100000 in
theorem mJ0_init_81219 (l : Launch) (hfl : l.stackTraces = false) (D : vD) (x0 : Nat) (x1 : Nat) (M : vMe) (z : (Unit × vMe)) (h : tJ0_init_81219 x0 x1 M = some z) : Met l yJ0_init_81219 (Cond.code yJ0_init_81219 cJ0_init_81219 2 none :: TB) rmJ0_init_81219 (va_Pc [.ref x0, .ref x1] (vPre D M)) (qW D none z.2) 1 250 (vA D) := by
  refine v_ofW (cc := cJ0_init_81219) (maxL := 2) (ret := none) (by decide) (Nat.le_of_ble_eq_true rfl) ?_
  intro p e s m args below meth c Q hx hb hr hml hown hts hlk hnm hSS hR0 hQ ls hl
  have hz0 := hR0.2.1
  have hs0 := hR0.2.2.1
  have hb0 : D.2.2.2.1 ≤ s.heap.size := hR0.2.2.2.2.1
  refine v_tight hb0 ?_
  have hK := hSS.1
  have hl : lv_has ls 2 [(0, .ref x0), (1, .ref x1)] := hl
  unfold tJ0_init_81219 at h
  refine w_aload_n hx hb dJ0_init_81219_0 rfl (lv_at hl 0 rfl) ?_
  refine w_aload_n hx hb dJ0_init_81219_1 rfl (lv_at hl 1 rfl) ?_
  refine w_null hx hb dJ0_init_81219_2 ?_
  obtain ⟨g7, h⟩ := v_ifs h
  refine v_tight hb0 ?_
  obtain ⟨z1, ez1, h⟩ := v_bnd h
  refine v_call0 (M1 := z1.2) (mc := 1) (ms := 250) (fun H locs hR hS => va_runI (As := [.ref x1, .null]) (rest := []) ⟨hx, hb, hml, hown, hts⟩ (mJ0_init_db425 l hfl D x0 x1 M z1 ez1) (cwI 2 hts (gdI kw601) rfl rfl rfl (hts _ kw39) (hts _ kw599) (hts _ kw600) rfl (by decide +kernel) ⟨Nat.le_of_ble_eq_true rfl, Nat.le_of_ble_eq_true rfl⟩) (v_preS hSS hR hS [.ref x0, .ref x1, .null]) rfl rfl hl.1 rfl (lv_room (Nat.le_of_ble_eq_true rfl)) dJ0_init_81219_3 ⟨by show _ + _ ≤ 1; omega, by show _ + _ ≤ 250; omega⟩) ?_
  obtain ⟨g9, h⟩ := v_ifs h
  refine v_tight hb0 (vV.widen (n' := 1) (k' := 250) (by omega) (by omega) ?_)
  obtain rfl := Option.some.inj h
  rw [hQ]
  exact v_vret hx hb hr hlk dJ0_init_81219_6

def tJ4_toString_0e30d (x0 : Nat) (M : vMe) : Option (Nat × vMe) :=
  (nwO M 1 0 4 (vp_V [.null, .int 0, .int 0, .int 0]) M.2.1 M.2.2.1 2 254).bind fun M1 =>
  if M1.2.1 + 1 ≤ M.2.1 + 2 ∧ M1.2.2.1 + 250 ≤ M.2.2.1 + 254 then
  ((tJ0_init_81219 M.2.1 x0 M1).bind fun z2 =>
  if z2.2.2.1 ≤ M.2.1 + 2 ∧ z2.2.2.2.1 ≤ M.2.2.1 + 254 then some (M.2.1, z2.2) else none)
else none
def rmJ4_toString_0e30d : Room := { frames := 6, cells := 2, slots := 254, locals := 151 }
set_option maxHeartbeats 4000000 in
set_option maxRecDepth 100000 in
theorem mJ4_toString_0e30d (l : Launch) (hfl : l.stackTraces = false) (D : vD) (x0 : Nat) (M : vMe) (z : (Nat × vMe)) (h : tJ4_toString_0e30d x0 M = some z) : Met l yJ4_toString_0e30d (Cond.code yJ4_toString_0e30d cJ4_toString_0e30d 1 (some (.object "java/lang/String")) :: TB) rmJ4_toString_0e30d (va_Pc [.ref x0] (vPre D M)) (qW D (some (.ref z.1)) z.2) 2 254 (vA D) := by
  refine v_ofW (cc := cJ4_toString_0e30d) (maxL := 1) (ret := (some (.object "java/lang/String"))) (by decide) (Nat.le_of_ble_eq_true rfl) ?_
  intro p e s m args below meth c Q hx hb hr hml hown hts hlk hnm hSS hR0 hQ ls hl
  have hz0 := hR0.2.1
  have hs0 := hR0.2.2.1
  have hb0 : D.2.2.2.1 ≤ s.heap.size := hR0.2.2.2.2.1
  refine v_tight hb0 ?_
  have hK := hSS.1
  have hl : lv_has ls 1 [(0, .ref x0)] := hl
  unfold tJ4_toString_0e30d at h
  obtain ⟨M1, eM1, h⟩ := v_bnd h
  refine u_new (ci := 0) (N := 2) hx hb hts iwJ0 hown hK (fun i hi => tyJ0_ok i (by omega)) rfl (hts _ kw594) (hts _ kw595) (hts _ kw39) (by decide) (by decide) (by decide) hb0 hz0 hs0 rfl rfl eM1 dJ4_toString_0e30d_0 ?_
  refine w_dup hx hb dJ4_toString_0e30d_3 rfl ?_
  refine w_aload_n hx hb dJ4_toString_0e30d_4 rfl (lv_at hl 0 rfl) ?_
  obtain ⟨g7, h⟩ := v_ifs h
  refine v_tight hb0 ?_
  obtain ⟨z2, ez2, h⟩ := v_bnd h
  refine v_call0 (M1 := z2.2) (mc := 1) (ms := 250) (fun H locs hR hS => va_runI (As := [.ref x0]) (rest := [.ref M.2.1]) ⟨hx, hb, hml, hown, hts⟩ (mJ0_init_81219 l hfl D M.2.1 x0 M1 z2 ez2) (cwI 1 hts (gdI kw598) rfl rfl rfl (hts _ kw39) (hts _ kw596) (hts _ kw597) rfl (by decide +kernel) ⟨Nat.le_of_ble_eq_true rfl, Nat.le_of_ble_eq_true rfl⟩) (v_preS hSS hR hS [.ref M.2.1, .ref x0]) rfl rfl hl.1 rfl (lv_room (Nat.le_of_ble_eq_true rfl)) dJ4_toString_0e30d_5 ⟨by show _ + _ ≤ 2; omega, by show _ + _ ≤ 254; omega⟩) ?_
  obtain ⟨g9, h⟩ := v_ifs h
  refine v_tight hb0 (vV.widen (n' := 2) (k' := 254) (by omega) (by omega) ?_)
  obtain rfl := Option.some.inj h
  rw [hQ]
  exact v_aret hx hb hr (Or.inl ⟨_, rfl⟩) (Or.inr ⟨_, rfl⟩) hlk dJ4_toString_0e30d_8

def tX3_wordText_L13 (n0 s0 : Nat) (x0 : Nat) (x1 : Nat) : Nat → Int32 → vMe → Option (Unit × vMe)
  | 0, _, _ => none
  | f + 1, x2, Mi =>
  (gI Mi x0 6 5).bind fun v10 =>
  if v10 ≤ x2 then
  (some ((), Mi))
else
  ((gA Mi x0 6 0).bind fun a12 =>
  (gA Mi a12 4 0).bind fun a13 =>
  (aI Mi a13 102 x2).bind fun v14 =>
  if Mi.2.1 + 1 ≤ n0 + 5 ∧ Mi.2.2.1 + 250 ≤ s0 + 400 then
  (if (Mi.1 x1).1 = 2 then
  ((tJ4_append_cf468 x1 ((v14.toUInt32 % 65536).toInt32) Mi).bind fun z15 =>
  tX3_wordText_L13 n0 s0 x0 x1 f (x2 + 1) z15.2)
else none)
else none)
def tX3_wordText (x0 : Nat) (M : vMe) : Option (Nat × vMe) :=
  (nwO M 2 0 4 (vp_V [.null, .int 0, .int 0, .int 0]) M.2.1 M.2.2.1 5 400).bind fun M1 =>
  if M1.2.1 + 1 ≤ M.2.1 + 5 ∧ M1.2.2.1 + 16 ≤ M.2.2.1 + 400 then
  ((tJ4_init_da8c8 M.2.1 M1).bind fun z2 =>
  (gI z2.2 x0 6 4).bind fun v3 =>
  (tX3_wordText_L13 M.2.1 M.2.2.1 x0 M.2.1 vF v3 z2.2).bind fun z16 =>
  if z16.2.2.1 + 2 ≤ M.2.1 + 5 ∧ z16.2.2.2.1 + 254 ≤ M.2.2.1 + 400 then
  (if (z16.2.1 M.2.1).1 = 2 then
  ((tJ4_toString_0e30d M.2.1 z16.2).bind fun z17 =>
  if z17.2.2.1 ≤ M.2.1 + 5 ∧ z17.2.2.2.1 ≤ M.2.2.1 + 400 then some (z17.1, z17.2) else none)
else none)
else none)
else none
def rmX3_wordText : Room := { frames := 7, cells := 5, slots := 400, locals := 172 }
set_option maxHeartbeats 4000000 in
set_option maxRecDepth 100000 in
theorem mX3_wordText (l : Launch) (hfl : l.stackTraces = false) (D : vD) (x0 : Nat) (M : vMe) (z : (Nat × vMe)) (h : tX3_wordText x0 M = some z) : Met l yX3_wordText (Cond.code yX3_wordText cX3_wordText 3 (some (.object "java/lang/String")) :: TB) rmX3_wordText (va_Pc [.ref x0] (vPre D M)) (qW D (some (.ref z.1)) z.2) 5 400 (vA D) := by
  refine v_ofW (cc := cX3_wordText) (maxL := 3) (ret := (some (.object "java/lang/String"))) (by decide) (Nat.le_of_ble_eq_true rfl) ?_
  intro p e s m args below meth c Q hx hb hr hml hown hts hlk hnm hSS hR0 hQ ls hl
  have hz0 := hR0.2.1
  have hs0 := hR0.2.2.1
  have hb0 : D.2.2.2.1 ≤ s.heap.size := hR0.2.2.2.2.1
  refine v_tight hb0 ?_
  have hK := hSS.1
  have hl : lv_has ls 3 [(0, .ref x0)] := hl
  unfold tX3_wordText at h
  have X3_wordText_L13p : ∀ (x0 : Nat) (x1 : Nat), ∀ (f : Nat) (x2 : Int32) (Mi : vMe) (ls : Array Slot) (z : (Unit × vMe)), lv_has ls 3 [(0, .ref x0), (1, .ref x1), (2, .int x2)] → tX3_wordText_L13 M.2.1 M.2.2.1 x0 x1 f x2 Mi = some z → (∀ ls : Array Slot, lv_has ls 3 [(1, .ref x1)] → vV D p l e rmX3_wordText s m args below meth c (z.2.2.1 - s.heap.size) (z.2.2.2.1 - vSum D.2.2.2.1 s.heap) Q z.2 (F0 m 42 ls [])) → vV D p l e rmX3_wordText s m args below meth c (Mi.2.1 - s.heap.size) (Mi.2.2.1 - vSum D.2.2.2.1 s.heap) Q Mi (F0 m 13 ls []) := by
    intro x0 x1 f
    induction f with
    | zero =>
      intro x2 Mi ls z hl h
      exact absurd h (by simp [tX3_wordText_L13])
    | succ f ih =>
      intro x2 Mi ls z hl h KX
      rw [tX3_wordText_L13] at h
      refine w_iload_n hx hb dX3_wordText_13 rfl (lv_at hl 2 rfl) ?_
      refine w_aload_n hx hb dX3_wordText_14 rfl (lv_at hl 0 rfl) ?_
      obtain ⟨v10, ev10, h⟩ := v_bnd h
      refine v_gI (ci := 5) hx hb hts iwX3 hown hK 5 ev10 rfl (by decide) (Or.inl (hts _ kw823)) (fun _ h9 => h9) dX3_wordText_15 ?_
      refine w_icmp_ge (tgt := 42) hx hb dX3_wordText_18 (by decide) (fun c11 => ?_) (fun c11 => ?_)
      · rw [if_pos c11] at h
        obtain rfl := Option.some.inj h
        refine v_tight hb0 ?_
        exact KX ls (lv_sub hl [1] rfl)
      · rw [if_neg c11] at h
        refine w_aload_n hx hb dX3_wordText_21 rfl (lv_at hl 1 rfl) ?_
        refine w_aload_n hx hb dX3_wordText_22 rfl (lv_at hl 0 rfl) ?_
        obtain ⟨a12, ea12, h⟩ := v_bnd h
        refine v_gA (ci := 5) hx hb hts iwX3 hown hK 0 ea12 rfl (by decide) (Or.inl (hts _ kw818)) (fun _ h9 => h9) dX3_wordText_23 ?_
        obtain ⟨a13, ea13, h⟩ := v_bnd h
        refine v_gA (ci := 3) hx hb hts iwX1 hown hK 0 ea13 rfl (by decide) (Or.inr ⟨_, kn0 hSS _⟩) (fun _ h9 => h9) dX3_wordText_26 ?_
        refine w_iload_n hx hb dX3_wordText_29 rfl (lv_at hl 2 rfl) ?_
        obtain ⟨v14, ev14, h⟩ := v_bnd h
        refine v_bald hx hb hK ev14 dX3_wordText_30 ?_
        refine w_i2c hx hb dX3_wordText_31 ?_
        obtain ⟨g7, h⟩ := v_ifs h
        refine v_tight hb0 ?_
        obtain ⟨g8, h⟩ := v_ifs h
        obtain ⟨z15, ez15, h⟩ := v_bnd h
        refine v_call1 (v := .ref z15.1) (M1 := z15.2) (mc := 1) (ms := 250) (fun H locs hR hS => va_runV (As := [.int ((v14.toUInt32 % 65536).toInt32)]) (rest := []) ⟨hx, hb, hml, hown, hts⟩ (mJ4_append_cf468 l hfl D x1 ((v14.toUInt32 % 65536).toInt32) Mi z15 ez15) (cwV 1 hts (gdV kw932 kw663 kw664 kw38 kw665) rfl rfl rfl (by decide +kernel) ⟨Nat.le_of_ble_eq_true rfl, Nat.le_of_ble_eq_true rfl⟩) (v_preV (ci := 1) hSS hR hS g8 (by decide) rfl [.int ((v14.toUInt32 % 65536).toInt32)]) rfl rfl hl.1 rfl (lv_room (Nat.le_of_ble_eq_true rfl)) dX3_wordText_32 ⟨by show _ + _ ≤ 5; omega, by show _ + _ ≤ 400; omega⟩) ?_
        refine w_pop hx hb dX3_wordText_35 rfl ?_
        refine w_iinc (v := x2 + 1) (lv' := [(2, .int (x2 + 1)), (0, .ref x0), (1, .ref x1)]) hx hb dX3_wordText_36 hl (j := 2) rfl rfl (by decide) rfl (fun ls hl => ?_)
        have hl : lv_has ls 3 [(0, .ref x0), (1, .ref x1), (2, .int (x2 + 1))] := lv_sub hl [1, 2, 0] rfl
        refine w_goto (tgt := 13) hx hb dX3_wordText_39 (by decide) ?_
        refine v_tight hb0 ?_
        exact ih (x2 + 1) z15.2 ls z (lv_sub hl [0, 1, 2] rfl) h KX
  obtain ⟨M1, eM1, h⟩ := v_bnd h
  refine u_new (ci := 1) (N := 4) hx hb hts iwJ4 hown hK tyJ4_ok rfl (hts _ kw930) (hts _ kw412) (hts _ kw38) (by decide) (by decide) (by decide) hb0 hz0 hs0 rfl rfl eM1 dX3_wordText_0 ?_
  refine w_dup hx hb dX3_wordText_3 rfl ?_
  obtain ⟨g7, h⟩ := v_ifs h
  refine v_tight hb0 ?_
  obtain ⟨z2, ez2, h⟩ := v_bnd h
  refine v_call0 (M1 := z2.2) (mc := 1) (ms := 16) (fun H locs hR hS => va_runI (As := []) (rest := [.ref M.2.1]) ⟨hx, hb, hml, hown, hts⟩ (mJ4_init_da8c8 l hfl D M.2.1 M1 z2 ez2) (cwI 0 hts (gdI kw415) rfl rfl rfl (hts _ kw38) (hts _ kw931) (hts _ kw414) rfl (by decide +kernel) ⟨Nat.le_of_ble_eq_true rfl, Nat.le_of_ble_eq_true rfl⟩) (v_preS hSS hR hS [.ref M.2.1]) rfl rfl hl.1 rfl (lv_room (Nat.le_of_ble_eq_true rfl)) dX3_wordText_4 ⟨by show _ + _ ≤ 5; omega, by show _ + _ ≤ 400; omega⟩) ?_
  refine w_astore_n (lv' := [(1, .ref M.2.1), (0, .ref x0)]) hx hb dX3_wordText_7 rfl hl (by decide) rfl (fun ls hl => ?_)
  have hl : lv_has ls 3 [(0, .ref x0), (1, .ref M.2.1)] := lv_sub hl [1, 0] rfl
  refine w_aload_n hx hb dX3_wordText_8 rfl (lv_at hl 0 rfl) ?_
  obtain ⟨v3, ev3, h⟩ := v_bnd h
  refine v_gI (ci := 5) hx hb hts iwX3 hown hK 4 ev3 rfl (by decide) (Or.inl (hts _ kw822)) (fun _ h9 => h9) dX3_wordText_9 ?_
  refine w_istore_n (lv' := [(2, .int v3), (0, .ref x0), (1, .ref M.2.1)]) hx hb dX3_wordText_12 rfl hl (by decide) rfl (fun ls hl => ?_)
  have hl : lv_has ls 3 [(0, .ref x0), (1, .ref M.2.1), (2, .int v3)] := lv_sub hl [1, 2, 0] rfl
  obtain ⟨z16, ez16, h⟩ := v_bnd h
  refine v_tight hb0 ?_
  refine X3_wordText_L13p x0 M.2.1 vF v3 z2.2 ls z16 (lv_sub hl [0, 1, 2] rfl) ez16 (fun ls hl => ?_)
  refine w_aload_n hx hb dX3_wordText_42 rfl (lv_at hl 0 rfl) ?_
  obtain ⟨g7, h⟩ := v_ifs h
  refine v_tight hb0 ?_
  obtain ⟨g8, h⟩ := v_ifs h
  obtain ⟨z17, ez17, h⟩ := v_bnd h
  refine v_call1 (v := .ref z17.1) (M1 := z17.2) (mc := 2) (ms := 254) (fun H locs hR hS => va_runV (As := []) (rest := []) ⟨hx, hb, hml, hown, hts⟩ (mJ4_toString_0e30d l hfl D M.2.1 z16.2 z17 ez17) (cwV 0 hts (gdV kw933 kw591 kw592 kw38 kw593) rfl rfl rfl (by decide +kernel) ⟨Nat.le_of_ble_eq_true rfl, Nat.le_of_ble_eq_true rfl⟩) (v_preV (ci := 1) hSS hR hS g8 (by decide) rfl []) rfl rfl hl.1 rfl (lv_room (Nat.le_of_ble_eq_true rfl)) dX3_wordText_43 ⟨by show _ + _ ≤ 5; omega, by show _ + _ ≤ 400; omega⟩) ?_
  obtain ⟨g9, h⟩ := v_ifs h
  refine v_tight hb0 (vV.widen (n' := 5) (k' := 400) (by omega) (by omega) ?_)
  obtain rfl := Option.some.inj h
  rw [hQ]
  exact v_aret hx hb hr (Or.inl ⟨_, rfl⟩) (Or.inr ⟨_, rfl⟩) hlk dX3_wordText_46

def tJ7_fill_53178_L5 (x0 : Nat) (x1 : Int32) (x3 : Int32) : Nat → Int32 → vMe → Option (Unit × vMe)
  | 0, _, _ => none
  | f + 1, x2, Mi =>
  if x3 ≤ x2 then
  (some ((), Mi))
else
  ((sA Mi x0 101 x2 (.int x1)).bind fun M5 =>
  tJ7_fill_53178_L5 x0 x1 x3 f (x2 + 1) M5)
def tJ7_fill_53178 (x0 : Nat) (x1 : Int32) (M : vMe) : Option (Unit × vMe) :=
  (aN M x0 101).bind fun v1 =>
  (tJ7_fill_53178_L5 x0 x1 v1 vF 0 M).bind fun z6 =>
  some ((), z6.2)
def rmJ7_fill_53178 : Room := { frames := 1, cells := 0, slots := 0, locals := 0 }
set_option maxHeartbeats 4000000 in
set_option maxRecDepth 100000 in
theorem mJ7_fill_53178 (l : Launch) (hfl : l.stackTraces = false) (D : vD) (x0 : Nat) (x1 : Int32) (M : vMe) (z : (Unit × vMe)) (h : tJ7_fill_53178 x0 x1 M = some z) : Met l yJ7_fill_53178 (Cond.code yJ7_fill_53178 cJ7_fill_53178 4 none :: TB) rmJ7_fill_53178 (va_Pc [.ref x0, .int x1] (vPre D M)) (qW D none z.2) 0 0 (vA D) := by
  refine v_ofW (cc := cJ7_fill_53178) (maxL := 4) (ret := none) (by decide) (Nat.le_of_ble_eq_true rfl) ?_
  intro p e s m args below meth c Q hx hb hr hml hown hts hlk hnm hSS hR0 hQ ls hl
  have hK := hSS.1
  have hl : lv_has ls 4 [(0, .ref x0), (1, .int x1)] := hl
  unfold tJ7_fill_53178 at h
  have J7_fill_53178_L5p : ∀ (x0 : Nat) (x1 : Int32) (x3 : Int32), ∀ (f : Nat) (x2 : Int32) (Mi : vMe) (ls : Array Slot) (z : (Unit × vMe)), lv_has ls 4 [(0, .ref x0), (1, .int x1), (2, .int x2), (3, .int x3)] → tJ7_fill_53178_L5 x0 x1 x3 f x2 Mi = some z → (∀ ls : Array Slot, lv_has ls 4 [] → vV D p l e rmJ7_fill_53178 s m args below meth c 0 0 Q z.2 (F0 m 20 ls [])) → vV D p l e rmJ7_fill_53178 s m args below meth c 0 0 Q Mi (F0 m 5 ls []) := by
    intro x0 x1 x3 f
    induction f with
    | zero =>
      intro x2 Mi ls z hl h
      exact absurd h (by simp [tJ7_fill_53178_L5])
    | succ f ih =>
      intro x2 Mi ls z hl h KX
      rw [tJ7_fill_53178_L5] at h
      refine w_iload_n hx hb dJ7_fill_53178_5 rfl (lv_at hl 2 rfl) ?_
      refine w_iload_n hx hb dJ7_fill_53178_6 rfl (lv_at hl 3 rfl) ?_
      refine w_icmp_ge (tgt := 20) hx hb dJ7_fill_53178_7 (by decide) (fun c4 => ?_) (fun c4 => ?_)
      · rw [if_pos c4] at h
        obtain rfl := Option.some.inj h
        exact KX ls (lv_sub hl [] rfl)
      · rw [if_neg c4] at h
        refine w_aload_n hx hb dJ7_fill_53178_10 rfl (lv_at hl 0 rfl) ?_
        refine w_iload_n hx hb dJ7_fill_53178_11 rfl (lv_at hl 2 rfl) ?_
        refine w_iload_n hx hb dJ7_fill_53178_12 rfl (lv_at hl 1 rfl) ?_
        obtain ⟨M5, eM5, h⟩ := v_bnd h
        refine v_iast hx hb hK eM5 dJ7_fill_53178_13 ?_
        refine w_iinc (v := x2 + 1) (lv' := [(2, .int (x2 + 1)), (0, .ref x0), (1, .int x1), (3, .int x3)]) hx hb dJ7_fill_53178_14 hl (j := 2) rfl rfl (by decide) rfl (fun ls hl => ?_)
        have hl : lv_has ls 4 [(0, .ref x0), (1, .int x1), (2, .int (x2 + 1)), (3, .int x3)] := lv_sub hl [1, 2, 0, 3] rfl
        refine w_goto (tgt := 5) hx hb dJ7_fill_53178_17 (by decide) ?_
        exact ih (x2 + 1) M5 ls z (lv_sub hl [0, 1, 2, 3] rfl) h KX
  refine w_iconst (v := 0) hx hb dJ7_fill_53178_0 (by decide) ?_
  refine w_istore_n (lv' := [(2, .int 0), (0, .ref x0), (1, .int x1)]) hx hb dJ7_fill_53178_1 rfl hl (by decide) rfl (fun ls hl => ?_)
  have hl : lv_has ls 4 [(0, .ref x0), (1, .int x1), (2, .int 0)] := lv_sub hl [1, 2, 0] rfl
  refine w_aload_n hx hb dJ7_fill_53178_2 rfl (lv_at hl 0 rfl) ?_
  obtain ⟨v1, ev1, h⟩ := v_bnd h
  refine v_alen hx hb hK ev1 (by decide) dJ7_fill_53178_3 ?_
  refine w_istore_n (lv' := [(3, .int v1), (0, .ref x0), (1, .int x1), (2, .int 0)]) hx hb dJ7_fill_53178_4 rfl hl (by decide) rfl (fun ls hl => ?_)
  have hl : lv_has ls 4 [(0, .ref x0), (1, .int x1), (2, .int 0), (3, .int v1)] := lv_sub hl [1, 2, 3, 0] rfl
  obtain ⟨z6, ez6, h⟩ := v_bnd h
  refine J7_fill_53178_L5p x0 x1 v1 vF 0 M ls z6 (lv_sub hl [0, 1, 2, 3] rfl) ez6 (fun ls hl => ?_)
  obtain rfl := Option.some.inj h
  rw [hQ]
  exact v_vret hx hb hr hlk dJ7_fill_53178_20

def tX7_begin (x0 : Nat) (x1 : Nat) (M : vMe) : Option (Unit × vMe) :=
  (sV M x0 9 4 (.ref x1)).bind fun M1 =>
  (sV M1 x0 9 5 (.int 0)).bind fun M2 =>
  (sV M2 x0 9 6 (.int 0)).bind fun M3 =>
  (gA M3 x0 9 0).bind fun a4 =>
  (tJ7_fill_53178 a4 0 M3).bind fun z5 =>
  (gA z5.2 x0 9 1).bind fun a6 =>
  (tJ7_fill_53178 a6 0 z5.2).bind fun z7 =>
  (gA z7.2 x0 9 3).bind fun a8 =>
  if (z7.2.1 a8).1 = 5 then
  ((tX2_begin a8 z7.2).bind fun z9 =>
  some ((), z9.2))
else none
def rmX7_begin : Room := { frames := 2, cells := 0, slots := 0, locals := 23 }
set_option maxHeartbeats 4000000 in
set_option maxRecDepth 100000 in
theorem mX7_begin (l : Launch) (hfl : l.stackTraces = false) (D : vD) (x0 : Nat) (x1 : Nat) (M : vMe) (z : (Unit × vMe)) (h : tX7_begin x0 x1 M = some z) : Met l yX7_begin (Cond.code yX7_begin cX7_begin 2 none :: TB) rmX7_begin (va_Pc [.ref x0, .ref x1] (vPre D M)) (qW D none z.2) 0 0 (vA D) := by
  refine v_ofW (cc := cX7_begin) (maxL := 2) (ret := none) (by decide) (Nat.le_of_ble_eq_true rfl) ?_
  intro p e s m args below meth c Q hx hb hr hml hown hts hlk hnm hSS hR0 hQ ls hl
  have hK := hSS.1
  have hl : lv_has ls 2 [(0, .ref x0), (1, .ref x1)] := hl
  unfold tX7_begin at h
  refine w_aload_n hx hb dX7_begin_0 rfl (lv_at hl 0 rfl) ?_
  refine w_aload_n hx hb dX7_begin_1 rfl (lv_at hl 1 rfl) ?_
  obtain ⟨M1, eM1, h⟩ := v_bnd h
  refine v_putf (ci := 8) hx hb hts iwX7 hown hK tyX7_ok nmX7 4 eM1 rfl (by decide) (Or.inl (hts _ kw177)) (fun _ h9 => h9) (Or.inl rfl) rfl rfl dX7_begin_2 ?_
  refine w_aload_n hx hb dX7_begin_5 rfl (lv_at hl 0 rfl) ?_
  refine w_iconst (v := 0) hx hb dX7_begin_6 (by decide) ?_
  obtain ⟨M2, eM2, h⟩ := v_bnd h
  refine v_putf (ci := 8) hx hb hts iwX7 hown hK tyX7_ok nmX7 5 eM2 rfl (by decide) (Or.inl (hts _ kw179)) (fun _ h9 => h9) (Or.inl rfl) rfl rfl dX7_begin_7 ?_
  refine w_aload_n hx hb dX7_begin_10 rfl (lv_at hl 0 rfl) ?_
  refine w_iconst (v := 0) hx hb dX7_begin_11 (by decide) ?_
  obtain ⟨M3, eM3, h⟩ := v_bnd h
  refine v_putf (ci := 8) hx hb hts iwX7 hown hK tyX7_ok nmX7 6 eM3 rfl (by decide) (Or.inl (hts _ kw182)) (fun _ h9 => h9) (Or.inl rfl) rfl rfl dX7_begin_12 ?_
  refine w_aload_n hx hb dX7_begin_15 rfl (lv_at hl 0 rfl) ?_
  obtain ⟨a4, ea4, h⟩ := v_bnd h
  refine v_gA (ci := 8) hx hb hts iwX7 hown hK 0 ea4 rfl (by decide) (Or.inl (hts _ kw165)) (fun _ h9 => h9) dX7_begin_16 ?_
  refine w_iconst (v := 0) hx hb dX7_begin_19 (by decide) ?_
  obtain ⟨z5, ez5, h⟩ := v_bnd h
  refine v_call0 (M1 := z5.2) (mc := 0) (ms := 0) (fun H locs hR hS => va_runS (As := [.ref a4, .int 0]) (rest := []) ⟨hx, hb, hml, hown, hts⟩ (mJ7_fill_53178 l hfl D a4 0 M3 z5 ez5) (va_cwS 2 hts (gdS kw942 kw943 kw43 kw944) rfl rfl rfl (by decide +kernel) ⟨Nat.le_of_ble_eq_true rfl, Nat.le_of_ble_eq_true rfl⟩) (v_preS hSS hR hS [.ref a4, .int 0]) rfl rfl hl.1 rfl (lv_room (Nat.le_of_ble_eq_true rfl)) dX7_begin_20 ⟨Nat.zero_le _, Nat.zero_le _⟩) ?_
  refine w_aload_n hx hb dX7_begin_23 rfl (lv_at hl 0 rfl) ?_
  obtain ⟨a6, ea6, h⟩ := v_bnd h
  refine v_gA (ci := 8) hx hb hts iwX7 hown hK 1 ea6 rfl (by decide) (Or.inl (hts _ kw168)) (fun _ h9 => h9) dX7_begin_24 ?_
  refine w_iconst (v := 0) hx hb dX7_begin_27 (by decide) ?_
  obtain ⟨z7, ez7, h⟩ := v_bnd h
  refine v_call0 (M1 := z7.2) (mc := 0) (ms := 0) (fun H locs hR hS => va_runS (As := [.ref a6, .int 0]) (rest := []) ⟨hx, hb, hml, hown, hts⟩ (mJ7_fill_53178 l hfl D a6 0 z5.2 z7 ez7) (va_cwS 2 hts (gdS kw942 kw943 kw43 kw944) rfl rfl rfl (by decide +kernel) ⟨Nat.le_of_ble_eq_true rfl, Nat.le_of_ble_eq_true rfl⟩) (v_preS hSS hR hS [.ref a6, .int 0]) rfl rfl hl.1 rfl (lv_room (Nat.le_of_ble_eq_true rfl)) dX7_begin_28 ⟨Nat.zero_le _, Nat.zero_le _⟩) ?_
  refine w_aload_n hx hb dX7_begin_31 rfl (lv_at hl 0 rfl) ?_
  obtain ⟨a8, ea8, h⟩ := v_bnd h
  refine v_gA (ci := 8) hx hb hts iwX7 hown hK 3 ea8 rfl (by decide) (Or.inl (hts _ kw174)) (fun _ h9 => h9) dX7_begin_32 ?_
  obtain ⟨g8, h⟩ := v_ifs h
  obtain ⟨z9, ez9, h⟩ := v_bnd h
  refine v_call0 (M1 := z9.2) (mc := 0) (ms := 0) (fun H locs hR hS => va_runV (As := []) (rest := []) ⟨hx, hb, hml, hown, hts⟩ (mX2_begin l hfl D a8 z7.2 z9 ez9) (cwV 0 hts (gdV kw945 kw946 kw947 kw33 kw948) rfl rfl rfl (by decide +kernel) ⟨Nat.le_of_ble_eq_true rfl, Nat.le_of_ble_eq_true rfl⟩) (v_preV (ci := 4) hSS hR hS g8 (by decide) rfl []) rfl rfl hl.1 rfl (lv_room (Nat.le_of_ble_eq_true rfl)) dX7_begin_35 ⟨Nat.zero_le _, Nat.zero_le _⟩) ?_
  obtain rfl := Option.some.inj h
  rw [hQ]
  exact v_vret hx hb hr hlk dX7_begin_38

def tX5_beginSet (x0 : Nat) (x1 : Nat) (M : vMe) : Option (Unit × vMe) :=
  (gI M x0 8 5).bind fun v1 =>
  if (5 : Int32) ≤ v1 then
  (some ((), M))
else
  ((gA M x0 8 0).bind fun a3 =>
  (gI M x0 8 5).bind fun v4 =>
  (aA M a3 107 v4).bind fun a5 =>
  if (M.1 a5).1 = 9 then
  ((tX7_begin a5 x1 M).bind fun z6 =>
  (gI z6.2 x0 8 5).bind fun v7 =>
  (sV z6.2 x0 8 5 (.int (v7 + 1))).bind fun M8 =>
  some ((), M8))
else none)
def rmX5_beginSet : Room := { frames := 3, cells := 0, slots := 0, locals := 44 }
set_option maxHeartbeats 4000000 in
set_option maxRecDepth 100000 in
theorem mX5_beginSet (l : Launch) (hfl : l.stackTraces = false) (D : vD) (x0 : Nat) (x1 : Nat) (M : vMe) (z : (Unit × vMe)) (h : tX5_beginSet x0 x1 M = some z) : Met l yX5_beginSet (Cond.code yX5_beginSet cX5_beginSet 2 none :: TB) rmX5_beginSet (va_Pc [.ref x0, .ref x1] (vPre D M)) (qW D none z.2) 0 0 (vA D) := by
  refine v_ofW (cc := cX5_beginSet) (maxL := 2) (ret := none) (by decide) (Nat.le_of_ble_eq_true rfl) ?_
  intro p e s m args below meth c Q hx hb hr hml hown hts hlk hnm hSS hR0 hQ ls hl
  have hK := hSS.1
  have hl : lv_has ls 2 [(0, .ref x0), (1, .ref x1)] := hl
  unfold tX5_beginSet at h
  refine w_aload_n hx hb dX5_beginSet_0 rfl (lv_at hl 0 rfl) ?_
  obtain ⟨v1, ev1, h⟩ := v_bnd h
  refine v_gI (ci := 7) hx hb hts iwX5 hown hK 5 ev1 rfl (by decide) (Or.inl (hts _ kw256)) (fun _ h9 => h9) dX5_beginSet_1 ?_
  refine w_iconst (v := 5) hx hb dX5_beginSet_4 (by decide) ?_
  refine w_icmp_ge (tgt := 31) hx hb dX5_beginSet_5 (by decide) (fun c2 => ?_) (fun c2 => ?_)
  · rw [if_pos c2] at h
    obtain rfl := Option.some.inj h
    rw [hQ]
    exact v_vret hx hb hr hlk dX5_beginSet_31
  · rw [if_neg c2] at h
    refine w_aload_n hx hb dX5_beginSet_8 rfl (lv_at hl 0 rfl) ?_
    obtain ⟨a3, ea3, h⟩ := v_bnd h
    refine v_gA (ci := 7) hx hb hts iwX5 hown hK 0 ea3 rfl (by decide) (Or.inl (hts _ kw244)) (fun _ h9 => h9) dX5_beginSet_9 ?_
    refine w_aload_n hx hb dX5_beginSet_12 rfl (lv_at hl 0 rfl) ?_
    obtain ⟨v4, ev4, h⟩ := v_bnd h
    refine v_gI (ci := 7) hx hb hts iwX5 hown hK 5 ev4 rfl (by decide) (Or.inl (hts _ kw256)) (fun _ h9 => h9) dX5_beginSet_13 ?_
    obtain ⟨a5, ea5, h⟩ := v_bnd h
    refine v_aaldA hx hb hK ea5 (by decide) dX5_beginSet_16 ?_
    refine w_aload_n hx hb dX5_beginSet_17 rfl (lv_at hl 1 rfl) ?_
    obtain ⟨g8, h⟩ := v_ifs h
    obtain ⟨z6, ez6, h⟩ := v_bnd h
    refine v_call0 (M1 := z6.2) (mc := 0) (ms := 0) (fun H locs hR hS => va_runV (As := [.ref x1]) (rest := []) ⟨hx, hb, hml, hown, hts⟩ (mX7_begin l hfl D a5 x1 M z6 ez6) (cwV 1 hts (gdV kw938 kw939 kw940 kw32 kw941) rfl rfl rfl (by decide +kernel) ⟨Nat.le_of_ble_eq_true rfl, Nat.le_of_ble_eq_true rfl⟩) (v_preV (ci := 8) hSS hR hS g8 (by decide) rfl [.ref x1]) rfl rfl hl.1 rfl (lv_room (Nat.le_of_ble_eq_true rfl)) dX5_beginSet_18 ⟨Nat.zero_le _, Nat.zero_le _⟩) ?_
    refine w_aload_n hx hb dX5_beginSet_21 rfl (lv_at hl 0 rfl) ?_
    refine w_dup hx hb dX5_beginSet_22 rfl ?_
    obtain ⟨v7, ev7, h⟩ := v_bnd h
    refine v_gI (ci := 7) hx hb hts iwX5 hown hK 5 ev7 rfl (by decide) (Or.inl (hts _ kw256)) (fun _ h9 => h9) dX5_beginSet_23 ?_
    refine w_iconst (v := 1) hx hb dX5_beginSet_26 (by decide) ?_
    refine w_iadd hx hb dX5_beginSet_27 ?_
    obtain ⟨M8, eM8, h⟩ := v_bnd h
    refine v_putf (ci := 7) hx hb hts iwX5 hown hK tyX5_ok nmX5 5 eM8 rfl (by decide) (Or.inl (hts _ kw256)) (fun _ h9 => h9) (Or.inl rfl) rfl rfl dX5_beginSet_28 ?_
    obtain rfl := Option.some.inj h
    rw [hQ]
    exact v_vret hx hb hr hlk dX5_beginSet_31

def tX3_readSet (G : Nat → Nat) (x0 : Nat) (M : vMe) : Option (Int32 × vMe) :=
  (gA M x0 6 2).bind fun a1 =>
  (gI M a1 8 5).bind fun v2 =>
  if v2 < (5 : Int32) then
  (if M.2.1 + 0 ≤ M.2.1 + 5 ∧ M.2.2.1 + 0 ≤ M.2.2.1 + 400 then
  (if (M.1 x0).1 = 6 then
  ((tX3_toNextToken G x0 M).bind fun z4 =>
  (gA z4.2 x0 6 3).bind fun a5 =>
  if a5 = (G 100) then
  ((gA z4.2 x0 6 2).bind fun a7 =>
  (gA z4.2 x0 6 0).bind fun a8 =>
  (gI z4.2 x0 6 4).bind fun v9 =>
  (gI z4.2 x0 6 5).bind fun v10 =>
  if z4.2.2.1 + 0 ≤ M.2.1 + 5 ∧ z4.2.2.2.1 + 0 ≤ M.2.2.1 + 400 then
  (if (z4.2.1 a7).1 = 8 then
  ((tX5_setNamed G a7 a8 v9 v10 z4.2).bind fun z11 =>
  if z11.1 = ((-1) : Int32) then
  ((gA z11.2 x0 6 2).bind fun a13 =>
  if z11.2.2.1 + 5 ≤ M.2.1 + 5 ∧ z11.2.2.2.1 + 400 ≤ M.2.2.1 + 400 then
  (if (z11.2.1 x0).1 = 6 then
  ((tX3_wordText x0 z11.2).bind fun z14 =>
  if z14.2.2.1 + 0 ≤ M.2.1 + 5 ∧ z14.2.2.2.1 + 0 ≤ M.2.2.1 + 400 then
  (if (z14.2.1 a13).1 = 8 then
  ((tX5_beginSet a13 z14.1 z14.2).bind fun z15 =>
  if z15.2.2.1 + 0 ≤ M.2.1 + 5 ∧ z15.2.2.2.1 + 0 ≤ M.2.2.1 + 400 then
  (if (z15.2.1 x0).1 = 6 then
  ((tX3_toNextToken G x0 z15.2).bind fun z16 =>
  if z16.2.2.1 ≤ M.2.1 + 5 ∧ z16.2.2.2.1 ≤ M.2.2.1 + 400 then some (1, z16.2) else none)
else none)
else none)
else none)
else none)
else none)
else none)
else
  (if z11.2.2.1 + 0 ≤ M.2.1 + 5 ∧ z11.2.2.2.1 + 0 ≤ M.2.2.1 + 400 then
  (if (z11.2.1 x0).1 = 6 then
  ((tX3_fail x0 2 z11.2).bind fun z17 =>
  if z17.2.2.1 ≤ M.2.1 + 5 ∧ z17.2.2.2.1 ≤ M.2.2.1 + 400 then if fits .boolean (.int z17.1) = true then some (z17.1, z17.2) else none else none)
else none)
else none))
else none)
else none)
else
  (if z4.2.2.1 + 0 ≤ M.2.1 + 5 ∧ z4.2.2.2.1 + 0 ≤ M.2.2.1 + 400 then
  (if (z4.2.1 x0).1 = 6 then
  ((tX3_fail x0 1 z4.2).bind fun z18 =>
  if z18.2.2.1 ≤ M.2.1 + 5 ∧ z18.2.2.2.1 ≤ M.2.2.1 + 400 then if fits .boolean (.int z18.1) = true then some (z18.1, z18.2) else none else none)
else none)
else none))
else none)
else none)
else
  (if M.2.1 + 0 ≤ M.2.1 + 5 ∧ M.2.2.1 + 0 ≤ M.2.2.1 + 400 then
  (if (M.1 x0).1 = 6 then
  ((tX3_fail x0 5 M).bind fun z19 =>
  if z19.2.2.1 ≤ M.2.1 + 5 ∧ z19.2.2.2.1 ≤ M.2.2.1 + 400 then if fits .boolean (.int z19.1) = true then some (z19.1, z19.2) else none else none)
else none)
else none)
def rmX3_readSet : Room := { frames := 8, cells := 5, slots := 400, locals := 194 }
set_option maxHeartbeats 4000000 in
set_option maxRecDepth 100000 in
theorem mX3_readSet (l : Launch) (hfl : l.stackTraces = false) (D : vD) (x0 : Nat) (M : vMe) (z : (Int32 × vMe)) (h : tX3_readSet D.2.2.2.2 x0 M = some z) : Met l yX3_readSet (Cond.code yX3_readSet cX3_readSet 1 (some .boolean) :: TB) rmX3_readSet (va_Pc [.ref x0] (vPre D M)) (qW D (some (.int z.1)) z.2) 5 400 (vA D) := by
  refine v_ofW (cc := cX3_readSet) (maxL := 1) (ret := (some .boolean)) (by decide) (Nat.le_of_ble_eq_true rfl) ?_
  intro p e s m args below meth c Q hx hb hr hml hown hts hlk hnm hSS hR0 hQ ls hl
  have hz0 := hR0.2.1
  have hs0 := hR0.2.2.1
  have hb0 : D.2.2.2.1 ≤ s.heap.size := hR0.2.2.2.2.1
  refine v_tight hb0 ?_
  have hK := hSS.1
  have hl : lv_has ls 1 [(0, .ref x0)] := hl
  unfold tX3_readSet at h
  refine w_aload_n hx hb dX3_readSet_0 rfl (lv_at hl 0 rfl) ?_
  obtain ⟨a1, ea1, h⟩ := v_bnd h
  refine v_gA (ci := 5) hx hb hts iwX3 hown hK 2 ea1 rfl (by decide) (Or.inl (hts _ kw820)) (fun _ h9 => h9) dX3_readSet_1 ?_
  obtain ⟨v2, ev2, h⟩ := v_bnd h
  refine v_gI (ci := 7) hx hb hts iwX5 hown hK 5 ev2 rfl (by decide) (Or.inr ⟨_, kn42 hSS _⟩) (fun _ h9 => h9) dX3_readSet_4 ?_
  refine w_iconst (v := 5) hx hb dX3_readSet_7 (by decide) ?_
  refine w_icmp_lt (tgt := 17) hx hb dX3_readSet_8 (by decide) (fun c3 => ?_) (fun c3 => ?_)
  · rw [if_pos c3] at h
    refine w_aload_n hx hb dX3_readSet_17 rfl (lv_at hl 0 rfl) ?_
    obtain ⟨g7, h⟩ := v_ifs h
    refine v_tight hb0 ?_
    obtain ⟨g8, h⟩ := v_ifs h
    obtain ⟨z4, ez4, h⟩ := v_bnd h
    refine v_call0 (M1 := z4.2) (mc := 0) (ms := 0) (fun H locs hR hS => va_runV (As := []) (rest := []) ⟨hx, hb, hml, hown, hts⟩ (mX3_toNextToken l hfl D x0 M z4 ez4) (cwV 0 hts (gdV kw852 kw854 kw1 kw53 kw855) rfl rfl rfl (by decide +kernel) ⟨Nat.le_of_ble_eq_true rfl, Nat.le_of_ble_eq_true rfl⟩) (v_preV (ci := 5) hSS hR hS g8 (by decide) rfl []) rfl rfl hl.1 rfl (lv_room (Nat.le_of_ble_eq_true rfl)) dX3_readSet_18 ⟨by show _ + _ ≤ 5; omega, by show _ + _ ≤ 400; omega⟩) ?_
    refine w_aload_n hx hb dX3_readSet_21 rfl (lv_at hl 0 rfl) ?_
    obtain ⟨a5, ea5, h⟩ := v_bnd h
    refine v_gA (ci := 5) hx hb hts iwX3 hown hK 3 ea5 rfl (by decide) (Or.inl (hts _ kw821)) (fun _ h9 => h9) dX3_readSet_22 ?_
    refine w_gets hx hb (hSS.2.2.2.1 0 _ rfl) hown (hts _ kw870) (fun _ h9 => h9) dX3_readSet_25 ?_
    refine w_acmp_eq (tgt := 37) hx hb dX3_readSet_28 (by decide) (fun c6 => ?_) (fun c6 => ?_)
    · rw [if_pos c6] at h
      refine w_aload_n hx hb dX3_readSet_37 rfl (lv_at hl 0 rfl) ?_
      obtain ⟨a7, ea7, h⟩ := v_bnd h
      refine v_gA (ci := 5) hx hb hts iwX3 hown hK 2 ea7 rfl (by decide) (Or.inl (hts _ kw820)) (fun _ h9 => h9) dX3_readSet_38 ?_
      refine w_aload_n hx hb dX3_readSet_41 rfl (lv_at hl 0 rfl) ?_
      obtain ⟨a8, ea8, h⟩ := v_bnd h
      refine v_gA (ci := 5) hx hb hts iwX3 hown hK 0 ea8 rfl (by decide) (Or.inl (hts _ kw818)) (fun _ h9 => h9) dX3_readSet_42 ?_
      refine w_aload_n hx hb dX3_readSet_45 rfl (lv_at hl 0 rfl) ?_
      obtain ⟨v9, ev9, h⟩ := v_bnd h
      refine v_gI (ci := 5) hx hb hts iwX3 hown hK 4 ev9 rfl (by decide) (Or.inl (hts _ kw822)) (fun _ h9 => h9) dX3_readSet_46 ?_
      refine w_aload_n hx hb dX3_readSet_49 rfl (lv_at hl 0 rfl) ?_
      obtain ⟨v10, ev10, h⟩ := v_bnd h
      refine v_gI (ci := 5) hx hb hts iwX3 hown hK 5 ev10 rfl (by decide) (Or.inl (hts _ kw823)) (fun _ h9 => h9) dX3_readSet_50 ?_
      obtain ⟨g7, h⟩ := v_ifs h
      refine v_tight hb0 ?_
      obtain ⟨g8, h⟩ := v_ifs h
      obtain ⟨z11, ez11, h⟩ := v_bnd h
      refine v_call1 (v := .int z11.1) (M1 := z11.2) (mc := 0) (ms := 0) (fun H locs hR hS => va_runV (As := [.ref a8, .int v9, .int v10]) (rest := []) ⟨hx, hb, hml, hown, hts⟩ (mX5_setNamed l hfl D a7 a8 v9 v10 z4.2 z11 ez11) (cwV 3 hts (gdV kw921 kw922 kw923 kw31 kw924) rfl rfl rfl (by decide +kernel) ⟨Nat.le_of_ble_eq_true rfl, Nat.le_of_ble_eq_true rfl⟩) (v_preV (ci := 7) hSS hR hS g8 (by decide) rfl [.ref a8, .int v9, .int v10]) rfl rfl hl.1 rfl (lv_room (Nat.le_of_ble_eq_true rfl)) dX3_readSet_53 ⟨by show _ + _ ≤ 5; omega, by show _ + _ ≤ 400; omega⟩) ?_
      refine w_iconst (v := (-1)) hx hb dX3_readSet_56 (by decide) ?_
      refine w_icmp_eq (tgt := 66) hx hb dX3_readSet_57 (by decide) (fun c12 => ?_) (fun c12 => ?_)
      · rw [if_pos c12] at h
        refine w_aload_n hx hb dX3_readSet_66 rfl (lv_at hl 0 rfl) ?_
        obtain ⟨a13, ea13, h⟩ := v_bnd h
        refine v_gA (ci := 5) hx hb hts iwX3 hown hK 2 ea13 rfl (by decide) (Or.inl (hts _ kw820)) (fun _ h9 => h9) dX3_readSet_67 ?_
        refine w_aload_n hx hb dX3_readSet_70 rfl (lv_at hl 0 rfl) ?_
        obtain ⟨g7, h⟩ := v_ifs h
        refine v_tight hb0 ?_
        obtain ⟨g8, h⟩ := v_ifs h
        obtain ⟨z14, ez14, h⟩ := v_bnd h
        refine v_call1 (v := .ref z14.1) (M1 := z14.2) (mc := 5) (ms := 400) (fun H locs hR hS => va_runV (As := []) (rest := [.ref a13]) ⟨hx, hb, hml, hown, hts⟩ (mX3_wordText l hfl D x0 z11.2 z14 ez14) (cwV 0 hts (gdV kw926 kw928 kw11 kw53 kw929) rfl rfl rfl (by decide +kernel) ⟨Nat.le_of_ble_eq_true rfl, Nat.le_of_ble_eq_true rfl⟩) (v_preV (ci := 5) hSS hR hS g8 (by decide) rfl []) rfl rfl hl.1 rfl (lv_room (Nat.le_of_ble_eq_true rfl)) dX3_readSet_71 ⟨by show _ + _ ≤ 5; omega, by show _ + _ ≤ 400; omega⟩) ?_
        obtain ⟨g7, h⟩ := v_ifs h
        refine v_tight hb0 ?_
        obtain ⟨g8, h⟩ := v_ifs h
        obtain ⟨z15, ez15, h⟩ := v_bnd h
        refine v_call0 (M1 := z15.2) (mc := 0) (ms := 0) (fun H locs hR hS => va_runV (As := [.ref z14.1]) (rest := []) ⟨hx, hb, hml, hown, hts⟩ (mX5_beginSet l hfl D a13 z14.1 z14.2 z15 ez15) (cwV 1 hts (gdV kw934 kw935 kw936 kw31 kw937) rfl rfl rfl (by decide +kernel) ⟨Nat.le_of_ble_eq_true rfl, Nat.le_of_ble_eq_true rfl⟩) (v_preV (ci := 7) hSS hR hS g8 (by decide) rfl [.ref z14.1]) rfl rfl hl.1 rfl (lv_room (Nat.le_of_ble_eq_true rfl)) dX3_readSet_74 ⟨by show _ + _ ≤ 5; omega, by show _ + _ ≤ 400; omega⟩) ?_
        refine w_aload_n hx hb dX3_readSet_77 rfl (lv_at hl 0 rfl) ?_
        obtain ⟨g7, h⟩ := v_ifs h
        refine v_tight hb0 ?_
        obtain ⟨g8, h⟩ := v_ifs h
        obtain ⟨z16, ez16, h⟩ := v_bnd h
        refine v_call0 (M1 := z16.2) (mc := 0) (ms := 0) (fun H locs hR hS => va_runV (As := []) (rest := []) ⟨hx, hb, hml, hown, hts⟩ (mX3_toNextToken l hfl D x0 z15.2 z16 ez16) (cwV 0 hts (gdV kw852 kw854 kw1 kw53 kw855) rfl rfl rfl (by decide +kernel) ⟨Nat.le_of_ble_eq_true rfl, Nat.le_of_ble_eq_true rfl⟩) (v_preV (ci := 5) hSS hR hS g8 (by decide) rfl []) rfl rfl hl.1 rfl (lv_room (Nat.le_of_ble_eq_true rfl)) dX3_readSet_78 ⟨by show _ + _ ≤ 5; omega, by show _ + _ ≤ 400; omega⟩) ?_
        refine w_iconst (v := 1) hx hb dX3_readSet_81 (by decide) ?_
        obtain ⟨g9, h⟩ := v_ifs h
        refine v_tight hb0 (vV.widen (n' := 5) (k' := 400) (by omega) (by omega) ?_)
        obtain rfl := Option.some.inj h
        rw [hQ]
        exact v_zret (x := 1) hx hb hr hlk rfl dX3_readSet_82
      · rw [if_neg c12] at h
        refine w_aload_n hx hb dX3_readSet_60 rfl (lv_at hl 0 rfl) ?_
        refine w_iconst (v := 2) hx hb dX3_readSet_61 (by decide) ?_
        obtain ⟨g7, h⟩ := v_ifs h
        refine v_tight hb0 ?_
        obtain ⟨g8, h⟩ := v_ifs h
        obtain ⟨z17, ez17, h⟩ := v_bnd h
        refine v_call1 (v := .int z17.1) (M1 := z17.2) (mc := 0) (ms := 0) (fun H locs hR hS => va_runV (As := [.int 2]) (rest := []) ⟨hx, hb, hml, hown, hts⟩ (mX3_fail l hfl D x0 2 z11.2 z17 ez17) (cwV 1 hts (gdV kw899 kw901 kw6 kw53 kw902) rfl rfl rfl (by decide +kernel) ⟨Nat.le_of_ble_eq_true rfl, Nat.le_of_ble_eq_true rfl⟩) (v_preV (ci := 5) hSS hR hS g8 (by decide) rfl [.int 2]) rfl rfl hl.1 rfl (lv_room (Nat.le_of_ble_eq_true rfl)) dX3_readSet_62 ⟨by show _ + _ ≤ 5; omega, by show _ + _ ≤ 400; omega⟩) ?_
        obtain ⟨g9, h⟩ := v_ifs h
        refine v_tight hb0 (vV.widen (n' := 5) (k' := 400) (by omega) (by omega) ?_)
        obtain ⟨g6, h⟩ := v_ifs h
        obtain rfl := Option.some.inj h
        rw [hQ]
        exact v_zret hx hb hr hlk (v_narZ g6) dX3_readSet_65
    · rw [if_neg c6] at h
      refine w_aload_n hx hb dX3_readSet_31 rfl (lv_at hl 0 rfl) ?_
      refine w_iconst (v := 1) hx hb dX3_readSet_32 (by decide) ?_
      obtain ⟨g7, h⟩ := v_ifs h
      refine v_tight hb0 ?_
      obtain ⟨g8, h⟩ := v_ifs h
      obtain ⟨z18, ez18, h⟩ := v_bnd h
      refine v_call1 (v := .int z18.1) (M1 := z18.2) (mc := 0) (ms := 0) (fun H locs hR hS => va_runV (As := [.int 1]) (rest := []) ⟨hx, hb, hml, hown, hts⟩ (mX3_fail l hfl D x0 1 z4.2 z18 ez18) (cwV 1 hts (gdV kw899 kw901 kw6 kw53 kw902) rfl rfl rfl (by decide +kernel) ⟨Nat.le_of_ble_eq_true rfl, Nat.le_of_ble_eq_true rfl⟩) (v_preV (ci := 5) hSS hR hS g8 (by decide) rfl [.int 1]) rfl rfl hl.1 rfl (lv_room (Nat.le_of_ble_eq_true rfl)) dX3_readSet_33 ⟨by show _ + _ ≤ 5; omega, by show _ + _ ≤ 400; omega⟩) ?_
      obtain ⟨g9, h⟩ := v_ifs h
      refine v_tight hb0 (vV.widen (n' := 5) (k' := 400) (by omega) (by omega) ?_)
      obtain ⟨g6, h⟩ := v_ifs h
      obtain rfl := Option.some.inj h
      rw [hQ]
      exact v_zret hx hb hr hlk (v_narZ g6) dX3_readSet_36
  · rw [if_neg c3] at h
    refine w_aload_n hx hb dX3_readSet_11 rfl (lv_at hl 0 rfl) ?_
    refine w_iconst (v := 5) hx hb dX3_readSet_12 (by decide) ?_
    obtain ⟨g7, h⟩ := v_ifs h
    refine v_tight hb0 ?_
    obtain ⟨g8, h⟩ := v_ifs h
    obtain ⟨z19, ez19, h⟩ := v_bnd h
    refine v_call1 (v := .int z19.1) (M1 := z19.2) (mc := 0) (ms := 0) (fun H locs hR hS => va_runV (As := [.int 5]) (rest := []) ⟨hx, hb, hml, hown, hts⟩ (mX3_fail l hfl D x0 5 M z19 ez19) (cwV 1 hts (gdV kw899 kw901 kw6 kw53 kw902) rfl rfl rfl (by decide +kernel) ⟨Nat.le_of_ble_eq_true rfl, Nat.le_of_ble_eq_true rfl⟩) (v_preV (ci := 5) hSS hR hS g8 (by decide) rfl [.int 5]) rfl rfl hl.1 rfl (lv_room (Nat.le_of_ble_eq_true rfl)) dX3_readSet_13 ⟨by show _ + _ ≤ 5; omega, by show _ + _ ≤ 400; omega⟩) ?_
    obtain ⟨g9, h⟩ := v_ifs h
    refine v_tight hb0 (vV.widen (n' := 5) (k' := 400) (by omega) (by omega) ?_)
    obtain ⟨g6, h⟩ := v_ifs h
    obtain rfl := Option.some.inj h
    rw [hQ]
    exact v_zret hx hb hr hlk (v_narZ g6) dX3_readSet_16

def tX3_readEarlierSet (G : Nat → Nat) (x0 : Nat) (M : vMe) : Option (Int32 × vMe) :=
  (gA M x0 6 3).bind fun a1 =>
  if a1 = (G 100) then
  ((gA M x0 6 2).bind fun a3 =>
  (gA M x0 6 0).bind fun a4 =>
  (gI M x0 6 4).bind fun v5 =>
  (gI M x0 6 5).bind fun v6 =>
  if (M.1 a3).1 = 8 then
  ((tX5_setNamed G a3 a4 v5 v6 M).bind fun z7 =>
  if z7.1 = ((-1) : Int32) then
  (if (z7.2.1 x0).1 = 6 then
  ((tX3_fail x0 4 z7.2).bind fun z9 =>
  some (z7.1, z9.2))
else none)
else
  (some (z7.1, z7.2)))
else none)
else
  (if (M.1 x0).1 = 6 then
  ((tX3_fail x0 1 M).bind fun z10 =>
  some ((-1), z10.2))
else none)
def rmX3_readEarlierSet : Room := { frames := 7, cells := 0, slots := 0, locals := 133 }
set_option maxHeartbeats 4000000 in
set_option maxRecDepth 100000 in
theorem mX3_readEarlierSet (l : Launch) (hfl : l.stackTraces = false) (D : vD) (x0 : Nat) (M : vMe) (z : (Int32 × vMe)) (h : tX3_readEarlierSet D.2.2.2.2 x0 M = some z) : Met l yX3_readEarlierSet (Cond.code yX3_readEarlierSet cX3_readEarlierSet 2 (some .int) :: TB) rmX3_readEarlierSet (va_Pc [.ref x0] (vPre D M)) (qW D (some (.int z.1)) z.2) 0 0 (vA D) := by
  refine v_ofW (cc := cX3_readEarlierSet) (maxL := 2) (ret := (some .int)) (by decide) (Nat.le_of_ble_eq_true rfl) ?_
  intro p e s m args below meth c Q hx hb hr hml hown hts hlk hnm hSS hR0 hQ ls hl
  have hK := hSS.1
  have hl : lv_has ls 2 [(0, .ref x0)] := hl
  unfold tX3_readEarlierSet at h
  refine w_aload_n hx hb dX3_readEarlierSet_0 rfl (lv_at hl 0 rfl) ?_
  obtain ⟨a1, ea1, h⟩ := v_bnd h
  refine v_gA (ci := 5) hx hb hts iwX3 hown hK 3 ea1 rfl (by decide) (Or.inl (hts _ kw821)) (fun _ h9 => h9) dX3_readEarlierSet_1 ?_
  refine w_gets hx hb (hSS.2.2.2.1 0 _ rfl) hown (hts _ kw870) (fun _ h9 => h9) dX3_readEarlierSet_4 ?_
  refine w_acmp_eq (tgt := 18) hx hb dX3_readEarlierSet_7 (by decide) (fun c2 => ?_) (fun c2 => ?_)
  · rw [if_pos c2] at h
    refine w_aload_n hx hb dX3_readEarlierSet_18 rfl (lv_at hl 0 rfl) ?_
    obtain ⟨a3, ea3, h⟩ := v_bnd h
    refine v_gA (ci := 5) hx hb hts iwX3 hown hK 2 ea3 rfl (by decide) (Or.inl (hts _ kw820)) (fun _ h9 => h9) dX3_readEarlierSet_19 ?_
    refine w_aload_n hx hb dX3_readEarlierSet_22 rfl (lv_at hl 0 rfl) ?_
    obtain ⟨a4, ea4, h⟩ := v_bnd h
    refine v_gA (ci := 5) hx hb hts iwX3 hown hK 0 ea4 rfl (by decide) (Or.inl (hts _ kw818)) (fun _ h9 => h9) dX3_readEarlierSet_23 ?_
    refine w_aload_n hx hb dX3_readEarlierSet_26 rfl (lv_at hl 0 rfl) ?_
    obtain ⟨v5, ev5, h⟩ := v_bnd h
    refine v_gI (ci := 5) hx hb hts iwX3 hown hK 4 ev5 rfl (by decide) (Or.inl (hts _ kw822)) (fun _ h9 => h9) dX3_readEarlierSet_27 ?_
    refine w_aload_n hx hb dX3_readEarlierSet_30 rfl (lv_at hl 0 rfl) ?_
    obtain ⟨v6, ev6, h⟩ := v_bnd h
    refine v_gI (ci := 5) hx hb hts iwX3 hown hK 5 ev6 rfl (by decide) (Or.inl (hts _ kw823)) (fun _ h9 => h9) dX3_readEarlierSet_31 ?_
    obtain ⟨g8, h⟩ := v_ifs h
    obtain ⟨z7, ez7, h⟩ := v_bnd h
    refine v_call1 (v := .int z7.1) (M1 := z7.2) (mc := 0) (ms := 0) (fun H locs hR hS => va_runV (As := [.ref a4, .int v5, .int v6]) (rest := []) ⟨hx, hb, hml, hown, hts⟩ (mX5_setNamed l hfl D a3 a4 v5 v6 M z7 ez7) (cwV 3 hts (gdV kw921 kw922 kw923 kw31 kw924) rfl rfl rfl (by decide +kernel) ⟨Nat.le_of_ble_eq_true rfl, Nat.le_of_ble_eq_true rfl⟩) (v_preV (ci := 7) hSS hR hS g8 (by decide) rfl [.ref a4, .int v5, .int v6]) rfl rfl hl.1 rfl (lv_room (Nat.le_of_ble_eq_true rfl)) dX3_readEarlierSet_34 ⟨Nat.zero_le _, Nat.zero_le _⟩) ?_
    refine w_istore_n (lv' := [(1, .int z7.1), (0, .ref x0)]) hx hb dX3_readEarlierSet_37 rfl hl (by decide) rfl (fun ls hl => ?_)
    have hl : lv_has ls 2 [(0, .ref x0), (1, .int z7.1)] := lv_sub hl [1, 0] rfl
    refine w_iload_n hx hb dX3_readEarlierSet_38 rfl (lv_at hl 1 rfl) ?_
    refine w_iconst (v := (-1)) hx hb dX3_readEarlierSet_39 (by decide) ?_
    refine w_icmp_ne (tgt := 49) hx hb dX3_readEarlierSet_40 (by decide) (fun c8 => ?_) (fun c8 => ?_)
    · rw [if_pos c8] at h
      refine w_aload_n hx hb dX3_readEarlierSet_43 rfl (lv_at hl 0 rfl) ?_
      refine w_iconst (v := 4) hx hb dX3_readEarlierSet_44 (by decide) ?_
      obtain ⟨g8, h⟩ := v_ifs h
      obtain ⟨z9, ez9, h⟩ := v_bnd h
      refine v_call1 (v := .int z9.1) (M1 := z9.2) (mc := 0) (ms := 0) (fun H locs hR hS => va_runV (As := [.int 4]) (rest := []) ⟨hx, hb, hml, hown, hts⟩ (mX3_fail l hfl D x0 4 z7.2 z9 ez9) (cwV 1 hts (gdV kw899 kw901 kw6 kw53 kw902) rfl rfl rfl (by decide +kernel) ⟨Nat.le_of_ble_eq_true rfl, Nat.le_of_ble_eq_true rfl⟩) (v_preV (ci := 5) hSS hR hS g8 (by decide) rfl [.int 4]) rfl rfl hl.1 rfl (lv_room (Nat.le_of_ble_eq_true rfl)) dX3_readEarlierSet_45 ⟨Nat.zero_le _, Nat.zero_le _⟩) ?_
      refine w_pop hx hb dX3_readEarlierSet_48 rfl ?_
      refine w_iload_n hx hb dX3_readEarlierSet_49 rfl (lv_at hl 1 rfl) ?_
      obtain rfl := Option.some.inj h
      rw [hQ]
      exact v_iret hx hb hr hlk dX3_readEarlierSet_50
    · rw [if_neg c8] at h
      refine w_iload_n hx hb dX3_readEarlierSet_49 rfl (lv_at hl 1 rfl) ?_
      obtain rfl := Option.some.inj h
      rw [hQ]
      exact v_iret hx hb hr hlk dX3_readEarlierSet_50
  · rw [if_neg c2] at h
    refine w_aload_n hx hb dX3_readEarlierSet_10 rfl (lv_at hl 0 rfl) ?_
    refine w_iconst (v := 1) hx hb dX3_readEarlierSet_11 (by decide) ?_
    obtain ⟨g8, h⟩ := v_ifs h
    obtain ⟨z10, ez10, h⟩ := v_bnd h
    refine v_call1 (v := .int z10.1) (M1 := z10.2) (mc := 0) (ms := 0) (fun H locs hR hS => va_runV (As := [.int 1]) (rest := []) ⟨hx, hb, hml, hown, hts⟩ (mX3_fail l hfl D x0 1 M z10 ez10) (cwV 1 hts (gdV kw899 kw901 kw6 kw53 kw902) rfl rfl rfl (by decide +kernel) ⟨Nat.le_of_ble_eq_true rfl, Nat.le_of_ble_eq_true rfl⟩) (v_preV (ci := 5) hSS hR hS g8 (by decide) rfl [.int 1]) rfl rfl hl.1 rfl (lv_room (Nat.le_of_ble_eq_true rfl)) dX3_readEarlierSet_12 ⟨Nat.zero_le _, Nat.zero_le _⟩) ?_
    refine w_pop hx hb dX3_readEarlierSet_15 rfl ?_
    refine w_iconst (v := (-1)) hx hb dX3_readEarlierSet_16 (by decide) ?_
    obtain rfl := Option.some.inj h
    rw [hQ]
    exact v_iret hx hb hr hlk dX3_readEarlierSet_17

def tX7_placeOf (x0 : Nat) (x1 : Int32) (M : vMe) : Option Int32 :=
  if x1 < 0 then
  (some ((-1)))
else
  (if x1 < (64 : Int32) then
  ((gA M x0 9 1).bind fun a3 =>
  (aI M a3 101 x1).bind fun v4 =>
  (gI M x0 9 5).bind fun v5 =>
  if v5 ≤ v4 then
  (some ((-1)))
else
  ((gA M x0 9 0).bind fun a7 =>
  (aI M a7 101 v4).bind fun v8 =>
  if v8 = x1 then
  (some v4)
else
  (some ((-1)))))
else
  (some ((-1))))
def rmX7_placeOf : Room := { frames := 1, cells := 0, slots := 0, locals := 0 }
set_option maxHeartbeats 4000000 in
set_option maxRecDepth 100000 in
theorem mX7_placeOf (l : Launch) (hfl : l.stackTraces = false) (D : vD) (x0 : Nat) (x1 : Int32) (M : vMe) (z : Int32) (h : tX7_placeOf x0 x1 M = some z) : Met l yX7_placeOf (Cond.code yX7_placeOf cX7_placeOf 3 (some .int) :: TB) rmX7_placeOf (va_Pc [.ref x0, .int x1] (vPre D M)) (qW D (some (.int z)) M) 0 0 (vA D) := by
  refine v_ofW (cc := cX7_placeOf) (maxL := 3) (ret := (some .int)) (by decide) (Nat.le_of_ble_eq_true rfl) ?_
  intro p e s m args below meth c Q hx hb hr hml hown hts hlk hnm hSS hR0 hQ ls hl
  have hK := hSS.1
  have hl : lv_has ls 3 [(0, .ref x0), (1, .int x1)] := hl
  unfold tX7_placeOf at h
  refine w_iload_n hx hb dX7_placeOf_0 rfl (lv_at hl 1 rfl) ?_
  refine w_if_lt (tgt := 10) hx hb dX7_placeOf_1 (by decide) (fun c1 => ?_) (fun c1 => ?_)
  · rw [if_pos c1] at h
    refine w_iconst (v := (-1)) hx hb dX7_placeOf_10 (by decide) ?_
    obtain rfl := Option.some.inj h
    rw [hQ]
    exact v_iret hx hb hr hlk dX7_placeOf_11
  · rw [if_neg c1] at h
    refine w_iload_n hx hb dX7_placeOf_4 rfl (lv_at hl 1 rfl) ?_
    refine w_bipush (v := 64) hx hb dX7_placeOf_5 (by decide) ?_
    refine w_icmp_lt (tgt := 12) hx hb dX7_placeOf_7 (by decide) (fun c2 => ?_) (fun c2 => ?_)
    · rw [if_pos c2] at h
      refine w_aload_n hx hb dX7_placeOf_12 rfl (lv_at hl 0 rfl) ?_
      obtain ⟨a3, ea3, h⟩ := v_bnd h
      refine v_gA (ci := 8) hx hb hts iwX7 hown hK 1 ea3 rfl (by decide) (Or.inl (hts _ kw168)) (fun _ h9 => h9) dX7_placeOf_13 ?_
      refine w_iload_n hx hb dX7_placeOf_16 rfl (lv_at hl 1 rfl) ?_
      obtain ⟨v4, ev4, h⟩ := v_bnd h
      refine v_iald hx hb hK ev4 dX7_placeOf_17 ?_
      refine w_istore_n (lv' := [(2, .int v4), (0, .ref x0), (1, .int x1)]) hx hb dX7_placeOf_18 rfl hl (by decide) rfl (fun ls hl => ?_)
      have hl : lv_has ls 3 [(0, .ref x0), (1, .int x1), (2, .int v4)] := lv_sub hl [1, 2, 0] rfl
      refine w_iload_n hx hb dX7_placeOf_19 rfl (lv_at hl 2 rfl) ?_
      refine w_aload_n hx hb dX7_placeOf_20 rfl (lv_at hl 0 rfl) ?_
      obtain ⟨v5, ev5, h⟩ := v_bnd h
      refine v_gI (ci := 8) hx hb hts iwX7 hown hK 5 ev5 rfl (by decide) (Or.inl (hts _ kw179)) (fun _ h9 => h9) dX7_placeOf_21 ?_
      refine w_icmp_ge (tgt := 41) hx hb dX7_placeOf_24 (by decide) (fun c6 => ?_) (fun c6 => ?_)
      · rw [if_pos c6] at h
        refine w_iconst (v := (-1)) hx hb dX7_placeOf_41 (by decide) ?_
        obtain rfl := Option.some.inj h
        rw [hQ]
        exact v_iret hx hb hr hlk dX7_placeOf_42
      · rw [if_neg c6] at h
        refine w_aload_n hx hb dX7_placeOf_27 rfl (lv_at hl 0 rfl) ?_
        obtain ⟨a7, ea7, h⟩ := v_bnd h
        refine v_gA (ci := 8) hx hb hts iwX7 hown hK 0 ea7 rfl (by decide) (Or.inl (hts _ kw165)) (fun _ h9 => h9) dX7_placeOf_28 ?_
        refine w_iload_n hx hb dX7_placeOf_31 rfl (lv_at hl 2 rfl) ?_
        obtain ⟨v8, ev8, h⟩ := v_bnd h
        refine v_iald hx hb hK ev8 dX7_placeOf_32 ?_
        refine w_iload_n hx hb dX7_placeOf_33 rfl (lv_at hl 1 rfl) ?_
        refine w_icmp_ne (tgt := 41) hx hb dX7_placeOf_34 (by decide) (fun c9 => ?_) (fun c9 => ?_)
        · rw [if_pos c9] at h
          refine w_iload_n hx hb dX7_placeOf_37 rfl (lv_at hl 2 rfl) ?_
          refine w_goto (tgt := 42) hx hb dX7_placeOf_38 (by decide) ?_
          obtain rfl := Option.some.inj h
          rw [hQ]
          exact v_iret hx hb hr hlk dX7_placeOf_42
        · rw [if_neg c9] at h
          refine w_iconst (v := (-1)) hx hb dX7_placeOf_41 (by decide) ?_
          obtain rfl := Option.some.inj h
          rw [hQ]
          exact v_iret hx hb hr hlk dX7_placeOf_42
    · rw [if_neg c2] at h
      refine w_iconst (v := (-1)) hx hb dX7_placeOf_10 (by decide) ?_
      obtain rfl := Option.some.inj h
      rw [hQ]
      exact v_iret hx hb hr hlk dX7_placeOf_11

def tX7_has (x0 : Nat) (x1 : Int32) (M : vMe) : Option Int32 :=
  if (M.1 x0).1 = 9 then
  ((tX7_placeOf x0 x1 M).bind fun z1 =>
  if z1 = ((-1) : Int32) then
  (some 0)
else
  (some 1))
else none
def rmX7_has : Room := { frames := 2, cells := 0, slots := 0, locals := 22 }
set_option maxHeartbeats 4000000 in
set_option maxRecDepth 100000 in
theorem mX7_has (l : Launch) (hfl : l.stackTraces = false) (D : vD) (x0 : Nat) (x1 : Int32) (M : vMe) (z : Int32) (h : tX7_has x0 x1 M = some z) : Met l yX7_has (Cond.code yX7_has cX7_has 2 (some .boolean) :: TB) rmX7_has (va_Pc [.ref x0, .int x1] (vPre D M)) (qW D (some (.int z)) M) 0 0 (vA D) := by
  refine v_ofW (cc := cX7_has) (maxL := 2) (ret := (some .boolean)) (by decide) (Nat.le_of_ble_eq_true rfl) ?_
  intro p e s m args below meth c Q hx hb hr hml hown hts hlk hnm hSS hR0 hQ ls hl
  have hK := hSS.1
  have hl : lv_has ls 2 [(0, .ref x0), (1, .int x1)] := hl
  unfold tX7_has at h
  refine w_aload_n hx hb dX7_has_0 rfl (lv_at hl 0 rfl) ?_
  refine w_iload_n hx hb dX7_has_1 rfl (lv_at hl 1 rfl) ?_
  obtain ⟨g8, h⟩ := v_ifs h
  obtain ⟨z1, ez1, h⟩ := v_bnd h
  refine v_call1 (v := .int z1) (M1 := M) (mc := 0) (ms := 0) (fun H locs hR hS => va_runV (As := [.int x1]) (rest := []) ⟨hx, hb, hml, hown, hts⟩ (mX7_placeOf l hfl D x0 x1 M z1 ez1) (cwV 1 hts (gdV kw966 kw967 kw968 kw32 kw969) rfl rfl rfl (by decide +kernel) ⟨Nat.le_of_ble_eq_true rfl, Nat.le_of_ble_eq_true rfl⟩) (v_preV (ci := 8) hSS hR hS g8 (by decide) rfl [.int x1]) rfl rfl hl.1 rfl (lv_room (Nat.le_of_ble_eq_true rfl)) dX7_has_2 ⟨Nat.zero_le _, Nat.zero_le _⟩) ?_
  refine w_iconst (v := (-1)) hx hb dX7_has_5 (by decide) ?_
  refine w_icmp_eq (tgt := 13) hx hb dX7_has_6 (by decide) (fun c2 => ?_) (fun c2 => ?_)
  · rw [if_pos c2] at h
    refine w_iconst (v := 0) hx hb dX7_has_13 (by decide) ?_
    obtain rfl := Option.some.inj h
    rw [hQ]
    exact v_zret (x := 0) hx hb hr hlk rfl dX7_has_14
  · rw [if_neg c2] at h
    refine w_iconst (v := 1) hx hb dX7_has_9 (by decide) ?_
    refine w_goto (tgt := 14) hx hb dX7_has_10 (by decide) ?_
    obtain rfl := Option.some.inj h
    rw [hQ]
    exact v_zret (x := 1) hx hb hr hlk rfl dX7_has_14

def tX5_writeMember (x0 : Nat) (x1 : Nat) (x2 : Int32) (x3 : Int32) (M : vMe) : Option (Unit × vMe) :=
  (gA M x1 9 0).bind fun a1 =>
  (sA M a1 101 x2 (.int x3)).bind fun M2 =>
  (gA M2 x1 9 1).bind fun a3 =>
  (sA M2 a3 101 x3 (.int x2)).bind fun M4 =>
  (gI M4 x0 8 8).bind fun v5 =>
  (sV M4 x0 8 8 (.int (v5 + 2))).bind fun M6 =>
  some ((), M6)
def rmX5_writeMember : Room := { frames := 1, cells := 0, slots := 0, locals := 0 }
set_option maxHeartbeats 4000000 in
set_option maxRecDepth 100000 in
theorem mX5_writeMember (l : Launch) (hfl : l.stackTraces = false) (D : vD) (x0 : Nat) (x1 : Nat) (x2 : Int32) (x3 : Int32) (M : vMe) (z : (Unit × vMe)) (h : tX5_writeMember x0 x1 x2 x3 M = some z) : Met l yX5_writeMember (Cond.code yX5_writeMember cX5_writeMember 4 none :: TB) rmX5_writeMember (va_Pc [.ref x0, .ref x1, .int x2, .int x3] (vPre D M)) (qW D none z.2) 0 0 (vA D) := by
  refine v_ofW (cc := cX5_writeMember) (maxL := 4) (ret := none) (by decide) (Nat.le_of_ble_eq_true rfl) ?_
  intro p e s m args below meth c Q hx hb hr hml hown hts hlk hnm hSS hR0 hQ ls hl
  have hK := hSS.1
  have hl : lv_has ls 4 [(0, .ref x0), (1, .ref x1), (2, .int x2), (3, .int x3)] := hl
  unfold tX5_writeMember at h
  refine w_aload_n hx hb dX5_writeMember_0 rfl (lv_at hl 1 rfl) ?_
  obtain ⟨a1, ea1, h⟩ := v_bnd h
  refine v_gA (ci := 8) hx hb hts iwX7 hown hK 0 ea1 rfl (by decide) (Or.inr ⟨_, kn8 hSS _⟩) (fun _ h9 => h9) dX5_writeMember_1 ?_
  refine w_iload_n hx hb dX5_writeMember_4 rfl (lv_at hl 2 rfl) ?_
  refine w_iload_n hx hb dX5_writeMember_5 rfl (lv_at hl 3 rfl) ?_
  obtain ⟨M2, eM2, h⟩ := v_bnd h
  refine v_iast hx hb hK eM2 dX5_writeMember_6 ?_
  refine w_aload_n hx hb dX5_writeMember_7 rfl (lv_at hl 1 rfl) ?_
  obtain ⟨a3, ea3, h⟩ := v_bnd h
  refine v_gA (ci := 8) hx hb hts iwX7 hown hK 1 ea3 rfl (by decide) (Or.inr ⟨_, kn11 hSS _⟩) (fun _ h9 => h9) dX5_writeMember_8 ?_
  refine w_iload_n hx hb dX5_writeMember_11 rfl (lv_at hl 3 rfl) ?_
  refine w_iload_n hx hb dX5_writeMember_12 rfl (lv_at hl 2 rfl) ?_
  obtain ⟨M4, eM4, h⟩ := v_bnd h
  refine v_iast hx hb hK eM4 dX5_writeMember_13 ?_
  refine w_aload_n hx hb dX5_writeMember_14 rfl (lv_at hl 0 rfl) ?_
  refine w_dup hx hb dX5_writeMember_15 rfl ?_
  obtain ⟨v5, ev5, h⟩ := v_bnd h
  refine v_gI (ci := 7) hx hb hts iwX5 hown hK 8 ev5 rfl (by decide) (Or.inl (hts _ kw264)) (fun _ h9 => h9) dX5_writeMember_16 ?_
  refine w_iconst (v := 2) hx hb dX5_writeMember_19 (by decide) ?_
  refine w_iadd hx hb dX5_writeMember_20 ?_
  obtain ⟨M6, eM6, h⟩ := v_bnd h
  refine v_putf (ci := 7) hx hb hts iwX5 hown hK tyX5_ok nmX5 8 eM6 rfl (by decide) (Or.inl (hts _ kw264)) (fun _ h9 => h9) (Or.inl rfl) rfl rfl dX5_writeMember_21 ?_
  obtain rfl := Option.some.inj h
  rw [hQ]
  exact v_vret hx hb hr hlk dX5_writeMember_24

def tX5_bringIn (x0 : Nat) (x1 : Nat) (x2 : Int32) (M : vMe) : Option (Int32 × vMe) :=
  if (M.1 x1).1 = 9 then
  ((tX7_has x1 x2 M).bind fun z1 =>
  if z1 = 0 then
  ((gI M x1 9 5).bind fun v3 =>
  if (M.1 x0).1 = 8 then
  ((tX5_writeMember x0 x1 v3 x2 M).bind fun z4 =>
  (gI z4.2 x1 9 5).bind fun v5 =>
  (sV z4.2 x1 9 5 (.int (v5 + 1))).bind fun M6 =>
  (gI M6 x0 8 7).bind fun v7 =>
  (sV M6 x0 8 7 (.int (v7 + 1))).bind fun M8 =>
  (gA M8 x1 9 2).bind fun a9 =>
  (gI M8 x0 8 7).bind fun v10 =>
  (sA M8 a9 101 x2 (.int v10)).bind fun M11 =>
  (gA M11 x1 9 3).bind fun a12 =>
  (gI M11 x0 8 7).bind fun v13 =>
  (gI M11 x0 8 4).bind fun v14 =>
  if (M11.1 a12).1 = 5 then
  ((tX2_note a12 v13 x2 0 v14 M11).bind fun z15 =>
  some (1, z15.2))
else none)
else none)
else
  (some (0, M)))
else none
def rmX5_bringIn : Room := { frames := 3, cells := 0, slots := 0, locals := 84 }
set_option maxHeartbeats 4000000 in
set_option maxRecDepth 100000 in
theorem mX5_bringIn (l : Launch) (hfl : l.stackTraces = false) (D : vD) (x0 : Nat) (x1 : Nat) (x2 : Int32) (M : vMe) (z : (Int32 × vMe)) (h : tX5_bringIn x0 x1 x2 M = some z) : Met l yX5_bringIn (Cond.code yX5_bringIn cX5_bringIn 3 (some .boolean) :: TB) rmX5_bringIn (va_Pc [.ref x0, .ref x1, .int x2] (vPre D M)) (qW D (some (.int z.1)) z.2) 0 0 (vA D) := by
  refine v_ofW (cc := cX5_bringIn) (maxL := 3) (ret := (some .boolean)) (by decide) (Nat.le_of_ble_eq_true rfl) ?_
  intro p e s m args below meth c Q hx hb hr hml hown hts hlk hnm hSS hR0 hQ ls hl
  have hK := hSS.1
  have hl : lv_has ls 3 [(0, .ref x0), (1, .ref x1), (2, .int x2)] := hl
  unfold tX5_bringIn at h
  refine w_aload_n hx hb dX5_bringIn_0 rfl (lv_at hl 1 rfl) ?_
  refine w_iload_n hx hb dX5_bringIn_1 rfl (lv_at hl 2 rfl) ?_
  obtain ⟨g8, h⟩ := v_ifs h
  obtain ⟨z1, ez1, h⟩ := v_bnd h
  refine v_call1 (v := .int z1) (M1 := M) (mc := 0) (ms := 0) (fun H locs hR hS => va_runV (As := [.int x2]) (rest := []) ⟨hx, hb, hml, hown, hts⟩ (mX7_has l hfl D x1 x2 M z1 ez1) (cwV 1 hts (gdV kw962 kw963 kw964 kw32 kw965) rfl rfl rfl (by decide +kernel) ⟨Nat.le_of_ble_eq_true rfl, Nat.le_of_ble_eq_true rfl⟩) (v_preV (ci := 8) hSS hR hS g8 (by decide) rfl [.int x2]) rfl rfl hl.1 rfl (lv_room (Nat.le_of_ble_eq_true rfl)) dX5_bringIn_2 ⟨Nat.zero_le _, Nat.zero_le _⟩) ?_
  refine w_if_eq (tgt := 10) hx hb dX5_bringIn_5 (by decide) (fun c2 => ?_) (fun c2 => ?_)
  · rw [if_pos c2] at h
    refine w_aload_n hx hb dX5_bringIn_10 rfl (lv_at hl 0 rfl) ?_
    refine w_aload_n hx hb dX5_bringIn_11 rfl (lv_at hl 1 rfl) ?_
    refine w_aload_n hx hb dX5_bringIn_12 rfl (lv_at hl 1 rfl) ?_
    obtain ⟨v3, ev3, h⟩ := v_bnd h
    refine v_gI (ci := 8) hx hb hts iwX7 hown hK 5 ev3 rfl (by decide) (Or.inr ⟨_, kn17 hSS _⟩) (fun _ h9 => h9) dX5_bringIn_13 ?_
    refine w_iload_n hx hb dX5_bringIn_16 rfl (lv_at hl 2 rfl) ?_
    obtain ⟨g8, h⟩ := v_ifs h
    obtain ⟨z4, ez4, h⟩ := v_bnd h
    refine v_call0 (M1 := z4.2) (mc := 0) (ms := 0) (fun H locs hR hS => va_runV (As := [.ref x1, .int v3, .int x2]) (rest := []) ⟨hx, hb, hml, hown, hts⟩ (mX5_writeMember l hfl D x0 x1 v3 x2 M z4 ez4) (cwV 3 hts (gdV kw970 kw972 kw14 kw31 kw973) rfl rfl rfl (by decide +kernel) ⟨Nat.le_of_ble_eq_true rfl, Nat.le_of_ble_eq_true rfl⟩) (v_preV (ci := 7) hSS hR hS g8 (by decide) rfl [.ref x1, .int v3, .int x2]) rfl rfl hl.1 rfl (lv_room (Nat.le_of_ble_eq_true rfl)) dX5_bringIn_17 ⟨Nat.zero_le _, Nat.zero_le _⟩) ?_
    refine w_aload_n hx hb dX5_bringIn_20 rfl (lv_at hl 1 rfl) ?_
    refine w_dup hx hb dX5_bringIn_21 rfl ?_
    obtain ⟨v5, ev5, h⟩ := v_bnd h
    refine v_gI (ci := 8) hx hb hts iwX7 hown hK 5 ev5 rfl (by decide) (Or.inr ⟨_, kn17 hSS _⟩) (fun _ h9 => h9) dX5_bringIn_22 ?_
    refine w_iconst (v := 1) hx hb dX5_bringIn_25 (by decide) ?_
    refine w_iadd hx hb dX5_bringIn_26 ?_
    obtain ⟨M6, eM6, h⟩ := v_bnd h
    refine v_putf (ci := 8) hx hb hts iwX7 hown hK tyX7_ok nmX7 5 eM6 rfl (by decide) (Or.inr ⟨_, kn17 hSS _⟩) (fun _ h9 => h9) (Or.inl rfl) rfl rfl dX5_bringIn_27 ?_
    refine w_aload_n hx hb dX5_bringIn_30 rfl (lv_at hl 0 rfl) ?_
    refine w_dup hx hb dX5_bringIn_31 rfl ?_
    obtain ⟨v7, ev7, h⟩ := v_bnd h
    refine v_gI (ci := 7) hx hb hts iwX5 hown hK 7 ev7 rfl (by decide) (Or.inl (hts _ kw262)) (fun _ h9 => h9) dX5_bringIn_32 ?_
    refine w_iconst (v := 1) hx hb dX5_bringIn_35 (by decide) ?_
    refine w_iadd hx hb dX5_bringIn_36 ?_
    obtain ⟨M8, eM8, h⟩ := v_bnd h
    refine v_putf (ci := 7) hx hb hts iwX5 hown hK tyX5_ok nmX5 7 eM8 rfl (by decide) (Or.inl (hts _ kw262)) (fun _ h9 => h9) (Or.inl rfl) rfl rfl dX5_bringIn_37 ?_
    refine w_aload_n hx hb dX5_bringIn_40 rfl (lv_at hl 1 rfl) ?_
    obtain ⟨a9, ea9, h⟩ := v_bnd h
    refine v_gA (ci := 8) hx hb hts iwX7 hown hK 2 ea9 rfl (by decide) (Or.inr ⟨_, kn12 hSS _⟩) (fun _ h9 => h9) dX5_bringIn_41 ?_
    refine w_iload_n hx hb dX5_bringIn_44 rfl (lv_at hl 2 rfl) ?_
    refine w_aload_n hx hb dX5_bringIn_45 rfl (lv_at hl 0 rfl) ?_
    obtain ⟨v10, ev10, h⟩ := v_bnd h
    refine v_gI (ci := 7) hx hb hts iwX5 hown hK 7 ev10 rfl (by decide) (Or.inl (hts _ kw262)) (fun _ h9 => h9) dX5_bringIn_46 ?_
    obtain ⟨M11, eM11, h⟩ := v_bnd h
    refine v_iast hx hb hK eM11 dX5_bringIn_49 ?_
    refine w_aload_n hx hb dX5_bringIn_50 rfl (lv_at hl 1 rfl) ?_
    obtain ⟨a12, ea12, h⟩ := v_bnd h
    refine v_gA (ci := 8) hx hb hts iwX7 hown hK 3 ea12 rfl (by decide) (Or.inr ⟨_, kn14 hSS _⟩) (fun _ h9 => h9) dX5_bringIn_51 ?_
    refine w_aload_n hx hb dX5_bringIn_54 rfl (lv_at hl 0 rfl) ?_
    obtain ⟨v13, ev13, h⟩ := v_bnd h
    refine v_gI (ci := 7) hx hb hts iwX5 hown hK 7 ev13 rfl (by decide) (Or.inl (hts _ kw262)) (fun _ h9 => h9) dX5_bringIn_55 ?_
    refine w_iload_n hx hb dX5_bringIn_58 rfl (lv_at hl 2 rfl) ?_
    refine w_iconst (v := 0) hx hb dX5_bringIn_59 (by decide) ?_
    refine w_aload_n hx hb dX5_bringIn_60 rfl (lv_at hl 0 rfl) ?_
    obtain ⟨v14, ev14, h⟩ := v_bnd h
    refine v_gI (ci := 7) hx hb hts iwX5 hown hK 4 ev14 rfl (by decide) (Or.inl (hts _ kw254)) (fun _ h9 => h9) dX5_bringIn_61 ?_
    obtain ⟨g8, h⟩ := v_ifs h
    obtain ⟨z15, ez15, h⟩ := v_bnd h
    refine v_call0 (M1 := z15.2) (mc := 0) (ms := 0) (fun H locs hR hS => va_runV (As := [.int v13, .int x2, .int 0, .int v14]) (rest := []) ⟨hx, hb, hml, hown, hts⟩ (mX2_note l hfl D a12 v13 x2 0 v14 M11 z15 ez15) (cwV 4 hts (gdV kw974 kw975 kw976 kw33 kw977) rfl rfl rfl (by decide +kernel) ⟨Nat.le_of_ble_eq_true rfl, Nat.le_of_ble_eq_true rfl⟩) (v_preV (ci := 4) hSS hR hS g8 (by decide) rfl [.int v13, .int x2, .int 0, .int v14]) rfl rfl hl.1 rfl (lv_room (Nat.le_of_ble_eq_true rfl)) dX5_bringIn_64 ⟨Nat.zero_le _, Nat.zero_le _⟩) ?_
    refine w_iconst (v := 1) hx hb dX5_bringIn_67 (by decide) ?_
    obtain rfl := Option.some.inj h
    rw [hQ]
    exact v_zret (x := 1) hx hb hr hlk rfl dX5_bringIn_68
  · rw [if_neg c2] at h
    refine w_iconst (v := 0) hx hb dX5_bringIn_8 (by decide) ?_
    obtain rfl := Option.some.inj h
    rw [hQ]
    exact v_zret (x := 0) hx hb hr hlk rfl dX5_bringIn_9

def tX5_pullCursorsBack_J55_5 (rec : Int32 → Int32 → vMe → Option (Int32 × vMe)) (x0 : Nat) (x1 : Int32) (x2 : Int32) (x3 : Int32) (x4 : Int32) (Mj : vMe) : Option (Int32 × vMe) :=
  rec x3 (x4 + 1) Mj
def tX5_pullCursorsBack_L5 (x0 : Nat) (x1 : Int32) (x2 : Int32) : Nat → Int32 → Int32 → vMe → Option (Int32 × vMe)
  | 0, _, _, _ => none
  | f + 1, x3, x4, Mi =>
  if (6 : Int32) ≤ x4 then
  (some (x3, Mi))
else
  ((gA Mi x0 8 1).bind fun a14 =>
  (aA Mi a14 108 x4).bind fun a15 =>
  if (Mi.1 a15).1 = 3 then
  ((tX0_isOpenOn a15 x1 Mi).bind fun z16 =>
  if z16 = 0 then
  (tX5_pullCursorsBack_J55_5 (tX5_pullCursorsBack_L5 x0 x1 x2 f) x0 x1 x2 x3 x4 Mi)
else
  ((gA Mi x0 8 1).bind fun a18 =>
  (aA Mi a18 108 x4).bind fun a19 =>
  (gI Mi a19 3 4).bind fun v20 =>
  if v20 = x2 then
  ((gA Mi x0 8 1).bind fun a22 =>
  (aA Mi a22 108 x4).bind fun a23 =>
  (sV Mi a23 3 4 (.int (x2 - 1))).bind fun M24 =>
  tX5_pullCursorsBack_J55_5 (tX5_pullCursorsBack_L5 x0 x1 x2 f) x0 x1 x2 1 x4 M24)
else
  (tX5_pullCursorsBack_J55_5 (tX5_pullCursorsBack_L5 x0 x1 x2 f) x0 x1 x2 x3 x4 Mi)))
else none)
def tX5_pullCursorsBack (x0 : Nat) (x1 : Int32) (x2 : Int32) (M : vMe) : Option (Int32 × vMe) :=
  (tX5_pullCursorsBack_L5 x0 x1 x2 vF 0 0 M).bind fun z25 =>
  if fits .boolean (.int z25.1) = true then some (z25.1, z25.2) else none
def rmX5_pullCursorsBack : Room := { frames := 2, cells := 0, slots := 0, locals := 21 }
set_option maxHeartbeats 4000000 in
set_option maxRecDepth 100000 in
theorem mX5_pullCursorsBack (l : Launch) (hfl : l.stackTraces = false) (D : vD) (x0 : Nat) (x1 : Int32) (x2 : Int32) (M : vMe) (z : (Int32 × vMe)) (h : tX5_pullCursorsBack x0 x1 x2 M = some z) : Met l yX5_pullCursorsBack (Cond.code yX5_pullCursorsBack cX5_pullCursorsBack 5 (some .boolean) :: TB) rmX5_pullCursorsBack (va_Pc [.ref x0, .int x1, .int x2] (vPre D M)) (qW D (some (.int z.1)) z.2) 0 0 (vA D) := by
  refine v_ofW (cc := cX5_pullCursorsBack) (maxL := 5) (ret := (some .boolean)) (by decide) (Nat.le_of_ble_eq_true rfl) ?_
  intro p e s m args below meth c Q hx hb hr hml hown hts hlk hnm hSS hR0 hQ ls hl
  have hK := hSS.1
  have hl : lv_has ls 5 [(0, .ref x0), (1, .int x1), (2, .int x2)] := hl
  unfold tX5_pullCursorsBack at h
  have X5_pullCursorsBack_L5p : ∀ (x0 : Nat) (x1 : Int32) (x2 : Int32), ∀ (f : Nat) (x3 : Int32) (x4 : Int32) (Mi : vMe) (ls : Array Slot) (z : (Int32 × vMe)), lv_has ls 5 [(0, .ref x0), (1, .int x1), (2, .int x2), (3, .int x3), (4, .int x4)] → tX5_pullCursorsBack_L5 x0 x1 x2 f x3 x4 Mi = some z → (∀ ls : Array Slot, lv_has ls 5 [(3, .int z.1)] → vV D p l e rmX5_pullCursorsBack s m args below meth c 0 0 Q z.2 (F0 m 61 ls [])) → vV D p l e rmX5_pullCursorsBack s m args below meth c 0 0 Q Mi (F0 m 5 ls []) := by
    intro x0 x1 x2 f
    induction f with
    | zero =>
      intro x3 x4 Mi ls z hl h
      exact absurd h (by simp [tX5_pullCursorsBack_L5])
    | succ f ih =>
      intro x3 x4 Mi ls z hl h KX
      rw [tX5_pullCursorsBack_L5] at h
      have X5_pullCursorsBack_J55_5p : ∀ (x3 : Int32) (x4 : Int32) (Mj : vMe) (ls : Array Slot), lv_has ls 5 [(0, .ref x0), (1, .int x1), (2, .int x2), (3, .int x3), (4, .int x4)] → tX5_pullCursorsBack_J55_5 (tX5_pullCursorsBack_L5 x0 x1 x2 f) x0 x1 x2 x3 x4 Mj = some z → vV D p l e rmX5_pullCursorsBack s m args below meth c 0 0 Q Mj (F0 m 55 ls []) := by
        intro x3 x4 Mj ls hl h
        unfold tX5_pullCursorsBack_J55_5 at h
        refine w_iinc (v := x4 + 1) (lv' := [(4, .int (x4 + 1)), (0, .ref x0), (1, .int x1), (2, .int x2), (3, .int x3)]) hx hb dX5_pullCursorsBack_55 hl (j := 4) rfl rfl (by decide) rfl (fun ls hl => ?_)
        have hl : lv_has ls 5 [(0, .ref x0), (1, .int x1), (2, .int x2), (3, .int x3), (4, .int (x4 + 1))] := lv_sub hl [1, 2, 3, 4, 0] rfl
        refine w_goto (tgt := 5) hx hb dX5_pullCursorsBack_58 (by decide) ?_
        exact ih x3 (x4 + 1) Mj ls z (lv_sub hl [0, 1, 2, 3, 4] rfl) h KX
      refine w_iload hx hb dX5_pullCursorsBack_5 (lv_at hl 4 rfl) ?_
      refine w_bipush (v := 6) hx hb dX5_pullCursorsBack_7 (by decide) ?_
      refine w_icmp_ge (tgt := 61) hx hb dX5_pullCursorsBack_9 (by decide) (fun c13 => ?_) (fun c13 => ?_)
      · rw [if_pos c13] at h
        obtain rfl := Option.some.inj h
        exact KX ls (lv_sub hl [3] rfl)
      · rw [if_neg c13] at h
        refine w_aload_n hx hb dX5_pullCursorsBack_12 rfl (lv_at hl 0 rfl) ?_
        obtain ⟨a14, ea14, h⟩ := v_bnd h
        refine v_gA (ci := 7) hx hb hts iwX5 hown hK 1 ea14 rfl (by decide) (Or.inl (hts _ kw247)) (fun _ h9 => h9) dX5_pullCursorsBack_13 ?_
        refine w_iload hx hb dX5_pullCursorsBack_16 (lv_at hl 4 rfl) ?_
        obtain ⟨a15, ea15, h⟩ := v_bnd h
        refine v_aaldA hx hb hK ea15 (by decide) dX5_pullCursorsBack_18 ?_
        refine w_iload_n hx hb dX5_pullCursorsBack_19 rfl (lv_at hl 1 rfl) ?_
        obtain ⟨g8, h⟩ := v_ifs h
        obtain ⟨z16, ez16, h⟩ := v_bnd h
        refine v_call1 (v := .int z16) (M1 := Mi) (mc := 0) (ms := 0) (fun H locs hR hS => va_runV (As := [.int x1]) (rest := []) ⟨hx, hb, hml, hown, hts⟩ (mX0_isOpenOn l hfl D a15 x1 Mi z16 ez16) (cwV 1 hts (gdV kw993 kw994 kw995 kw34 kw996) rfl rfl rfl (by decide +kernel) ⟨Nat.le_of_ble_eq_true rfl, Nat.le_of_ble_eq_true rfl⟩) (v_preV (ci := 2) hSS hR hS g8 (by decide) rfl [.int x1]) rfl rfl hl.1 rfl (lv_room (Nat.le_of_ble_eq_true rfl)) dX5_pullCursorsBack_20 ⟨Nat.zero_le _, Nat.zero_le _⟩) ?_
        refine w_if_eq (tgt := 55) hx hb dX5_pullCursorsBack_23 (by decide) (fun c17 => ?_) (fun c17 => ?_)
        · rw [if_pos c17] at h
          exact X5_pullCursorsBack_J55_5p x3 x4 Mi ls (lv_sub hl [0, 1, 2, 3, 4] rfl) h
        · rw [if_neg c17] at h
          refine w_aload_n hx hb dX5_pullCursorsBack_26 rfl (lv_at hl 0 rfl) ?_
          obtain ⟨a18, ea18, h⟩ := v_bnd h
          refine v_gA (ci := 7) hx hb hts iwX5 hown hK 1 ea18 rfl (by decide) (Or.inl (hts _ kw247)) (fun _ h9 => h9) dX5_pullCursorsBack_27 ?_
          refine w_iload hx hb dX5_pullCursorsBack_30 (lv_at hl 4 rfl) ?_
          obtain ⟨a19, ea19, h⟩ := v_bnd h
          refine v_aaldA hx hb hK ea19 (by decide) dX5_pullCursorsBack_32 ?_
          obtain ⟨v20, ev20, h⟩ := v_bnd h
          refine v_gI (ci := 2) hx hb hts iwX0 hown hK 4 ev20 rfl (by decide) (Or.inr ⟨_, kn28 hSS _⟩) (fun _ h9 => h9) dX5_pullCursorsBack_33 ?_
          refine w_iload_n hx hb dX5_pullCursorsBack_36 rfl (lv_at hl 2 rfl) ?_
          refine w_icmp_ne (tgt := 55) hx hb dX5_pullCursorsBack_37 (by decide) (fun c21 => ?_) (fun c21 => ?_)
          · rw [if_pos c21] at h
            refine w_aload_n hx hb dX5_pullCursorsBack_40 rfl (lv_at hl 0 rfl) ?_
            obtain ⟨a22, ea22, h⟩ := v_bnd h
            refine v_gA (ci := 7) hx hb hts iwX5 hown hK 1 ea22 rfl (by decide) (Or.inl (hts _ kw247)) (fun _ h9 => h9) dX5_pullCursorsBack_41 ?_
            refine w_iload hx hb dX5_pullCursorsBack_44 (lv_at hl 4 rfl) ?_
            obtain ⟨a23, ea23, h⟩ := v_bnd h
            refine v_aaldA hx hb hK ea23 (by decide) dX5_pullCursorsBack_46 ?_
            refine w_iload_n hx hb dX5_pullCursorsBack_47 rfl (lv_at hl 2 rfl) ?_
            refine w_iconst (v := 1) hx hb dX5_pullCursorsBack_48 (by decide) ?_
            refine w_isub hx hb dX5_pullCursorsBack_49 ?_
            obtain ⟨M24, eM24, h⟩ := v_bnd h
            refine v_putf (ci := 2) hx hb hts iwX0 hown hK tyX0_ok nmX0 4 eM24 rfl (by decide) (Or.inr ⟨_, kn28 hSS _⟩) (fun _ h9 => h9) (Or.inl rfl) rfl rfl dX5_pullCursorsBack_50 ?_
            refine w_iconst (v := 1) hx hb dX5_pullCursorsBack_53 (by decide) ?_
            refine w_istore_n (lv' := [(3, .int 1), (0, .ref x0), (1, .int x1), (2, .int x2), (4, .int x4)]) hx hb dX5_pullCursorsBack_54 rfl hl (by decide) rfl (fun ls hl => ?_)
            have hl : lv_has ls 5 [(0, .ref x0), (1, .int x1), (2, .int x2), (3, .int 1), (4, .int x4)] := lv_sub hl [1, 2, 3, 0, 4] rfl
            exact X5_pullCursorsBack_J55_5p 1 x4 M24 ls (lv_sub hl [0, 1, 2, 3, 4] rfl) h
          · rw [if_neg c21] at h
            exact X5_pullCursorsBack_J55_5p x3 x4 Mi ls (lv_sub hl [0, 1, 2, 3, 4] rfl) h
  refine w_iconst (v := 0) hx hb dX5_pullCursorsBack_0 (by decide) ?_
  refine w_istore_n (lv' := [(3, .int 0), (0, .ref x0), (1, .int x1), (2, .int x2)]) hx hb dX5_pullCursorsBack_1 rfl hl (by decide) rfl (fun ls hl => ?_)
  have hl : lv_has ls 5 [(0, .ref x0), (1, .int x1), (2, .int x2), (3, .int 0)] := lv_sub hl [1, 2, 3, 0] rfl
  refine w_iconst (v := 0) hx hb dX5_pullCursorsBack_2 (by decide) ?_
  refine w_istore (lv' := [(4, .int 0), (0, .ref x0), (1, .int x1), (2, .int x2), (3, .int 0)]) hx hb dX5_pullCursorsBack_3 hl (by decide) rfl (fun ls hl => ?_)
  have hl : lv_has ls 5 [(0, .ref x0), (1, .int x1), (2, .int x2), (3, .int 0), (4, .int 0)] := lv_sub hl [1, 2, 3, 4, 0] rfl
  obtain ⟨z25, ez25, h⟩ := v_bnd h
  refine X5_pullCursorsBack_L5p x0 x1 x2 vF 0 0 M ls z25 (lv_sub hl [0, 1, 2, 3, 4] rfl) ez25 (fun ls hl => ?_)
  refine w_iload_n hx hb dX5_pullCursorsBack_61 rfl (lv_at hl 0 rfl) ?_
  obtain ⟨g6, h⟩ := v_ifs h
  obtain rfl := Option.some.inj h
  rw [hQ]
  exact v_zret hx hb hr hlk (v_narZ g6) dX5_pullCursorsBack_62

def tX5_moveMember (x0 : Nat) (x1 : Nat) (x2 : Int32) (x3 : Int32) (M : vMe) : Option (Unit × vMe) :=
  if x2 = x3 then
  (some ((), M))
else
  ((gA M x1 9 0).bind fun a2 =>
  (aI M a2 101 x2).bind fun v3 =>
  if (M.1 x0).1 = 8 then
  ((tX5_writeMember x0 x1 x3 v3 M).bind fun z4 =>
  some ((), z4.2))
else none)
def rmX5_moveMember : Room := { frames := 2, cells := 0, slots := 0, locals := 23 }
set_option maxHeartbeats 4000000 in
set_option maxRecDepth 100000 in
theorem mX5_moveMember (l : Launch) (hfl : l.stackTraces = false) (D : vD) (x0 : Nat) (x1 : Nat) (x2 : Int32) (x3 : Int32) (M : vMe) (z : (Unit × vMe)) (h : tX5_moveMember x0 x1 x2 x3 M = some z) : Met l yX5_moveMember (Cond.code yX5_moveMember cX5_moveMember 4 none :: TB) rmX5_moveMember (va_Pc [.ref x0, .ref x1, .int x2, .int x3] (vPre D M)) (qW D none z.2) 0 0 (vA D) := by
  refine v_ofW (cc := cX5_moveMember) (maxL := 4) (ret := none) (by decide) (Nat.le_of_ble_eq_true rfl) ?_
  intro p e s m args below meth c Q hx hb hr hml hown hts hlk hnm hSS hR0 hQ ls hl
  have hK := hSS.1
  have hl : lv_has ls 4 [(0, .ref x0), (1, .ref x1), (2, .int x2), (3, .int x3)] := hl
  unfold tX5_moveMember at h
  refine w_iload_n hx hb dX5_moveMember_0 rfl (lv_at hl 2 rfl) ?_
  refine w_iload_n hx hb dX5_moveMember_1 rfl (lv_at hl 3 rfl) ?_
  refine w_icmp_eq (tgt := 17) hx hb dX5_moveMember_2 (by decide) (fun c1 => ?_) (fun c1 => ?_)
  · rw [if_pos c1] at h
    obtain rfl := Option.some.inj h
    rw [hQ]
    exact v_vret hx hb hr hlk dX5_moveMember_17
  · rw [if_neg c1] at h
    refine w_aload_n hx hb dX5_moveMember_5 rfl (lv_at hl 0 rfl) ?_
    refine w_aload_n hx hb dX5_moveMember_6 rfl (lv_at hl 1 rfl) ?_
    refine w_iload_n hx hb dX5_moveMember_7 rfl (lv_at hl 3 rfl) ?_
    refine w_aload_n hx hb dX5_moveMember_8 rfl (lv_at hl 1 rfl) ?_
    obtain ⟨a2, ea2, h⟩ := v_bnd h
    refine v_gA (ci := 8) hx hb hts iwX7 hown hK 0 ea2 rfl (by decide) (Or.inr ⟨_, kn8 hSS _⟩) (fun _ h9 => h9) dX5_moveMember_9 ?_
    refine w_iload_n hx hb dX5_moveMember_12 rfl (lv_at hl 2 rfl) ?_
    obtain ⟨v3, ev3, h⟩ := v_bnd h
    refine v_iald hx hb hK ev3 dX5_moveMember_13 ?_
    obtain ⟨g8, h⟩ := v_ifs h
    obtain ⟨z4, ez4, h⟩ := v_bnd h
    refine v_call0 (M1 := z4.2) (mc := 0) (ms := 0) (fun H locs hR hS => va_runV (As := [.ref x1, .int x3, .int v3]) (rest := []) ⟨hx, hb, hml, hown, hts⟩ (mX5_writeMember l hfl D x0 x1 x3 v3 M z4 ez4) (cwV 3 hts (gdV kw970 kw972 kw14 kw31 kw973) rfl rfl rfl (by decide +kernel) ⟨Nat.le_of_ble_eq_true rfl, Nat.le_of_ble_eq_true rfl⟩) (v_preV (ci := 7) hSS hR hS g8 (by decide) rfl [.ref x1, .int x3, .int v3]) rfl rfl hl.1 rfl (lv_room (Nat.le_of_ble_eq_true rfl)) dX5_moveMember_14 ⟨Nat.zero_le _, Nat.zero_le _⟩) ?_
    obtain rfl := Option.some.inj h
    rw [hQ]
    exact v_vret hx hb hr hlk dX5_moveMember_17

def tX5_takeOut_J77_32 (rec : Int32 → Int32 → vMe → Option (Unit × vMe)) (x0 : Nat) (x1 : Int32) (x2 : Int32) (x3 : Nat) (x5 : Int32) (x6 : Int32) (Mj : vMe) : Option (Unit × vMe) :=
  rec x5 (x6 + 1) Mj
def tX5_takeOut_J60_32 (rec : Int32 → Int32 → vMe → Option (Unit × vMe)) (x0 : Nat) (x1 : Int32) (x2 : Int32) (x3 : Nat) (x5 : Int32) (x6 : Int32) (Mj : vMe) : Option (Unit × vMe) :=
  if (Mj.1 x0).1 = 8 then
  ((tX5_moveMember x0 x3 (x6 - 1) x5 Mj).bind fun z18 =>
  tX5_takeOut_J77_32 (rec) x0 x1 x2 x3 (x6 - 1) x6 z18.2)
else none
def tX5_takeOut_L32 (x0 : Nat) (x1 : Int32) (x2 : Int32) (x3 : Nat) : Nat → Int32 → Int32 → vMe → Option (Unit × vMe)
  | 0, _, _, _ => none
  | f + 1, x5, x6, Mi =>
  (gI Mi x3 9 5).bind fun v12 =>
  if v12 < x6 then
  (some ((), Mi))
else
  (if (Mi.1 x0).1 = 8 then
  ((tX5_pullCursorsBack x0 x1 x6 Mi).bind fun z14 =>
  if z14.1 = 0 then
  ((gI z14.2 x3 9 5).bind fun v16 =>
  if x6 = v16 then
  (tX5_takeOut_J60_32 (tX5_takeOut_L32 x0 x1 x2 x3 f) x0 x1 x2 x3 x5 x6 z14.2)
else
  (tX5_takeOut_J77_32 (tX5_takeOut_L32 x0 x1 x2 x3 f) x0 x1 x2 x3 x5 x6 z14.2))
else
  (tX5_takeOut_J60_32 (tX5_takeOut_L32 x0 x1 x2 x3 f) x0 x1 x2 x3 x5 x6 z14.2))
else none)
def tX5_takeOut (x0 : Nat) (x1 : Int32) (x2 : Int32) (M : vMe) : Option (Int32 × vMe) :=
  (gA M x0 8 0).bind fun a1 =>
  (aA M a1 107 x1).bind fun a2 =>
  if (M.1 a2).1 = 9 then
  ((tX7_placeOf a2 x2 M).bind fun z3 =>
  if z3 = ((-1) : Int32) then
  (some (0, M))
else
  ((tX5_takeOut_L32 x0 x1 x2 a2 vF z3 (z3 + 1) M).bind fun z19 =>
  (gI z19.2 a2 9 5).bind fun v20 =>
  (sV z19.2 a2 9 5 (.int (v20 - 1))).bind fun M21 =>
  (gI M21 x0 8 7).bind fun v22 =>
  (sV M21 x0 8 7 (.int (v22 + 1))).bind fun M23 =>
  (gA M23 a2 9 3).bind fun a24 =>
  (gI M23 x0 8 7).bind fun v25 =>
  (gI M23 x0 8 4).bind fun v26 =>
  if (M23.1 a24).1 = 5 then
  ((tX2_note a24 v25 x2 1 v26 M23).bind fun z27 =>
  some (1, z27.2))
else none))
else none
def rmX5_takeOut : Room := { frames := 3, cells := 0, slots := 0, locals := 84 }
set_option maxHeartbeats 4000000 in
set_option maxRecDepth 100000 in
theorem mX5_takeOut (l : Launch) (hfl : l.stackTraces = false) (D : vD) (x0 : Nat) (x1 : Int32) (x2 : Int32) (M : vMe) (z : (Int32 × vMe)) (h : tX5_takeOut x0 x1 x2 M = some z) : Met l yX5_takeOut (Cond.code yX5_takeOut cX5_takeOut 7 (some .boolean) :: TB) rmX5_takeOut (va_Pc [.ref x0, .int x1, .int x2] (vPre D M)) (qW D (some (.int z.1)) z.2) 0 0 (vA D) := by
  refine v_ofW (cc := cX5_takeOut) (maxL := 7) (ret := (some .boolean)) (by decide) (Nat.le_of_ble_eq_true rfl) ?_
  intro p e s m args below meth c Q hx hb hr hml hown hts hlk hnm hSS hR0 hQ ls hl
  have hK := hSS.1
  have hl : lv_has ls 7 [(0, .ref x0), (1, .int x1), (2, .int x2)] := hl
  unfold tX5_takeOut at h
  have X5_takeOut_L32p : ∀ (x0 : Nat) (x1 : Int32) (x2 : Int32) (x3 : Nat), ∀ (f : Nat) (x5 : Int32) (x6 : Int32) (Mi : vMe) (ls : Array Slot) (z : (Unit × vMe)), lv_has ls 7 [(0, .ref x0), (1, .int x1), (2, .int x2), (3, .ref x3), (5, .int x5), (6, .int x6)] → tX5_takeOut_L32 x0 x1 x2 x3 f x5 x6 Mi = some z → (∀ ls : Array Slot, lv_has ls 7 [(0, .ref x0), (2, .int x2), (3, .ref x3)] → vV D p l e rmX5_takeOut s m args below meth c 0 0 Q z.2 (F0 m 83 ls [])) → vV D p l e rmX5_takeOut s m args below meth c 0 0 Q Mi (F0 m 32 ls []) := by
    intro x0 x1 x2 x3 f
    induction f with
    | zero =>
      intro x5 x6 Mi ls z hl h
      exact absurd h (by simp [tX5_takeOut_L32])
    | succ f ih =>
      intro x5 x6 Mi ls z hl h KX
      rw [tX5_takeOut_L32] at h
      have X5_takeOut_J77_32p : ∀ (x5 : Int32) (x6 : Int32) (Mj : vMe) (ls : Array Slot), lv_has ls 7 [(0, .ref x0), (1, .int x1), (2, .int x2), (3, .ref x3), (5, .int x5), (6, .int x6)] → tX5_takeOut_J77_32 (tX5_takeOut_L32 x0 x1 x2 x3 f) x0 x1 x2 x3 x5 x6 Mj = some z → vV D p l e rmX5_takeOut s m args below meth c 0 0 Q Mj (F0 m 77 ls []) := by
        intro x5 x6 Mj ls hl h
        unfold tX5_takeOut_J77_32 at h
        refine w_iinc (v := x6 + 1) (lv' := [(6, .int (x6 + 1)), (0, .ref x0), (1, .int x1), (2, .int x2), (3, .ref x3), (5, .int x5)]) hx hb dX5_takeOut_77 hl (j := 5) rfl rfl (by decide) rfl (fun ls hl => ?_)
        have hl : lv_has ls 7 [(0, .ref x0), (1, .int x1), (2, .int x2), (3, .ref x3), (5, .int x5), (6, .int (x6 + 1))] := lv_sub hl [1, 2, 3, 4, 5, 0] rfl
        refine w_goto (tgt := 32) hx hb dX5_takeOut_80 (by decide) ?_
        exact ih x5 (x6 + 1) Mj ls z (lv_sub hl [0, 1, 2, 3, 4, 5] rfl) h KX
      have X5_takeOut_J60_32p : ∀ (x5 : Int32) (x6 : Int32) (Mj : vMe) (ls : Array Slot), lv_has ls 7 [(0, .ref x0), (1, .int x1), (2, .int x2), (3, .ref x3), (5, .int x5), (6, .int x6)] → tX5_takeOut_J60_32 (tX5_takeOut_L32 x0 x1 x2 x3 f) x0 x1 x2 x3 x5 x6 Mj = some z → vV D p l e rmX5_takeOut s m args below meth c 0 0 Q Mj (F0 m 60 ls []) := by
        intro x5 x6 Mj ls hl h
        unfold tX5_takeOut_J60_32 at h
        refine w_aload_n hx hb dX5_takeOut_60 rfl (lv_at hl 0 rfl) ?_
        refine w_aload_n hx hb dX5_takeOut_61 rfl (lv_at hl 3 rfl) ?_
        refine w_iload hx hb dX5_takeOut_62 (lv_at hl 5 rfl) ?_
        refine w_iconst (v := 1) hx hb dX5_takeOut_64 (by decide) ?_
        refine w_isub hx hb dX5_takeOut_65 ?_
        refine w_iload hx hb dX5_takeOut_66 (lv_at hl 4 rfl) ?_
        obtain ⟨g8, h⟩ := v_ifs h
        obtain ⟨z18, ez18, h⟩ := v_bnd h
        refine v_call0 (M1 := z18.2) (mc := 0) (ms := 0) (fun H locs hR hS => va_runV (As := [.ref x3, .int (x6 - 1), .int x5]) (rest := []) ⟨hx, hb, hml, hown, hts⟩ (mX5_moveMember l hfl D x0 x3 (x6 - 1) x5 Mj z18 ez18) (cwV 3 hts (gdV kw997 kw999 kw17 kw31 kw1000) rfl rfl rfl (by decide +kernel) ⟨Nat.le_of_ble_eq_true rfl, Nat.le_of_ble_eq_true rfl⟩) (v_preV (ci := 7) hSS hR hS g8 (by decide) rfl [.ref x3, .int (x6 - 1), .int x5]) rfl rfl hl.1 rfl (lv_room (Nat.le_of_ble_eq_true rfl)) dX5_takeOut_68 ⟨Nat.zero_le _, Nat.zero_le _⟩) ?_
        refine w_iload hx hb dX5_takeOut_71 (lv_at hl 5 rfl) ?_
        refine w_iconst (v := 1) hx hb dX5_takeOut_73 (by decide) ?_
        refine w_isub hx hb dX5_takeOut_74 ?_
        refine w_istore (lv' := [(5, .int (x6 - 1)), (0, .ref x0), (1, .int x1), (2, .int x2), (3, .ref x3), (6, .int x6)]) hx hb dX5_takeOut_75 hl (by decide) rfl (fun ls hl => ?_)
        have hl : lv_has ls 7 [(0, .ref x0), (1, .int x1), (2, .int x2), (3, .ref x3), (5, .int (x6 - 1)), (6, .int x6)] := lv_sub hl [1, 2, 3, 4, 0, 5] rfl
        exact X5_takeOut_J77_32p (x6 - 1) x6 z18.2 ls (lv_sub hl [0, 1, 2, 3, 4, 5] rfl) h
      refine w_iload hx hb dX5_takeOut_32 (lv_at hl 5 rfl) ?_
      refine w_aload_n hx hb dX5_takeOut_34 rfl (lv_at hl 3 rfl) ?_
      obtain ⟨v12, ev12, h⟩ := v_bnd h
      refine v_gI (ci := 8) hx hb hts iwX7 hown hK 5 ev12 rfl (by decide) (Or.inr ⟨_, kn17 hSS _⟩) (fun _ h9 => h9) dX5_takeOut_35 ?_
      refine w_icmp_gt (tgt := 83) hx hb dX5_takeOut_38 (by decide) (fun c13 => ?_) (fun c13 => ?_)
      · rw [if_pos c13] at h
        obtain rfl := Option.some.inj h
        exact KX ls (lv_sub hl [0, 2, 3] rfl)
      · rw [if_neg c13] at h
        refine w_aload_n hx hb dX5_takeOut_41 rfl (lv_at hl 0 rfl) ?_
        refine w_iload_n hx hb dX5_takeOut_42 rfl (lv_at hl 1 rfl) ?_
        refine w_iload hx hb dX5_takeOut_43 (lv_at hl 5 rfl) ?_
        obtain ⟨g8, h⟩ := v_ifs h
        obtain ⟨z14, ez14, h⟩ := v_bnd h
        refine v_call1 (v := .int z14.1) (M1 := z14.2) (mc := 0) (ms := 0) (fun H locs hR hS => va_runV (As := [.int x1, .int x6]) (rest := []) ⟨hx, hb, hml, hown, hts⟩ (mX5_pullCursorsBack l hfl D x0 x1 x6 Mi z14 ez14) (cwV 2 hts (gdV kw989 kw991 kw16 kw31 kw992) rfl rfl rfl (by decide +kernel) ⟨Nat.le_of_ble_eq_true rfl, Nat.le_of_ble_eq_true rfl⟩) (v_preV (ci := 7) hSS hR hS g8 (by decide) rfl [.int x1, .int x6]) rfl rfl hl.1 rfl (lv_room (Nat.le_of_ble_eq_true rfl)) dX5_takeOut_45 ⟨Nat.zero_le _, Nat.zero_le _⟩) ?_
        refine w_if_ne (tgt := 60) hx hb dX5_takeOut_48 (by decide) (fun c15 => ?_) (fun c15 => ?_)
        · rw [if_pos c15] at h
          refine w_iload hx hb dX5_takeOut_51 (lv_at hl 5 rfl) ?_
          refine w_aload_n hx hb dX5_takeOut_53 rfl (lv_at hl 3 rfl) ?_
          obtain ⟨v16, ev16, h⟩ := v_bnd h
          refine v_gI (ci := 8) hx hb hts iwX7 hown hK 5 ev16 rfl (by decide) (Or.inr ⟨_, kn17 hSS _⟩) (fun _ h9 => h9) dX5_takeOut_54 ?_
          refine w_icmp_ne (tgt := 77) hx hb dX5_takeOut_57 (by decide) (fun c17 => ?_) (fun c17 => ?_)
          · rw [if_pos c17] at h
            exact X5_takeOut_J60_32p x5 x6 z14.2 ls (lv_sub hl [0, 1, 2, 3, 4, 5] rfl) h
          · rw [if_neg c17] at h
            exact X5_takeOut_J77_32p x5 x6 z14.2 ls (lv_sub hl [0, 1, 2, 3, 4, 5] rfl) h
        · rw [if_neg c15] at h
          exact X5_takeOut_J60_32p x5 x6 z14.2 ls (lv_sub hl [0, 1, 2, 3, 4, 5] rfl) h
  refine w_aload_n hx hb dX5_takeOut_0 rfl (lv_at hl 0 rfl) ?_
  obtain ⟨a1, ea1, h⟩ := v_bnd h
  refine v_gA (ci := 7) hx hb hts iwX5 hown hK 0 ea1 rfl (by decide) (Or.inl (hts _ kw244)) (fun _ h9 => h9) dX5_takeOut_1 ?_
  refine w_iload_n hx hb dX5_takeOut_4 rfl (lv_at hl 1 rfl) ?_
  obtain ⟨a2, ea2, h⟩ := v_bnd h
  refine v_aaldA hx hb hK ea2 (by decide) dX5_takeOut_5 ?_
  refine w_astore_n (lv' := [(3, .ref a2), (0, .ref x0), (1, .int x1), (2, .int x2)]) hx hb dX5_takeOut_6 rfl hl (by decide) rfl (fun ls hl => ?_)
  have hl : lv_has ls 7 [(0, .ref x0), (1, .int x1), (2, .int x2), (3, .ref a2)] := lv_sub hl [1, 2, 3, 0] rfl
  refine w_aload_n hx hb dX5_takeOut_7 rfl (lv_at hl 3 rfl) ?_
  refine w_iload_n hx hb dX5_takeOut_8 rfl (lv_at hl 2 rfl) ?_
  obtain ⟨g8, h⟩ := v_ifs h
  obtain ⟨z3, ez3, h⟩ := v_bnd h
  refine v_call1 (v := .int z3) (M1 := M) (mc := 0) (ms := 0) (fun H locs hR hS => va_runV (As := [.int x2]) (rest := []) ⟨hx, hb, hml, hown, hts⟩ (mX7_placeOf l hfl D a2 x2 M z3 ez3) (cwV 1 hts (gdV kw988 kw967 kw968 kw32 kw969) rfl rfl rfl (by decide +kernel) ⟨Nat.le_of_ble_eq_true rfl, Nat.le_of_ble_eq_true rfl⟩) (v_preV (ci := 8) hSS hR hS g8 (by decide) rfl [.int x2]) rfl rfl hl.1 rfl (lv_room (Nat.le_of_ble_eq_true rfl)) dX5_takeOut_9 ⟨Nat.zero_le _, Nat.zero_le _⟩) ?_
  refine w_istore (lv' := [(4, .int z3), (0, .ref x0), (1, .int x1), (2, .int x2), (3, .ref a2)]) hx hb dX5_takeOut_12 hl (by decide) rfl (fun ls hl => ?_)
  have hl : lv_has ls 7 [(0, .ref x0), (1, .int x1), (2, .int x2), (3, .ref a2), (4, .int z3)] := lv_sub hl [1, 2, 3, 4, 0] rfl
  refine w_iload hx hb dX5_takeOut_14 (lv_at hl 4 rfl) ?_
  refine w_iconst (v := (-1)) hx hb dX5_takeOut_16 (by decide) ?_
  refine w_icmp_ne (tgt := 22) hx hb dX5_takeOut_17 (by decide) (fun c4 => ?_) (fun c4 => ?_)
  · rw [if_pos c4] at h
    refine w_iconst (v := 0) hx hb dX5_takeOut_20 (by decide) ?_
    obtain rfl := Option.some.inj h
    rw [hQ]
    exact v_zret (x := 0) hx hb hr hlk rfl dX5_takeOut_21
  · rw [if_neg c4] at h
    refine w_iload hx hb dX5_takeOut_22 (lv_at hl 4 rfl) ?_
    refine w_istore (lv' := [(5, .int z3), (0, .ref x0), (1, .int x1), (2, .int x2), (3, .ref a2), (4, .int z3)]) hx hb dX5_takeOut_24 hl (by decide) rfl (fun ls hl => ?_)
    have hl : lv_has ls 7 [(0, .ref x0), (1, .int x1), (2, .int x2), (3, .ref a2), (4, .int z3), (5, .int z3)] := lv_sub hl [1, 2, 3, 4, 5, 0] rfl
    refine w_iload hx hb dX5_takeOut_26 (lv_at hl 4 rfl) ?_
    refine w_iconst (v := 1) hx hb dX5_takeOut_28 (by decide) ?_
    refine w_iadd hx hb dX5_takeOut_29 ?_
    refine w_istore (lv' := [(6, .int (z3 + 1)), (0, .ref x0), (1, .int x1), (2, .int x2), (3, .ref a2), (4, .int z3), (5, .int z3)]) hx hb dX5_takeOut_30 hl (by decide) rfl (fun ls hl => ?_)
    have hl : lv_has ls 7 [(0, .ref x0), (1, .int x1), (2, .int x2), (3, .ref a2), (4, .int z3), (5, .int z3), (6, .int (z3 + 1))] := lv_sub hl [1, 2, 3, 4, 5, 6, 0] rfl
    obtain ⟨z19, ez19, h⟩ := v_bnd h
    refine X5_takeOut_L32p x0 x1 x2 a2 vF z3 (z3 + 1) M ls z19 (lv_sub hl [0, 1, 2, 3, 5, 6] rfl) ez19 (fun ls hl => ?_)
    refine w_aload_n hx hb dX5_takeOut_83 rfl (lv_at hl 2 rfl) ?_
    refine w_dup hx hb dX5_takeOut_84 rfl ?_
    obtain ⟨v20, ev20, h⟩ := v_bnd h
    refine v_gI (ci := 8) hx hb hts iwX7 hown hK 5 ev20 rfl (by decide) (Or.inr ⟨_, kn17 hSS _⟩) (fun _ h9 => h9) dX5_takeOut_85 ?_
    refine w_iconst (v := 1) hx hb dX5_takeOut_88 (by decide) ?_
    refine w_isub hx hb dX5_takeOut_89 ?_
    obtain ⟨M21, eM21, h⟩ := v_bnd h
    refine v_putf (ci := 8) hx hb hts iwX7 hown hK tyX7_ok nmX7 5 eM21 rfl (by decide) (Or.inr ⟨_, kn17 hSS _⟩) (fun _ h9 => h9) (Or.inl rfl) rfl rfl dX5_takeOut_90 ?_
    refine w_aload_n hx hb dX5_takeOut_93 rfl (lv_at hl 0 rfl) ?_
    refine w_dup hx hb dX5_takeOut_94 rfl ?_
    obtain ⟨v22, ev22, h⟩ := v_bnd h
    refine v_gI (ci := 7) hx hb hts iwX5 hown hK 7 ev22 rfl (by decide) (Or.inl (hts _ kw262)) (fun _ h9 => h9) dX5_takeOut_95 ?_
    refine w_iconst (v := 1) hx hb dX5_takeOut_98 (by decide) ?_
    refine w_iadd hx hb dX5_takeOut_99 ?_
    obtain ⟨M23, eM23, h⟩ := v_bnd h
    refine v_putf (ci := 7) hx hb hts iwX5 hown hK tyX5_ok nmX5 7 eM23 rfl (by decide) (Or.inl (hts _ kw262)) (fun _ h9 => h9) (Or.inl rfl) rfl rfl dX5_takeOut_100 ?_
    refine w_aload_n hx hb dX5_takeOut_103 rfl (lv_at hl 2 rfl) ?_
    obtain ⟨a24, ea24, h⟩ := v_bnd h
    refine v_gA (ci := 8) hx hb hts iwX7 hown hK 3 ea24 rfl (by decide) (Or.inr ⟨_, kn14 hSS _⟩) (fun _ h9 => h9) dX5_takeOut_104 ?_
    refine w_aload_n hx hb dX5_takeOut_107 rfl (lv_at hl 0 rfl) ?_
    obtain ⟨v25, ev25, h⟩ := v_bnd h
    refine v_gI (ci := 7) hx hb hts iwX5 hown hK 7 ev25 rfl (by decide) (Or.inl (hts _ kw262)) (fun _ h9 => h9) dX5_takeOut_108 ?_
    refine w_iload_n hx hb dX5_takeOut_111 rfl (lv_at hl 1 rfl) ?_
    refine w_iconst (v := 1) hx hb dX5_takeOut_112 (by decide) ?_
    refine w_aload_n hx hb dX5_takeOut_113 rfl (lv_at hl 0 rfl) ?_
    obtain ⟨v26, ev26, h⟩ := v_bnd h
    refine v_gI (ci := 7) hx hb hts iwX5 hown hK 4 ev26 rfl (by decide) (Or.inl (hts _ kw254)) (fun _ h9 => h9) dX5_takeOut_114 ?_
    obtain ⟨g8, h⟩ := v_ifs h
    obtain ⟨z27, ez27, h⟩ := v_bnd h
    refine v_call0 (M1 := z27.2) (mc := 0) (ms := 0) (fun H locs hR hS => va_runV (As := [.int v25, .int x2, .int 1, .int v26]) (rest := []) ⟨hx, hb, hml, hown, hts⟩ (mX2_note l hfl D a24 v25 x2 1 v26 M23 z27 ez27) (cwV 4 hts (gdV kw974 kw975 kw976 kw33 kw977) rfl rfl rfl (by decide +kernel) ⟨Nat.le_of_ble_eq_true rfl, Nat.le_of_ble_eq_true rfl⟩) (v_preV (ci := 4) hSS hR hS g8 (by decide) rfl [.int v25, .int x2, .int 1, .int v26]) rfl rfl hl.1 rfl (lv_room (Nat.le_of_ble_eq_true rfl)) dX5_takeOut_117 ⟨Nat.zero_le _, Nat.zero_le _⟩) ?_
    refine w_iconst (v := 1) hx hb dX5_takeOut_120 (by decide) ?_
    obtain rfl := Option.some.inj h
    rw [hQ]
    exact v_zret (x := 1) hx hb hr hlk rfl dX5_takeOut_121

def tX3_readMembers_J104_22 (G : Nat → Nat) (rec : Int32 → vMe → Option ((Int32 ⊕ Unit) × vMe)) (x0 : Nat) (x1 : Int32) (x2 : Int32) (x3 : Int32) (Mj : vMe) : Option ((Int32 ⊕ Unit) × vMe) :=
  if (Mj.1 x0).1 = 6 then
  ((tX3_toNextToken G x0 Mj).bind fun z14 =>
  rec (x3 + 1) z14.2)
else none
def tX3_readMembers_J44_22 (G : Nat → Nat) (rec : Int32 → vMe → Option ((Int32 ⊕ Unit) × vMe)) (x0 : Nat) (x1 : Int32) (x2 : Int32) (x3 : Int32) (Mj : vMe) : Option ((Int32 ⊕ Unit) × vMe) :=
  (gA Mj x0 6 2).bind fun a6 =>
  (gI Mj a6 8 3).bind fun v7 =>
  if (Mj.1 x0).1 = 6 then
  ((tX3_isNumber G x0 0 (v7 - 1) Mj).bind fun z8 =>
  if z8.1 = 0 then
  (some (Sum.inl 0, z8.2))
else
  (if x1 = 0 then
  ((gA z8.2 x0 6 2).bind fun a11 =>
  (gI z8.2 x0 6 6).bind fun v12 =>
  if (z8.2.1 a11).1 = 8 then
  ((tX5_takeOut a11 x2 v12 z8.2).bind fun z13 =>
  tX3_readMembers_J104_22 G (rec) x0 x1 x2 x3 z13.2)
else none)
else
  ((gA z8.2 x0 6 2).bind fun a15 =>
  (gA z8.2 x0 6 2).bind fun a16 =>
  (gA z8.2 a16 8 0).bind fun a17 =>
  (aA z8.2 a17 107 x2).bind fun a18 =>
  (gI z8.2 x0 6 6).bind fun v19 =>
  if (z8.2.1 a15).1 = 8 then
  ((tX5_bringIn a15 a18 v19 z8.2).bind fun z20 =>
  tX3_readMembers_J104_22 G (rec) x0 x1 x2 x3 z20.2)
else none)))
else none
def tX3_readMembers_L22 (G : Nat → Nat) (x0 : Nat) (x1 : Int32) (x2 : Int32) : Nat → Int32 → vMe → Option ((Int32 ⊕ Unit) × vMe)
  | 0, _, _ => none
  | f + 1, x3, Mi =>
  if x3 = 0 then
  (tX3_readMembers_J44_22 G (tX3_readMembers_L22 G x0 x1 x2 f) x0 x1 x2 x3 Mi)
else
  ((gI Mi x0 6 1).bind fun v21 =>
  if v21 ≤ x3 then
  (some (Sum.inr (()), Mi))
else
  ((gA Mi x0 6 3).bind fun a23 =>
  if a23 = (G 101) then
  (tX3_readMembers_J44_22 G (tX3_readMembers_L22 G x0 x1 x2 f) x0 x1 x2 x3 Mi)
else
  (some (Sum.inr (()), Mi))))
def tX3_readMembers (G : Nat → Nat) (x0 : Nat) (x1 : Int32) (M : vMe) : Option (Int32 × vMe) :=
  if (M.1 x0).1 = 6 then
  ((tX3_toNextToken G x0 M).bind fun z1 =>
  if (z1.2.1 x0).1 = 6 then
  ((tX3_readEarlierSet G x0 z1.2).bind fun z2 =>
  if z2.1 = ((-1) : Int32) then
  (some (0, z2.2))
else
  (if (z2.2.1 x0).1 = 6 then
  ((tX3_toNextToken G x0 z2.2).bind fun z4 =>
  (tX3_readMembers_L22 G x0 x1 z2.1 vF 0 z4.2).bind fun z25 =>
  Sum.elim (fun r27 => some (r27, z25.2)) (fun w26 =>
  some (1, z25.2)) z25.1)
else none))
else none)
else none
def rmX3_readMembers : Room := { frames := 8, cells := 0, slots := 0, locals := 154 }
set_option maxHeartbeats 4000000 in
set_option maxRecDepth 100000 in
theorem mX3_readMembers (l : Launch) (hfl : l.stackTraces = false) (D : vD) (x0 : Nat) (x1 : Int32) (M : vMe) (z : (Int32 × vMe)) (h : tX3_readMembers D.2.2.2.2 x0 x1 M = some z) : Met l yX3_readMembers (Cond.code yX3_readMembers cX3_readMembers 4 (some .boolean) :: TB) rmX3_readMembers (va_Pc [.ref x0, .int x1] (vPre D M)) (qW D (some (.int z.1)) z.2) 0 0 (vA D) := by
  refine v_ofW (cc := cX3_readMembers) (maxL := 4) (ret := (some .boolean)) (by decide) (Nat.le_of_ble_eq_true rfl) ?_
  intro p e s m args below meth c Q hx hb hr hml hown hts hlk hnm hSS hR0 hQ ls hl
  have hK := hSS.1
  have hl : lv_has ls 4 [(0, .ref x0), (1, .int x1)] := hl
  unfold tX3_readMembers at h
  have X3_readMembers_L22p : ∀ (x0 : Nat) (x1 : Int32) (x2 : Int32), ∀ (f : Nat) (x3 : Int32) (Mi : vMe) (ls : Array Slot) (z : ((Int32 ⊕ Unit) × vMe)), lv_has ls 4 [(0, .ref x0), (1, .int x1), (2, .int x2), (3, .int x3)] → tX3_readMembers_L22 D.2.2.2.2 x0 x1 x2 f x3 Mi = some z → (∀ w, z.1 = Sum.inr w → ∀ ls : Array Slot, lv_has ls 4 [] → vV D p l e rmX3_readMembers s m args below meth c 0 0 Q z.2 (F0 m 114 ls [])) → (∀ r9, z.1 = Sum.inl r9 → Q = MQ below (qW D (some (.int r9)) z.2) args s 0 0 (vA D)) → vV D p l e rmX3_readMembers s m args below meth c 0 0 Q Mi (F0 m 22 ls []) := by
    intro x0 x1 x2 f
    induction f with
    | zero =>
      intro x3 Mi ls z hl h
      exact absurd h (by simp [tX3_readMembers_L22])
    | succ f ih =>
      intro x3 Mi ls z hl h KX KR
      rw [tX3_readMembers_L22] at h
      have X3_readMembers_J104_22p : ∀ (x3 : Int32) (Mj : vMe) (ls : Array Slot), lv_has ls 4 [(0, .ref x0), (1, .int x1), (2, .int x2), (3, .int x3)] → tX3_readMembers_J104_22 D.2.2.2.2 (tX3_readMembers_L22 D.2.2.2.2 x0 x1 x2 f) x0 x1 x2 x3 Mj = some z → vV D p l e rmX3_readMembers s m args below meth c 0 0 Q Mj (F0 m 104 ls []) := by
        intro x3 Mj ls hl h
        unfold tX3_readMembers_J104_22 at h
        refine w_aload_n hx hb dX3_readMembers_104 rfl (lv_at hl 0 rfl) ?_
        obtain ⟨g8, h⟩ := v_ifs h
        obtain ⟨z14, ez14, h⟩ := v_bnd h
        refine v_call0 (M1 := z14.2) (mc := 0) (ms := 0) (fun H locs hR hS => va_runV (As := []) (rest := []) ⟨hx, hb, hml, hown, hts⟩ (mX3_toNextToken l hfl D x0 Mj z14 ez14) (cwV 0 hts (gdV kw852 kw854 kw1 kw53 kw855) rfl rfl rfl (by decide +kernel) ⟨Nat.le_of_ble_eq_true rfl, Nat.le_of_ble_eq_true rfl⟩) (v_preV (ci := 5) hSS hR hS g8 (by decide) rfl []) rfl rfl hl.1 rfl (lv_room (Nat.le_of_ble_eq_true rfl)) dX3_readMembers_105 ⟨Nat.zero_le _, Nat.zero_le _⟩) ?_
        refine w_iinc (v := x3 + 1) (lv' := [(3, .int (x3 + 1)), (0, .ref x0), (1, .int x1), (2, .int x2)]) hx hb dX3_readMembers_108 hl (j := 3) rfl rfl (by decide) rfl (fun ls hl => ?_)
        have hl : lv_has ls 4 [(0, .ref x0), (1, .int x1), (2, .int x2), (3, .int (x3 + 1))] := lv_sub hl [1, 2, 3, 0] rfl
        refine w_goto (tgt := 22) hx hb dX3_readMembers_111 (by decide) ?_
        exact ih (x3 + 1) z14.2 ls z (lv_sub hl [0, 1, 2, 3] rfl) h KX KR
      have X3_readMembers_J44_22p : ∀ (x3 : Int32) (Mj : vMe) (ls : Array Slot), lv_has ls 4 [(0, .ref x0), (1, .int x1), (2, .int x2), (3, .int x3)] → tX3_readMembers_J44_22 D.2.2.2.2 (tX3_readMembers_L22 D.2.2.2.2 x0 x1 x2 f) x0 x1 x2 x3 Mj = some z → vV D p l e rmX3_readMembers s m args below meth c 0 0 Q Mj (F0 m 44 ls []) := by
        intro x3 Mj ls hl h
        unfold tX3_readMembers_J44_22 at h
        refine w_aload_n hx hb dX3_readMembers_44 rfl (lv_at hl 0 rfl) ?_
        refine w_iconst (v := 0) hx hb dX3_readMembers_45 (by decide) ?_
        refine w_aload_n hx hb dX3_readMembers_46 rfl (lv_at hl 0 rfl) ?_
        obtain ⟨a6, ea6, h⟩ := v_bnd h
        refine v_gA (ci := 5) hx hb hts iwX3 hown hK 2 ea6 rfl (by decide) (Or.inl (hts _ kw820)) (fun _ h9 => h9) dX3_readMembers_47 ?_
        obtain ⟨v7, ev7, h⟩ := v_bnd h
        refine v_gI (ci := 7) hx hb hts iwX5 hown hK 3 ev7 rfl (by decide) (Or.inr ⟨_, kn39 hSS _⟩) (fun _ h9 => h9) dX3_readMembers_50 ?_
        refine w_iconst (v := 1) hx hb dX3_readMembers_53 (by decide) ?_
        refine w_isub hx hb dX3_readMembers_54 ?_
        obtain ⟨g8, h⟩ := v_ifs h
        obtain ⟨z8, ez8, h⟩ := v_bnd h
        refine v_call1 (v := .int z8.1) (M1 := z8.2) (mc := 0) (ms := 0) (fun H locs hR hS => va_runV (As := [.int 0, .int (v7 - 1)]) (rest := []) ⟨hx, hb, hml, hown, hts⟩ (mX3_isNumber l hfl D x0 0 (v7 - 1) Mj z8 ez8) (cwV 2 hts (gdV kw903 kw905 kw7 kw53 kw906) rfl rfl rfl (by decide +kernel) ⟨Nat.le_of_ble_eq_true rfl, Nat.le_of_ble_eq_true rfl⟩) (v_preV (ci := 5) hSS hR hS g8 (by decide) rfl [.int 0, .int (v7 - 1)]) rfl rfl hl.1 rfl (lv_room (Nat.le_of_ble_eq_true rfl)) dX3_readMembers_55 ⟨Nat.zero_le _, Nat.zero_le _⟩) ?_
        refine w_if_ne (tgt := 63) hx hb dX3_readMembers_58 (by decide) (fun c9 => ?_) (fun c9 => ?_)
        · rw [if_pos c9] at h
          refine w_iconst (v := 0) hx hb dX3_readMembers_61 (by decide) ?_
          obtain rfl := Option.some.inj h
          rw [KR _ rfl]
          exact v_zret (x := 0) hx hb hr hlk rfl dX3_readMembers_62
        · rw [if_neg c9] at h
          refine w_iload_n hx hb dX3_readMembers_63 rfl (lv_at hl 1 rfl) ?_
          refine w_if_eq (tgt := 91) hx hb dX3_readMembers_64 (by decide) (fun c10 => ?_) (fun c10 => ?_)
          · rw [if_pos c10] at h
            refine w_aload_n hx hb dX3_readMembers_91 rfl (lv_at hl 0 rfl) ?_
            obtain ⟨a11, ea11, h⟩ := v_bnd h
            refine v_gA (ci := 5) hx hb hts iwX3 hown hK 2 ea11 rfl (by decide) (Or.inl (hts _ kw820)) (fun _ h9 => h9) dX3_readMembers_92 ?_
            refine w_iload_n hx hb dX3_readMembers_95 rfl (lv_at hl 2 rfl) ?_
            refine w_aload_n hx hb dX3_readMembers_96 rfl (lv_at hl 0 rfl) ?_
            obtain ⟨v12, ev12, h⟩ := v_bnd h
            refine v_gI (ci := 5) hx hb hts iwX3 hown hK 6 ev12 rfl (by decide) (Or.inl (hts _ kw824)) (fun _ h9 => h9) dX3_readMembers_97 ?_
            obtain ⟨g8, h⟩ := v_ifs h
            obtain ⟨z13, ez13, h⟩ := v_bnd h
            refine v_call1 (v := .int z13.1) (M1 := z13.2) (mc := 0) (ms := 0) (fun H locs hR hS => va_runV (As := [.int x2, .int v12]) (rest := []) ⟨hx, hb, hml, hown, hts⟩ (mX5_takeOut l hfl D a11 x2 v12 z8.2 z13 ez13) (cwV 2 hts (gdV kw984 kw985 kw986 kw31 kw987) rfl rfl rfl (by decide +kernel) ⟨Nat.le_of_ble_eq_true rfl, Nat.le_of_ble_eq_true rfl⟩) (v_preV (ci := 7) hSS hR hS g8 (by decide) rfl [.int x2, .int v12]) rfl rfl hl.1 rfl (lv_room (Nat.le_of_ble_eq_true rfl)) dX3_readMembers_100 ⟨Nat.zero_le _, Nat.zero_le _⟩) ?_
            refine w_pop hx hb dX3_readMembers_103 rfl ?_
            exact X3_readMembers_J104_22p x3 z13.2 ls (lv_sub hl [0, 1, 2, 3] rfl) h
          · rw [if_neg c10] at h
            refine w_aload_n hx hb dX3_readMembers_67 rfl (lv_at hl 0 rfl) ?_
            obtain ⟨a15, ea15, h⟩ := v_bnd h
            refine v_gA (ci := 5) hx hb hts iwX3 hown hK 2 ea15 rfl (by decide) (Or.inl (hts _ kw820)) (fun _ h9 => h9) dX3_readMembers_68 ?_
            refine w_aload_n hx hb dX3_readMembers_71 rfl (lv_at hl 0 rfl) ?_
            obtain ⟨a16, ea16, h⟩ := v_bnd h
            refine v_gA (ci := 5) hx hb hts iwX3 hown hK 2 ea16 rfl (by decide) (Or.inl (hts _ kw820)) (fun _ h9 => h9) dX3_readMembers_72 ?_
            obtain ⟨a17, ea17, h⟩ := v_bnd h
            refine v_gA (ci := 7) hx hb hts iwX5 hown hK 0 ea17 rfl (by decide) (Or.inr ⟨_, kn35 hSS _⟩) (fun _ h9 => h9) dX3_readMembers_75 ?_
            refine w_iload_n hx hb dX3_readMembers_78 rfl (lv_at hl 2 rfl) ?_
            obtain ⟨a18, ea18, h⟩ := v_bnd h
            refine v_aaldA hx hb hK ea18 (by decide) dX3_readMembers_79 ?_
            refine w_aload_n hx hb dX3_readMembers_80 rfl (lv_at hl 0 rfl) ?_
            obtain ⟨v19, ev19, h⟩ := v_bnd h
            refine v_gI (ci := 5) hx hb hts iwX3 hown hK 6 ev19 rfl (by decide) (Or.inl (hts _ kw824)) (fun _ h9 => h9) dX3_readMembers_81 ?_
            obtain ⟨g8, h⟩ := v_ifs h
            obtain ⟨z20, ez20, h⟩ := v_bnd h
            refine v_call1 (v := .int z20.1) (M1 := z20.2) (mc := 0) (ms := 0) (fun H locs hR hS => va_runV (As := [.ref a18, .int v19]) (rest := []) ⟨hx, hb, hml, hown, hts⟩ (mX5_bringIn l hfl D a15 a18 v19 z8.2 z20 ez20) (cwV 2 hts (gdV kw958 kw959 kw960 kw31 kw961) rfl rfl rfl (by decide +kernel) ⟨Nat.le_of_ble_eq_true rfl, Nat.le_of_ble_eq_true rfl⟩) (v_preV (ci := 7) hSS hR hS g8 (by decide) rfl [.ref a18, .int v19]) rfl rfl hl.1 rfl (lv_room (Nat.le_of_ble_eq_true rfl)) dX3_readMembers_84 ⟨Nat.zero_le _, Nat.zero_le _⟩) ?_
            refine w_pop hx hb dX3_readMembers_87 rfl ?_
            refine w_goto (tgt := 104) hx hb dX3_readMembers_88 (by decide) ?_
            exact X3_readMembers_J104_22p x3 z20.2 ls (lv_sub hl [0, 1, 2, 3] rfl) h
      refine w_iload_n hx hb dX3_readMembers_22 rfl (lv_at hl 3 rfl) ?_
      refine w_if_eq (tgt := 44) hx hb dX3_readMembers_23 (by decide) (fun c5 => ?_) (fun c5 => ?_)
      · rw [if_pos c5] at h
        exact X3_readMembers_J44_22p x3 Mi ls (lv_sub hl [0, 1, 2, 3] rfl) h
      · rw [if_neg c5] at h
        refine w_iload_n hx hb dX3_readMembers_26 rfl (lv_at hl 3 rfl) ?_
        refine w_aload_n hx hb dX3_readMembers_27 rfl (lv_at hl 0 rfl) ?_
        obtain ⟨v21, ev21, h⟩ := v_bnd h
        refine v_gI (ci := 5) hx hb hts iwX3 hown hK 1 ev21 rfl (by decide) (Or.inl (hts _ kw819)) (fun _ h9 => h9) dX3_readMembers_28 ?_
        refine w_icmp_ge (tgt := 114) hx hb dX3_readMembers_31 (by decide) (fun c22 => ?_) (fun c22 => ?_)
        · rw [if_pos c22] at h
          obtain rfl := Option.some.inj h
          exact KX _ rfl ls (lv_sub hl [] rfl)
        · rw [if_neg c22] at h
          refine w_aload_n hx hb dX3_readMembers_34 rfl (lv_at hl 0 rfl) ?_
          obtain ⟨a23, ea23, h⟩ := v_bnd h
          refine v_gA (ci := 5) hx hb hts iwX3 hown hK 3 ea23 rfl (by decide) (Or.inl (hts _ kw821)) (fun _ h9 => h9) dX3_readMembers_35 ?_
          refine w_gets hx hb (hSS.2.2.2.1 1 _ rfl) hown (hts _ kw880) (fun _ h9 => h9) dX3_readMembers_38 ?_
          refine w_acmp_ne (tgt := 114) hx hb dX3_readMembers_41 (by decide) (fun c24 => ?_) (fun c24 => ?_)
          · rw [if_pos c24] at h
            exact X3_readMembers_J44_22p x3 Mi ls (lv_sub hl [0, 1, 2, 3] rfl) h
          · rw [if_neg c24] at h
            obtain rfl := Option.some.inj h
            exact KX _ rfl ls (lv_sub hl [] rfl)
  refine w_aload_n hx hb dX3_readMembers_0 rfl (lv_at hl 0 rfl) ?_
  obtain ⟨g8, h⟩ := v_ifs h
  obtain ⟨z1, ez1, h⟩ := v_bnd h
  refine v_call0 (M1 := z1.2) (mc := 0) (ms := 0) (fun H locs hR hS => va_runV (As := []) (rest := []) ⟨hx, hb, hml, hown, hts⟩ (mX3_toNextToken l hfl D x0 M z1 ez1) (cwV 0 hts (gdV kw852 kw854 kw1 kw53 kw855) rfl rfl rfl (by decide +kernel) ⟨Nat.le_of_ble_eq_true rfl, Nat.le_of_ble_eq_true rfl⟩) (v_preV (ci := 5) hSS hR hS g8 (by decide) rfl []) rfl rfl hl.1 rfl (lv_room (Nat.le_of_ble_eq_true rfl)) dX3_readMembers_1 ⟨Nat.zero_le _, Nat.zero_le _⟩) ?_
  refine w_aload_n hx hb dX3_readMembers_4 rfl (lv_at hl 0 rfl) ?_
  obtain ⟨g8, h⟩ := v_ifs h
  obtain ⟨z2, ez2, h⟩ := v_bnd h
  refine v_call1 (v := .int z2.1) (M1 := z2.2) (mc := 0) (ms := 0) (fun H locs hR hS => va_runV (As := []) (rest := []) ⟨hx, hb, hml, hown, hts⟩ (mX3_readEarlierSet l hfl D x0 z1.2 z2 ez2) (cwV 0 hts (gdV kw954 kw956 kw13 kw53 kw957) rfl rfl rfl (by decide +kernel) ⟨Nat.le_of_ble_eq_true rfl, Nat.le_of_ble_eq_true rfl⟩) (v_preV (ci := 5) hSS hR hS g8 (by decide) rfl []) rfl rfl hl.1 rfl (lv_room (Nat.le_of_ble_eq_true rfl)) dX3_readMembers_5 ⟨Nat.zero_le _, Nat.zero_le _⟩) ?_
  refine w_istore_n (lv' := [(2, .int z2.1), (0, .ref x0), (1, .int x1)]) hx hb dX3_readMembers_8 rfl hl (by decide) rfl (fun ls hl => ?_)
  have hl : lv_has ls 4 [(0, .ref x0), (1, .int x1), (2, .int z2.1)] := lv_sub hl [1, 2, 0] rfl
  refine w_iload_n hx hb dX3_readMembers_9 rfl (lv_at hl 2 rfl) ?_
  refine w_iconst (v := (-1)) hx hb dX3_readMembers_10 (by decide) ?_
  refine w_icmp_ne (tgt := 16) hx hb dX3_readMembers_11 (by decide) (fun c3 => ?_) (fun c3 => ?_)
  · rw [if_pos c3] at h
    refine w_iconst (v := 0) hx hb dX3_readMembers_14 (by decide) ?_
    obtain rfl := Option.some.inj h
    rw [hQ]
    exact v_zret (x := 0) hx hb hr hlk rfl dX3_readMembers_15
  · rw [if_neg c3] at h
    refine w_aload_n hx hb dX3_readMembers_16 rfl (lv_at hl 0 rfl) ?_
    obtain ⟨g8, h⟩ := v_ifs h
    obtain ⟨z4, ez4, h⟩ := v_bnd h
    refine v_call0 (M1 := z4.2) (mc := 0) (ms := 0) (fun H locs hR hS => va_runV (As := []) (rest := []) ⟨hx, hb, hml, hown, hts⟩ (mX3_toNextToken l hfl D x0 z2.2 z4 ez4) (cwV 0 hts (gdV kw852 kw854 kw1 kw53 kw855) rfl rfl rfl (by decide +kernel) ⟨Nat.le_of_ble_eq_true rfl, Nat.le_of_ble_eq_true rfl⟩) (v_preV (ci := 5) hSS hR hS g8 (by decide) rfl []) rfl rfl hl.1 rfl (lv_room (Nat.le_of_ble_eq_true rfl)) dX3_readMembers_17 ⟨Nat.zero_le _, Nat.zero_le _⟩) ?_
    refine w_iconst (v := 0) hx hb dX3_readMembers_20 (by decide) ?_
    refine w_istore_n (lv' := [(3, .int 0), (0, .ref x0), (1, .int x1), (2, .int z2.1)]) hx hb dX3_readMembers_21 rfl hl (by decide) rfl (fun ls hl => ?_)
    have hl : lv_has ls 4 [(0, .ref x0), (1, .int x1), (2, .int z2.1), (3, .int 0)] := lv_sub hl [1, 2, 3, 0] rfl
    obtain ⟨z25, ez25, h⟩ := v_bnd h
    refine X3_readMembers_L22p x0 x1 z2.1 vF 0 z4.2 ls z25 (lv_sub hl [0, 1, 2, 3] rfl) ez25 (fun w26 qw26 ls hl => ?_) (fun r27 qr27 => ?_)
    · replace h := v_inr qw26 h
      refine w_iconst (v := 1) hx hb dX3_readMembers_114 (by decide) ?_
      obtain rfl := Option.some.inj h
      rw [hQ]
      exact v_zret (x := 1) hx hb hr hlk rfl dX3_readMembers_115
    · replace h := v_inl qr27 h
      obtain rfl := Option.some.inj h
      exact hQ

def tX5_emptySet_J97_68 (rec : Int32 → vMe → Option (Unit × vMe)) (x0 : Nat) (x1 : Int32) (x3 : Int32) (Mj : vMe) : Option (Unit × vMe) :=
  rec (x3 + 1) Mj
def tX5_emptySet_L68 (x0 : Nat) (x1 : Int32) : Nat → Int32 → vMe → Option (Unit × vMe)
  | 0, _, _ => none
  | f + 1, x3, Mi =>
  if (6 : Int32) ≤ x3 then
  (some ((), Mi))
else
  ((gA Mi x0 8 1).bind fun a19 =>
  (aA Mi a19 108 x3).bind fun a20 =>
  if (Mi.1 a20).1 = 3 then
  ((tX0_isOpenOn a20 x1 Mi).bind fun z21 =>
  if z21 = 0 then
  (tX5_emptySet_J97_68 (tX5_emptySet_L68 x0 x1 f) x0 x1 x3 Mi)
else
  ((gA Mi x0 8 1).bind fun a23 =>
  (aA Mi a23 108 x3).bind fun a24 =>
  (sV Mi a24 3 1 (.int 0)).bind fun M25 =>
  tX5_emptySet_J97_68 (tX5_emptySet_L68 x0 x1 f) x0 x1 x3 M25))
else none)
def tX5_emptySet_J41 (x0 : Nat) (x1 : Int32) (x2 : Nat) (Mj : vMe) : Option (Unit × vMe) :=
  (sV Mj x2 9 5 (.int 0)).bind fun M5 =>
  (gI M5 x2 9 6).bind fun v6 =>
  (sV M5 x2 9 6 (.int (v6 + 1))).bind fun M7 =>
  (gI M7 x0 8 8).bind fun v8 =>
  (sV M7 x0 8 8 (.int (v8 + 1))).bind fun M9 =>
  (tX5_emptySet_L68 x0 x1 vF 0 M9).bind fun z26 =>
  some ((), z26.2)
def tX5_emptySet (x0 : Nat) (x1 : Int32) (M : vMe) : Option (Unit × vMe) :=
  (gA M x0 8 0).bind fun a1 =>
  (aA M a1 107 x1).bind fun a2 =>
  (gI M a2 9 5).bind fun v3 =>
  if v3 ≤ 0 then
  (tX5_emptySet_J41 x0 x1 a2 M)
else
  ((gI M x0 8 7).bind fun v27 =>
  (sV M x0 8 7 (.int (v27 + 1))).bind fun M28 =>
  (gA M28 a2 9 3).bind fun a29 =>
  (gI M28 x0 8 7).bind fun v30 =>
  (gI M28 x0 8 4).bind fun v31 =>
  if (M28.1 a29).1 = 5 then
  ((tX2_note a29 v30 ((-1)) 2 v31 M28).bind fun z32 =>
  tX5_emptySet_J41 x0 x1 a2 z32.2)
else none)
def rmX5_emptySet : Room := { frames := 3, cells := 0, slots := 0, locals := 84 }
set_option maxHeartbeats 4000000 in
set_option maxRecDepth 100000 in
theorem mX5_emptySet (l : Launch) (hfl : l.stackTraces = false) (D : vD) (x0 : Nat) (x1 : Int32) (M : vMe) (z : (Unit × vMe)) (h : tX5_emptySet x0 x1 M = some z) : Met l yX5_emptySet (Cond.code yX5_emptySet cX5_emptySet 4 none :: TB) rmX5_emptySet (va_Pc [.ref x0, .int x1] (vPre D M)) (qW D none z.2) 0 0 (vA D) := by
  refine v_ofW (cc := cX5_emptySet) (maxL := 4) (ret := none) (by decide) (Nat.le_of_ble_eq_true rfl) ?_
  intro p e s m args below meth c Q hx hb hr hml hown hts hlk hnm hSS hR0 hQ ls hl
  have hK := hSS.1
  have hl : lv_has ls 4 [(0, .ref x0), (1, .int x1)] := hl
  unfold tX5_emptySet at h
  have X5_emptySet_L68p : ∀ (x0 : Nat) (x1 : Int32), ∀ (f : Nat) (x3 : Int32) (Mi : vMe) (ls : Array Slot) (z : (Unit × vMe)), lv_has ls 4 [(0, .ref x0), (1, .int x1), (3, .int x3)] → tX5_emptySet_L68 x0 x1 f x3 Mi = some z → (∀ ls : Array Slot, lv_has ls 4 [] → vV D p l e rmX5_emptySet s m args below meth c 0 0 Q z.2 (F0 m 103 ls [])) → vV D p l e rmX5_emptySet s m args below meth c 0 0 Q Mi (F0 m 68 ls []) := by
    intro x0 x1 f
    induction f with
    | zero =>
      intro x3 Mi ls z hl h
      exact absurd h (by simp [tX5_emptySet_L68])
    | succ f ih =>
      intro x3 Mi ls z hl h KX
      rw [tX5_emptySet_L68] at h
      have X5_emptySet_J97_68p : ∀ (x3 : Int32) (Mj : vMe) (ls : Array Slot), lv_has ls 4 [(0, .ref x0), (1, .int x1), (3, .int x3)] → tX5_emptySet_J97_68 (tX5_emptySet_L68 x0 x1 f) x0 x1 x3 Mj = some z → vV D p l e rmX5_emptySet s m args below meth c 0 0 Q Mj (F0 m 97 ls []) := by
        intro x3 Mj ls hl h
        unfold tX5_emptySet_J97_68 at h
        refine w_iinc (v := x3 + 1) (lv' := [(3, .int (x3 + 1)), (0, .ref x0), (1, .int x1)]) hx hb dX5_emptySet_97 hl (j := 2) rfl rfl (by decide) rfl (fun ls hl => ?_)
        have hl : lv_has ls 4 [(0, .ref x0), (1, .int x1), (3, .int (x3 + 1))] := lv_sub hl [1, 2, 0] rfl
        refine w_goto (tgt := 68) hx hb dX5_emptySet_100 (by decide) ?_
        exact ih (x3 + 1) Mj ls z (lv_sub hl [0, 1, 2] rfl) h KX
      refine w_iload_n hx hb dX5_emptySet_68 rfl (lv_at hl 2 rfl) ?_
      refine w_bipush (v := 6) hx hb dX5_emptySet_69 (by decide) ?_
      refine w_icmp_ge (tgt := 103) hx hb dX5_emptySet_71 (by decide) (fun c18 => ?_) (fun c18 => ?_)
      · rw [if_pos c18] at h
        obtain rfl := Option.some.inj h
        exact KX ls (lv_sub hl [] rfl)
      · rw [if_neg c18] at h
        refine w_aload_n hx hb dX5_emptySet_74 rfl (lv_at hl 0 rfl) ?_
        obtain ⟨a19, ea19, h⟩ := v_bnd h
        refine v_gA (ci := 7) hx hb hts iwX5 hown hK 1 ea19 rfl (by decide) (Or.inl (hts _ kw247)) (fun _ h9 => h9) dX5_emptySet_75 ?_
        refine w_iload_n hx hb dX5_emptySet_78 rfl (lv_at hl 2 rfl) ?_
        obtain ⟨a20, ea20, h⟩ := v_bnd h
        refine v_aaldA hx hb hK ea20 (by decide) dX5_emptySet_79 ?_
        refine w_iload_n hx hb dX5_emptySet_80 rfl (lv_at hl 1 rfl) ?_
        obtain ⟨g8, h⟩ := v_ifs h
        obtain ⟨z21, ez21, h⟩ := v_bnd h
        refine v_call1 (v := .int z21) (M1 := Mi) (mc := 0) (ms := 0) (fun H locs hR hS => va_runV (As := [.int x1]) (rest := []) ⟨hx, hb, hml, hown, hts⟩ (mX0_isOpenOn l hfl D a20 x1 Mi z21 ez21) (cwV 1 hts (gdV kw993 kw994 kw995 kw34 kw996) rfl rfl rfl (by decide +kernel) ⟨Nat.le_of_ble_eq_true rfl, Nat.le_of_ble_eq_true rfl⟩) (v_preV (ci := 2) hSS hR hS g8 (by decide) rfl [.int x1]) rfl rfl hl.1 rfl (lv_room (Nat.le_of_ble_eq_true rfl)) dX5_emptySet_81 ⟨Nat.zero_le _, Nat.zero_le _⟩) ?_
        refine w_if_eq (tgt := 97) hx hb dX5_emptySet_84 (by decide) (fun c22 => ?_) (fun c22 => ?_)
        · rw [if_pos c22] at h
          exact X5_emptySet_J97_68p x3 Mi ls (lv_sub hl [0, 1, 2] rfl) h
        · rw [if_neg c22] at h
          refine w_aload_n hx hb dX5_emptySet_87 rfl (lv_at hl 0 rfl) ?_
          obtain ⟨a23, ea23, h⟩ := v_bnd h
          refine v_gA (ci := 7) hx hb hts iwX5 hown hK 1 ea23 rfl (by decide) (Or.inl (hts _ kw247)) (fun _ h9 => h9) dX5_emptySet_88 ?_
          refine w_iload_n hx hb dX5_emptySet_91 rfl (lv_at hl 2 rfl) ?_
          obtain ⟨a24, ea24, h⟩ := v_bnd h
          refine v_aaldA hx hb hK ea24 (by decide) dX5_emptySet_92 ?_
          refine w_iconst (v := 0) hx hb dX5_emptySet_93 (by decide) ?_
          obtain ⟨M25, eM25, h⟩ := v_bnd h
          refine v_putf (ci := 2) hx hb hts iwX0 hown hK tyX0_ok nmX0 1 eM25 rfl (by decide) (Or.inr ⟨_, kn23 hSS _⟩) (fun _ h9 => h9) (Or.inl rfl) (by decide) (by decide) dX5_emptySet_94 ?_
          exact X5_emptySet_J97_68p x3 M25 ls (lv_sub hl [0, 1, 2] rfl) h
  have X5_emptySet_J41p : ∀ (x0 : Nat) (x1 : Int32) (x2 : Nat) (Mj : vMe) (ls : Array Slot), lv_has ls 4 [(0, .ref x0), (1, .int x1), (2, .ref x2)] → tX5_emptySet_J41 x0 x1 x2 Mj = some z → vV D p l e rmX5_emptySet s m args below meth c 0 0 Q Mj (F0 m 41 ls []) := by
    intro x0 x1 x2 Mj ls hl h
    unfold tX5_emptySet_J41 at h
    refine w_aload_n hx hb dX5_emptySet_41 rfl (lv_at hl 2 rfl) ?_
    refine w_iconst (v := 0) hx hb dX5_emptySet_42 (by decide) ?_
    obtain ⟨M5, eM5, h⟩ := v_bnd h
    refine v_putf (ci := 8) hx hb hts iwX7 hown hK tyX7_ok nmX7 5 eM5 rfl (by decide) (Or.inr ⟨_, kn17 hSS _⟩) (fun _ h9 => h9) (Or.inl rfl) rfl rfl dX5_emptySet_43 ?_
    refine w_aload_n hx hb dX5_emptySet_46 rfl (lv_at hl 2 rfl) ?_
    refine w_dup hx hb dX5_emptySet_47 rfl ?_
    obtain ⟨v6, ev6, h⟩ := v_bnd h
    refine v_gI (ci := 8) hx hb hts iwX7 hown hK 6 ev6 rfl (by decide) (Or.inr ⟨_, kn20 hSS _⟩) (fun _ h9 => h9) dX5_emptySet_48 ?_
    refine w_iconst (v := 1) hx hb dX5_emptySet_51 (by decide) ?_
    refine w_iadd hx hb dX5_emptySet_52 ?_
    obtain ⟨M7, eM7, h⟩ := v_bnd h
    refine v_putf (ci := 8) hx hb hts iwX7 hown hK tyX7_ok nmX7 6 eM7 rfl (by decide) (Or.inr ⟨_, kn20 hSS _⟩) (fun _ h9 => h9) (Or.inl rfl) rfl rfl dX5_emptySet_53 ?_
    refine w_aload_n hx hb dX5_emptySet_56 rfl (lv_at hl 0 rfl) ?_
    refine w_dup hx hb dX5_emptySet_57 rfl ?_
    obtain ⟨v8, ev8, h⟩ := v_bnd h
    refine v_gI (ci := 7) hx hb hts iwX5 hown hK 8 ev8 rfl (by decide) (Or.inl (hts _ kw264)) (fun _ h9 => h9) dX5_emptySet_58 ?_
    refine w_iconst (v := 1) hx hb dX5_emptySet_61 (by decide) ?_
    refine w_iadd hx hb dX5_emptySet_62 ?_
    obtain ⟨M9, eM9, h⟩ := v_bnd h
    refine v_putf (ci := 7) hx hb hts iwX5 hown hK tyX5_ok nmX5 8 eM9 rfl (by decide) (Or.inl (hts _ kw264)) (fun _ h9 => h9) (Or.inl rfl) rfl rfl dX5_emptySet_63 ?_
    refine w_iconst (v := 0) hx hb dX5_emptySet_66 (by decide) ?_
    refine w_istore_n (lv' := [(3, .int 0), (0, .ref x0), (1, .int x1), (2, .ref x2)]) hx hb dX5_emptySet_67 rfl hl (by decide) rfl (fun ls hl => ?_)
    have hl : lv_has ls 4 [(0, .ref x0), (1, .int x1), (2, .ref x2), (3, .int 0)] := lv_sub hl [1, 2, 3, 0] rfl
    obtain ⟨z26, ez26, h⟩ := v_bnd h
    refine X5_emptySet_L68p x0 x1 vF 0 M9 ls z26 (lv_sub hl [0, 1, 3] rfl) ez26 (fun ls hl => ?_)
    obtain rfl := Option.some.inj h
    rw [hQ]
    exact v_vret hx hb hr hlk dX5_emptySet_103
  refine w_aload_n hx hb dX5_emptySet_0 rfl (lv_at hl 0 rfl) ?_
  obtain ⟨a1, ea1, h⟩ := v_bnd h
  refine v_gA (ci := 7) hx hb hts iwX5 hown hK 0 ea1 rfl (by decide) (Or.inl (hts _ kw244)) (fun _ h9 => h9) dX5_emptySet_1 ?_
  refine w_iload_n hx hb dX5_emptySet_4 rfl (lv_at hl 1 rfl) ?_
  obtain ⟨a2, ea2, h⟩ := v_bnd h
  refine v_aaldA hx hb hK ea2 (by decide) dX5_emptySet_5 ?_
  refine w_astore_n (lv' := [(2, .ref a2), (0, .ref x0), (1, .int x1)]) hx hb dX5_emptySet_6 rfl hl (by decide) rfl (fun ls hl => ?_)
  have hl : lv_has ls 4 [(0, .ref x0), (1, .int x1), (2, .ref a2)] := lv_sub hl [1, 2, 0] rfl
  refine w_aload_n hx hb dX5_emptySet_7 rfl (lv_at hl 2 rfl) ?_
  obtain ⟨v3, ev3, h⟩ := v_bnd h
  refine v_gI (ci := 8) hx hb hts iwX7 hown hK 5 ev3 rfl (by decide) (Or.inr ⟨_, kn17 hSS _⟩) (fun _ h9 => h9) dX5_emptySet_8 ?_
  refine w_if_le (tgt := 41) hx hb dX5_emptySet_11 (by decide) (fun c4 => ?_) (fun c4 => ?_)
  · rw [if_pos c4] at h
    exact X5_emptySet_J41p x0 x1 a2 M ls (lv_sub hl [0, 1, 2] rfl) h
  · rw [if_neg c4] at h
    refine w_aload_n hx hb dX5_emptySet_14 rfl (lv_at hl 0 rfl) ?_
    refine w_dup hx hb dX5_emptySet_15 rfl ?_
    obtain ⟨v27, ev27, h⟩ := v_bnd h
    refine v_gI (ci := 7) hx hb hts iwX5 hown hK 7 ev27 rfl (by decide) (Or.inl (hts _ kw262)) (fun _ h9 => h9) dX5_emptySet_16 ?_
    refine w_iconst (v := 1) hx hb dX5_emptySet_19 (by decide) ?_
    refine w_iadd hx hb dX5_emptySet_20 ?_
    obtain ⟨M28, eM28, h⟩ := v_bnd h
    refine v_putf (ci := 7) hx hb hts iwX5 hown hK tyX5_ok nmX5 7 eM28 rfl (by decide) (Or.inl (hts _ kw262)) (fun _ h9 => h9) (Or.inl rfl) rfl rfl dX5_emptySet_21 ?_
    refine w_aload_n hx hb dX5_emptySet_24 rfl (lv_at hl 2 rfl) ?_
    obtain ⟨a29, ea29, h⟩ := v_bnd h
    refine v_gA (ci := 8) hx hb hts iwX7 hown hK 3 ea29 rfl (by decide) (Or.inr ⟨_, kn14 hSS _⟩) (fun _ h9 => h9) dX5_emptySet_25 ?_
    refine w_aload_n hx hb dX5_emptySet_28 rfl (lv_at hl 0 rfl) ?_
    obtain ⟨v30, ev30, h⟩ := v_bnd h
    refine v_gI (ci := 7) hx hb hts iwX5 hown hK 7 ev30 rfl (by decide) (Or.inl (hts _ kw262)) (fun _ h9 => h9) dX5_emptySet_29 ?_
    refine w_iconst (v := (-1)) hx hb dX5_emptySet_32 (by decide) ?_
    refine w_iconst (v := 2) hx hb dX5_emptySet_33 (by decide) ?_
    refine w_aload_n hx hb dX5_emptySet_34 rfl (lv_at hl 0 rfl) ?_
    obtain ⟨v31, ev31, h⟩ := v_bnd h
    refine v_gI (ci := 7) hx hb hts iwX5 hown hK 4 ev31 rfl (by decide) (Or.inl (hts _ kw254)) (fun _ h9 => h9) dX5_emptySet_35 ?_
    obtain ⟨g8, h⟩ := v_ifs h
    obtain ⟨z32, ez32, h⟩ := v_bnd h
    refine v_call0 (M1 := z32.2) (mc := 0) (ms := 0) (fun H locs hR hS => va_runV (As := [.int v30, .int ((-1)), .int 2, .int v31]) (rest := []) ⟨hx, hb, hml, hown, hts⟩ (mX2_note l hfl D a29 v30 ((-1)) 2 v31 M28 z32 ez32) (cwV 4 hts (gdV kw974 kw975 kw976 kw33 kw977) rfl rfl rfl (by decide +kernel) ⟨Nat.le_of_ble_eq_true rfl, Nat.le_of_ble_eq_true rfl⟩) (v_preV (ci := 4) hSS hR hS g8 (by decide) rfl [.int v30, .int ((-1)), .int 2, .int v31]) rfl rfl hl.1 rfl (lv_room (Nat.le_of_ble_eq_true rfl)) dX5_emptySet_38 ⟨Nat.zero_le _, Nat.zero_le _⟩) ?_
    exact X5_emptySet_J41p x0 x1 a2 z32.2 ls (lv_sub hl [0, 1, 2] rfl) h

def tX3_readClear (G : Nat → Nat) (x0 : Nat) (M : vMe) : Option (Int32 × vMe) :=
  if (M.1 x0).1 = 6 then
  ((tX3_toNextToken G x0 M).bind fun z1 =>
  if (z1.2.1 x0).1 = 6 then
  ((tX3_readEarlierSet G x0 z1.2).bind fun z2 =>
  if z2.1 = ((-1) : Int32) then
  (some (0, z2.2))
else
  ((gA z2.2 x0 6 2).bind fun a4 =>
  if (z2.2.1 a4).1 = 8 then
  ((tX5_emptySet a4 z2.1 z2.2).bind fun z5 =>
  if (z5.2.1 x0).1 = 6 then
  ((tX3_toNextToken G x0 z5.2).bind fun z6 =>
  some (1, z6.2))
else none)
else none))
else none)
else none
def rmX3_readClear : Room := { frames := 8, cells := 0, slots := 0, locals := 154 }
set_option maxHeartbeats 4000000 in
set_option maxRecDepth 100000 in
theorem mX3_readClear (l : Launch) (hfl : l.stackTraces = false) (D : vD) (x0 : Nat) (M : vMe) (z : (Int32 × vMe)) (h : tX3_readClear D.2.2.2.2 x0 M = some z) : Met l yX3_readClear (Cond.code yX3_readClear cX3_readClear 2 (some .boolean) :: TB) rmX3_readClear (va_Pc [.ref x0] (vPre D M)) (qW D (some (.int z.1)) z.2) 0 0 (vA D) := by
  refine v_ofW (cc := cX3_readClear) (maxL := 2) (ret := (some .boolean)) (by decide) (Nat.le_of_ble_eq_true rfl) ?_
  intro p e s m args below meth c Q hx hb hr hml hown hts hlk hnm hSS hR0 hQ ls hl
  have hK := hSS.1
  have hl : lv_has ls 2 [(0, .ref x0)] := hl
  unfold tX3_readClear at h
  refine w_aload_n hx hb dX3_readClear_0 rfl (lv_at hl 0 rfl) ?_
  obtain ⟨g8, h⟩ := v_ifs h
  obtain ⟨z1, ez1, h⟩ := v_bnd h
  refine v_call0 (M1 := z1.2) (mc := 0) (ms := 0) (fun H locs hR hS => va_runV (As := []) (rest := []) ⟨hx, hb, hml, hown, hts⟩ (mX3_toNextToken l hfl D x0 M z1 ez1) (cwV 0 hts (gdV kw852 kw854 kw1 kw53 kw855) rfl rfl rfl (by decide +kernel) ⟨Nat.le_of_ble_eq_true rfl, Nat.le_of_ble_eq_true rfl⟩) (v_preV (ci := 5) hSS hR hS g8 (by decide) rfl []) rfl rfl hl.1 rfl (lv_room (Nat.le_of_ble_eq_true rfl)) dX3_readClear_1 ⟨Nat.zero_le _, Nat.zero_le _⟩) ?_
  refine w_aload_n hx hb dX3_readClear_4 rfl (lv_at hl 0 rfl) ?_
  obtain ⟨g8, h⟩ := v_ifs h
  obtain ⟨z2, ez2, h⟩ := v_bnd h
  refine v_call1 (v := .int z2.1) (M1 := z2.2) (mc := 0) (ms := 0) (fun H locs hR hS => va_runV (As := []) (rest := []) ⟨hx, hb, hml, hown, hts⟩ (mX3_readEarlierSet l hfl D x0 z1.2 z2 ez2) (cwV 0 hts (gdV kw954 kw956 kw13 kw53 kw957) rfl rfl rfl (by decide +kernel) ⟨Nat.le_of_ble_eq_true rfl, Nat.le_of_ble_eq_true rfl⟩) (v_preV (ci := 5) hSS hR hS g8 (by decide) rfl []) rfl rfl hl.1 rfl (lv_room (Nat.le_of_ble_eq_true rfl)) dX3_readClear_5 ⟨Nat.zero_le _, Nat.zero_le _⟩) ?_
  refine w_istore_n (lv' := [(1, .int z2.1), (0, .ref x0)]) hx hb dX3_readClear_8 rfl hl (by decide) rfl (fun ls hl => ?_)
  have hl : lv_has ls 2 [(0, .ref x0), (1, .int z2.1)] := lv_sub hl [1, 0] rfl
  refine w_iload_n hx hb dX3_readClear_9 rfl (lv_at hl 1 rfl) ?_
  refine w_iconst (v := (-1)) hx hb dX3_readClear_10 (by decide) ?_
  refine w_icmp_ne (tgt := 16) hx hb dX3_readClear_11 (by decide) (fun c3 => ?_) (fun c3 => ?_)
  · rw [if_pos c3] at h
    refine w_iconst (v := 0) hx hb dX3_readClear_14 (by decide) ?_
    obtain rfl := Option.some.inj h
    rw [hQ]
    exact v_zret (x := 0) hx hb hr hlk rfl dX3_readClear_15
  · rw [if_neg c3] at h
    refine w_aload_n hx hb dX3_readClear_16 rfl (lv_at hl 0 rfl) ?_
    obtain ⟨a4, ea4, h⟩ := v_bnd h
    refine v_gA (ci := 5) hx hb hts iwX3 hown hK 2 ea4 rfl (by decide) (Or.inl (hts _ kw820)) (fun _ h9 => h9) dX3_readClear_17 ?_
    refine w_iload_n hx hb dX3_readClear_20 rfl (lv_at hl 1 rfl) ?_
    obtain ⟨g8, h⟩ := v_ifs h
    obtain ⟨z5, ez5, h⟩ := v_bnd h
    refine v_call0 (M1 := z5.2) (mc := 0) (ms := 0) (fun H locs hR hS => va_runV (As := [.int z2.1]) (rest := []) ⟨hx, hb, hml, hown, hts⟩ (mX5_emptySet l hfl D a4 z2.1 z2.2 z5 ez5) (cwV 1 hts (gdV kw1007 kw1008 kw1009 kw31 kw1010) rfl rfl rfl (by decide +kernel) ⟨Nat.le_of_ble_eq_true rfl, Nat.le_of_ble_eq_true rfl⟩) (v_preV (ci := 7) hSS hR hS g8 (by decide) rfl [.int z2.1]) rfl rfl hl.1 rfl (lv_room (Nat.le_of_ble_eq_true rfl)) dX3_readClear_21 ⟨Nat.zero_le _, Nat.zero_le _⟩) ?_
    refine w_aload_n hx hb dX3_readClear_24 rfl (lv_at hl 0 rfl) ?_
    obtain ⟨g8, h⟩ := v_ifs h
    obtain ⟨z6, ez6, h⟩ := v_bnd h
    refine v_call0 (M1 := z6.2) (mc := 0) (ms := 0) (fun H locs hR hS => va_runV (As := []) (rest := []) ⟨hx, hb, hml, hown, hts⟩ (mX3_toNextToken l hfl D x0 z5.2 z6 ez6) (cwV 0 hts (gdV kw852 kw854 kw1 kw53 kw855) rfl rfl rfl (by decide +kernel) ⟨Nat.le_of_ble_eq_true rfl, Nat.le_of_ble_eq_true rfl⟩) (v_preV (ci := 5) hSS hR hS g8 (by decide) rfl []) rfl rfl hl.1 rfl (lv_room (Nat.le_of_ble_eq_true rfl)) dX3_readClear_25 ⟨Nat.zero_le _, Nat.zero_le _⟩) ?_
    refine w_iconst (v := 1) hx hb dX3_readClear_28 (by decide) ?_
    obtain rfl := Option.some.inj h
    rw [hQ]
    exact v_zret (x := 1) hx hb hr hlk rfl dX3_readClear_29

def tX5_makeMark (x0 : Nat) (M : vMe) : Option (Unit × vMe) :=
  (gI M x0 8 6).bind fun v1 =>
  if (8 : Int32) ≤ v1 then
  (some ((), M))
else
  ((gA M x0 8 2).bind fun a3 =>
  (gI M x0 8 6).bind fun v4 =>
  (gI M x0 8 7).bind fun v5 =>
  (sA M a3 101 v4 (.int v5)).bind fun M6 =>
  (gI M6 x0 8 6).bind fun v7 =>
  (sV M6 x0 8 6 (.int (v7 + 1))).bind fun M8 =>
  some ((), M8))
def rmX5_makeMark : Room := { frames := 1, cells := 0, slots := 0, locals := 0 }
set_option maxHeartbeats 4000000 in
set_option maxRecDepth 100000 in
theorem mX5_makeMark (l : Launch) (hfl : l.stackTraces = false) (D : vD) (x0 : Nat) (M : vMe) (z : (Unit × vMe)) (h : tX5_makeMark x0 M = some z) : Met l yX5_makeMark (Cond.code yX5_makeMark cX5_makeMark 1 none :: TB) rmX5_makeMark (va_Pc [.ref x0] (vPre D M)) (qW D none z.2) 0 0 (vA D) := by
  refine v_ofW (cc := cX5_makeMark) (maxL := 1) (ret := none) (by decide) (Nat.le_of_ble_eq_true rfl) ?_
  intro p e s m args below meth c Q hx hb hr hml hown hts hlk hnm hSS hR0 hQ ls hl
  have hK := hSS.1
  have hl : lv_has ls 1 [(0, .ref x0)] := hl
  unfold tX5_makeMark at h
  refine w_aload_n hx hb dX5_makeMark_0 rfl (lv_at hl 0 rfl) ?_
  obtain ⟨v1, ev1, h⟩ := v_bnd h
  refine v_gI (ci := 7) hx hb hts iwX5 hown hK 6 ev1 rfl (by decide) (Or.inl (hts _ kw259)) (fun _ h9 => h9) dX5_makeMark_1 ?_
  refine w_bipush (v := 8) hx hb dX5_makeMark_4 (by decide) ?_
  refine w_icmp_ge (tgt := 32) hx hb dX5_makeMark_6 (by decide) (fun c2 => ?_) (fun c2 => ?_)
  · rw [if_pos c2] at h
    obtain rfl := Option.some.inj h
    rw [hQ]
    exact v_vret hx hb hr hlk dX5_makeMark_32
  · rw [if_neg c2] at h
    refine w_aload_n hx hb dX5_makeMark_9 rfl (lv_at hl 0 rfl) ?_
    obtain ⟨a3, ea3, h⟩ := v_bnd h
    refine v_gA (ci := 7) hx hb hts iwX5 hown hK 2 ea3 rfl (by decide) (Or.inl (hts _ kw249)) (fun _ h9 => h9) dX5_makeMark_10 ?_
    refine w_aload_n hx hb dX5_makeMark_13 rfl (lv_at hl 0 rfl) ?_
    obtain ⟨v4, ev4, h⟩ := v_bnd h
    refine v_gI (ci := 7) hx hb hts iwX5 hown hK 6 ev4 rfl (by decide) (Or.inl (hts _ kw259)) (fun _ h9 => h9) dX5_makeMark_14 ?_
    refine w_aload_n hx hb dX5_makeMark_17 rfl (lv_at hl 0 rfl) ?_
    obtain ⟨v5, ev5, h⟩ := v_bnd h
    refine v_gI (ci := 7) hx hb hts iwX5 hown hK 7 ev5 rfl (by decide) (Or.inl (hts _ kw262)) (fun _ h9 => h9) dX5_makeMark_18 ?_
    obtain ⟨M6, eM6, h⟩ := v_bnd h
    refine v_iast hx hb hK eM6 dX5_makeMark_21 ?_
    refine w_aload_n hx hb dX5_makeMark_22 rfl (lv_at hl 0 rfl) ?_
    refine w_dup hx hb dX5_makeMark_23 rfl ?_
    obtain ⟨v7, ev7, h⟩ := v_bnd h
    refine v_gI (ci := 7) hx hb hts iwX5 hown hK 6 ev7 rfl (by decide) (Or.inl (hts _ kw259)) (fun _ h9 => h9) dX5_makeMark_24 ?_
    refine w_iconst (v := 1) hx hb dX5_makeMark_27 (by decide) ?_
    refine w_iadd hx hb dX5_makeMark_28 ?_
    obtain ⟨M8, eM8, h⟩ := v_bnd h
    refine v_putf (ci := 7) hx hb hts iwX5 hown hK tyX5_ok nmX5 6 eM8 rfl (by decide) (Or.inl (hts _ kw259)) (fun _ h9 => h9) (Or.inl rfl) rfl rfl dX5_makeMark_29 ?_
    obtain rfl := Option.some.inj h
    rw [hQ]
    exact v_vret hx hb hr hlk dX5_makeMark_32

def tX3_readMark (G : Nat → Nat) (x0 : Nat) (M : vMe) : Option (Int32 × vMe) :=
  (gA M x0 6 2).bind fun a1 =>
  (gI M a1 8 6).bind fun v2 =>
  if v2 < (8 : Int32) then
  ((gA M x0 6 2).bind fun a4 =>
  if (M.1 a4).1 = 8 then
  ((tX5_makeMark a4 M).bind fun z5 =>
  if (z5.2.1 x0).1 = 6 then
  ((tX3_toNextToken G x0 z5.2).bind fun z6 =>
  some (1, z6.2))
else none)
else none)
else
  (if (M.1 x0).1 = 6 then
  ((tX3_fail x0 5 M).bind fun z7 =>
  if fits .boolean (.int z7.1) = true then some (z7.1, z7.2) else none)
else none)
def rmX3_readMark : Room := { frames := 4, cells := 0, slots := 0, locals := 61 }
set_option maxHeartbeats 4000000 in
set_option maxRecDepth 100000 in
theorem mX3_readMark (l : Launch) (hfl : l.stackTraces = false) (D : vD) (x0 : Nat) (M : vMe) (z : (Int32 × vMe)) (h : tX3_readMark D.2.2.2.2 x0 M = some z) : Met l yX3_readMark (Cond.code yX3_readMark cX3_readMark 1 (some .boolean) :: TB) rmX3_readMark (va_Pc [.ref x0] (vPre D M)) (qW D (some (.int z.1)) z.2) 0 0 (vA D) := by
  refine v_ofW (cc := cX3_readMark) (maxL := 1) (ret := (some .boolean)) (by decide) (Nat.le_of_ble_eq_true rfl) ?_
  intro p e s m args below meth c Q hx hb hr hml hown hts hlk hnm hSS hR0 hQ ls hl
  have hK := hSS.1
  have hl : lv_has ls 1 [(0, .ref x0)] := hl
  unfold tX3_readMark at h
  refine w_aload_n hx hb dX3_readMark_0 rfl (lv_at hl 0 rfl) ?_
  obtain ⟨a1, ea1, h⟩ := v_bnd h
  refine v_gA (ci := 5) hx hb hts iwX3 hown hK 2 ea1 rfl (by decide) (Or.inl (hts _ kw820)) (fun _ h9 => h9) dX3_readMark_1 ?_
  obtain ⟨v2, ev2, h⟩ := v_bnd h
  refine v_gI (ci := 7) hx hb hts iwX5 hown hK 6 ev2 rfl (by decide) (Or.inr ⟨_, kn45 hSS _⟩) (fun _ h9 => h9) dX3_readMark_4 ?_
  refine w_bipush (v := 8) hx hb dX3_readMark_7 (by decide) ?_
  refine w_icmp_lt (tgt := 18) hx hb dX3_readMark_9 (by decide) (fun c3 => ?_) (fun c3 => ?_)
  · rw [if_pos c3] at h
    refine w_aload_n hx hb dX3_readMark_18 rfl (lv_at hl 0 rfl) ?_
    obtain ⟨a4, ea4, h⟩ := v_bnd h
    refine v_gA (ci := 5) hx hb hts iwX3 hown hK 2 ea4 rfl (by decide) (Or.inl (hts _ kw820)) (fun _ h9 => h9) dX3_readMark_19 ?_
    obtain ⟨g8, h⟩ := v_ifs h
    obtain ⟨z5, ez5, h⟩ := v_bnd h
    refine v_call0 (M1 := z5.2) (mc := 0) (ms := 0) (fun H locs hR hS => va_runV (As := []) (rest := []) ⟨hx, hb, hml, hown, hts⟩ (mX5_makeMark l hfl D a4 M z5 ez5) (cwV 0 hts (gdV kw1016 kw1017 kw1018 kw31 kw1019) rfl rfl rfl (by decide +kernel) ⟨Nat.le_of_ble_eq_true rfl, Nat.le_of_ble_eq_true rfl⟩) (v_preV (ci := 7) hSS hR hS g8 (by decide) rfl []) rfl rfl hl.1 rfl (lv_room (Nat.le_of_ble_eq_true rfl)) dX3_readMark_22 ⟨Nat.zero_le _, Nat.zero_le _⟩) ?_
    refine w_aload_n hx hb dX3_readMark_25 rfl (lv_at hl 0 rfl) ?_
    obtain ⟨g8, h⟩ := v_ifs h
    obtain ⟨z6, ez6, h⟩ := v_bnd h
    refine v_call0 (M1 := z6.2) (mc := 0) (ms := 0) (fun H locs hR hS => va_runV (As := []) (rest := []) ⟨hx, hb, hml, hown, hts⟩ (mX3_toNextToken l hfl D x0 z5.2 z6 ez6) (cwV 0 hts (gdV kw852 kw854 kw1 kw53 kw855) rfl rfl rfl (by decide +kernel) ⟨Nat.le_of_ble_eq_true rfl, Nat.le_of_ble_eq_true rfl⟩) (v_preV (ci := 5) hSS hR hS g8 (by decide) rfl []) rfl rfl hl.1 rfl (lv_room (Nat.le_of_ble_eq_true rfl)) dX3_readMark_26 ⟨Nat.zero_le _, Nat.zero_le _⟩) ?_
    refine w_iconst (v := 1) hx hb dX3_readMark_29 (by decide) ?_
    obtain rfl := Option.some.inj h
    rw [hQ]
    exact v_zret (x := 1) hx hb hr hlk rfl dX3_readMark_30
  · rw [if_neg c3] at h
    refine w_aload_n hx hb dX3_readMark_12 rfl (lv_at hl 0 rfl) ?_
    refine w_iconst (v := 5) hx hb dX3_readMark_13 (by decide) ?_
    obtain ⟨g8, h⟩ := v_ifs h
    obtain ⟨z7, ez7, h⟩ := v_bnd h
    refine v_call1 (v := .int z7.1) (M1 := z7.2) (mc := 0) (ms := 0) (fun H locs hR hS => va_runV (As := [.int 5]) (rest := []) ⟨hx, hb, hml, hown, hts⟩ (mX3_fail l hfl D x0 5 M z7 ez7) (cwV 1 hts (gdV kw899 kw901 kw6 kw53 kw902) rfl rfl rfl (by decide +kernel) ⟨Nat.le_of_ble_eq_true rfl, Nat.le_of_ble_eq_true rfl⟩) (v_preV (ci := 5) hSS hR hS g8 (by decide) rfl [.int 5]) rfl rfl hl.1 rfl (lv_room (Nat.le_of_ble_eq_true rfl)) dX3_readMark_14 ⟨Nat.zero_le _, Nat.zero_le _⟩) ?_
    obtain ⟨g6, h⟩ := v_ifs h
    obtain rfl := Option.some.inj h
    rw [hQ]
    exact v_zret hx hb hr hlk (v_narZ g6) dX3_readMark_17

def tX3_readStatement (G : Nat → Nat) (x0 : Nat) (M : vMe) : Option (Int32 × vMe) :=
  if M.2.1 + 0 ≤ M.2.1 + 5 ∧ M.2.2.1 + 0 ≤ M.2.2.1 + 400 then
  (if (M.1 x0).1 = 6 then
  ((tX3_isWord G x0 (G 14) M).bind fun z1 =>
  if z1.1 = 0 then
  (if z1.2.2.1 + 0 ≤ M.2.1 + 5 ∧ z1.2.2.2.1 + 0 ≤ M.2.2.1 + 400 then
  (if (z1.2.1 x0).1 = 6 then
  ((tX3_isWord G x0 (G 15) z1.2).bind fun z3 =>
  if z3.1 = 0 then
  (if z3.2.2.1 + 0 ≤ M.2.1 + 5 ∧ z3.2.2.2.1 + 0 ≤ M.2.2.1 + 400 then
  (if (z3.2.1 x0).1 = 6 then
  ((tX3_isWord G x0 (G 16) z3.2).bind fun z5 =>
  if z5.1 = 0 then
  (if z5.2.2.1 + 0 ≤ M.2.1 + 5 ∧ z5.2.2.2.1 + 0 ≤ M.2.2.1 + 400 then
  (if (z5.2.1 x0).1 = 6 then
  ((tX3_isWord G x0 (G 17) z5.2).bind fun z7 =>
  if z7.1 = 0 then
  (if z7.2.2.1 + 0 ≤ M.2.1 + 5 ∧ z7.2.2.2.1 + 0 ≤ M.2.2.1 + 400 then
  (if (z7.2.1 x0).1 = 6 then
  ((tX3_isWord G x0 (G 18) z7.2).bind fun z9 =>
  if z9.1 = 0 then
  (if z9.2.2.1 + 0 ≤ M.2.1 + 5 ∧ z9.2.2.2.1 + 0 ≤ M.2.2.1 + 400 then
  (if (z9.2.1 x0).1 = 6 then
  ((tX3_fail x0 1 z9.2).bind fun z11 =>
  if z11.2.2.1 ≤ M.2.1 + 5 ∧ z11.2.2.2.1 ≤ M.2.2.1 + 400 then if fits .boolean (.int z11.1) = true then some (z11.1, z11.2) else none else none)
else none)
else none)
else
  (if z9.2.2.1 + 0 ≤ M.2.1 + 5 ∧ z9.2.2.2.1 + 0 ≤ M.2.2.1 + 400 then
  (if (z9.2.1 x0).1 = 6 then
  ((tX3_readMark G x0 z9.2).bind fun z12 =>
  if z12.2.2.1 ≤ M.2.1 + 5 ∧ z12.2.2.2.1 ≤ M.2.2.1 + 400 then if fits .boolean (.int z12.1) = true then some (z12.1, z12.2) else none else none)
else none)
else none))
else none)
else none)
else
  (if z7.2.2.1 + 0 ≤ M.2.1 + 5 ∧ z7.2.2.2.1 + 0 ≤ M.2.2.1 + 400 then
  (if (z7.2.1 x0).1 = 6 then
  ((tX3_readClear G x0 z7.2).bind fun z13 =>
  if z13.2.2.1 ≤ M.2.1 + 5 ∧ z13.2.2.2.1 ≤ M.2.2.1 + 400 then if fits .boolean (.int z13.1) = true then some (z13.1, z13.2) else none else none)
else none)
else none))
else none)
else none)
else
  (if z5.2.2.1 + 0 ≤ M.2.1 + 5 ∧ z5.2.2.2.1 + 0 ≤ M.2.2.1 + 400 then
  (if (z5.2.1 x0).1 = 6 then
  ((tX3_readMembers G x0 0 z5.2).bind fun z14 =>
  if z14.2.2.1 ≤ M.2.1 + 5 ∧ z14.2.2.2.1 ≤ M.2.2.1 + 400 then if fits .boolean (.int z14.1) = true then some (z14.1, z14.2) else none else none)
else none)
else none))
else none)
else none)
else
  (if z3.2.2.1 + 0 ≤ M.2.1 + 5 ∧ z3.2.2.2.1 + 0 ≤ M.2.2.1 + 400 then
  (if (z3.2.1 x0).1 = 6 then
  ((tX3_readMembers G x0 1 z3.2).bind fun z15 =>
  if z15.2.2.1 ≤ M.2.1 + 5 ∧ z15.2.2.2.1 ≤ M.2.2.1 + 400 then if fits .boolean (.int z15.1) = true then some (z15.1, z15.2) else none else none)
else none)
else none))
else none)
else none)
else
  (if z1.2.2.1 + 5 ≤ M.2.1 + 5 ∧ z1.2.2.2.1 + 400 ≤ M.2.2.1 + 400 then
  (if (z1.2.1 x0).1 = 6 then
  ((tX3_readSet G x0 z1.2).bind fun z16 =>
  if z16.2.2.1 ≤ M.2.1 + 5 ∧ z16.2.2.2.1 ≤ M.2.2.1 + 400 then if fits .boolean (.int z16.1) = true then some (z16.1, z16.2) else none else none)
else none)
else none))
else none)
else none
def rmX3_readStatement : Room := { frames := 9, cells := 5, slots := 400, locals := 214 }
set_option maxHeartbeats 4000000 in
set_option maxRecDepth 100000 in
theorem mX3_readStatement (l : Launch) (hfl : l.stackTraces = false) (D : vD) (x0 : Nat) (M : vMe) (z : (Int32 × vMe)) (h : tX3_readStatement D.2.2.2.2 x0 M = some z) : Met l yX3_readStatement (Cond.code yX3_readStatement cX3_readStatement 1 (some .boolean) :: TB) rmX3_readStatement (va_Pc [.ref x0] (vPre D M)) (qW D (some (.int z.1)) z.2) 5 400 (vA D) := by
  refine v_ofW (cc := cX3_readStatement) (maxL := 1) (ret := (some .boolean)) (by decide) (Nat.le_of_ble_eq_true rfl) ?_
  intro p e s m args below meth c Q hx hb hr hml hown hts hlk hnm hSS hR0 hQ ls hl
  have hz0 := hR0.2.1
  have hs0 := hR0.2.2.1
  have hb0 : D.2.2.2.1 ≤ s.heap.size := hR0.2.2.2.2.1
  refine v_tight hb0 ?_
  have hK := hSS.1
  have hl : lv_has ls 1 [(0, .ref x0)] := hl
  unfold tX3_readStatement at h
  refine w_aload_n hx hb dX3_readStatement_0 rfl (lv_at hl 0 rfl) ?_
  refine w_ldcS hx hb hown (hSS.2.2.1 14 _ rfl) dX3_readStatement_1 ?_
  obtain ⟨g7, h⟩ := v_ifs h
  refine v_tight hb0 ?_
  obtain ⟨g8, h⟩ := v_ifs h
  obtain ⟨z1, ez1, h⟩ := v_bnd h
  refine v_call1 (v := .int z1.1) (M1 := z1.2) (mc := 0) (ms := 0) (fun H locs hR hS => va_runV (As := [.ref (D.2.2.2.2 14)]) (rest := []) ⟨hx, hb, hml, hown, hts⟩ (mX3_isWord l hfl D x0 (D.2.2.2.2 14) M z1 ez1) (cwV 1 hts (gdV kw889 kw891 kw5 kw53 kw892) rfl rfl rfl (by decide +kernel) ⟨Nat.le_of_ble_eq_true rfl, Nat.le_of_ble_eq_true rfl⟩) (v_preV (ci := 5) hSS hR hS g8 (by decide) rfl [.ref (D.2.2.2.2 14)]) rfl rfl hl.1 rfl (lv_room (Nat.le_of_ble_eq_true rfl)) dX3_readStatement_3 ⟨by show _ + _ ≤ 5; omega, by show _ + _ ≤ 400; omega⟩) ?_
  refine w_if_eq (tgt := 14) hx hb dX3_readStatement_6 (by decide) (fun c2 => ?_) (fun c2 => ?_)
  · rw [if_pos c2] at h
    refine w_aload_n hx hb dX3_readStatement_14 rfl (lv_at hl 0 rfl) ?_
    refine w_ldcS hx hb hown (hSS.2.2.1 15 _ rfl) dX3_readStatement_15 ?_
    obtain ⟨g7, h⟩ := v_ifs h
    refine v_tight hb0 ?_
    obtain ⟨g8, h⟩ := v_ifs h
    obtain ⟨z3, ez3, h⟩ := v_bnd h
    refine v_call1 (v := .int z3.1) (M1 := z3.2) (mc := 0) (ms := 0) (fun H locs hR hS => va_runV (As := [.ref (D.2.2.2.2 15)]) (rest := []) ⟨hx, hb, hml, hown, hts⟩ (mX3_isWord l hfl D x0 (D.2.2.2.2 15) z1.2 z3 ez3) (cwV 1 hts (gdV kw889 kw891 kw5 kw53 kw892) rfl rfl rfl (by decide +kernel) ⟨Nat.le_of_ble_eq_true rfl, Nat.le_of_ble_eq_true rfl⟩) (v_preV (ci := 5) hSS hR hS g8 (by decide) rfl [.ref (D.2.2.2.2 15)]) rfl rfl hl.1 rfl (lv_room (Nat.le_of_ble_eq_true rfl)) dX3_readStatement_17 ⟨by show _ + _ ≤ 5; omega, by show _ + _ ≤ 400; omega⟩) ?_
    refine w_if_eq (tgt := 29) hx hb dX3_readStatement_20 (by decide) (fun c4 => ?_) (fun c4 => ?_)
    · rw [if_pos c4] at h
      refine w_aload_n hx hb dX3_readStatement_29 rfl (lv_at hl 0 rfl) ?_
      refine w_ldcS hx hb hown (hSS.2.2.1 16 _ rfl) dX3_readStatement_30 ?_
      obtain ⟨g7, h⟩ := v_ifs h
      refine v_tight hb0 ?_
      obtain ⟨g8, h⟩ := v_ifs h
      obtain ⟨z5, ez5, h⟩ := v_bnd h
      refine v_call1 (v := .int z5.1) (M1 := z5.2) (mc := 0) (ms := 0) (fun H locs hR hS => va_runV (As := [.ref (D.2.2.2.2 16)]) (rest := []) ⟨hx, hb, hml, hown, hts⟩ (mX3_isWord l hfl D x0 (D.2.2.2.2 16) z3.2 z5 ez5) (cwV 1 hts (gdV kw889 kw891 kw5 kw53 kw892) rfl rfl rfl (by decide +kernel) ⟨Nat.le_of_ble_eq_true rfl, Nat.le_of_ble_eq_true rfl⟩) (v_preV (ci := 5) hSS hR hS g8 (by decide) rfl [.ref (D.2.2.2.2 16)]) rfl rfl hl.1 rfl (lv_room (Nat.le_of_ble_eq_true rfl)) dX3_readStatement_32 ⟨by show _ + _ ≤ 5; omega, by show _ + _ ≤ 400; omega⟩) ?_
      refine w_if_eq (tgt := 44) hx hb dX3_readStatement_35 (by decide) (fun c6 => ?_) (fun c6 => ?_)
      · rw [if_pos c6] at h
        refine w_aload_n hx hb dX3_readStatement_44 rfl (lv_at hl 0 rfl) ?_
        refine w_ldcS hx hb hown (hSS.2.2.1 17 _ rfl) dX3_readStatement_45 ?_
        obtain ⟨g7, h⟩ := v_ifs h
        refine v_tight hb0 ?_
        obtain ⟨g8, h⟩ := v_ifs h
        obtain ⟨z7, ez7, h⟩ := v_bnd h
        refine v_call1 (v := .int z7.1) (M1 := z7.2) (mc := 0) (ms := 0) (fun H locs hR hS => va_runV (As := [.ref (D.2.2.2.2 17)]) (rest := []) ⟨hx, hb, hml, hown, hts⟩ (mX3_isWord l hfl D x0 (D.2.2.2.2 17) z5.2 z7 ez7) (cwV 1 hts (gdV kw889 kw891 kw5 kw53 kw892) rfl rfl rfl (by decide +kernel) ⟨Nat.le_of_ble_eq_true rfl, Nat.le_of_ble_eq_true rfl⟩) (v_preV (ci := 5) hSS hR hS g8 (by decide) rfl [.ref (D.2.2.2.2 17)]) rfl rfl hl.1 rfl (lv_room (Nat.le_of_ble_eq_true rfl)) dX3_readStatement_47 ⟨by show _ + _ ≤ 5; omega, by show _ + _ ≤ 400; omega⟩) ?_
        refine w_if_eq (tgt := 58) hx hb dX3_readStatement_50 (by decide) (fun c8 => ?_) (fun c8 => ?_)
        · rw [if_pos c8] at h
          refine w_aload_n hx hb dX3_readStatement_58 rfl (lv_at hl 0 rfl) ?_
          refine w_ldcS hx hb hown (hSS.2.2.1 18 _ rfl) dX3_readStatement_59 ?_
          obtain ⟨g7, h⟩ := v_ifs h
          refine v_tight hb0 ?_
          obtain ⟨g8, h⟩ := v_ifs h
          obtain ⟨z9, ez9, h⟩ := v_bnd h
          refine v_call1 (v := .int z9.1) (M1 := z9.2) (mc := 0) (ms := 0) (fun H locs hR hS => va_runV (As := [.ref (D.2.2.2.2 18)]) (rest := []) ⟨hx, hb, hml, hown, hts⟩ (mX3_isWord l hfl D x0 (D.2.2.2.2 18) z7.2 z9 ez9) (cwV 1 hts (gdV kw889 kw891 kw5 kw53 kw892) rfl rfl rfl (by decide +kernel) ⟨Nat.le_of_ble_eq_true rfl, Nat.le_of_ble_eq_true rfl⟩) (v_preV (ci := 5) hSS hR hS g8 (by decide) rfl [.ref (D.2.2.2.2 18)]) rfl rfl hl.1 rfl (lv_room (Nat.le_of_ble_eq_true rfl)) dX3_readStatement_61 ⟨by show _ + _ ≤ 5; omega, by show _ + _ ≤ 400; omega⟩) ?_
          refine w_if_eq (tgt := 72) hx hb dX3_readStatement_64 (by decide) (fun c10 => ?_) (fun c10 => ?_)
          · rw [if_pos c10] at h
            refine w_aload_n hx hb dX3_readStatement_72 rfl (lv_at hl 0 rfl) ?_
            refine w_iconst (v := 1) hx hb dX3_readStatement_73 (by decide) ?_
            obtain ⟨g7, h⟩ := v_ifs h
            refine v_tight hb0 ?_
            obtain ⟨g8, h⟩ := v_ifs h
            obtain ⟨z11, ez11, h⟩ := v_bnd h
            refine v_call1 (v := .int z11.1) (M1 := z11.2) (mc := 0) (ms := 0) (fun H locs hR hS => va_runV (As := [.int 1]) (rest := []) ⟨hx, hb, hml, hown, hts⟩ (mX3_fail l hfl D x0 1 z9.2 z11 ez11) (cwV 1 hts (gdV kw899 kw901 kw6 kw53 kw902) rfl rfl rfl (by decide +kernel) ⟨Nat.le_of_ble_eq_true rfl, Nat.le_of_ble_eq_true rfl⟩) (v_preV (ci := 5) hSS hR hS g8 (by decide) rfl [.int 1]) rfl rfl hl.1 rfl (lv_room (Nat.le_of_ble_eq_true rfl)) dX3_readStatement_74 ⟨by show _ + _ ≤ 5; omega, by show _ + _ ≤ 400; omega⟩) ?_
            obtain ⟨g9, h⟩ := v_ifs h
            refine v_tight hb0 (vV.widen (n' := 5) (k' := 400) (by omega) (by omega) ?_)
            obtain ⟨g6, h⟩ := v_ifs h
            obtain rfl := Option.some.inj h
            rw [hQ]
            exact v_zret hx hb hr hlk (v_narZ g6) dX3_readStatement_77
          · rw [if_neg c10] at h
            refine w_aload_n hx hb dX3_readStatement_67 rfl (lv_at hl 0 rfl) ?_
            obtain ⟨g7, h⟩ := v_ifs h
            refine v_tight hb0 ?_
            obtain ⟨g8, h⟩ := v_ifs h
            obtain ⟨z12, ez12, h⟩ := v_bnd h
            refine v_call1 (v := .int z12.1) (M1 := z12.2) (mc := 0) (ms := 0) (fun H locs hR hS => va_runV (As := []) (rest := []) ⟨hx, hb, hml, hown, hts⟩ (mX3_readMark l hfl D x0 z9.2 z12 ez12) (cwV 0 hts (gdV kw1012 kw1014 kw19 kw53 kw1015) rfl rfl rfl (by decide +kernel) ⟨Nat.le_of_ble_eq_true rfl, Nat.le_of_ble_eq_true rfl⟩) (v_preV (ci := 5) hSS hR hS g8 (by decide) rfl []) rfl rfl hl.1 rfl (lv_room (Nat.le_of_ble_eq_true rfl)) dX3_readStatement_68 ⟨by show _ + _ ≤ 5; omega, by show _ + _ ≤ 400; omega⟩) ?_
            obtain ⟨g9, h⟩ := v_ifs h
            refine v_tight hb0 (vV.widen (n' := 5) (k' := 400) (by omega) (by omega) ?_)
            obtain ⟨g6, h⟩ := v_ifs h
            obtain rfl := Option.some.inj h
            rw [hQ]
            exact v_zret hx hb hr hlk (v_narZ g6) dX3_readStatement_71
        · rw [if_neg c8] at h
          refine w_aload_n hx hb dX3_readStatement_53 rfl (lv_at hl 0 rfl) ?_
          obtain ⟨g7, h⟩ := v_ifs h
          refine v_tight hb0 ?_
          obtain ⟨g8, h⟩ := v_ifs h
          obtain ⟨z13, ez13, h⟩ := v_bnd h
          refine v_call1 (v := .int z13.1) (M1 := z13.2) (mc := 0) (ms := 0) (fun H locs hR hS => va_runV (As := []) (rest := []) ⟨hx, hb, hml, hown, hts⟩ (mX3_readClear l hfl D x0 z7.2 z13 ez13) (cwV 0 hts (gdV kw1003 kw1005 kw18 kw53 kw1006) rfl rfl rfl (by decide +kernel) ⟨Nat.le_of_ble_eq_true rfl, Nat.le_of_ble_eq_true rfl⟩) (v_preV (ci := 5) hSS hR hS g8 (by decide) rfl []) rfl rfl hl.1 rfl (lv_room (Nat.le_of_ble_eq_true rfl)) dX3_readStatement_54 ⟨by show _ + _ ≤ 5; omega, by show _ + _ ≤ 400; omega⟩) ?_
          obtain ⟨g9, h⟩ := v_ifs h
          refine v_tight hb0 (vV.widen (n' := 5) (k' := 400) (by omega) (by omega) ?_)
          obtain ⟨g6, h⟩ := v_ifs h
          obtain rfl := Option.some.inj h
          rw [hQ]
          exact v_zret hx hb hr hlk (v_narZ g6) dX3_readStatement_57
      · rw [if_neg c6] at h
        refine w_aload_n hx hb dX3_readStatement_38 rfl (lv_at hl 0 rfl) ?_
        refine w_iconst (v := 0) hx hb dX3_readStatement_39 (by decide) ?_
        obtain ⟨g7, h⟩ := v_ifs h
        refine v_tight hb0 ?_
        obtain ⟨g8, h⟩ := v_ifs h
        obtain ⟨z14, ez14, h⟩ := v_bnd h
        refine v_call1 (v := .int z14.1) (M1 := z14.2) (mc := 0) (ms := 0) (fun H locs hR hS => va_runV (As := [.int 0]) (rest := []) ⟨hx, hb, hml, hown, hts⟩ (mX3_readMembers l hfl D x0 0 z5.2 z14 ez14) (cwV 1 hts (gdV kw950 kw952 kw12 kw53 kw953) rfl rfl rfl (by decide +kernel) ⟨Nat.le_of_ble_eq_true rfl, Nat.le_of_ble_eq_true rfl⟩) (v_preV (ci := 5) hSS hR hS g8 (by decide) rfl [.int 0]) rfl rfl hl.1 rfl (lv_room (Nat.le_of_ble_eq_true rfl)) dX3_readStatement_40 ⟨by show _ + _ ≤ 5; omega, by show _ + _ ≤ 400; omega⟩) ?_
        obtain ⟨g9, h⟩ := v_ifs h
        refine v_tight hb0 (vV.widen (n' := 5) (k' := 400) (by omega) (by omega) ?_)
        obtain ⟨g6, h⟩ := v_ifs h
        obtain rfl := Option.some.inj h
        rw [hQ]
        exact v_zret hx hb hr hlk (v_narZ g6) dX3_readStatement_43
    · rw [if_neg c4] at h
      refine w_aload_n hx hb dX3_readStatement_23 rfl (lv_at hl 0 rfl) ?_
      refine w_iconst (v := 1) hx hb dX3_readStatement_24 (by decide) ?_
      obtain ⟨g7, h⟩ := v_ifs h
      refine v_tight hb0 ?_
      obtain ⟨g8, h⟩ := v_ifs h
      obtain ⟨z15, ez15, h⟩ := v_bnd h
      refine v_call1 (v := .int z15.1) (M1 := z15.2) (mc := 0) (ms := 0) (fun H locs hR hS => va_runV (As := [.int 1]) (rest := []) ⟨hx, hb, hml, hown, hts⟩ (mX3_readMembers l hfl D x0 1 z3.2 z15 ez15) (cwV 1 hts (gdV kw950 kw952 kw12 kw53 kw953) rfl rfl rfl (by decide +kernel) ⟨Nat.le_of_ble_eq_true rfl, Nat.le_of_ble_eq_true rfl⟩) (v_preV (ci := 5) hSS hR hS g8 (by decide) rfl [.int 1]) rfl rfl hl.1 rfl (lv_room (Nat.le_of_ble_eq_true rfl)) dX3_readStatement_25 ⟨by show _ + _ ≤ 5; omega, by show _ + _ ≤ 400; omega⟩) ?_
      obtain ⟨g9, h⟩ := v_ifs h
      refine v_tight hb0 (vV.widen (n' := 5) (k' := 400) (by omega) (by omega) ?_)
      obtain ⟨g6, h⟩ := v_ifs h
      obtain rfl := Option.some.inj h
      rw [hQ]
      exact v_zret hx hb hr hlk (v_narZ g6) dX3_readStatement_28
  · rw [if_neg c2] at h
    refine w_aload_n hx hb dX3_readStatement_9 rfl (lv_at hl 0 rfl) ?_
    obtain ⟨g7, h⟩ := v_ifs h
    refine v_tight hb0 ?_
    obtain ⟨g8, h⟩ := v_ifs h
    obtain ⟨z16, ez16, h⟩ := v_bnd h
    refine v_call1 (v := .int z16.1) (M1 := z16.2) (mc := 5) (ms := 400) (fun H locs hR hS => va_runV (As := []) (rest := []) ⟨hx, hb, hml, hown, hts⟩ (mX3_readSet l hfl D x0 z1.2 z16 ez16) (cwV 0 hts (gdV kw917 kw919 kw10 kw53 kw920) rfl rfl rfl (by decide +kernel) ⟨Nat.le_of_ble_eq_true rfl, Nat.le_of_ble_eq_true rfl⟩) (v_preV (ci := 5) hSS hR hS g8 (by decide) rfl []) rfl rfl hl.1 rfl (lv_room (Nat.le_of_ble_eq_true rfl)) dX3_readStatement_10 ⟨by show _ + _ ≤ 5; omega, by show _ + _ ≤ 400; omega⟩) ?_
    obtain ⟨g9, h⟩ := v_ifs h
    refine v_tight hb0 (vV.widen (n' := 5) (k' := 400) (by omega) (by omega) ?_)
    obtain ⟨g6, h⟩ := v_ifs h
    obtain rfl := Option.some.inj h
    rw [hQ]
    exact v_zret hx hb hr hlk (v_narZ g6) dX3_readStatement_13

def tX3_readText_J110_69 (rec : Int32 → Int32 → vMe → Option (Int32 × vMe)) (n0 s0 : Nat) (x0 : Nat) (x3 : Int32) (y0 : Int32) (Mj : vMe) : Option (Int32 × vMe) :=
  rec y0 (x3 + 1) Mj
def tX3_readText_J109_69 (rec : Int32 → Int32 → vMe → Option (Int32 × vMe)) (n0 s0 : Nat) (x0 : Nat) (x3 : Int32) (Mj : vMe) : Option (Int32 × vMe) :=
  tX3_readText_J110_69 (rec) n0 s0 x0 x3 0 Mj
def tX3_readText_L69 (G : Nat → Nat) (n0 s0 : Nat) (x0 : Nat) : Nat → Int32 → Int32 → vMe → Option (Int32 × vMe)
  | 0, _, _, _ => none
  | f + 1, x2, x3, Mi =>
  (gI Mi x0 6 1).bind fun v15 =>
  if v15 ≤ x3 then
  (some (x2, Mi))
else
  (if x2 = 0 then
  (some (x2, Mi))
else
  ((gA Mi x0 6 3).bind fun a18 =>
  if a18 = (G 104) then
  (some (x2, Mi))
else
  (if Mi.2.1 + 5 ≤ n0 + 25 ∧ Mi.2.2.1 + 400 ≤ s0 + 660 then
  (if (Mi.1 x0).1 = 6 then
  ((tX3_readStatement G x0 Mi).bind fun z20 =>
  if z20.1 = 0 then
  (tX3_readText_J109_69 (tX3_readText_L69 G n0 s0 x0 f) n0 s0 x0 x3 z20.2)
else
  (if z20.2.2.1 + 0 ≤ n0 + 25 ∧ z20.2.2.2.1 + 0 ≤ s0 + 660 then
  (if (z20.2.1 x0).1 = 6 then
  ((tX3_passSemicolon G x0 z20.2).bind fun z22 =>
  if z22.1 = 0 then
  (tX3_readText_J109_69 (tX3_readText_L69 G n0 s0 x0 f) n0 s0 x0 x3 z22.2)
else
  (tX3_readText_J110_69 (tX3_readText_L69 G n0 s0 x0 f) n0 s0 x0 x3 1 z22.2))
else none)
else none))
else none)
else none)))
def tX3_readText (G : Nat → Nat) (x0 : Nat) (M : vMe) : Option (Int32 × vMe) :=
  if M.2.1 + 0 ≤ M.2.1 + 25 ∧ M.2.2.1 + 0 ≤ M.2.2.1 + 660 then
  (if (M.1 x0).1 = 6 then
  ((tX3_toNextToken G x0 M).bind fun z1 =>
  if z1.2.2.1 + 0 ≤ M.2.1 + 25 ∧ z1.2.2.2.1 + 0 ≤ M.2.2.1 + 660 then
  (if (z1.2.1 x0).1 = 6 then
  ((tX3_passWord G x0 (G 13) z1.2).bind fun z2 =>
  if z2.1 = 0 then
  (if z2.2.2.1 ≤ M.2.1 + 25 ∧ z2.2.2.2.1 ≤ M.2.2.1 + 660 then some (0, z2.2) else none)
else
  (if z2.2.2.1 + 0 ≤ M.2.1 + 25 ∧ z2.2.2.2.1 + 0 ≤ M.2.2.1 + 660 then
  (if (z2.2.1 x0).1 = 6 then
  ((tX3_isNumber G x0 1 64 z2.2).bind fun z4 =>
  if z4.1 = 0 then
  (if z4.2.2.1 ≤ M.2.1 + 25 ∧ z4.2.2.2.1 ≤ M.2.2.1 + 660 then some (0, z4.2) else none)
else
  ((gI z4.2 x0 6 6).bind fun v6 =>
  if z4.2.2.1 + 0 ≤ M.2.1 + 25 ∧ z4.2.2.2.1 + 0 ≤ M.2.2.1 + 660 then
  (if (z4.2.1 x0).1 = 6 then
  ((tX3_toNextToken G x0 z4.2).bind fun z7 =>
  if z7.2.2.1 + 0 ≤ M.2.1 + 25 ∧ z7.2.2.2.1 + 0 ≤ M.2.2.1 + 660 then
  (if (z7.2.1 x0).1 = 6 then
  ((tX3_isNumber G x0 1 60 z7.2).bind fun z8 =>
  if z8.1 = 0 then
  (if z8.2.2.1 ≤ M.2.1 + 25 ∧ z8.2.2.2.1 ≤ M.2.2.1 + 660 then some (0, z8.2) else none)
else
  ((gA z8.2 x0 6 2).bind fun a10 =>
  (gI z8.2 x0 6 6).bind fun v11 =>
  if z8.2.2.1 + 0 ≤ M.2.1 + 25 ∧ z8.2.2.2.1 + 0 ≤ M.2.2.1 + 660 then
  (if (z8.2.1 a10).1 = 8 then
  ((tX5_begin a10 v6 v11 z8.2).bind fun z12 =>
  if z12.2.2.1 + 0 ≤ M.2.1 + 25 ∧ z12.2.2.2.1 + 0 ≤ M.2.2.1 + 660 then
  (if (z12.2.1 x0).1 = 6 then
  ((tX3_toNextToken G x0 z12.2).bind fun z13 =>
  if z13.2.2.1 + 0 ≤ M.2.1 + 25 ∧ z13.2.2.2.1 + 0 ≤ M.2.2.1 + 660 then
  (if (z13.2.1 x0).1 = 6 then
  ((tX3_passSemicolon G x0 z13.2).bind fun z14 =>
  (tX3_readText_L69 G M.2.1 M.2.2.1 x0 vF z14.1 0 z14.2).bind fun z24 =>
  if z24.2.2.1 ≤ M.2.1 + 25 ∧ z24.2.2.2.1 ≤ M.2.2.1 + 660 then if fits .boolean (.int z24.1) = true then some (z24.1, z24.2) else none else none)
else none)
else none)
else none)
else none)
else none)
else none))
else none)
else none)
else none)
else none))
else none)
else none))
else none)
else none)
else none)
else none
def rmX3_readText : Room := { frames := 10, cells := 25, slots := 660, locals := 234 }
set_option maxHeartbeats 4000000 in
set_option maxRecDepth 100000 in
theorem mX3_readText (l : Launch) (hfl : l.stackTraces = false) (D : vD) (x0 : Nat) (M : vMe) (z : (Int32 × vMe)) (h : tX3_readText D.2.2.2.2 x0 M = some z) : Met l yX3_readText (Cond.code yX3_readText cX3_readText 4 (some .boolean) :: TB) rmX3_readText (va_Pc [.ref x0] (vPre D M)) (qW D (some (.int z.1)) z.2) 25 660 (vA D) := by
  refine v_ofW (cc := cX3_readText) (maxL := 4) (ret := (some .boolean)) (by decide) (Nat.le_of_ble_eq_true rfl) ?_
  intro p e s m args below meth c Q hx hb hr hml hown hts hlk hnm hSS hR0 hQ ls hl
  have hz0 := hR0.2.1
  have hs0 := hR0.2.2.1
  have hb0 : D.2.2.2.1 ≤ s.heap.size := hR0.2.2.2.2.1
  refine v_tight hb0 ?_
  have hK := hSS.1
  have hl : lv_has ls 4 [(0, .ref x0)] := hl
  unfold tX3_readText at h
  have X3_readText_L69p : ∀ (x0 : Nat), ∀ (f : Nat) (x2 : Int32) (x3 : Int32) (Mi : vMe) (ls : Array Slot) (z : (Int32 × vMe)), lv_has ls 4 [(0, .ref x0), (2, .int x2), (3, .int x3)] → tX3_readText_L69 D.2.2.2.2 M.2.1 M.2.2.1 x0 f x2 x3 Mi = some z → (∀ ls : Array Slot, lv_has ls 4 [(2, .int z.1)] → vV D p l e rmX3_readText s m args below meth c (z.2.2.1 - s.heap.size) (z.2.2.2.1 - vSum D.2.2.2.1 s.heap) Q z.2 (F0 m 117 ls [])) → vV D p l e rmX3_readText s m args below meth c (Mi.2.1 - s.heap.size) (Mi.2.2.1 - vSum D.2.2.2.1 s.heap) Q Mi (F0 m 69 ls []) := by
    intro x0 f
    induction f with
    | zero =>
      intro x2 x3 Mi ls z hl h
      exact absurd h (by simp [tX3_readText_L69])
    | succ f ih =>
      intro x2 x3 Mi ls z hl h KX
      rw [tX3_readText_L69] at h
      have X3_readText_J110_69p : ∀ (x3 : Int32) (y0 : Int32) (Mj : vMe) (ls : Array Slot), lv_has ls 4 [(0, .ref x0), (3, .int x3)] → tX3_readText_J110_69 (tX3_readText_L69 D.2.2.2.2 M.2.1 M.2.2.1 x0 f) M.2.1 M.2.2.1 x0 x3 y0 Mj = some z → vV D p l e rmX3_readText s m args below meth c (Mj.2.1 - s.heap.size) (Mj.2.2.1 - vSum D.2.2.2.1 s.heap) Q Mj (F0 m 110 ls [.int y0]) := by
        intro x3 y0 Mj ls hl h
        unfold tX3_readText_J110_69 at h
        refine w_istore_n (lv' := [(2, .int y0), (0, .ref x0), (3, .int x3)]) hx hb dX3_readText_110 rfl hl (by decide) rfl (fun ls hl => ?_)
        have hl : lv_has ls 4 [(0, .ref x0), (2, .int y0), (3, .int x3)] := lv_sub hl [1, 0, 2] rfl
        refine w_iinc (v := x3 + 1) (lv' := [(3, .int (x3 + 1)), (0, .ref x0), (2, .int y0)]) hx hb dX3_readText_111 hl (j := 2) rfl rfl (by decide) rfl (fun ls hl => ?_)
        have hl : lv_has ls 4 [(0, .ref x0), (2, .int y0), (3, .int (x3 + 1))] := lv_sub hl [1, 2, 0] rfl
        refine w_goto (tgt := 69) hx hb dX3_readText_114 (by decide) ?_
        refine v_tight hb0 ?_
        exact ih y0 (x3 + 1) Mj ls z (lv_sub hl [0, 1, 2] rfl) h KX
      have X3_readText_J109_69p : ∀ (x3 : Int32) (Mj : vMe) (ls : Array Slot), lv_has ls 4 [(0, .ref x0), (3, .int x3)] → tX3_readText_J109_69 (tX3_readText_L69 D.2.2.2.2 M.2.1 M.2.2.1 x0 f) M.2.1 M.2.2.1 x0 x3 Mj = some z → vV D p l e rmX3_readText s m args below meth c (Mj.2.1 - s.heap.size) (Mj.2.2.1 - vSum D.2.2.2.1 s.heap) Q Mj (F0 m 109 ls []) := by
        intro x3 Mj ls hl h
        unfold tX3_readText_J109_69 at h
        refine w_iconst (v := 0) hx hb dX3_readText_109 (by decide) ?_
        refine v_tight hb0 ?_
        exact X3_readText_J110_69p x3 0 Mj ls (lv_sub hl [0, 1] rfl) h
      refine w_iload_n hx hb dX3_readText_69 rfl (lv_at hl 2 rfl) ?_
      refine w_aload_n hx hb dX3_readText_70 rfl (lv_at hl 0 rfl) ?_
      obtain ⟨v15, ev15, h⟩ := v_bnd h
      refine v_gI (ci := 5) hx hb hts iwX3 hown hK 1 ev15 rfl (by decide) (Or.inl (hts _ kw819)) (fun _ h9 => h9) dX3_readText_71 ?_
      refine w_icmp_ge (tgt := 117) hx hb dX3_readText_74 (by decide) (fun c16 => ?_) (fun c16 => ?_)
      · rw [if_pos c16] at h
        obtain rfl := Option.some.inj h
        refine v_tight hb0 ?_
        exact KX ls (lv_sub hl [1] rfl)
      · rw [if_neg c16] at h
        refine w_iload_n hx hb dX3_readText_77 rfl (lv_at hl 1 rfl) ?_
        refine w_if_eq (tgt := 117) hx hb dX3_readText_78 (by decide) (fun c17 => ?_) (fun c17 => ?_)
        · rw [if_pos c17] at h
          obtain rfl := Option.some.inj h
          refine v_tight hb0 ?_
          exact KX ls (lv_sub hl [1] rfl)
        · rw [if_neg c17] at h
          refine w_aload_n hx hb dX3_readText_81 rfl (lv_at hl 0 rfl) ?_
          obtain ⟨a18, ea18, h⟩ := v_bnd h
          refine v_gA (ci := 5) hx hb hts iwX3 hown hK 3 ea18 rfl (by decide) (Or.inl (hts _ kw821)) (fun _ h9 => h9) dX3_readText_82 ?_
          refine w_gets hx hb (hSS.2.2.2.1 4 _ rfl) hown (hts _ kw816) (fun _ h9 => h9) dX3_readText_85 ?_
          refine w_acmp_eq (tgt := 117) hx hb dX3_readText_88 (by decide) (fun c19 => ?_) (fun c19 => ?_)
          · rw [if_pos c19] at h
            obtain rfl := Option.some.inj h
            refine v_tight hb0 ?_
            exact KX ls (lv_sub hl [1] rfl)
          · rw [if_neg c19] at h
            refine w_aload_n hx hb dX3_readText_91 rfl (lv_at hl 0 rfl) ?_
            obtain ⟨g7, h⟩ := v_ifs h
            refine v_tight hb0 ?_
            obtain ⟨g8, h⟩ := v_ifs h
            obtain ⟨z20, ez20, h⟩ := v_bnd h
            refine v_call1 (v := .int z20.1) (M1 := z20.2) (mc := 5) (ms := 400) (fun H locs hR hS => va_runV (As := []) (rest := []) ⟨hx, hb, hml, hown, hts⟩ (mX3_readStatement l hfl D x0 Mi z20 ez20) (cwV 0 hts (gdV kw912 kw914 kw9 kw53 kw915) rfl rfl rfl (by decide +kernel) ⟨Nat.le_of_ble_eq_true rfl, Nat.le_of_ble_eq_true rfl⟩) (v_preV (ci := 5) hSS hR hS g8 (by decide) rfl []) rfl rfl hl.1 rfl (lv_room (Nat.le_of_ble_eq_true rfl)) dX3_readText_92 ⟨by show _ + _ ≤ 25; omega, by show _ + _ ≤ 660; omega⟩) ?_
            refine w_if_eq (tgt := 109) hx hb dX3_readText_95 (by decide) (fun c21 => ?_) (fun c21 => ?_)
            · rw [if_pos c21] at h
              refine v_tight hb0 ?_
              exact X3_readText_J109_69p x3 z20.2 ls (lv_sub hl [0, 2] rfl) h
            · rw [if_neg c21] at h
              refine w_aload_n hx hb dX3_readText_98 rfl (lv_at hl 0 rfl) ?_
              obtain ⟨g7, h⟩ := v_ifs h
              refine v_tight hb0 ?_
              obtain ⟨g8, h⟩ := v_ifs h
              obtain ⟨z22, ez22, h⟩ := v_bnd h
              refine v_call1 (v := .int z22.1) (M1 := z22.2) (mc := 0) (ms := 0) (fun H locs hR hS => va_runV (As := []) (rest := []) ⟨hx, hb, hml, hown, hts⟩ (mX3_passSemicolon l hfl D x0 z20.2 z22 ez22) (cwV 0 hts (gdV kw908 kw910 kw8 kw53 kw911) rfl rfl rfl (by decide +kernel) ⟨Nat.le_of_ble_eq_true rfl, Nat.le_of_ble_eq_true rfl⟩) (v_preV (ci := 5) hSS hR hS g8 (by decide) rfl []) rfl rfl hl.1 rfl (lv_room (Nat.le_of_ble_eq_true rfl)) dX3_readText_99 ⟨by show _ + _ ≤ 25; omega, by show _ + _ ≤ 660; omega⟩) ?_
              refine w_if_eq (tgt := 109) hx hb dX3_readText_102 (by decide) (fun c23 => ?_) (fun c23 => ?_)
              · rw [if_pos c23] at h
                refine v_tight hb0 ?_
                exact X3_readText_J109_69p x3 z22.2 ls (lv_sub hl [0, 2] rfl) h
              · rw [if_neg c23] at h
                refine w_iconst (v := 1) hx hb dX3_readText_105 (by decide) ?_
                refine w_goto (tgt := 110) hx hb dX3_readText_106 (by decide) ?_
                refine v_tight hb0 ?_
                exact X3_readText_J110_69p x3 1 z22.2 ls (lv_sub hl [0, 2] rfl) h
  refine w_aload_n hx hb dX3_readText_0 rfl (lv_at hl 0 rfl) ?_
  obtain ⟨g7, h⟩ := v_ifs h
  refine v_tight hb0 ?_
  obtain ⟨g8, h⟩ := v_ifs h
  obtain ⟨z1, ez1, h⟩ := v_bnd h
  refine v_call0 (M1 := z1.2) (mc := 0) (ms := 0) (fun H locs hR hS => va_runV (As := []) (rest := []) ⟨hx, hb, hml, hown, hts⟩ (mX3_toNextToken l hfl D x0 M z1 ez1) (cwV 0 hts (gdV kw852 kw854 kw1 kw53 kw855) rfl rfl rfl (by decide +kernel) ⟨Nat.le_of_ble_eq_true rfl, Nat.le_of_ble_eq_true rfl⟩) (v_preV (ci := 5) hSS hR hS g8 (by decide) rfl []) rfl rfl hl.1 rfl (lv_room (Nat.le_of_ble_eq_true rfl)) dX3_readText_1 ⟨by show _ + _ ≤ 25; omega, by show _ + _ ≤ 660; omega⟩) ?_
  refine w_aload_n hx hb dX3_readText_4 rfl (lv_at hl 0 rfl) ?_
  refine w_ldcS hx hb hown (hSS.2.2.1 13 _ rfl) dX3_readText_5 ?_
  obtain ⟨g7, h⟩ := v_ifs h
  refine v_tight hb0 ?_
  obtain ⟨g8, h⟩ := v_ifs h
  obtain ⟨z2, ez2, h⟩ := v_bnd h
  refine v_call1 (v := .int z2.1) (M1 := z2.2) (mc := 0) (ms := 0) (fun H locs hR hS => va_runV (As := [.ref (D.2.2.2.2 13)]) (rest := []) ⟨hx, hb, hml, hown, hts⟩ (mX3_passWord l hfl D x0 (D.2.2.2.2 13) z1.2 z2 ez2) (cwV 1 hts (gdV kw885 kw887 kw4 kw53 kw888) rfl rfl rfl (by decide +kernel) ⟨Nat.le_of_ble_eq_true rfl, Nat.le_of_ble_eq_true rfl⟩) (v_preV (ci := 5) hSS hR hS g8 (by decide) rfl [.ref (D.2.2.2.2 13)]) rfl rfl hl.1 rfl (lv_room (Nat.le_of_ble_eq_true rfl)) dX3_readText_7 ⟨by show _ + _ ≤ 25; omega, by show _ + _ ≤ 660; omega⟩) ?_
  refine w_if_eq (tgt := 23) hx hb dX3_readText_10 (by decide) (fun c3 => ?_) (fun c3 => ?_)
  · rw [if_pos c3] at h
    refine w_iconst (v := 0) hx hb dX3_readText_23 (by decide) ?_
    obtain ⟨g9, h⟩ := v_ifs h
    refine v_tight hb0 (vV.widen (n' := 25) (k' := 660) (by omega) (by omega) ?_)
    obtain rfl := Option.some.inj h
    rw [hQ]
    exact v_zret (x := 0) hx hb hr hlk rfl dX3_readText_24
  · rw [if_neg c3] at h
    refine w_aload_n hx hb dX3_readText_13 rfl (lv_at hl 0 rfl) ?_
    refine w_iconst (v := 1) hx hb dX3_readText_14 (by decide) ?_
    refine w_bipush (v := 64) hx hb dX3_readText_15 (by decide) ?_
    obtain ⟨g7, h⟩ := v_ifs h
    refine v_tight hb0 ?_
    obtain ⟨g8, h⟩ := v_ifs h
    obtain ⟨z4, ez4, h⟩ := v_bnd h
    refine v_call1 (v := .int z4.1) (M1 := z4.2) (mc := 0) (ms := 0) (fun H locs hR hS => va_runV (As := [.int 1, .int 64]) (rest := []) ⟨hx, hb, hml, hown, hts⟩ (mX3_isNumber l hfl D x0 1 64 z2.2 z4 ez4) (cwV 2 hts (gdV kw903 kw905 kw7 kw53 kw906) rfl rfl rfl (by decide +kernel) ⟨Nat.le_of_ble_eq_true rfl, Nat.le_of_ble_eq_true rfl⟩) (v_preV (ci := 5) hSS hR hS g8 (by decide) rfl [.int 1, .int 64]) rfl rfl hl.1 rfl (lv_room (Nat.le_of_ble_eq_true rfl)) dX3_readText_17 ⟨by show _ + _ ≤ 25; omega, by show _ + _ ≤ 660; omega⟩) ?_
    refine w_if_ne (tgt := 25) hx hb dX3_readText_20 (by decide) (fun c5 => ?_) (fun c5 => ?_)
    · rw [if_pos c5] at h
      refine w_iconst (v := 0) hx hb dX3_readText_23 (by decide) ?_
      obtain ⟨g9, h⟩ := v_ifs h
      refine v_tight hb0 (vV.widen (n' := 25) (k' := 660) (by omega) (by omega) ?_)
      obtain rfl := Option.some.inj h
      rw [hQ]
      exact v_zret (x := 0) hx hb hr hlk rfl dX3_readText_24
    · rw [if_neg c5] at h
      refine w_aload_n hx hb dX3_readText_25 rfl (lv_at hl 0 rfl) ?_
      obtain ⟨v6, ev6, h⟩ := v_bnd h
      refine v_gI (ci := 5) hx hb hts iwX3 hown hK 6 ev6 rfl (by decide) (Or.inl (hts _ kw824)) (fun _ h9 => h9) dX3_readText_26 ?_
      refine w_istore_n (lv' := [(1, .int v6), (0, .ref x0)]) hx hb dX3_readText_29 rfl hl (by decide) rfl (fun ls hl => ?_)
      have hl : lv_has ls 4 [(0, .ref x0), (1, .int v6)] := lv_sub hl [1, 0] rfl
      refine w_aload_n hx hb dX3_readText_30 rfl (lv_at hl 0 rfl) ?_
      obtain ⟨g7, h⟩ := v_ifs h
      refine v_tight hb0 ?_
      obtain ⟨g8, h⟩ := v_ifs h
      obtain ⟨z7, ez7, h⟩ := v_bnd h
      refine v_call0 (M1 := z7.2) (mc := 0) (ms := 0) (fun H locs hR hS => va_runV (As := []) (rest := []) ⟨hx, hb, hml, hown, hts⟩ (mX3_toNextToken l hfl D x0 z4.2 z7 ez7) (cwV 0 hts (gdV kw852 kw854 kw1 kw53 kw855) rfl rfl rfl (by decide +kernel) ⟨Nat.le_of_ble_eq_true rfl, Nat.le_of_ble_eq_true rfl⟩) (v_preV (ci := 5) hSS hR hS g8 (by decide) rfl []) rfl rfl hl.1 rfl (lv_room (Nat.le_of_ble_eq_true rfl)) dX3_readText_31 ⟨by show _ + _ ≤ 25; omega, by show _ + _ ≤ 660; omega⟩) ?_
      refine w_aload_n hx hb dX3_readText_34 rfl (lv_at hl 0 rfl) ?_
      refine w_iconst (v := 1) hx hb dX3_readText_35 (by decide) ?_
      refine w_bipush (v := 60) hx hb dX3_readText_36 (by decide) ?_
      obtain ⟨g7, h⟩ := v_ifs h
      refine v_tight hb0 ?_
      obtain ⟨g8, h⟩ := v_ifs h
      obtain ⟨z8, ez8, h⟩ := v_bnd h
      refine v_call1 (v := .int z8.1) (M1 := z8.2) (mc := 0) (ms := 0) (fun H locs hR hS => va_runV (As := [.int 1, .int 60]) (rest := []) ⟨hx, hb, hml, hown, hts⟩ (mX3_isNumber l hfl D x0 1 60 z7.2 z8 ez8) (cwV 2 hts (gdV kw903 kw905 kw7 kw53 kw906) rfl rfl rfl (by decide +kernel) ⟨Nat.le_of_ble_eq_true rfl, Nat.le_of_ble_eq_true rfl⟩) (v_preV (ci := 5) hSS hR hS g8 (by decide) rfl [.int 1, .int 60]) rfl rfl hl.1 rfl (lv_room (Nat.le_of_ble_eq_true rfl)) dX3_readText_38 ⟨by show _ + _ ≤ 25; omega, by show _ + _ ≤ 660; omega⟩) ?_
      refine w_if_ne (tgt := 46) hx hb dX3_readText_41 (by decide) (fun c9 => ?_) (fun c9 => ?_)
      · rw [if_pos c9] at h
        refine w_iconst (v := 0) hx hb dX3_readText_44 (by decide) ?_
        obtain ⟨g9, h⟩ := v_ifs h
        refine v_tight hb0 (vV.widen (n' := 25) (k' := 660) (by omega) (by omega) ?_)
        obtain rfl := Option.some.inj h
        rw [hQ]
        exact v_zret (x := 0) hx hb hr hlk rfl dX3_readText_45
      · rw [if_neg c9] at h
        refine w_aload_n hx hb dX3_readText_46 rfl (lv_at hl 0 rfl) ?_
        obtain ⟨a10, ea10, h⟩ := v_bnd h
        refine v_gA (ci := 5) hx hb hts iwX3 hown hK 2 ea10 rfl (by decide) (Or.inl (hts _ kw820)) (fun _ h9 => h9) dX3_readText_47 ?_
        refine w_iload_n hx hb dX3_readText_50 rfl (lv_at hl 1 rfl) ?_
        refine w_aload_n hx hb dX3_readText_51 rfl (lv_at hl 0 rfl) ?_
        obtain ⟨v11, ev11, h⟩ := v_bnd h
        refine v_gI (ci := 5) hx hb hts iwX3 hown hK 6 ev11 rfl (by decide) (Or.inl (hts _ kw824)) (fun _ h9 => h9) dX3_readText_52 ?_
        obtain ⟨g7, h⟩ := v_ifs h
        refine v_tight hb0 ?_
        obtain ⟨g8, h⟩ := v_ifs h
        obtain ⟨z12, ez12, h⟩ := v_bnd h
        refine v_call0 (M1 := z12.2) (mc := 0) (ms := 0) (fun H locs hR hS => va_runV (As := [.int v6, .int v11]) (rest := []) ⟨hx, hb, hml, hown, hts⟩ (mX5_begin l hfl D a10 v6 v11 z8.2 z12 ez12) (cwV 2 hts (gdV kw907 kw286 kw287 kw31 kw288) rfl rfl rfl (by decide +kernel) ⟨Nat.le_of_ble_eq_true rfl, Nat.le_of_ble_eq_true rfl⟩) (v_preV (ci := 7) hSS hR hS g8 (by decide) rfl [.int v6, .int v11]) rfl rfl hl.1 rfl (lv_room (Nat.le_of_ble_eq_true rfl)) dX3_readText_55 ⟨by show _ + _ ≤ 25; omega, by show _ + _ ≤ 660; omega⟩) ?_
        refine w_aload_n hx hb dX3_readText_58 rfl (lv_at hl 0 rfl) ?_
        obtain ⟨g7, h⟩ := v_ifs h
        refine v_tight hb0 ?_
        obtain ⟨g8, h⟩ := v_ifs h
        obtain ⟨z13, ez13, h⟩ := v_bnd h
        refine v_call0 (M1 := z13.2) (mc := 0) (ms := 0) (fun H locs hR hS => va_runV (As := []) (rest := []) ⟨hx, hb, hml, hown, hts⟩ (mX3_toNextToken l hfl D x0 z12.2 z13 ez13) (cwV 0 hts (gdV kw852 kw854 kw1 kw53 kw855) rfl rfl rfl (by decide +kernel) ⟨Nat.le_of_ble_eq_true rfl, Nat.le_of_ble_eq_true rfl⟩) (v_preV (ci := 5) hSS hR hS g8 (by decide) rfl []) rfl rfl hl.1 rfl (lv_room (Nat.le_of_ble_eq_true rfl)) dX3_readText_59 ⟨by show _ + _ ≤ 25; omega, by show _ + _ ≤ 660; omega⟩) ?_
        refine w_aload_n hx hb dX3_readText_62 rfl (lv_at hl 0 rfl) ?_
        obtain ⟨g7, h⟩ := v_ifs h
        refine v_tight hb0 ?_
        obtain ⟨g8, h⟩ := v_ifs h
        obtain ⟨z14, ez14, h⟩ := v_bnd h
        refine v_call1 (v := .int z14.1) (M1 := z14.2) (mc := 0) (ms := 0) (fun H locs hR hS => va_runV (As := []) (rest := []) ⟨hx, hb, hml, hown, hts⟩ (mX3_passSemicolon l hfl D x0 z13.2 z14 ez14) (cwV 0 hts (gdV kw908 kw910 kw8 kw53 kw911) rfl rfl rfl (by decide +kernel) ⟨Nat.le_of_ble_eq_true rfl, Nat.le_of_ble_eq_true rfl⟩) (v_preV (ci := 5) hSS hR hS g8 (by decide) rfl []) rfl rfl hl.1 rfl (lv_room (Nat.le_of_ble_eq_true rfl)) dX3_readText_63 ⟨by show _ + _ ≤ 25; omega, by show _ + _ ≤ 660; omega⟩) ?_
        refine w_istore_n (lv' := [(2, .int z14.1), (0, .ref x0), (1, .int v6)]) hx hb dX3_readText_66 rfl hl (by decide) rfl (fun ls hl => ?_)
        have hl : lv_has ls 4 [(0, .ref x0), (1, .int v6), (2, .int z14.1)] := lv_sub hl [1, 2, 0] rfl
        refine w_iconst (v := 0) hx hb dX3_readText_67 (by decide) ?_
        refine w_istore_n (lv' := [(3, .int 0), (0, .ref x0), (1, .int v6), (2, .int z14.1)]) hx hb dX3_readText_68 rfl hl (by decide) rfl (fun ls hl => ?_)
        have hl : lv_has ls 4 [(0, .ref x0), (1, .int v6), (2, .int z14.1), (3, .int 0)] := lv_sub hl [1, 2, 3, 0] rfl
        obtain ⟨z24, ez24, h⟩ := v_bnd h
        refine v_tight hb0 ?_
        refine X3_readText_L69p x0 vF z14.1 0 z14.2 ls z24 (lv_sub hl [0, 2, 3] rfl) ez24 (fun ls hl => ?_)
        refine w_iload_n hx hb dX3_readText_117 rfl (lv_at hl 0 rfl) ?_
        obtain ⟨g9, h⟩ := v_ifs h
        refine v_tight hb0 (vV.widen (n' := 25) (k' := 660) (by omega) (by omega) ?_)
        obtain ⟨g6, h⟩ := v_ifs h
        obtain rfl := Option.some.inj h
        rw [hQ]
        exact v_zret hx hb hr hlk (v_narZ g6) dX3_readText_118

def tX4_init (x0 : Nat) (M : vMe) : Option (Unit × vMe) :=
  (nwO M 106 2 2 (fun _ => .null) M.2.1 M.2.2.1 2 4).bind fun M1 =>
  (sV M1 x0 7 0 (.ref M.2.1)).bind fun M2 =>
  (nwO M2 103 2 2 (fun _ => .int 0) M.2.1 M.2.2.1 2 4).bind fun M3 =>
  (sV M3 x0 7 1 (.ref M2.2.1)).bind fun M4 =>
  if M4.2.1 ≤ M.2.1 + 2 ∧ M4.2.2.1 ≤ M.2.2.1 + 4 then some ((), M4) else none
def rmX4_init : Room := { frames := 1, cells := 2, slots := 4, locals := 60 }
set_option maxHeartbeats 4000000 in
set_option maxRecDepth 100000 in
theorem mX4_init (l : Launch) (hfl : l.stackTraces = false) (D : vD) (x0 : Nat) (M : vMe) (z : (Unit × vMe)) (h : tX4_init x0 M = some z) : Met l yX4_init (Cond.code yX4_init cX4_init 1 none :: TB) rmX4_init (va_Pc [.ref x0] (vPre D M)) (qW D none z.2) 2 4 (vA D) := by
  refine v_ofW (cc := cX4_init) (maxL := 1) (ret := none) (by decide) (Nat.le_of_ble_eq_true rfl) ?_
  intro p e s m args below meth c Q hx hb hr hml hown hts hlk hnm hSS hR0 hQ ls hl
  have hz0 := hR0.2.1
  have hs0 := hR0.2.2.1
  have hb0 : D.2.2.2.1 ≤ s.heap.size := hR0.2.2.2.2.1
  refine v_tight hb0 ?_
  have hK := hSS.1
  have hl : lv_has ls 1 [(0, .ref x0)] := hl
  unfold tX4_init at h
  refine w_aload_n hx hb dX4_init_0 rfl (lv_at hl 0 rfl) ?_
  refine v_objInit hx hb hown (hts _ kw108) (hts _ kw66) (hts _ kw67) (hl.1.trans hml.symm) dX4_init_1 (Nat.le_of_ble_eq_true rfl) (Nat.le_of_ble_eq_true rfl) ?_
  refine w_aload_n hx hb dX4_init_4 rfl (lv_at hl 0 rfl) ?_
  refine w_iconst (v := 2) hx hb dX4_init_5 (by decide) ?_
  obtain ⟨M1, eM1, h⟩ := v_bnd h
  refine u_anew (x := 2) hx hb hK hown (hts _ kw109) (va_AO.use (hSS.2.2.2.2.2.2.2.2.2.2.1 0 _ rfl)) (by decide) (by decide) rfl (by decide) (by decide) hb0 hz0 hs0 rfl rfl eM1 dX4_init_6 ?_
  obtain ⟨M2, eM2, h⟩ := v_bnd h
  refine v_putf (ci := 6) hx hb hts iwX4 hown hK tyX4_ok nmX4 0 eM2 rfl (by decide) (Or.inl (hts _ kw110)) (fun _ h9 => h9) (Or.inr ⟨rfl, hnm, rfl, (hts _ kw110)⟩) rfl rfl dX4_init_9 ?_
  refine w_aload_n hx hb dX4_init_12 rfl (lv_at hl 0 rfl) ?_
  refine w_iconst (v := 2) hx hb dX4_init_13 (by decide) ?_
  obtain ⟨M3, eM3, h⟩ := v_bnd h
  refine u_newa (x := 2) (atype := .boolean) hx hb hK (hts _ kw117) (by decide) (by decide) rfl (by decide) (by decide) (by decide) hb0 hz0 hs0 rfl rfl eM3 dX4_init_14 ?_
  obtain ⟨M4, eM4, h⟩ := v_bnd h
  refine v_putf (ci := 6) hx hb hts iwX4 hown hK tyX4_ok nmX4 1 eM4 rfl (by decide) (Or.inl (hts _ kw111)) (fun _ h9 => h9) (Or.inr ⟨rfl, hnm, rfl, (hts _ kw111)⟩) rfl rfl dX4_init_16 ?_
  obtain ⟨g9, h⟩ := v_ifs h
  refine v_tight hb0 (vV.widen (n' := 2) (k' := 4) (by omega) (by omega) ?_)
  obtain rfl := Option.some.inj h
  rw [hQ]
  exact v_vret hx hb hr hlk dX4_init_19

def tX4_emptyAll_L2 (x0 : Nat) : Nat → Int32 → vMe → Option (Unit × vMe)
  | 0, _, _ => none
  | f + 1, x1, Mi =>
  if (2 : Int32) ≤ x1 then
  (some ((), Mi))
else
  ((gA Mi x0 7 1).bind fun a5 =>
  (sA Mi a5 103 x1 (.int (0 &&& 1))).bind fun M6 =>
  tX4_emptyAll_L2 x0 f (x1 + 1) M6)
def tX4_emptyAll (x0 : Nat) (M : vMe) : Option (Unit × vMe) :=
  (tX4_emptyAll_L2 x0 vF 0 M).bind fun z7 =>
  some ((), z7.2)
def rmX4_emptyAll : Room := { frames := 1, cells := 0, slots := 0, locals := 0 }
set_option maxHeartbeats 4000000 in
set_option maxRecDepth 100000 in
theorem mX4_emptyAll (l : Launch) (hfl : l.stackTraces = false) (D : vD) (x0 : Nat) (M : vMe) (z : (Unit × vMe)) (h : tX4_emptyAll x0 M = some z) : Met l yX4_emptyAll (Cond.code yX4_emptyAll cX4_emptyAll 2 none :: TB) rmX4_emptyAll (va_Pc [.ref x0] (vPre D M)) (qW D none z.2) 0 0 (vA D) := by
  refine v_ofW (cc := cX4_emptyAll) (maxL := 2) (ret := none) (by decide) (Nat.le_of_ble_eq_true rfl) ?_
  intro p e s m args below meth c Q hx hb hr hml hown hts hlk hnm hSS hR0 hQ ls hl
  have hK := hSS.1
  have hl : lv_has ls 2 [(0, .ref x0)] := hl
  unfold tX4_emptyAll at h
  have X4_emptyAll_L2p : ∀ (x0 : Nat), ∀ (f : Nat) (x1 : Int32) (Mi : vMe) (ls : Array Slot) (z : (Unit × vMe)), lv_has ls 2 [(0, .ref x0), (1, .int x1)] → tX4_emptyAll_L2 x0 f x1 Mi = some z → (∀ ls : Array Slot, lv_has ls 2 [] → vV D p l e rmX4_emptyAll s m args below meth c 0 0 Q z.2 (F0 m 20 ls [])) → vV D p l e rmX4_emptyAll s m args below meth c 0 0 Q Mi (F0 m 2 ls []) := by
    intro x0 f
    induction f with
    | zero =>
      intro x1 Mi ls z hl h
      exact absurd h (by simp [tX4_emptyAll_L2])
    | succ f ih =>
      intro x1 Mi ls z hl h KX
      rw [tX4_emptyAll_L2] at h
      refine w_iload_n hx hb dX4_emptyAll_2 rfl (lv_at hl 1 rfl) ?_
      refine w_iconst (v := 2) hx hb dX4_emptyAll_3 (by decide) ?_
      refine w_icmp_ge (tgt := 20) hx hb dX4_emptyAll_4 (by decide) (fun c4 => ?_) (fun c4 => ?_)
      · rw [if_pos c4] at h
        obtain rfl := Option.some.inj h
        exact KX ls (lv_sub hl [] rfl)
      · rw [if_neg c4] at h
        refine w_aload_n hx hb dX4_emptyAll_7 rfl (lv_at hl 0 rfl) ?_
        obtain ⟨a5, ea5, h⟩ := v_bnd h
        refine v_gA (ci := 6) hx hb hts iwX4 hown hK 1 ea5 rfl (by decide) (Or.inl (hts _ kw111)) (fun _ h9 => h9) dX4_emptyAll_8 ?_
        refine w_iload_n hx hb dX4_emptyAll_11 rfl (lv_at hl 1 rfl) ?_
        refine w_iconst (v := 0) hx hb dX4_emptyAll_12 (by decide) ?_
        obtain ⟨M6, eM6, h⟩ := v_bnd h
        refine v_zast hx hb hK eM6 dX4_emptyAll_13 ?_
        refine w_iinc (v := x1 + 1) (lv' := [(1, .int (x1 + 1)), (0, .ref x0)]) hx hb dX4_emptyAll_14 hl (j := 1) rfl rfl (by decide) rfl (fun ls hl => ?_)
        have hl : lv_has ls 2 [(0, .ref x0), (1, .int (x1 + 1))] := lv_sub hl [1, 0] rfl
        refine w_goto (tgt := 2) hx hb dX4_emptyAll_17 (by decide) ?_
        exact ih (x1 + 1) M6 ls z (lv_sub hl [0, 1] rfl) h KX
  refine w_iconst (v := 0) hx hb dX4_emptyAll_0 (by decide) ?_
  refine w_istore_n (lv' := [(1, .int 0), (0, .ref x0)]) hx hb dX4_emptyAll_1 rfl hl (by decide) rfl (fun ls hl => ?_)
  have hl : lv_has ls 2 [(0, .ref x0), (1, .int 0)] := lv_sub hl [1, 0] rfl
  obtain ⟨z7, ez7, h⟩ := v_bnd h
  refine X4_emptyAll_L2p x0 vF 0 M ls z7 (lv_sub hl [0, 1] rfl) ez7 (fun ls hl => ?_)
  obtain rfl := Option.some.inj h
  rw [hQ]
  exact v_vret hx hb hr hlk dX4_emptyAll_20

def tX7_init (G : Nat → Nat) (x0 : Nat) (M : vMe) : Option (Unit × vMe) :=
  (nwO M 101 64 64 (fun _ => .int 0) M.2.1 M.2.2.1 7 378).bind fun M1 =>
  (sV M1 x0 9 0 (.ref M.2.1)).bind fun M2 =>
  (nwO M2 101 64 64 (fun _ => .int 0) M.2.1 M.2.2.1 7 378).bind fun M3 =>
  (sV M3 x0 9 1 (.ref M2.2.1)).bind fun M4 =>
  (nwO M4 101 64 64 (fun _ => .int 0) M.2.1 M.2.2.1 7 378).bind fun M5 =>
  (sV M5 x0 9 2 (.ref M4.2.1)).bind fun M6 =>
  (nwO M6 5 0 6 (vp_V [.null, .null, .null, .int 0, .int 0, .long 0]) M.2.1 M.2.2.1 7 378).bind fun M7 =>
  if M7.2.1 + 3 ≤ M.2.1 + 7 ∧ M7.2.2.1 + 180 ≤ M.2.2.1 + 378 then
  ((tX2_init M6.2.1 M7).bind fun z8 =>
  (sV z8.2 x0 9 3 (.ref M6.2.1)).bind fun M9 =>
  (sV M9 x0 9 4 (.ref (G 19))).bind fun M10 =>
  if M10.2.1 ≤ M.2.1 + 7 ∧ M10.2.2.1 ≤ M.2.2.1 + 378 then some ((), M10) else none)
else none
def rmX7_init : Room := { frames := 2, cells := 7, slots := 378, locals := 80 }
set_option maxHeartbeats 4000000 in
set_option maxRecDepth 100000 in
theorem mX7_init (l : Launch) (hfl : l.stackTraces = false) (D : vD) (x0 : Nat) (M : vMe) (z : (Unit × vMe)) (h : tX7_init D.2.2.2.2 x0 M = some z) : Met l yX7_init (Cond.code yX7_init cX7_init 1 none :: TB) rmX7_init (va_Pc [.ref x0] (vPre D M)) (qW D none z.2) 7 378 (vA D) := by
  refine v_ofW (cc := cX7_init) (maxL := 1) (ret := none) (by decide) (Nat.le_of_ble_eq_true rfl) ?_
  intro p e s m args below meth c Q hx hb hr hml hown hts hlk hnm hSS hR0 hQ ls hl
  have hz0 := hR0.2.1
  have hs0 := hR0.2.2.1
  have hb0 : D.2.2.2.1 ≤ s.heap.size := hR0.2.2.2.2.1
  refine v_tight hb0 ?_
  have hK := hSS.1
  have hl : lv_has ls 1 [(0, .ref x0)] := hl
  unfold tX7_init at h
  refine w_aload_n hx hb dX7_init_0 rfl (lv_at hl 0 rfl) ?_
  refine v_objInit hx hb hown (hts _ kw132) (hts _ kw66) (hts _ kw67) (hl.1.trans hml.symm) dX7_init_1 (Nat.le_of_ble_eq_true rfl) (Nat.le_of_ble_eq_true rfl) ?_
  refine w_aload_n hx hb dX7_init_4 rfl (lv_at hl 0 rfl) ?_
  refine w_bipush (v := 64) hx hb dX7_init_5 (by decide) ?_
  obtain ⟨M1, eM1, h⟩ := v_bnd h
  refine u_newa (x := 64) (atype := .int) hx hb hK (hts _ kw163) (by decide) (by decide) rfl (by decide) (by decide) (by decide) hb0 hz0 hs0 rfl rfl eM1 dX7_init_7 ?_
  obtain ⟨M2, eM2, h⟩ := v_bnd h
  refine v_putf (ci := 8) hx hb hts iwX7 hown hK tyX7_ok nmX7 0 eM2 rfl (by decide) (Or.inl (hts _ kw165)) (fun _ h9 => h9) (Or.inr ⟨rfl, hnm, rfl, (hts _ kw165)⟩) rfl rfl dX7_init_9 ?_
  refine w_aload_n hx hb dX7_init_12 rfl (lv_at hl 0 rfl) ?_
  refine w_bipush (v := 64) hx hb dX7_init_13 (by decide) ?_
  obtain ⟨M3, eM3, h⟩ := v_bnd h
  refine u_newa (x := 64) (atype := .int) hx hb hK (hts _ kw163) (by decide) (by decide) rfl (by decide) (by decide) (by decide) hb0 hz0 hs0 rfl rfl eM3 dX7_init_15 ?_
  obtain ⟨M4, eM4, h⟩ := v_bnd h
  refine v_putf (ci := 8) hx hb hts iwX7 hown hK tyX7_ok nmX7 1 eM4 rfl (by decide) (Or.inl (hts _ kw168)) (fun _ h9 => h9) (Or.inr ⟨rfl, hnm, rfl, (hts _ kw168)⟩) rfl rfl dX7_init_17 ?_
  refine w_aload_n hx hb dX7_init_20 rfl (lv_at hl 0 rfl) ?_
  refine w_bipush (v := 64) hx hb dX7_init_21 (by decide) ?_
  obtain ⟨M5, eM5, h⟩ := v_bnd h
  refine u_newa (x := 64) (atype := .int) hx hb hK (hts _ kw163) (by decide) (by decide) rfl (by decide) (by decide) (by decide) hb0 hz0 hs0 rfl rfl eM5 dX7_init_23 ?_
  obtain ⟨M6, eM6, h⟩ := v_bnd h
  refine v_putf (ci := 8) hx hb hts iwX7 hown hK tyX7_ok nmX7 2 eM6 rfl (by decide) (Or.inl (hts _ kw171)) (fun _ h9 => h9) (Or.inr ⟨rfl, hnm, rfl, (hts _ kw171)⟩) rfl rfl dX7_init_25 ?_
  refine w_aload_n hx hb dX7_init_28 rfl (lv_at hl 0 rfl) ?_
  obtain ⟨M7, eM7, h⟩ := v_bnd h
  refine u_new (ci := 4) (N := 6) hx hb hts iwX2 hown hK tyX2_ok rfl (hts _ kw133) (hts _ kw134) (hts _ kw33) (by decide) (by decide) (by decide) hb0 hz0 hs0 rfl rfl eM7 dX7_init_29 ?_
  refine w_dup hx hb dX7_init_32 rfl ?_
  obtain ⟨g7, h⟩ := v_ifs h
  refine v_tight hb0 ?_
  obtain ⟨z8, ez8, h⟩ := v_bnd h
  refine v_call0 (M1 := z8.2) (mc := 3) (ms := 180) (fun H locs hR hS => va_runIN (As := []) (rest := [.ref M6.2.1, .ref x0]) ⟨hx, hb, hml, hown, hts⟩ (mX2_init l hfl D M6.2.1 M7 z8 ez8) ⟨va_cnB 0 hts (gdI kw137) rfl rfl rfl (km4 hSS) (hts _ kw33) (by decide +kernel) ⟨Nat.le_of_ble_eq_true rfl, Nat.le_of_ble_eq_true rfl⟩, rfl, (hts _ kw136)⟩ (v_preS hSS hR hS [.ref M6.2.1]) rfl rfl hl.1 rfl (lv_room (Nat.le_of_ble_eq_true rfl)) dX7_init_33 ⟨by show _ + _ ≤ 7; omega, by show _ + _ ≤ 378; omega⟩) ?_
  obtain ⟨M9, eM9, h⟩ := v_bnd h
  refine v_putf (ci := 8) hx hb hts iwX7 hown hK tyX7_ok nmX7 3 eM9 rfl (by decide) (Or.inl (hts _ kw174)) (fun _ h9 => h9) (Or.inr ⟨rfl, hnm, rfl, (hts _ kw174)⟩) rfl rfl dX7_init_36 ?_
  refine w_aload_n hx hb dX7_init_39 rfl (lv_at hl 0 rfl) ?_
  refine w_ldcS hx hb hown (hSS.2.2.1 19 _ rfl) dX7_init_40 ?_
  obtain ⟨M10, eM10, h⟩ := v_bnd h
  refine v_putf (ci := 8) hx hb hts iwX7 hown hK tyX7_ok nmX7 4 eM10 rfl (by decide) (Or.inl (hts _ kw177)) (fun _ h9 => h9) (Or.inl rfl) rfl rfl dX7_init_42 ?_
  obtain ⟨g9, h⟩ := v_ifs h
  refine v_tight hb0 (vV.widen (n' := 7) (k' := 378) (by omega) (by omega) ?_)
  obtain rfl := Option.some.inj h
  rw [hQ]
  exact v_vret hx hb hr hlk dX7_init_45

def tX5_init_L31 (G : Nat → Nat) (n0 s0 : Nat) (x0 : Nat) : Nat → Int32 → vMe → Option (Unit × vMe)
  | 0, _, _ => none
  | f + 1, x1, Mi =>
  if (5 : Int32) ≤ x1 then
  (some ((), Mi))
else
  ((gA Mi x0 8 0).bind fun a8 =>
  (nwO Mi 9 0 7 (vp_V [.null, .null, .null, .null, .null, .int 0, .int 0]) n0 s0 49 1992).bind fun M9 =>
  if M9.2.1 + 7 ≤ n0 + 49 ∧ M9.2.2.1 + 378 ≤ s0 + 1992 then
  ((tX7_init G Mi.2.1 M9).bind fun z10 =>
  (sQ z10.2 a8 107 x1 Mi.2.1 9).bind fun M11 =>
  tX5_init_L31 G n0 s0 x0 f (x1 + 1) M11)
else none)
def tX5_init_L57 (n0 s0 : Nat) (x0 : Nat) : Nat → Int32 → vMe → Option (Unit × vMe)
  | 0, _, _ => none
  | f + 1, x1, Mi =>
  if (6 : Int32) ≤ x1 then
  (some ((), Mi))
else
  ((gA Mi x0 8 1).bind fun a19 =>
  (nwO Mi 3 0 8 (vp_V [.int 0, .int 0, .int 0, .int 0, .int 0, .int 0, .int 0, .int 0]) n0 s0 49 1992).bind fun M20 =>
  if M20.2.1 + 0 ≤ n0 + 49 ∧ M20.2.2.1 + 0 ≤ s0 + 1992 then
  ((tX0_init Mi.2.1 M20).bind fun z21 =>
  (sQ z21.2 a19 108 x1 Mi.2.1 3).bind fun M22 =>
  tX5_init_L57 n0 s0 x0 f (x1 + 1) M22)
else none)
def tX5_init (G : Nat → Nat) (x0 : Nat) (M : vMe) : Option (Unit × vMe) :=
  (nwO M 107 5 5 (fun _ => .null) M.2.1 M.2.2.1 49 1992).bind fun M1 =>
  (sV M1 x0 8 0 (.ref M.2.1)).bind fun M2 =>
  (nwO M2 108 6 6 (fun _ => .null) M.2.1 M.2.2.1 49 1992).bind fun M3 =>
  (sV M3 x0 8 1 (.ref M2.2.1)).bind fun M4 =>
  (nwO M4 101 8 8 (fun _ => .int 0) M.2.1 M.2.2.1 49 1992).bind fun M5 =>
  (sV M5 x0 8 2 (.ref M4.2.1)).bind fun M6 =>
  (tX5_init_L31 G M.2.1 M.2.2.1 x0 vF 0 M6).bind fun z12 =>
  (tX5_init_L57 M.2.1 M.2.2.1 x0 vF 0 z12.2).bind fun z23 =>
  if z23.2.2.1 ≤ M.2.1 + 49 ∧ z23.2.2.2.1 ≤ M.2.2.1 + 1992 then some ((), z23.2) else none
def rmX5_init : Room := { frames := 3, cells := 49, slots := 1992, locals := 100 }
set_option maxHeartbeats 4000000 in
set_option maxRecDepth 100000 in
theorem mX5_init (l : Launch) (hfl : l.stackTraces = false) (D : vD) (x0 : Nat) (M : vMe) (z : (Unit × vMe)) (h : tX5_init D.2.2.2.2 x0 M = some z) : Met l yX5_init (Cond.code yX5_init cX5_init 2 none :: TB) rmX5_init (va_Pc [.ref x0] (vPre D M)) (qW D none z.2) 49 1992 (vA D) := by
  refine v_ofW (cc := cX5_init) (maxL := 2) (ret := none) (by decide) (Nat.le_of_ble_eq_true rfl) ?_
  intro p e s m args below meth c Q hx hb hr hml hown hts hlk hnm hSS hR0 hQ ls hl
  have hz0 := hR0.2.1
  have hs0 := hR0.2.2.1
  have hb0 : D.2.2.2.1 ≤ s.heap.size := hR0.2.2.2.2.1
  refine v_tight hb0 ?_
  have hK := hSS.1
  have hl : lv_has ls 2 [(0, .ref x0)] := hl
  unfold tX5_init at h
  have X5_init_L31p : ∀ (x0 : Nat), ∀ (f : Nat) (x1 : Int32) (Mi : vMe) (ls : Array Slot) (z : (Unit × vMe)), lv_has ls 2 [(0, .ref x0), (1, .int x1)] → tX5_init_L31 D.2.2.2.2 M.2.1 M.2.2.1 x0 f x1 Mi = some z → (∀ ls : Array Slot, lv_has ls 2 [(0, .ref x0)] → vV D p l e rmX5_init s m args below meth c (z.2.2.1 - s.heap.size) (z.2.2.2.1 - vSum D.2.2.2.1 s.heap) Q z.2 (F0 m 55 ls [])) → vV D p l e rmX5_init s m args below meth c (Mi.2.1 - s.heap.size) (Mi.2.2.1 - vSum D.2.2.2.1 s.heap) Q Mi (F0 m 31 ls []) := by
    intro x0 f
    induction f with
    | zero =>
      intro x1 Mi ls z hl h
      exact absurd h (by simp [tX5_init_L31])
    | succ f ih =>
      intro x1 Mi ls z hl h KX
      rw [tX5_init_L31] at h
      refine w_iload_n hx hb dX5_init_31 rfl (lv_at hl 1 rfl) ?_
      refine w_iconst (v := 5) hx hb dX5_init_32 (by decide) ?_
      refine w_icmp_ge (tgt := 55) hx hb dX5_init_33 (by decide) (fun c7 => ?_) (fun c7 => ?_)
      · rw [if_pos c7] at h
        obtain rfl := Option.some.inj h
        refine v_tight hb0 ?_
        exact KX ls (lv_sub hl [0] rfl)
      · rw [if_neg c7] at h
        refine w_aload_n hx hb dX5_init_36 rfl (lv_at hl 0 rfl) ?_
        obtain ⟨a8, ea8, h⟩ := v_bnd h
        refine v_gA (ci := 7) hx hb hts iwX5 hown hK 0 ea8 rfl (by decide) (Or.inl (hts _ kw244)) (fun _ h9 => h9) dX5_init_37 ?_
        refine w_iload_n hx hb dX5_init_40 rfl (lv_at hl 1 rfl) ?_
        obtain ⟨M9, eM9, h⟩ := v_bnd h
        refine u_new (ci := 8) (N := 7) hx hb hts iwX7 hown hK tyX7_ok rfl (hts _ kw124) (hts _ kw128) (hts _ kw32) (by decide) (by decide) (by decide) hb0 hz0 hs0 rfl rfl eM9 dX5_init_41 ?_
        refine w_dup hx hb dX5_init_44 rfl ?_
        obtain ⟨g7, h⟩ := v_ifs h
        refine v_tight hb0 ?_
        obtain ⟨z10, ez10, h⟩ := v_bnd h
        refine v_call0 (M1 := z10.2) (mc := 7) (ms := 378) (fun H locs hR hS => va_runIN (As := []) (rest := [.ref Mi.2.1, .int x1, .ref a8]) ⟨hx, hb, hml, hown, hts⟩ (mX7_init l hfl D Mi.2.1 M9 z10 ez10) ⟨va_cnB 0 hts (gdI kw131) rfl rfl rfl (km3 hSS) (hts _ kw32) (by decide +kernel) ⟨Nat.le_of_ble_eq_true rfl, Nat.le_of_ble_eq_true rfl⟩, rfl, (hts _ kw130)⟩ (v_preS hSS hR hS [.ref Mi.2.1]) rfl rfl hl.1 rfl (lv_room (Nat.le_of_ble_eq_true rfl)) dX5_init_45 ⟨by show _ + _ ≤ 49; omega, by show _ + _ ≤ 1992; omega⟩) ?_
        obtain ⟨M11, eM11, h⟩ := v_bnd h
        refine v_aast (ci := 8) hx hb hK eM11 (by decide) rfl dX5_init_48 ?_
        refine w_iinc (v := x1 + 1) (lv' := [(1, .int (x1 + 1)), (0, .ref x0)]) hx hb dX5_init_49 hl (j := 1) rfl rfl (by decide) rfl (fun ls hl => ?_)
        have hl : lv_has ls 2 [(0, .ref x0), (1, .int (x1 + 1))] := lv_sub hl [1, 0] rfl
        refine w_goto (tgt := 31) hx hb dX5_init_52 (by decide) ?_
        refine v_tight hb0 ?_
        exact ih (x1 + 1) M11 ls z (lv_sub hl [0, 1] rfl) h KX
  have X5_init_L57p : ∀ (x0 : Nat), ∀ (f : Nat) (x1 : Int32) (Mi : vMe) (ls : Array Slot) (z : (Unit × vMe)), lv_has ls 2 [(0, .ref x0), (1, .int x1)] → tX5_init_L57 M.2.1 M.2.2.1 x0 f x1 Mi = some z → (∀ ls : Array Slot, lv_has ls 2 [] → vV D p l e rmX5_init s m args below meth c (z.2.2.1 - s.heap.size) (z.2.2.2.1 - vSum D.2.2.2.1 s.heap) Q z.2 (F0 m 82 ls [])) → vV D p l e rmX5_init s m args below meth c (Mi.2.1 - s.heap.size) (Mi.2.2.1 - vSum D.2.2.2.1 s.heap) Q Mi (F0 m 57 ls []) := by
    intro x0 f
    induction f with
    | zero =>
      intro x1 Mi ls z hl h
      exact absurd h (by simp [tX5_init_L57])
    | succ f ih =>
      intro x1 Mi ls z hl h KX
      rw [tX5_init_L57] at h
      refine w_iload_n hx hb dX5_init_57 rfl (lv_at hl 1 rfl) ?_
      refine w_bipush (v := 6) hx hb dX5_init_58 (by decide) ?_
      refine w_icmp_ge (tgt := 82) hx hb dX5_init_60 (by decide) (fun c18 => ?_) (fun c18 => ?_)
      · rw [if_pos c18] at h
        obtain rfl := Option.some.inj h
        refine v_tight hb0 ?_
        exact KX ls (lv_sub hl [] rfl)
      · rw [if_neg c18] at h
        refine w_aload_n hx hb dX5_init_63 rfl (lv_at hl 0 rfl) ?_
        obtain ⟨a19, ea19, h⟩ := v_bnd h
        refine v_gA (ci := 7) hx hb hts iwX5 hown hK 1 ea19 rfl (by decide) (Or.inl (hts _ kw247)) (fun _ h9 => h9) dX5_init_64 ?_
        refine w_iload_n hx hb dX5_init_67 rfl (lv_at hl 1 rfl) ?_
        obtain ⟨M20, eM20, h⟩ := v_bnd h
        refine u_new (ci := 2) (N := 8) hx hb hts iwX0 hown hK tyX0_ok rfl (hts _ kw126) (hts _ kw200) (hts _ kw34) (by decide) (by decide) (by decide) hb0 hz0 hs0 rfl rfl eM20 dX5_init_68 ?_
        refine w_dup hx hb dX5_init_71 rfl ?_
        obtain ⟨g7, h⟩ := v_ifs h
        refine v_tight hb0 ?_
        obtain ⟨z21, ez21, h⟩ := v_bnd h
        refine v_call0 (M1 := z21.2) (mc := 0) (ms := 0) (fun H locs hR hS => va_runIN (As := []) (rest := [.ref Mi.2.1, .int x1, .ref a19]) ⟨hx, hb, hml, hown, hts⟩ (mX0_init l hfl D Mi.2.1 M20 z21 ez21) ⟨va_cnB 0 hts (gdI kw203) rfl rfl rfl (km5 hSS) (hts _ kw34) (by decide +kernel) ⟨Nat.le_of_ble_eq_true rfl, Nat.le_of_ble_eq_true rfl⟩, rfl, (hts _ kw202)⟩ (v_preS hSS hR hS [.ref Mi.2.1]) rfl rfl hl.1 rfl (lv_room (Nat.le_of_ble_eq_true rfl)) dX5_init_72 ⟨by show _ + _ ≤ 49; omega, by show _ + _ ≤ 1992; omega⟩) ?_
        obtain ⟨M22, eM22, h⟩ := v_bnd h
        refine v_aast (ci := 2) hx hb hK eM22 (by decide) rfl dX5_init_75 ?_
        refine w_iinc (v := x1 + 1) (lv' := [(1, .int (x1 + 1)), (0, .ref x0)]) hx hb dX5_init_76 hl (j := 1) rfl rfl (by decide) rfl (fun ls hl => ?_)
        have hl : lv_has ls 2 [(0, .ref x0), (1, .int (x1 + 1))] := lv_sub hl [1, 0] rfl
        refine w_goto (tgt := 57) hx hb dX5_init_79 (by decide) ?_
        refine v_tight hb0 ?_
        exact ih (x1 + 1) M22 ls z (lv_sub hl [0, 1] rfl) h KX
  refine w_aload_n hx hb dX5_init_0 rfl (lv_at hl 0 rfl) ?_
  refine v_objInit hx hb hown (hts _ kw123) (hts _ kw66) (hts _ kw67) (hl.1.trans hml.symm) dX5_init_1 (Nat.le_of_ble_eq_true rfl) (Nat.le_of_ble_eq_true rfl) ?_
  refine w_aload_n hx hb dX5_init_4 rfl (lv_at hl 0 rfl) ?_
  refine w_iconst (v := 5) hx hb dX5_init_5 (by decide) ?_
  obtain ⟨M1, eM1, h⟩ := v_bnd h
  refine u_anew (x := 5) hx hb hK hown (hts _ kw124) (va_AO.use (hSS.2.2.2.2.2.2.2.2.2.2.1 1 _ rfl)) (by decide) (by decide) rfl (by decide) (by decide) hb0 hz0 hs0 rfl rfl eM1 dX5_init_6 ?_
  obtain ⟨M2, eM2, h⟩ := v_bnd h
  refine v_putf (ci := 7) hx hb hts iwX5 hown hK tyX5_ok nmX5 0 eM2 rfl (by decide) (Or.inl (hts _ kw244)) (fun _ h9 => h9) (Or.inr ⟨rfl, hnm, rfl, (hts _ kw244)⟩) rfl rfl dX5_init_9 ?_
  refine w_aload_n hx hb dX5_init_12 rfl (lv_at hl 0 rfl) ?_
  refine w_bipush (v := 6) hx hb dX5_init_13 (by decide) ?_
  obtain ⟨M3, eM3, h⟩ := v_bnd h
  refine u_anew (x := 6) hx hb hK hown (hts _ kw126) (va_AO.use (hSS.2.2.2.2.2.2.2.2.2.2.1 2 _ rfl)) (by decide) (by decide) rfl (by decide) (by decide) hb0 hz0 hs0 rfl rfl eM3 dX5_init_15 ?_
  obtain ⟨M4, eM4, h⟩ := v_bnd h
  refine v_putf (ci := 7) hx hb hts iwX5 hown hK tyX5_ok nmX5 1 eM4 rfl (by decide) (Or.inl (hts _ kw247)) (fun _ h9 => h9) (Or.inr ⟨rfl, hnm, rfl, (hts _ kw247)⟩) rfl rfl dX5_init_18 ?_
  refine w_aload_n hx hb dX5_init_21 rfl (lv_at hl 0 rfl) ?_
  refine w_bipush (v := 8) hx hb dX5_init_22 (by decide) ?_
  obtain ⟨M5, eM5, h⟩ := v_bnd h
  refine u_newa (x := 8) (atype := .int) hx hb hK (hts _ kw163) (by decide) (by decide) rfl (by decide) (by decide) (by decide) hb0 hz0 hs0 rfl rfl eM5 dX5_init_24 ?_
  obtain ⟨M6, eM6, h⟩ := v_bnd h
  refine v_putf (ci := 7) hx hb hts iwX5 hown hK tyX5_ok nmX5 2 eM6 rfl (by decide) (Or.inl (hts _ kw249)) (fun _ h9 => h9) (Or.inr ⟨rfl, hnm, rfl, (hts _ kw249)⟩) rfl rfl dX5_init_26 ?_
  refine w_iconst (v := 0) hx hb dX5_init_29 (by decide) ?_
  refine w_istore_n (lv' := [(1, .int 0), (0, .ref x0)]) hx hb dX5_init_30 rfl hl (by decide) rfl (fun ls hl => ?_)
  have hl : lv_has ls 2 [(0, .ref x0), (1, .int 0)] := lv_sub hl [1, 0] rfl
  obtain ⟨z12, ez12, h⟩ := v_bnd h
  refine v_tight hb0 ?_
  refine X5_init_L31p x0 vF 0 M6 ls z12 (lv_sub hl [0, 1] rfl) ez12 (fun ls hl => ?_)
  refine w_iconst (v := 0) hx hb dX5_init_55 (by decide) ?_
  refine w_istore_n (lv' := [(1, .int 0), (0, .ref x0)]) hx hb dX5_init_56 rfl hl (by decide) rfl (fun ls hl => ?_)
  have hl : lv_has ls 2 [(0, .ref x0), (1, .int 0)] := lv_sub hl [1, 0] rfl
  obtain ⟨z23, ez23, h⟩ := v_bnd h
  refine v_tight hb0 ?_
  refine X5_init_L57p x0 vF 0 z12.2 ls z23 (lv_sub hl [0, 1] rfl) ez23 (fun ls hl => ?_)
  obtain ⟨g9, h⟩ := v_ifs h
  refine v_tight hb0 (vV.widen (n' := 49) (k' := 1992) (by omega) (by omega) ?_)
  obtain rfl := Option.some.inj h
  rw [hQ]
  exact v_vret hx hb hr hlk dX5_init_82

def tX7_copyFrom (x0 : Nat) (x1 : Nat) (M : vMe) : Option (Unit × vMe) :=
  (gA M x1 9 4).bind fun a1 =>
  (sV M x0 9 4 (.ref a1)).bind fun M2 =>
  (gI M2 x1 9 5).bind fun v3 =>
  (sV M2 x0 9 5 (.int v3)).bind fun M4 =>
  (gI M4 x1 9 6).bind fun v5 =>
  (sV M4 x0 9 6 (.int v5)).bind fun M6 =>
  (gA M6 x1 9 0).bind fun a7 =>
  (gA M6 x0 9 0).bind fun a8 =>
  (cpA M6 a7 a8 101 0 0 64).bind fun M9 =>
  (gA M9 x1 9 1).bind fun a10 =>
  (gA M9 x0 9 1).bind fun a11 =>
  (cpA M9 a10 a11 101 0 0 64).bind fun M12 =>
  (gA M12 x1 9 2).bind fun a13 =>
  (gA M12 x0 9 2).bind fun a14 =>
  (cpA M12 a13 a14 101 0 0 64).bind fun M15 =>
  (gA M15 x0 9 3).bind fun a16 =>
  (gA M15 x1 9 3).bind fun a17 =>
  if (M15.1 a16).1 = 5 then
  ((tX2_copyFrom a16 a17 M15).bind fun z18 =>
  some ((), z18.2))
else none
def rmX7_copyFrom : Room := { frames := 2, cells := 0, slots := 0, locals := 81 }
set_option maxHeartbeats 4000000 in
set_option maxRecDepth 100000 in
theorem mX7_copyFrom (l : Launch) (hfl : l.stackTraces = false) (D : vD) (x0 : Nat) (x1 : Nat) (M : vMe) (z : (Unit × vMe)) (h : tX7_copyFrom x0 x1 M = some z) : Met l yX7_copyFrom (Cond.code yX7_copyFrom cX7_copyFrom 2 none :: TB) rmX7_copyFrom (va_Pc [.ref x0, .ref x1] (vPre D M)) (qW D none z.2) 0 0 (vA D) := by
  refine v_ofW (cc := cX7_copyFrom) (maxL := 2) (ret := none) (by decide) (Nat.le_of_ble_eq_true rfl) ?_
  intro p e s m args below meth c Q hx hb hr hml hown hts hlk hnm hSS hR0 hQ ls hl
  have hK := hSS.1
  have hl : lv_has ls 2 [(0, .ref x0), (1, .ref x1)] := hl
  unfold tX7_copyFrom at h
  refine w_aload_n hx hb dX7_copyFrom_0 rfl (lv_at hl 0 rfl) ?_
  refine w_aload_n hx hb dX7_copyFrom_1 rfl (lv_at hl 1 rfl) ?_
  obtain ⟨a1, ea1, h⟩ := v_bnd h
  refine v_gA (ci := 8) hx hb hts iwX7 hown hK 4 ea1 rfl (by decide) (Or.inl (hts _ kw177)) (fun _ h9 => h9) dX7_copyFrom_2 ?_
  obtain ⟨M2, eM2, h⟩ := v_bnd h
  refine v_putf (ci := 8) hx hb hts iwX7 hown hK tyX7_ok nmX7 4 eM2 rfl (by decide) (Or.inl (hts _ kw177)) (fun _ h9 => h9) (Or.inl rfl) rfl rfl dX7_copyFrom_5 ?_
  refine w_aload_n hx hb dX7_copyFrom_8 rfl (lv_at hl 0 rfl) ?_
  refine w_aload_n hx hb dX7_copyFrom_9 rfl (lv_at hl 1 rfl) ?_
  obtain ⟨v3, ev3, h⟩ := v_bnd h
  refine v_gI (ci := 8) hx hb hts iwX7 hown hK 5 ev3 rfl (by decide) (Or.inl (hts _ kw179)) (fun _ h9 => h9) dX7_copyFrom_10 ?_
  obtain ⟨M4, eM4, h⟩ := v_bnd h
  refine v_putf (ci := 8) hx hb hts iwX7 hown hK tyX7_ok nmX7 5 eM4 rfl (by decide) (Or.inl (hts _ kw179)) (fun _ h9 => h9) (Or.inl rfl) rfl rfl dX7_copyFrom_13 ?_
  refine w_aload_n hx hb dX7_copyFrom_16 rfl (lv_at hl 0 rfl) ?_
  refine w_aload_n hx hb dX7_copyFrom_17 rfl (lv_at hl 1 rfl) ?_
  obtain ⟨v5, ev5, h⟩ := v_bnd h
  refine v_gI (ci := 8) hx hb hts iwX7 hown hK 6 ev5 rfl (by decide) (Or.inl (hts _ kw182)) (fun _ h9 => h9) dX7_copyFrom_18 ?_
  obtain ⟨M6, eM6, h⟩ := v_bnd h
  refine v_putf (ci := 8) hx hb hts iwX7 hown hK tyX7_ok nmX7 6 eM6 rfl (by decide) (Or.inl (hts _ kw182)) (fun _ h9 => h9) (Or.inl rfl) rfl rfl dX7_copyFrom_21 ?_
  refine w_aload_n hx hb dX7_copyFrom_24 rfl (lv_at hl 1 rfl) ?_
  obtain ⟨a7, ea7, h⟩ := v_bnd h
  refine v_gA (ci := 8) hx hb hts iwX7 hown hK 0 ea7 rfl (by decide) (Or.inl (hts _ kw165)) (fun _ h9 => h9) dX7_copyFrom_25 ?_
  refine w_iconst (v := 0) hx hb dX7_copyFrom_28 (by decide) ?_
  refine w_aload_n hx hb dX7_copyFrom_29 rfl (lv_at hl 0 rfl) ?_
  obtain ⟨a8, ea8, h⟩ := v_bnd h
  refine v_gA (ci := 8) hx hb hts iwX7 hown hK 0 ea8 rfl (by decide) (Or.inl (hts _ kw165)) (fun _ h9 => h9) dX7_copyFrom_30 ?_
  refine w_iconst (v := 0) hx hb dX7_copyFrom_33 (by decide) ?_
  refine w_bipush (v := 64) hx hb dX7_copyFrom_34 (by decide) ?_
  obtain ⟨M9, eM9, h⟩ := v_bnd h
  refine v_copy hx hb (hml.trans hl.1.symm) hown hK (hts _ kw1077) (hts _ kw488) (hts _ kw487) (hts _ kw44) eM9 v_cpI (Nat.le_of_ble_eq_true rfl) (Nat.le_of_ble_eq_true rfl) dX7_copyFrom_36 ?_
  refine w_aload_n hx hb dX7_copyFrom_39 rfl (lv_at hl 1 rfl) ?_
  obtain ⟨a10, ea10, h⟩ := v_bnd h
  refine v_gA (ci := 8) hx hb hts iwX7 hown hK 1 ea10 rfl (by decide) (Or.inl (hts _ kw168)) (fun _ h9 => h9) dX7_copyFrom_40 ?_
  refine w_iconst (v := 0) hx hb dX7_copyFrom_43 (by decide) ?_
  refine w_aload_n hx hb dX7_copyFrom_44 rfl (lv_at hl 0 rfl) ?_
  obtain ⟨a11, ea11, h⟩ := v_bnd h
  refine v_gA (ci := 8) hx hb hts iwX7 hown hK 1 ea11 rfl (by decide) (Or.inl (hts _ kw168)) (fun _ h9 => h9) dX7_copyFrom_45 ?_
  refine w_iconst (v := 0) hx hb dX7_copyFrom_48 (by decide) ?_
  refine w_bipush (v := 64) hx hb dX7_copyFrom_49 (by decide) ?_
  obtain ⟨M12, eM12, h⟩ := v_bnd h
  refine v_copy hx hb (hml.trans hl.1.symm) hown hK (hts _ kw1077) (hts _ kw488) (hts _ kw487) (hts _ kw44) eM12 v_cpI (Nat.le_of_ble_eq_true rfl) (Nat.le_of_ble_eq_true rfl) dX7_copyFrom_51 ?_
  refine w_aload_n hx hb dX7_copyFrom_54 rfl (lv_at hl 1 rfl) ?_
  obtain ⟨a13, ea13, h⟩ := v_bnd h
  refine v_gA (ci := 8) hx hb hts iwX7 hown hK 2 ea13 rfl (by decide) (Or.inl (hts _ kw171)) (fun _ h9 => h9) dX7_copyFrom_55 ?_
  refine w_iconst (v := 0) hx hb dX7_copyFrom_58 (by decide) ?_
  refine w_aload_n hx hb dX7_copyFrom_59 rfl (lv_at hl 0 rfl) ?_
  obtain ⟨a14, ea14, h⟩ := v_bnd h
  refine v_gA (ci := 8) hx hb hts iwX7 hown hK 2 ea14 rfl (by decide) (Or.inl (hts _ kw171)) (fun _ h9 => h9) dX7_copyFrom_60 ?_
  refine w_iconst (v := 0) hx hb dX7_copyFrom_63 (by decide) ?_
  refine w_bipush (v := 64) hx hb dX7_copyFrom_64 (by decide) ?_
  obtain ⟨M15, eM15, h⟩ := v_bnd h
  refine v_copy hx hb (hml.trans hl.1.symm) hown hK (hts _ kw1077) (hts _ kw488) (hts _ kw487) (hts _ kw44) eM15 v_cpI (Nat.le_of_ble_eq_true rfl) (Nat.le_of_ble_eq_true rfl) dX7_copyFrom_66 ?_
  refine w_aload_n hx hb dX7_copyFrom_69 rfl (lv_at hl 0 rfl) ?_
  obtain ⟨a16, ea16, h⟩ := v_bnd h
  refine v_gA (ci := 8) hx hb hts iwX7 hown hK 3 ea16 rfl (by decide) (Or.inl (hts _ kw174)) (fun _ h9 => h9) dX7_copyFrom_70 ?_
  refine w_aload_n hx hb dX7_copyFrom_73 rfl (lv_at hl 1 rfl) ?_
  obtain ⟨a17, ea17, h⟩ := v_bnd h
  refine v_gA (ci := 8) hx hb hts iwX7 hown hK 3 ea17 rfl (by decide) (Or.inl (hts _ kw174)) (fun _ h9 => h9) dX7_copyFrom_74 ?_
  obtain ⟨g8, h⟩ := v_ifs h
  obtain ⟨z18, ez18, h⟩ := v_bnd h
  refine v_call0 (M1 := z18.2) (mc := 0) (ms := 0) (fun H locs hR hS => va_runV (As := [.ref a17]) (rest := []) ⟨hx, hb, hml, hown, hts⟩ (mX2_copyFrom l hfl D a16 a17 M15 z18 ez18) (cwV 1 hts (gdV kw1078 kw1079 kw1080 kw33 kw1081) rfl rfl rfl (by decide +kernel) ⟨Nat.le_of_ble_eq_true rfl, Nat.le_of_ble_eq_true rfl⟩) (v_preV (ci := 4) hSS hR hS g8 (by decide) rfl [.ref a17]) rfl rfl hl.1 rfl (lv_room (Nat.le_of_ble_eq_true rfl)) dX7_copyFrom_77 ⟨Nat.zero_le _, Nat.zero_le _⟩) ?_
  obtain rfl := Option.some.inj h
  rw [hQ]
  exact v_vret hx hb hr hlk dX7_copyFrom_80

def tX5_copyFrom_L65 (x0 : Nat) (x1 : Nat) : Nat → Int32 → vMe → Option (Unit × vMe)
  | 0, _, _ => none
  | f + 1, x2, Mi =>
  (gI Mi x0 8 5).bind fun v23 =>
  if v23 ≤ x2 then
  (some ((), Mi))
else
  ((gA Mi x0 8 0).bind fun a25 =>
  (aA Mi a25 107 x2).bind fun a26 =>
  (gA Mi x1 8 0).bind fun a27 =>
  (aA Mi a27 107 x2).bind fun a28 =>
  if (Mi.1 a26).1 = 9 then
  ((tX7_copyFrom a26 a28 Mi).bind fun z29 =>
  tX5_copyFrom_L65 x0 x1 f (x2 + 1) z29.2)
else none)
def tX5_copyFrom_L96 (x0 : Nat) (x1 : Nat) : Nat → Int32 → vMe → Option (Unit × vMe)
  | 0, _, _ => none
  | f + 1, x2, Mi =>
  if (6 : Int32) ≤ x2 then
  (some ((), Mi))
else
  ((gA Mi x0 8 1).bind fun a38 =>
  (aA Mi a38 108 x2).bind fun a39 =>
  (gA Mi x1 8 1).bind fun a40 =>
  (aA Mi a40 108 x2).bind fun a41 =>
  if (Mi.1 a39).1 = 3 then
  ((tX0_copyFrom a39 a41 Mi).bind fun z42 =>
  tX5_copyFrom_L96 x0 x1 f (x2 + 1) z42.2)
else none)
def tX5_copyFrom (x0 : Nat) (x1 : Nat) (M : vMe) : Option (Unit × vMe) :=
  (gI M x1 8 3).bind fun v1 =>
  (sV M x0 8 3 (.int v1)).bind fun M2 =>
  (gI M2 x1 8 4).bind fun v3 =>
  (sV M2 x0 8 4 (.int v3)).bind fun M4 =>
  (gI M4 x1 8 5).bind fun v5 =>
  (sV M4 x0 8 5 (.int v5)).bind fun M6 =>
  (gI M6 x1 8 6).bind fun v7 =>
  (sV M6 x0 8 6 (.int v7)).bind fun M8 =>
  (gI M8 x1 8 7).bind fun v9 =>
  (sV M8 x0 8 7 (.int v9)).bind fun M10 =>
  (gI M10 x1 8 8).bind fun v11 =>
  (sV M10 x0 8 8 (.int v11)).bind fun M12 =>
  (gA M12 x1 8 2).bind fun a13 =>
  (gA M12 x0 8 2).bind fun a14 =>
  (cpA M12 a13 a14 101 0 0 8).bind fun M15 =>
  (tX5_copyFrom_L65 x0 x1 vF 0 M15).bind fun z30 =>
  (tX5_copyFrom_L96 x0 x1 vF 0 z30.2).bind fun z43 =>
  some ((), z43.2)
def rmX5_copyFrom : Room := { frames := 3, cells := 0, slots := 0, locals := 102 }
set_option maxHeartbeats 4000000 in
set_option maxRecDepth 100000 in
theorem mX5_copyFrom (l : Launch) (hfl : l.stackTraces = false) (D : vD) (x0 : Nat) (x1 : Nat) (M : vMe) (z : (Unit × vMe)) (h : tX5_copyFrom x0 x1 M = some z) : Met l yX5_copyFrom (Cond.code yX5_copyFrom cX5_copyFrom 3 none :: TB) rmX5_copyFrom (va_Pc [.ref x0, .ref x1] (vPre D M)) (qW D none z.2) 0 0 (vA D) := by
  refine v_ofW (cc := cX5_copyFrom) (maxL := 3) (ret := none) (by decide) (Nat.le_of_ble_eq_true rfl) ?_
  intro p e s m args below meth c Q hx hb hr hml hown hts hlk hnm hSS hR0 hQ ls hl
  have hK := hSS.1
  have hl : lv_has ls 3 [(0, .ref x0), (1, .ref x1)] := hl
  unfold tX5_copyFrom at h
  have X5_copyFrom_L65p : ∀ (x0 : Nat) (x1 : Nat), ∀ (f : Nat) (x2 : Int32) (Mi : vMe) (ls : Array Slot) (z : (Unit × vMe)), lv_has ls 3 [(0, .ref x0), (1, .ref x1), (2, .int x2)] → tX5_copyFrom_L65 x0 x1 f x2 Mi = some z → (∀ ls : Array Slot, lv_has ls 3 [(0, .ref x0), (1, .ref x1)] → vV D p l e rmX5_copyFrom s m args below meth c 0 0 Q z.2 (F0 m 94 ls [])) → vV D p l e rmX5_copyFrom s m args below meth c 0 0 Q Mi (F0 m 65 ls []) := by
    intro x0 x1 f
    induction f with
    | zero =>
      intro x2 Mi ls z hl h
      exact absurd h (by simp [tX5_copyFrom_L65])
    | succ f ih =>
      intro x2 Mi ls z hl h KX
      rw [tX5_copyFrom_L65] at h
      refine w_iload_n hx hb dX5_copyFrom_65 rfl (lv_at hl 2 rfl) ?_
      refine w_aload_n hx hb dX5_copyFrom_66 rfl (lv_at hl 0 rfl) ?_
      obtain ⟨v23, ev23, h⟩ := v_bnd h
      refine v_gI (ci := 7) hx hb hts iwX5 hown hK 5 ev23 rfl (by decide) (Or.inl (hts _ kw256)) (fun _ h9 => h9) dX5_copyFrom_67 ?_
      refine w_icmp_ge (tgt := 94) hx hb dX5_copyFrom_70 (by decide) (fun c24 => ?_) (fun c24 => ?_)
      · rw [if_pos c24] at h
        obtain rfl := Option.some.inj h
        exact KX ls (lv_sub hl [0, 1] rfl)
      · rw [if_neg c24] at h
        refine w_aload_n hx hb dX5_copyFrom_73 rfl (lv_at hl 0 rfl) ?_
        obtain ⟨a25, ea25, h⟩ := v_bnd h
        refine v_gA (ci := 7) hx hb hts iwX5 hown hK 0 ea25 rfl (by decide) (Or.inl (hts _ kw244)) (fun _ h9 => h9) dX5_copyFrom_74 ?_
        refine w_iload_n hx hb dX5_copyFrom_77 rfl (lv_at hl 2 rfl) ?_
        obtain ⟨a26, ea26, h⟩ := v_bnd h
        refine v_aaldA hx hb hK ea26 (by decide) dX5_copyFrom_78 ?_
        refine w_aload_n hx hb dX5_copyFrom_79 rfl (lv_at hl 1 rfl) ?_
        obtain ⟨a27, ea27, h⟩ := v_bnd h
        refine v_gA (ci := 7) hx hb hts iwX5 hown hK 0 ea27 rfl (by decide) (Or.inl (hts _ kw244)) (fun _ h9 => h9) dX5_copyFrom_80 ?_
        refine w_iload_n hx hb dX5_copyFrom_83 rfl (lv_at hl 2 rfl) ?_
        obtain ⟨a28, ea28, h⟩ := v_bnd h
        refine v_aaldA hx hb hK ea28 (by decide) dX5_copyFrom_84 ?_
        obtain ⟨g8, h⟩ := v_ifs h
        obtain ⟨z29, ez29, h⟩ := v_bnd h
        refine v_call0 (M1 := z29.2) (mc := 0) (ms := 0) (fun H locs hR hS => va_runV (As := [.ref a28]) (rest := []) ⟨hx, hb, hml, hown, hts⟩ (mX7_copyFrom l hfl D a26 a28 Mi z29 ez29) (cwV 1 hts (gdV kw1073 kw1074 kw1075 kw32 kw1076) rfl rfl rfl (by decide +kernel) ⟨Nat.le_of_ble_eq_true rfl, Nat.le_of_ble_eq_true rfl⟩) (v_preV (ci := 8) hSS hR hS g8 (by decide) rfl [.ref a28]) rfl rfl hl.1 rfl (lv_room (Nat.le_of_ble_eq_true rfl)) dX5_copyFrom_85 ⟨Nat.zero_le _, Nat.zero_le _⟩) ?_
        refine w_iinc (v := x2 + 1) (lv' := [(2, .int (x2 + 1)), (0, .ref x0), (1, .ref x1)]) hx hb dX5_copyFrom_88 hl (j := 2) rfl rfl (by decide) rfl (fun ls hl => ?_)
        have hl : lv_has ls 3 [(0, .ref x0), (1, .ref x1), (2, .int (x2 + 1))] := lv_sub hl [1, 2, 0] rfl
        refine w_goto (tgt := 65) hx hb dX5_copyFrom_91 (by decide) ?_
        exact ih (x2 + 1) z29.2 ls z (lv_sub hl [0, 1, 2] rfl) h KX
  have X5_copyFrom_L96p : ∀ (x0 : Nat) (x1 : Nat), ∀ (f : Nat) (x2 : Int32) (Mi : vMe) (ls : Array Slot) (z : (Unit × vMe)), lv_has ls 3 [(0, .ref x0), (1, .ref x1), (2, .int x2)] → tX5_copyFrom_L96 x0 x1 f x2 Mi = some z → (∀ ls : Array Slot, lv_has ls 3 [] → vV D p l e rmX5_copyFrom s m args below meth c 0 0 Q z.2 (F0 m 123 ls [])) → vV D p l e rmX5_copyFrom s m args below meth c 0 0 Q Mi (F0 m 96 ls []) := by
    intro x0 x1 f
    induction f with
    | zero =>
      intro x2 Mi ls z hl h
      exact absurd h (by simp [tX5_copyFrom_L96])
    | succ f ih =>
      intro x2 Mi ls z hl h KX
      rw [tX5_copyFrom_L96] at h
      refine w_iload_n hx hb dX5_copyFrom_96 rfl (lv_at hl 2 rfl) ?_
      refine w_bipush (v := 6) hx hb dX5_copyFrom_97 (by decide) ?_
      refine w_icmp_ge (tgt := 123) hx hb dX5_copyFrom_99 (by decide) (fun c37 => ?_) (fun c37 => ?_)
      · rw [if_pos c37] at h
        obtain rfl := Option.some.inj h
        exact KX ls (lv_sub hl [] rfl)
      · rw [if_neg c37] at h
        refine w_aload_n hx hb dX5_copyFrom_102 rfl (lv_at hl 0 rfl) ?_
        obtain ⟨a38, ea38, h⟩ := v_bnd h
        refine v_gA (ci := 7) hx hb hts iwX5 hown hK 1 ea38 rfl (by decide) (Or.inl (hts _ kw247)) (fun _ h9 => h9) dX5_copyFrom_103 ?_
        refine w_iload_n hx hb dX5_copyFrom_106 rfl (lv_at hl 2 rfl) ?_
        obtain ⟨a39, ea39, h⟩ := v_bnd h
        refine v_aaldA hx hb hK ea39 (by decide) dX5_copyFrom_107 ?_
        refine w_aload_n hx hb dX5_copyFrom_108 rfl (lv_at hl 1 rfl) ?_
        obtain ⟨a40, ea40, h⟩ := v_bnd h
        refine v_gA (ci := 7) hx hb hts iwX5 hown hK 1 ea40 rfl (by decide) (Or.inl (hts _ kw247)) (fun _ h9 => h9) dX5_copyFrom_109 ?_
        refine w_iload_n hx hb dX5_copyFrom_112 rfl (lv_at hl 2 rfl) ?_
        obtain ⟨a41, ea41, h⟩ := v_bnd h
        refine v_aaldA hx hb hK ea41 (by decide) dX5_copyFrom_113 ?_
        obtain ⟨g8, h⟩ := v_ifs h
        obtain ⟨z42, ez42, h⟩ := v_bnd h
        refine v_call0 (M1 := z42.2) (mc := 0) (ms := 0) (fun H locs hR hS => va_runV (As := [.ref a41]) (rest := []) ⟨hx, hb, hml, hown, hts⟩ (mX0_copyFrom l hfl D a39 a41 Mi z42 ez42) (cwV 1 hts (gdV kw1082 kw1083 kw1084 kw34 kw1085) rfl rfl rfl (by decide +kernel) ⟨Nat.le_of_ble_eq_true rfl, Nat.le_of_ble_eq_true rfl⟩) (v_preV (ci := 2) hSS hR hS g8 (by decide) rfl [.ref a41]) rfl rfl hl.1 rfl (lv_room (Nat.le_of_ble_eq_true rfl)) dX5_copyFrom_114 ⟨Nat.zero_le _, Nat.zero_le _⟩) ?_
        refine w_iinc (v := x2 + 1) (lv' := [(2, .int (x2 + 1)), (0, .ref x0), (1, .ref x1)]) hx hb dX5_copyFrom_117 hl (j := 2) rfl rfl (by decide) rfl (fun ls hl => ?_)
        have hl : lv_has ls 3 [(0, .ref x0), (1, .ref x1), (2, .int (x2 + 1))] := lv_sub hl [1, 2, 0] rfl
        refine w_goto (tgt := 96) hx hb dX5_copyFrom_120 (by decide) ?_
        exact ih (x2 + 1) z42.2 ls z (lv_sub hl [0, 1, 2] rfl) h KX
  refine w_aload_n hx hb dX5_copyFrom_0 rfl (lv_at hl 0 rfl) ?_
  refine w_aload_n hx hb dX5_copyFrom_1 rfl (lv_at hl 1 rfl) ?_
  obtain ⟨v1, ev1, h⟩ := v_bnd h
  refine v_gI (ci := 7) hx hb hts iwX5 hown hK 3 ev1 rfl (by decide) (Or.inl (hts _ kw251)) (fun _ h9 => h9) dX5_copyFrom_2 ?_
  obtain ⟨M2, eM2, h⟩ := v_bnd h
  refine v_putf (ci := 7) hx hb hts iwX5 hown hK tyX5_ok nmX5 3 eM2 rfl (by decide) (Or.inl (hts _ kw251)) (fun _ h9 => h9) (Or.inl rfl) rfl rfl dX5_copyFrom_5 ?_
  refine w_aload_n hx hb dX5_copyFrom_8 rfl (lv_at hl 0 rfl) ?_
  refine w_aload_n hx hb dX5_copyFrom_9 rfl (lv_at hl 1 rfl) ?_
  obtain ⟨v3, ev3, h⟩ := v_bnd h
  refine v_gI (ci := 7) hx hb hts iwX5 hown hK 4 ev3 rfl (by decide) (Or.inl (hts _ kw254)) (fun _ h9 => h9) dX5_copyFrom_10 ?_
  obtain ⟨M4, eM4, h⟩ := v_bnd h
  refine v_putf (ci := 7) hx hb hts iwX5 hown hK tyX5_ok nmX5 4 eM4 rfl (by decide) (Or.inl (hts _ kw254)) (fun _ h9 => h9) (Or.inl rfl) rfl rfl dX5_copyFrom_13 ?_
  refine w_aload_n hx hb dX5_copyFrom_16 rfl (lv_at hl 0 rfl) ?_
  refine w_aload_n hx hb dX5_copyFrom_17 rfl (lv_at hl 1 rfl) ?_
  obtain ⟨v5, ev5, h⟩ := v_bnd h
  refine v_gI (ci := 7) hx hb hts iwX5 hown hK 5 ev5 rfl (by decide) (Or.inl (hts _ kw256)) (fun _ h9 => h9) dX5_copyFrom_18 ?_
  obtain ⟨M6, eM6, h⟩ := v_bnd h
  refine v_putf (ci := 7) hx hb hts iwX5 hown hK tyX5_ok nmX5 5 eM6 rfl (by decide) (Or.inl (hts _ kw256)) (fun _ h9 => h9) (Or.inl rfl) rfl rfl dX5_copyFrom_21 ?_
  refine w_aload_n hx hb dX5_copyFrom_24 rfl (lv_at hl 0 rfl) ?_
  refine w_aload_n hx hb dX5_copyFrom_25 rfl (lv_at hl 1 rfl) ?_
  obtain ⟨v7, ev7, h⟩ := v_bnd h
  refine v_gI (ci := 7) hx hb hts iwX5 hown hK 6 ev7 rfl (by decide) (Or.inl (hts _ kw259)) (fun _ h9 => h9) dX5_copyFrom_26 ?_
  obtain ⟨M8, eM8, h⟩ := v_bnd h
  refine v_putf (ci := 7) hx hb hts iwX5 hown hK tyX5_ok nmX5 6 eM8 rfl (by decide) (Or.inl (hts _ kw259)) (fun _ h9 => h9) (Or.inl rfl) rfl rfl dX5_copyFrom_29 ?_
  refine w_aload_n hx hb dX5_copyFrom_32 rfl (lv_at hl 0 rfl) ?_
  refine w_aload_n hx hb dX5_copyFrom_33 rfl (lv_at hl 1 rfl) ?_
  obtain ⟨v9, ev9, h⟩ := v_bnd h
  refine v_gI (ci := 7) hx hb hts iwX5 hown hK 7 ev9 rfl (by decide) (Or.inl (hts _ kw262)) (fun _ h9 => h9) dX5_copyFrom_34 ?_
  obtain ⟨M10, eM10, h⟩ := v_bnd h
  refine v_putf (ci := 7) hx hb hts iwX5 hown hK tyX5_ok nmX5 7 eM10 rfl (by decide) (Or.inl (hts _ kw262)) (fun _ h9 => h9) (Or.inl rfl) rfl rfl dX5_copyFrom_37 ?_
  refine w_aload_n hx hb dX5_copyFrom_40 rfl (lv_at hl 0 rfl) ?_
  refine w_aload_n hx hb dX5_copyFrom_41 rfl (lv_at hl 1 rfl) ?_
  obtain ⟨v11, ev11, h⟩ := v_bnd h
  refine v_gI (ci := 7) hx hb hts iwX5 hown hK 8 ev11 rfl (by decide) (Or.inl (hts _ kw264)) (fun _ h9 => h9) dX5_copyFrom_42 ?_
  obtain ⟨M12, eM12, h⟩ := v_bnd h
  refine v_putf (ci := 7) hx hb hts iwX5 hown hK tyX5_ok nmX5 8 eM12 rfl (by decide) (Or.inl (hts _ kw264)) (fun _ h9 => h9) (Or.inl rfl) rfl rfl dX5_copyFrom_45 ?_
  refine w_aload_n hx hb dX5_copyFrom_48 rfl (lv_at hl 1 rfl) ?_
  obtain ⟨a13, ea13, h⟩ := v_bnd h
  refine v_gA (ci := 7) hx hb hts iwX5 hown hK 2 ea13 rfl (by decide) (Or.inl (hts _ kw249)) (fun _ h9 => h9) dX5_copyFrom_49 ?_
  refine w_iconst (v := 0) hx hb dX5_copyFrom_52 (by decide) ?_
  refine w_aload_n hx hb dX5_copyFrom_53 rfl (lv_at hl 0 rfl) ?_
  obtain ⟨a14, ea14, h⟩ := v_bnd h
  refine v_gA (ci := 7) hx hb hts iwX5 hown hK 2 ea14 rfl (by decide) (Or.inl (hts _ kw249)) (fun _ h9 => h9) dX5_copyFrom_54 ?_
  refine w_iconst (v := 0) hx hb dX5_copyFrom_57 (by decide) ?_
  refine w_bipush (v := 8) hx hb dX5_copyFrom_58 (by decide) ?_
  obtain ⟨M15, eM15, h⟩ := v_bnd h
  refine v_copy hx hb (hml.trans hl.1.symm) hown hK (hts _ kw1072) (hts _ kw488) (hts _ kw487) (hts _ kw44) eM15 v_cpI (Nat.le_of_ble_eq_true rfl) (Nat.le_of_ble_eq_true rfl) dX5_copyFrom_60 ?_
  refine w_iconst (v := 0) hx hb dX5_copyFrom_63 (by decide) ?_
  refine w_istore_n (lv' := [(2, .int 0), (0, .ref x0), (1, .ref x1)]) hx hb dX5_copyFrom_64 rfl hl (by decide) rfl (fun ls hl => ?_)
  have hl : lv_has ls 3 [(0, .ref x0), (1, .ref x1), (2, .int 0)] := lv_sub hl [1, 2, 0] rfl
  obtain ⟨z30, ez30, h⟩ := v_bnd h
  refine X5_copyFrom_L65p x0 x1 vF 0 M15 ls z30 (lv_sub hl [0, 1, 2] rfl) ez30 (fun ls hl => ?_)
  refine w_iconst (v := 0) hx hb dX5_copyFrom_94 (by decide) ?_
  refine w_istore_n (lv' := [(2, .int 0), (0, .ref x0), (1, .ref x1)]) hx hb dX5_copyFrom_95 rfl hl (by decide) rfl (fun ls hl => ?_)
  have hl : lv_has ls 3 [(0, .ref x0), (1, .ref x1), (2, .int 0)] := lv_sub hl [1, 2, 0] rfl
  obtain ⟨z43, ez43, h⟩ := v_bnd h
  refine X5_copyFrom_L96p x0 x1 vF 0 z30.2 ls z43 (lv_sub hl [0, 1, 2] rfl) ez43 (fun ls hl => ?_)
  obtain rfl := Option.some.inj h
  rw [hQ]
  exact v_vret hx hb hr hlk dX5_copyFrom_123

def tX5_hasNumber (x0 : Nat) (x1 : Int32) (M : vMe) : Option Int32 :=
  if x1 < 0 then
  (some 0)
else
  ((gI M x0 8 3).bind fun v2 =>
  if v2 ≤ x1 then
  (some 0)
else
  (some 1))
def rmX5_hasNumber : Room := { frames := 1, cells := 0, slots := 0, locals := 0 }
set_option maxHeartbeats 4000000 in
set_option maxRecDepth 100000 in
theorem mX5_hasNumber (l : Launch) (hfl : l.stackTraces = false) (D : vD) (x0 : Nat) (x1 : Int32) (M : vMe) (z : Int32) (h : tX5_hasNumber x0 x1 M = some z) : Met l yX5_hasNumber (Cond.code yX5_hasNumber cX5_hasNumber 2 (some .boolean) :: TB) rmX5_hasNumber (va_Pc [.ref x0, .int x1] (vPre D M)) (qW D (some (.int z)) M) 0 0 (vA D) := by
  refine v_ofW (cc := cX5_hasNumber) (maxL := 2) (ret := (some .boolean)) (by decide) (Nat.le_of_ble_eq_true rfl) ?_
  intro p e s m args below meth c Q hx hb hr hml hown hts hlk hnm hSS hR0 hQ ls hl
  have hK := hSS.1
  have hl : lv_has ls 2 [(0, .ref x0), (1, .int x1)] := hl
  unfold tX5_hasNumber at h
  refine w_iload_n hx hb dX5_hasNumber_0 rfl (lv_at hl 1 rfl) ?_
  refine w_if_lt (tgt := 16) hx hb dX5_hasNumber_1 (by decide) (fun c1 => ?_) (fun c1 => ?_)
  · rw [if_pos c1] at h
    refine w_iconst (v := 0) hx hb dX5_hasNumber_16 (by decide) ?_
    obtain rfl := Option.some.inj h
    rw [hQ]
    exact v_zret (x := 0) hx hb hr hlk rfl dX5_hasNumber_17
  · rw [if_neg c1] at h
    refine w_iload_n hx hb dX5_hasNumber_4 rfl (lv_at hl 1 rfl) ?_
    refine w_aload_n hx hb dX5_hasNumber_5 rfl (lv_at hl 0 rfl) ?_
    obtain ⟨v2, ev2, h⟩ := v_bnd h
    refine v_gI (ci := 7) hx hb hts iwX5 hown hK 3 ev2 rfl (by decide) (Or.inl (hts _ kw251)) (fun _ h9 => h9) dX5_hasNumber_6 ?_
    refine w_icmp_ge (tgt := 16) hx hb dX5_hasNumber_9 (by decide) (fun c3 => ?_) (fun c3 => ?_)
    · rw [if_pos c3] at h
      refine w_iconst (v := 0) hx hb dX5_hasNumber_16 (by decide) ?_
      obtain rfl := Option.some.inj h
      rw [hQ]
      exact v_zret (x := 0) hx hb hr hlk rfl dX5_hasNumber_17
    · rw [if_neg c3] at h
      refine w_iconst (v := 1) hx hb dX5_hasNumber_12 (by decide) ?_
      refine w_goto (tgt := 17) hx hb dX5_hasNumber_13 (by decide) ?_
      obtain rfl := Option.some.inj h
      rw [hQ]
      exact v_zret (x := 1) hx hb hr hlk rfl dX5_hasNumber_17

def tX5_keepCommon_J57_18 (rec : Int32 → Int32 → vMe → Option (Int32 × vMe)) (x0 : Nat) (x1 : Int32) (x2 : Int32) (x3 : Nat) (x4 : Int32) (x5 : Int32) (Mj : vMe) : Option (Int32 × vMe) :=
  rec x4 (x5 + (-1)) Mj
def tX5_keepCommon_L18 (x0 : Nat) (x1 : Int32) (x2 : Int32) (x3 : Nat) : Nat → Int32 → Int32 → vMe → Option (Int32 × vMe)
  | 0, _, _, _ => none
  | f + 1, x4, x5, Mi =>
  if x5 < 0 then
  (some (x4, Mi))
else
  ((gA Mi x3 9 0).bind fun a13 =>
  (aI Mi a13 101 x5).bind fun v14 =>
  (gA Mi x0 8 0).bind fun a15 =>
  (aA Mi a15 107 x2).bind fun a16 =>
  if (Mi.1 a16).1 = 9 then
  ((tX7_has a16 v14 Mi).bind fun z17 =>
  if z17 = 0 then
  (if (Mi.1 x0).1 = 8 then
  ((tX5_takeOut x0 x1 v14 Mi).bind fun z19 =>
  tX5_keepCommon_J57_18 (tX5_keepCommon_L18 x0 x1 x2 x3 f) x0 x1 x2 x3 (x4 + 1) x5 z19.2)
else none)
else
  (tX5_keepCommon_J57_18 (tX5_keepCommon_L18 x0 x1 x2 x3 f) x0 x1 x2 x3 x4 x5 Mi))
else none)
def tX5_keepCommon (x0 : Nat) (x1 : Int32) (x2 : Int32) (M : vMe) : Option (Int32 × vMe) :=
  (gA M x0 8 0).bind fun a1 =>
  (aA M a1 107 x1).bind fun a2 =>
  (gI M a2 9 5).bind fun v3 =>
  (tX5_keepCommon_L18 x0 x1 x2 a2 vF 0 (v3 - 1) M).bind fun z20 =>
  some (z20.1, z20.2)
def rmX5_keepCommon : Room := { frames := 4, cells := 0, slots := 0, locals := 110 }
set_option maxHeartbeats 4000000 in
set_option maxRecDepth 100000 in
theorem mX5_keepCommon (l : Launch) (hfl : l.stackTraces = false) (D : vD) (x0 : Nat) (x1 : Int32) (x2 : Int32) (M : vMe) (z : (Int32 × vMe)) (h : tX5_keepCommon x0 x1 x2 M = some z) : Met l yX5_keepCommon (Cond.code yX5_keepCommon cX5_keepCommon 7 (some .int) :: TB) rmX5_keepCommon (va_Pc [.ref x0, .int x1, .int x2] (vPre D M)) (qW D (some (.int z.1)) z.2) 0 0 (vA D) := by
  refine v_ofW (cc := cX5_keepCommon) (maxL := 7) (ret := (some .int)) (by decide) (Nat.le_of_ble_eq_true rfl) ?_
  intro p e s m args below meth c Q hx hb hr hml hown hts hlk hnm hSS hR0 hQ ls hl
  have hK := hSS.1
  have hl : lv_has ls 7 [(0, .ref x0), (1, .int x1), (2, .int x2)] := hl
  unfold tX5_keepCommon at h
  have X5_keepCommon_L18p : ∀ (x0 : Nat) (x1 : Int32) (x2 : Int32) (x3 : Nat), ∀ (f : Nat) (x4 : Int32) (x5 : Int32) (Mi : vMe) (ls : Array Slot) (z : (Int32 × vMe)), lv_has ls 7 [(0, .ref x0), (1, .int x1), (2, .int x2), (3, .ref x3), (4, .int x4), (5, .int x5)] → tX5_keepCommon_L18 x0 x1 x2 x3 f x4 x5 Mi = some z → (∀ ls : Array Slot, lv_has ls 7 [(4, .int z.1)] → vV D p l e rmX5_keepCommon s m args below meth c 0 0 Q z.2 (F0 m 63 ls [])) → vV D p l e rmX5_keepCommon s m args below meth c 0 0 Q Mi (F0 m 18 ls []) := by
    intro x0 x1 x2 x3 f
    induction f with
    | zero =>
      intro x4 x5 Mi ls z hl h
      exact absurd h (by simp [tX5_keepCommon_L18])
    | succ f ih =>
      intro x4 x5 Mi ls z hl h KX
      rw [tX5_keepCommon_L18] at h
      have X5_keepCommon_J57_18p : ∀ (x4 : Int32) (x5 : Int32) (Mj : vMe) (ls : Array Slot), lv_has ls 7 [(0, .ref x0), (1, .int x1), (2, .int x2), (3, .ref x3), (4, .int x4), (5, .int x5)] → tX5_keepCommon_J57_18 (tX5_keepCommon_L18 x0 x1 x2 x3 f) x0 x1 x2 x3 x4 x5 Mj = some z → vV D p l e rmX5_keepCommon s m args below meth c 0 0 Q Mj (F0 m 57 ls []) := by
        intro x4 x5 Mj ls hl h
        unfold tX5_keepCommon_J57_18 at h
        refine w_iinc (v := x5 + (-1)) (lv' := [(5, .int (x5 + (-1))), (0, .ref x0), (1, .int x1), (2, .int x2), (3, .ref x3), (4, .int x4)]) hx hb dX5_keepCommon_57 hl (j := 5) rfl rfl (by decide) rfl (fun ls hl => ?_)
        have hl : lv_has ls 7 [(0, .ref x0), (1, .int x1), (2, .int x2), (3, .ref x3), (4, .int x4), (5, .int (x5 + (-1)))] := lv_sub hl [1, 2, 3, 4, 5, 0] rfl
        refine w_goto (tgt := 18) hx hb dX5_keepCommon_60 (by decide) ?_
        exact ih x4 (x5 + (-1)) Mj ls z (lv_sub hl [0, 1, 2, 3, 4, 5] rfl) h KX
      refine w_iload hx hb dX5_keepCommon_18 (lv_at hl 5 rfl) ?_
      refine w_if_lt (tgt := 63) hx hb dX5_keepCommon_20 (by decide) (fun c12 => ?_) (fun c12 => ?_)
      · rw [if_pos c12] at h
        obtain rfl := Option.some.inj h
        exact KX ls (lv_sub hl [4] rfl)
      · rw [if_neg c12] at h
        refine w_aload_n hx hb dX5_keepCommon_23 rfl (lv_at hl 3 rfl) ?_
        obtain ⟨a13, ea13, h⟩ := v_bnd h
        refine v_gA (ci := 8) hx hb hts iwX7 hown hK 0 ea13 rfl (by decide) (Or.inr ⟨_, kn8 hSS _⟩) (fun _ h9 => h9) dX5_keepCommon_24 ?_
        refine w_iload hx hb dX5_keepCommon_27 (lv_at hl 5 rfl) ?_
        obtain ⟨v14, ev14, h⟩ := v_bnd h
        refine v_iald hx hb hK ev14 dX5_keepCommon_29 ?_
        refine w_istore (lv' := [(6, .int v14), (0, .ref x0), (1, .int x1), (2, .int x2), (3, .ref x3), (4, .int x4), (5, .int x5)]) hx hb dX5_keepCommon_30 hl (by decide) rfl (fun ls hl => ?_)
        have hl : lv_has ls 7 [(0, .ref x0), (1, .int x1), (2, .int x2), (3, .ref x3), (4, .int x4), (5, .int x5), (6, .int v14)] := lv_sub hl [1, 2, 3, 4, 5, 6, 0] rfl
        refine w_aload_n hx hb dX5_keepCommon_32 rfl (lv_at hl 0 rfl) ?_
        obtain ⟨a15, ea15, h⟩ := v_bnd h
        refine v_gA (ci := 7) hx hb hts iwX5 hown hK 0 ea15 rfl (by decide) (Or.inl (hts _ kw244)) (fun _ h9 => h9) dX5_keepCommon_33 ?_
        refine w_iload_n hx hb dX5_keepCommon_36 rfl (lv_at hl 2 rfl) ?_
        obtain ⟨a16, ea16, h⟩ := v_bnd h
        refine v_aaldA hx hb hK ea16 (by decide) dX5_keepCommon_37 ?_
        refine w_iload hx hb dX5_keepCommon_38 (lv_at hl 6 rfl) ?_
        obtain ⟨g8, h⟩ := v_ifs h
        obtain ⟨z17, ez17, h⟩ := v_bnd h
        refine v_call1 (v := .int z17) (M1 := Mi) (mc := 0) (ms := 0) (fun H locs hR hS => va_runV (As := [.int v14]) (rest := []) ⟨hx, hb, hml, hown, hts⟩ (mX7_has l hfl D a16 v14 Mi z17 ez17) (cwV 1 hts (gdV kw962 kw963 kw964 kw32 kw965) rfl rfl rfl (by decide +kernel) ⟨Nat.le_of_ble_eq_true rfl, Nat.le_of_ble_eq_true rfl⟩) (v_preV (ci := 8) hSS hR hS g8 (by decide) rfl [.int v14]) rfl rfl hl.1 rfl (lv_room (Nat.le_of_ble_eq_true rfl)) dX5_keepCommon_40 ⟨Nat.zero_le _, Nat.zero_le _⟩) ?_
        refine w_if_ne (tgt := 57) hx hb dX5_keepCommon_43 (by decide) (fun c18 => ?_) (fun c18 => ?_)
        · rw [if_pos c18] at h
          refine w_aload_n hx hb dX5_keepCommon_46 rfl (lv_at hl 0 rfl) ?_
          refine w_iload_n hx hb dX5_keepCommon_47 rfl (lv_at hl 1 rfl) ?_
          refine w_iload hx hb dX5_keepCommon_48 (lv_at hl 6 rfl) ?_
          obtain ⟨g8, h⟩ := v_ifs h
          obtain ⟨z19, ez19, h⟩ := v_bnd h
          refine v_call1 (v := .int z19.1) (M1 := z19.2) (mc := 0) (ms := 0) (fun H locs hR hS => va_runV (As := [.int x1, .int v14]) (rest := []) ⟨hx, hb, hml, hown, hts⟩ (mX5_takeOut l hfl D x0 x1 v14 Mi z19 ez19) (cwV 2 hts (gdV kw1233 kw985 kw986 kw31 kw987) rfl rfl rfl (by decide +kernel) ⟨Nat.le_of_ble_eq_true rfl, Nat.le_of_ble_eq_true rfl⟩) (v_preV (ci := 7) hSS hR hS g8 (by decide) rfl [.int x1, .int v14]) rfl rfl hl.1 rfl (lv_room (Nat.le_of_ble_eq_true rfl)) dX5_keepCommon_50 ⟨Nat.zero_le _, Nat.zero_le _⟩) ?_
          refine w_pop hx hb dX5_keepCommon_53 rfl ?_
          refine w_iinc (v := x4 + 1) (lv' := [(4, .int (x4 + 1)), (0, .ref x0), (1, .int x1), (2, .int x2), (3, .ref x3), (5, .int x5), (6, .int v14)]) hx hb dX5_keepCommon_54 hl (j := 4) rfl rfl (by decide) rfl (fun ls hl => ?_)
          have hl : lv_has ls 7 [(0, .ref x0), (1, .int x1), (2, .int x2), (3, .ref x3), (4, .int (x4 + 1)), (5, .int x5), (6, .int v14)] := lv_sub hl [1, 2, 3, 4, 0, 5, 6] rfl
          exact X5_keepCommon_J57_18p (x4 + 1) x5 z19.2 ls (lv_sub hl [0, 1, 2, 3, 4, 5] rfl) h
        · rw [if_neg c18] at h
          exact X5_keepCommon_J57_18p x4 x5 Mi ls (lv_sub hl [0, 1, 2, 3, 4, 5] rfl) h
  refine w_aload_n hx hb dX5_keepCommon_0 rfl (lv_at hl 0 rfl) ?_
  obtain ⟨a1, ea1, h⟩ := v_bnd h
  refine v_gA (ci := 7) hx hb hts iwX5 hown hK 0 ea1 rfl (by decide) (Or.inl (hts _ kw244)) (fun _ h9 => h9) dX5_keepCommon_1 ?_
  refine w_iload_n hx hb dX5_keepCommon_4 rfl (lv_at hl 1 rfl) ?_
  obtain ⟨a2, ea2, h⟩ := v_bnd h
  refine v_aaldA hx hb hK ea2 (by decide) dX5_keepCommon_5 ?_
  refine w_astore_n (lv' := [(3, .ref a2), (0, .ref x0), (1, .int x1), (2, .int x2)]) hx hb dX5_keepCommon_6 rfl hl (by decide) rfl (fun ls hl => ?_)
  have hl : lv_has ls 7 [(0, .ref x0), (1, .int x1), (2, .int x2), (3, .ref a2)] := lv_sub hl [1, 2, 3, 0] rfl
  refine w_iconst (v := 0) hx hb dX5_keepCommon_7 (by decide) ?_
  refine w_istore (lv' := [(4, .int 0), (0, .ref x0), (1, .int x1), (2, .int x2), (3, .ref a2)]) hx hb dX5_keepCommon_8 hl (by decide) rfl (fun ls hl => ?_)
  have hl : lv_has ls 7 [(0, .ref x0), (1, .int x1), (2, .int x2), (3, .ref a2), (4, .int 0)] := lv_sub hl [1, 2, 3, 4, 0] rfl
  refine w_aload_n hx hb dX5_keepCommon_10 rfl (lv_at hl 3 rfl) ?_
  obtain ⟨v3, ev3, h⟩ := v_bnd h
  refine v_gI (ci := 8) hx hb hts iwX7 hown hK 5 ev3 rfl (by decide) (Or.inr ⟨_, kn17 hSS _⟩) (fun _ h9 => h9) dX5_keepCommon_11 ?_
  refine w_iconst (v := 1) hx hb dX5_keepCommon_14 (by decide) ?_
  refine w_isub hx hb dX5_keepCommon_15 ?_
  refine w_istore (lv' := [(5, .int (v3 - 1)), (0, .ref x0), (1, .int x1), (2, .int x2), (3, .ref a2), (4, .int 0)]) hx hb dX5_keepCommon_16 hl (by decide) rfl (fun ls hl => ?_)
  have hl : lv_has ls 7 [(0, .ref x0), (1, .int x1), (2, .int x2), (3, .ref a2), (4, .int 0), (5, .int (v3 - 1))] := lv_sub hl [1, 2, 3, 4, 5, 0] rfl
  obtain ⟨z20, ez20, h⟩ := v_bnd h
  refine X5_keepCommon_L18p x0 x1 x2 a2 vF 0 (v3 - 1) M ls z20 (lv_sub hl [0, 1, 2, 3, 4, 5] rfl) ez20 (fun ls hl => ?_)
  refine w_iload hx hb dX5_keepCommon_63 (lv_at hl 0 rfl) ?_
  obtain rfl := Option.some.inj h
  rw [hQ]
  exact v_iret hx hb hr hlk dX5_keepCommon_65

def tX5_bringAll_J45_13 (rec : Int32 → Int32 → vMe → Option (Int32 × vMe)) (x0 : Nat) (x1 : Int32) (x3 : Nat) (x4 : Int32) (x5 : Int32) (Mj : vMe) : Option (Int32 × vMe) :=
  rec x4 (x5 + 1) Mj
def tX5_bringAll_L13 (x0 : Nat) (x1 : Int32) (x3 : Nat) : Nat → Int32 → Int32 → vMe → Option (Int32 × vMe)
  | 0, _, _, _ => none
  | f + 1, x4, x5, Mi =>
  (gI Mi x3 9 5).bind fun v11 =>
  if v11 ≤ x5 then
  (some (x4, Mi))
else
  ((gA Mi x0 8 0).bind fun a13 =>
  (aA Mi a13 107 x1).bind fun a14 =>
  (gA Mi x3 9 0).bind fun a15 =>
  (aI Mi a15 101 x5).bind fun v16 =>
  if (Mi.1 x0).1 = 8 then
  ((tX5_bringIn x0 a14 v16 Mi).bind fun z17 =>
  if z17.1 = 0 then
  (tX5_bringAll_J45_13 (tX5_bringAll_L13 x0 x1 x3 f) x0 x1 x3 x4 x5 z17.2)
else
  (tX5_bringAll_J45_13 (tX5_bringAll_L13 x0 x1 x3 f) x0 x1 x3 (x4 + 1) x5 z17.2))
else none)
def tX5_bringAll (x0 : Nat) (x1 : Int32) (x2 : Int32) (M : vMe) : Option (Int32 × vMe) :=
  (gA M x0 8 0).bind fun a1 =>
  (aA M a1 107 x2).bind fun a2 =>
  (tX5_bringAll_L13 x0 x1 a2 vF 0 0 M).bind fun z19 =>
  some (z19.1, z19.2)
def rmX5_bringAll : Room := { frames := 4, cells := 0, slots := 0, locals := 106 }
set_option maxHeartbeats 4000000 in
set_option maxRecDepth 100000 in
theorem mX5_bringAll (l : Launch) (hfl : l.stackTraces = false) (D : vD) (x0 : Nat) (x1 : Int32) (x2 : Int32) (M : vMe) (z : (Int32 × vMe)) (h : tX5_bringAll x0 x1 x2 M = some z) : Met l yX5_bringAll (Cond.code yX5_bringAll cX5_bringAll 6 (some .int) :: TB) rmX5_bringAll (va_Pc [.ref x0, .int x1, .int x2] (vPre D M)) (qW D (some (.int z.1)) z.2) 0 0 (vA D) := by
  refine v_ofW (cc := cX5_bringAll) (maxL := 6) (ret := (some .int)) (by decide) (Nat.le_of_ble_eq_true rfl) ?_
  intro p e s m args below meth c Q hx hb hr hml hown hts hlk hnm hSS hR0 hQ ls hl
  have hK := hSS.1
  have hl : lv_has ls 6 [(0, .ref x0), (1, .int x1), (2, .int x2)] := hl
  unfold tX5_bringAll at h
  have X5_bringAll_L13p : ∀ (x0 : Nat) (x1 : Int32) (x3 : Nat), ∀ (f : Nat) (x4 : Int32) (x5 : Int32) (Mi : vMe) (ls : Array Slot) (z : (Int32 × vMe)), lv_has ls 6 [(0, .ref x0), (1, .int x1), (3, .ref x3), (4, .int x4), (5, .int x5)] → tX5_bringAll_L13 x0 x1 x3 f x4 x5 Mi = some z → (∀ ls : Array Slot, lv_has ls 6 [(4, .int z.1)] → vV D p l e rmX5_bringAll s m args below meth c 0 0 Q z.2 (F0 m 51 ls [])) → vV D p l e rmX5_bringAll s m args below meth c 0 0 Q Mi (F0 m 13 ls []) := by
    intro x0 x1 x3 f
    induction f with
    | zero =>
      intro x4 x5 Mi ls z hl h
      exact absurd h (by simp [tX5_bringAll_L13])
    | succ f ih =>
      intro x4 x5 Mi ls z hl h KX
      rw [tX5_bringAll_L13] at h
      have X5_bringAll_J45_13p : ∀ (x4 : Int32) (x5 : Int32) (Mj : vMe) (ls : Array Slot), lv_has ls 6 [(0, .ref x0), (1, .int x1), (3, .ref x3), (4, .int x4), (5, .int x5)] → tX5_bringAll_J45_13 (tX5_bringAll_L13 x0 x1 x3 f) x0 x1 x3 x4 x5 Mj = some z → vV D p l e rmX5_bringAll s m args below meth c 0 0 Q Mj (F0 m 45 ls []) := by
        intro x4 x5 Mj ls hl h
        unfold tX5_bringAll_J45_13 at h
        refine w_iinc (v := x5 + 1) (lv' := [(5, .int (x5 + 1)), (0, .ref x0), (1, .int x1), (3, .ref x3), (4, .int x4)]) hx hb dX5_bringAll_45 hl (j := 4) rfl rfl (by decide) rfl (fun ls hl => ?_)
        have hl : lv_has ls 6 [(0, .ref x0), (1, .int x1), (3, .ref x3), (4, .int x4), (5, .int (x5 + 1))] := lv_sub hl [1, 2, 3, 4, 0] rfl
        refine w_goto (tgt := 13) hx hb dX5_bringAll_48 (by decide) ?_
        exact ih x4 (x5 + 1) Mj ls z (lv_sub hl [0, 1, 2, 3, 4] rfl) h KX
      refine w_iload hx hb dX5_bringAll_13 (lv_at hl 4 rfl) ?_
      refine w_aload_n hx hb dX5_bringAll_15 rfl (lv_at hl 2 rfl) ?_
      obtain ⟨v11, ev11, h⟩ := v_bnd h
      refine v_gI (ci := 8) hx hb hts iwX7 hown hK 5 ev11 rfl (by decide) (Or.inr ⟨_, kn17 hSS _⟩) (fun _ h9 => h9) dX5_bringAll_16 ?_
      refine w_icmp_ge (tgt := 51) hx hb dX5_bringAll_19 (by decide) (fun c12 => ?_) (fun c12 => ?_)
      · rw [if_pos c12] at h
        obtain rfl := Option.some.inj h
        exact KX ls (lv_sub hl [3] rfl)
      · rw [if_neg c12] at h
        refine w_aload_n hx hb dX5_bringAll_22 rfl (lv_at hl 0 rfl) ?_
        refine w_aload_n hx hb dX5_bringAll_23 rfl (lv_at hl 0 rfl) ?_
        obtain ⟨a13, ea13, h⟩ := v_bnd h
        refine v_gA (ci := 7) hx hb hts iwX5 hown hK 0 ea13 rfl (by decide) (Or.inl (hts _ kw244)) (fun _ h9 => h9) dX5_bringAll_24 ?_
        refine w_iload_n hx hb dX5_bringAll_27 rfl (lv_at hl 1 rfl) ?_
        obtain ⟨a14, ea14, h⟩ := v_bnd h
        refine v_aaldA hx hb hK ea14 (by decide) dX5_bringAll_28 ?_
        refine w_aload_n hx hb dX5_bringAll_29 rfl (lv_at hl 2 rfl) ?_
        obtain ⟨a15, ea15, h⟩ := v_bnd h
        refine v_gA (ci := 8) hx hb hts iwX7 hown hK 0 ea15 rfl (by decide) (Or.inr ⟨_, kn8 hSS _⟩) (fun _ h9 => h9) dX5_bringAll_30 ?_
        refine w_iload hx hb dX5_bringAll_33 (lv_at hl 4 rfl) ?_
        obtain ⟨v16, ev16, h⟩ := v_bnd h
        refine v_iald hx hb hK ev16 dX5_bringAll_35 ?_
        obtain ⟨g8, h⟩ := v_ifs h
        obtain ⟨z17, ez17, h⟩ := v_bnd h
        refine v_call1 (v := .int z17.1) (M1 := z17.2) (mc := 0) (ms := 0) (fun H locs hR hS => va_runV (As := [.ref a14, .int v16]) (rest := []) ⟨hx, hb, hml, hown, hts⟩ (mX5_bringIn l hfl D x0 a14 v16 Mi z17 ez17) (cwV 2 hts (gdV kw1242 kw959 kw960 kw31 kw961) rfl rfl rfl (by decide +kernel) ⟨Nat.le_of_ble_eq_true rfl, Nat.le_of_ble_eq_true rfl⟩) (v_preV (ci := 7) hSS hR hS g8 (by decide) rfl [.ref a14, .int v16]) rfl rfl hl.1 rfl (lv_room (Nat.le_of_ble_eq_true rfl)) dX5_bringAll_36 ⟨Nat.zero_le _, Nat.zero_le _⟩) ?_
        refine w_if_eq (tgt := 45) hx hb dX5_bringAll_39 (by decide) (fun c18 => ?_) (fun c18 => ?_)
        · rw [if_pos c18] at h
          exact X5_bringAll_J45_13p x4 x5 z17.2 ls (lv_sub hl [0, 1, 2, 3, 4] rfl) h
        · rw [if_neg c18] at h
          refine w_iinc (v := x4 + 1) (lv' := [(4, .int (x4 + 1)), (0, .ref x0), (1, .int x1), (3, .ref x3), (5, .int x5)]) hx hb dX5_bringAll_42 hl (j := 3) rfl rfl (by decide) rfl (fun ls hl => ?_)
          have hl : lv_has ls 6 [(0, .ref x0), (1, .int x1), (3, .ref x3), (4, .int (x4 + 1)), (5, .int x5)] := lv_sub hl [1, 2, 3, 0, 4] rfl
          exact X5_bringAll_J45_13p (x4 + 1) x5 z17.2 ls (lv_sub hl [0, 1, 2, 3, 4] rfl) h
  refine w_aload_n hx hb dX5_bringAll_0 rfl (lv_at hl 0 rfl) ?_
  obtain ⟨a1, ea1, h⟩ := v_bnd h
  refine v_gA (ci := 7) hx hb hts iwX5 hown hK 0 ea1 rfl (by decide) (Or.inl (hts _ kw244)) (fun _ h9 => h9) dX5_bringAll_1 ?_
  refine w_iload_n hx hb dX5_bringAll_4 rfl (lv_at hl 2 rfl) ?_
  obtain ⟨a2, ea2, h⟩ := v_bnd h
  refine v_aaldA hx hb hK ea2 (by decide) dX5_bringAll_5 ?_
  refine w_astore_n (lv' := [(3, .ref a2), (0, .ref x0), (1, .int x1), (2, .int x2)]) hx hb dX5_bringAll_6 rfl hl (by decide) rfl (fun ls hl => ?_)
  have hl : lv_has ls 6 [(0, .ref x0), (1, .int x1), (2, .int x2), (3, .ref a2)] := lv_sub hl [1, 2, 3, 0] rfl
  refine w_iconst (v := 0) hx hb dX5_bringAll_7 (by decide) ?_
  refine w_istore (lv' := [(4, .int 0), (0, .ref x0), (1, .int x1), (2, .int x2), (3, .ref a2)]) hx hb dX5_bringAll_8 hl (by decide) rfl (fun ls hl => ?_)
  have hl : lv_has ls 6 [(0, .ref x0), (1, .int x1), (2, .int x2), (3, .ref a2), (4, .int 0)] := lv_sub hl [1, 2, 3, 4, 0] rfl
  refine w_iconst (v := 0) hx hb dX5_bringAll_10 (by decide) ?_
  refine w_istore (lv' := [(5, .int 0), (0, .ref x0), (1, .int x1), (2, .int x2), (3, .ref a2), (4, .int 0)]) hx hb dX5_bringAll_11 hl (by decide) rfl (fun ls hl => ?_)
  have hl : lv_has ls 6 [(0, .ref x0), (1, .int x1), (2, .int x2), (3, .ref a2), (4, .int 0), (5, .int 0)] := lv_sub hl [1, 2, 3, 4, 5, 0] rfl
  obtain ⟨z19, ez19, h⟩ := v_bnd h
  refine X5_bringAll_L13p x0 x1 a2 vF 0 0 M ls z19 (lv_sub hl [0, 1, 3, 4, 5] rfl) ez19 (fun ls hl => ?_)
  refine w_iload hx hb dX5_bringAll_51 (lv_at hl 0 rfl) ?_
  obtain rfl := Option.some.inj h
  rw [hQ]
  exact v_iret hx hb hr hlk dX5_bringAll_53

def tX5_freeCursor_L2 (x0 : Nat) (M : vMe) : Nat → Int32 → Option (Int32 ⊕ Unit)
  | 0, _ => none
  | f + 1, x1 =>
  if (6 : Int32) ≤ x1 then
  (some (Sum.inr (())))
else
  ((gA M x0 8 1).bind fun a7 =>
  (aA M a7 108 x1).bind fun a8 =>
  (gI M a8 3 0).bind fun v9 =>
  if v9 = 0 then
  (some (Sum.inl x1))
else
  (tX5_freeCursor_L2 x0 M f (x1 + 1)))
def tX5_freeCursor (x0 : Nat) (M : vMe) : Option Int32 :=
  (tX5_freeCursor_L2 x0 M vF 0).bind fun z11 =>
  Sum.elim (fun r13 => some r13) (fun w12 =>
  some ((-1))) z11
def rmX5_freeCursor : Room := { frames := 1, cells := 0, slots := 0, locals := 0 }
set_option maxHeartbeats 4000000 in
set_option maxRecDepth 100000 in
theorem mX5_freeCursor (l : Launch) (hfl : l.stackTraces = false) (D : vD) (x0 : Nat) (M : vMe) (z : Int32) (h : tX5_freeCursor x0 M = some z) : Met l yX5_freeCursor (Cond.code yX5_freeCursor cX5_freeCursor 2 (some .int) :: TB) rmX5_freeCursor (va_Pc [.ref x0] (vPre D M)) (qW D (some (.int z)) M) 0 0 (vA D) := by
  refine v_ofW (cc := cX5_freeCursor) (maxL := 2) (ret := (some .int)) (by decide) (Nat.le_of_ble_eq_true rfl) ?_
  intro p e s m args below meth c Q hx hb hr hml hown hts hlk hnm hSS hR0 hQ ls hl
  have hK := hSS.1
  have hl : lv_has ls 2 [(0, .ref x0)] := hl
  unfold tX5_freeCursor at h
  have X5_freeCursor_L2p : ∀ (x0 : Nat), ∀ (f : Nat) (x1 : Int32) (ls : Array Slot) (z : (Int32 ⊕ Unit)), lv_has ls 2 [(0, .ref x0), (1, .int x1)] → tX5_freeCursor_L2 x0 M f x1 = some z → (∀ w, z = Sum.inr w → ∀ ls : Array Slot, lv_has ls 2 [] → vV D p l e rmX5_freeCursor s m args below meth c 0 0 Q M (F0 m 28 ls [])) → (∀ r9, z = Sum.inl r9 → Q = MQ below (qW D (some (.int r9)) M) args s 0 0 (vA D)) → vV D p l e rmX5_freeCursor s m args below meth c 0 0 Q M (F0 m 2 ls []) := by
    intro x0 f
    induction f with
    | zero =>
      intro x1 ls z hl h
      exact absurd h (by simp [tX5_freeCursor_L2])
    | succ f ih =>
      intro x1 ls z hl h KX KR
      rw [tX5_freeCursor_L2] at h
      refine w_iload_n hx hb dX5_freeCursor_2 rfl (lv_at hl 1 rfl) ?_
      refine w_bipush (v := 6) hx hb dX5_freeCursor_3 (by decide) ?_
      refine w_icmp_ge (tgt := 28) hx hb dX5_freeCursor_5 (by decide) (fun c6 => ?_) (fun c6 => ?_)
      · rw [if_pos c6] at h
        obtain rfl := Option.some.inj h
        exact KX _ rfl ls (lv_sub hl [] rfl)
      · rw [if_neg c6] at h
        refine w_aload_n hx hb dX5_freeCursor_8 rfl (lv_at hl 0 rfl) ?_
        obtain ⟨a7, ea7, h⟩ := v_bnd h
        refine v_gA (ci := 7) hx hb hts iwX5 hown hK 1 ea7 rfl (by decide) (Or.inl (hts _ kw247)) (fun _ h9 => h9) dX5_freeCursor_9 ?_
        refine w_iload_n hx hb dX5_freeCursor_12 rfl (lv_at hl 1 rfl) ?_
        obtain ⟨a8, ea8, h⟩ := v_bnd h
        refine v_aaldA hx hb hK ea8 (by decide) dX5_freeCursor_13 ?_
        obtain ⟨v9, ev9, h⟩ := v_bnd h
        refine v_gI (ci := 2) hx hb hts iwX0 hown hK 0 ev9 rfl (by decide) (Or.inr ⟨_, kn21 hSS _⟩) (fun _ h9 => h9) dX5_freeCursor_14 ?_
        refine w_if_ne (tgt := 22) hx hb dX5_freeCursor_17 (by decide) (fun c10 => ?_) (fun c10 => ?_)
        · rw [if_pos c10] at h
          refine w_iload_n hx hb dX5_freeCursor_20 rfl (lv_at hl 1 rfl) ?_
          obtain rfl := Option.some.inj h
          rw [KR _ rfl]
          exact v_iret hx hb hr hlk dX5_freeCursor_21
        · rw [if_neg c10] at h
          refine w_iinc (v := x1 + 1) (lv' := [(1, .int (x1 + 1)), (0, .ref x0)]) hx hb dX5_freeCursor_22 hl (j := 1) rfl rfl (by decide) rfl (fun ls hl => ?_)
          have hl : lv_has ls 2 [(0, .ref x0), (1, .int (x1 + 1))] := lv_sub hl [1, 0] rfl
          refine w_goto (tgt := 2) hx hb dX5_freeCursor_25 (by decide) ?_
          exact ih (x1 + 1) ls z (lv_sub hl [0, 1] rfl) h KX KR
  refine w_iconst (v := 0) hx hb dX5_freeCursor_0 (by decide) ?_
  refine w_istore_n (lv' := [(1, .int 0), (0, .ref x0)]) hx hb dX5_freeCursor_1 rfl hl (by decide) rfl (fun ls hl => ?_)
  have hl : lv_has ls 2 [(0, .ref x0), (1, .int 0)] := lv_sub hl [1, 0] rfl
  obtain ⟨z11, ez11, h⟩ := v_bnd h
  refine X5_freeCursor_L2p x0 vF 0 ls z11 (lv_sub hl [0, 1] rfl) ez11 (fun w12 qw12 ls hl => ?_) (fun r13 qr13 => ?_)
  · replace h := v_inr qw12 h
    refine w_iconst (v := (-1)) hx hb dX5_freeCursor_28 (by decide) ?_
    obtain rfl := Option.some.inj h
    rw [hQ]
    exact v_iret hx hb hr hlk dX5_freeCursor_29
  · replace h := v_inl qr13 h
    obtain rfl := Option.some.inj h
    exact hQ

def tX5_countCursors_J28_4 (rec : Int32 → Int32 → Option Int32) (x0 : Nat) (x2 : Int32) (y0 : Int32) (y1 : Int32) (M : vMe) : Option Int32 :=
  rec (y0 + y1) (x2 + 1)
def tX5_countCursors_L4 (x0 : Nat) (M : vMe) : Nat → Int32 → Int32 → Option Int32
  | 0, _, _ => none
  | f + 1, x1, x2 =>
  if (6 : Int32) ≤ x2 then
  (some x1)
else
  ((gA M x0 8 1).bind fun a7 =>
  (aA M a7 108 x2).bind fun a8 =>
  (gI M a8 3 0).bind fun v9 =>
  if v9 = 0 then
  (tX5_countCursors_J28_4 (tX5_countCursors_L4 x0 M f) x0 x2 x1 0 M)
else
  (tX5_countCursors_J28_4 (tX5_countCursors_L4 x0 M f) x0 x2 x1 1 M))
def tX5_countCursors (x0 : Nat) (M : vMe) : Option Int32 :=
  (tX5_countCursors_L4 x0 M vF 0 0).bind fun z11 =>
  some z11
def rmX5_countCursors : Room := { frames := 1, cells := 0, slots := 0, locals := 0 }
set_option maxHeartbeats 4000000 in
set_option maxRecDepth 100000 in
theorem mX5_countCursors (l : Launch) (hfl : l.stackTraces = false) (D : vD) (x0 : Nat) (M : vMe) (z : Int32) (h : tX5_countCursors x0 M = some z) : Met l yX5_countCursors (Cond.code yX5_countCursors cX5_countCursors 3 (some .int) :: TB) rmX5_countCursors (va_Pc [.ref x0] (vPre D M)) (qW D (some (.int z)) M) 0 0 (vA D) := by
  refine v_ofW (cc := cX5_countCursors) (maxL := 3) (ret := (some .int)) (by decide) (Nat.le_of_ble_eq_true rfl) ?_
  intro p e s m args below meth c Q hx hb hr hml hown hts hlk hnm hSS hR0 hQ ls hl
  have hK := hSS.1
  have hl : lv_has ls 3 [(0, .ref x0)] := hl
  unfold tX5_countCursors at h
  have X5_countCursors_L4p : ∀ (x0 : Nat), ∀ (f : Nat) (x1 : Int32) (x2 : Int32) (ls : Array Slot) (z : Int32), lv_has ls 3 [(0, .ref x0), (1, .int x1), (2, .int x2)] → tX5_countCursors_L4 x0 M f x1 x2 = some z → (∀ ls : Array Slot, lv_has ls 3 [(1, .int z)] → vV D p l e rmX5_countCursors s m args below meth c 0 0 Q M (F0 m 36 ls [])) → vV D p l e rmX5_countCursors s m args below meth c 0 0 Q M (F0 m 4 ls []) := by
    intro x0 f
    induction f with
    | zero =>
      intro x1 x2 ls z hl h
      exact absurd h (by simp [tX5_countCursors_L4])
    | succ f ih =>
      intro x1 x2 ls z hl h KX
      rw [tX5_countCursors_L4] at h
      have X5_countCursors_J28_4p : ∀ (x2 : Int32) (y0 : Int32) (y1 : Int32) (ls : Array Slot), lv_has ls 3 [(0, .ref x0), (2, .int x2)] → tX5_countCursors_J28_4 (tX5_countCursors_L4 x0 M f) x0 x2 y0 y1 M = some z → vV D p l e rmX5_countCursors s m args below meth c 0 0 Q M (F0 m 28 ls [.int y1, .int y0]) := by
        intro x2 y0 y1 ls hl h
        unfold tX5_countCursors_J28_4 at h
        refine w_iadd hx hb dX5_countCursors_28 ?_
        refine w_istore_n (lv' := [(1, .int (y0 + y1)), (0, .ref x0), (2, .int x2)]) hx hb dX5_countCursors_29 rfl hl (by decide) rfl (fun ls hl => ?_)
        have hl : lv_has ls 3 [(0, .ref x0), (1, .int (y0 + y1)), (2, .int x2)] := lv_sub hl [1, 0, 2] rfl
        refine w_iinc (v := x2 + 1) (lv' := [(2, .int (x2 + 1)), (0, .ref x0), (1, .int (y0 + y1))]) hx hb dX5_countCursors_30 hl (j := 2) rfl rfl (by decide) rfl (fun ls hl => ?_)
        have hl : lv_has ls 3 [(0, .ref x0), (1, .int (y0 + y1)), (2, .int (x2 + 1))] := lv_sub hl [1, 2, 0] rfl
        refine w_goto (tgt := 4) hx hb dX5_countCursors_33 (by decide) ?_
        exact ih (y0 + y1) (x2 + 1) ls z (lv_sub hl [0, 1, 2] rfl) h KX
      refine w_iload_n hx hb dX5_countCursors_4 rfl (lv_at hl 2 rfl) ?_
      refine w_bipush (v := 6) hx hb dX5_countCursors_5 (by decide) ?_
      refine w_icmp_ge (tgt := 36) hx hb dX5_countCursors_7 (by decide) (fun c6 => ?_) (fun c6 => ?_)
      · rw [if_pos c6] at h
        obtain rfl := Option.some.inj h
        exact KX ls (lv_sub hl [1] rfl)
      · rw [if_neg c6] at h
        refine w_iload_n hx hb dX5_countCursors_10 rfl (lv_at hl 1 rfl) ?_
        refine w_aload_n hx hb dX5_countCursors_11 rfl (lv_at hl 0 rfl) ?_
        obtain ⟨a7, ea7, h⟩ := v_bnd h
        refine v_gA (ci := 7) hx hb hts iwX5 hown hK 1 ea7 rfl (by decide) (Or.inl (hts _ kw247)) (fun _ h9 => h9) dX5_countCursors_12 ?_
        refine w_iload_n hx hb dX5_countCursors_15 rfl (lv_at hl 2 rfl) ?_
        obtain ⟨a8, ea8, h⟩ := v_bnd h
        refine v_aaldA hx hb hK ea8 (by decide) dX5_countCursors_16 ?_
        obtain ⟨v9, ev9, h⟩ := v_bnd h
        refine v_gI (ci := 2) hx hb hts iwX0 hown hK 0 ev9 rfl (by decide) (Or.inr ⟨_, kn21 hSS _⟩) (fun _ h9 => h9) dX5_countCursors_17 ?_
        refine w_if_eq (tgt := 27) hx hb dX5_countCursors_20 (by decide) (fun c10 => ?_) (fun c10 => ?_)
        · rw [if_pos c10] at h
          refine w_iconst (v := 0) hx hb dX5_countCursors_27 (by decide) ?_
          exact X5_countCursors_J28_4p x2 x1 0 ls (lv_sub hl [0, 2] rfl) h
        · rw [if_neg c10] at h
          refine w_iconst (v := 1) hx hb dX5_countCursors_23 (by decide) ?_
          refine w_goto (tgt := 28) hx hb dX5_countCursors_24 (by decide) ?_
          exact X5_countCursors_J28_4p x2 x1 1 ls (lv_sub hl [0, 2] rfl) h
  refine w_iconst (v := 0) hx hb dX5_countCursors_0 (by decide) ?_
  refine w_istore_n (lv' := [(1, .int 0), (0, .ref x0)]) hx hb dX5_countCursors_1 rfl hl (by decide) rfl (fun ls hl => ?_)
  have hl : lv_has ls 3 [(0, .ref x0), (1, .int 0)] := lv_sub hl [1, 0] rfl
  refine w_iconst (v := 0) hx hb dX5_countCursors_2 (by decide) ?_
  refine w_istore_n (lv' := [(2, .int 0), (0, .ref x0), (1, .int 0)]) hx hb dX5_countCursors_3 rfl hl (by decide) rfl (fun ls hl => ?_)
  have hl : lv_has ls 3 [(0, .ref x0), (1, .int 0), (2, .int 0)] := lv_sub hl [1, 2, 0] rfl
  obtain ⟨z11, ez11, h⟩ := v_bnd h
  refine X5_countCursors_L4p x0 vF 0 0 ls z11 (lv_sub hl [0, 1, 2] rfl) ez11 (fun ls hl => ?_)
  refine w_iload_n hx hb dX5_countCursors_36 rfl (lv_at hl 0 rfl) ?_
  obtain rfl := Option.some.inj h
  rw [hQ]
  exact v_iret hx hb hr hlk dX5_countCursors_37

def tX5_countOpenCursors_J29_4 (rec : Int32 → Int32 → Option Int32) (x0 : Nat) (x1 : Int32) (x3 : Int32) (y0 : Int32) (y1 : Int32) (M : vMe) : Option Int32 :=
  rec (y0 + y1) (x3 + 1)
def tX5_countOpenCursors_L4 (x0 : Nat) (x1 : Int32) (M : vMe) : Nat → Int32 → Int32 → Option Int32
  | 0, _, _ => none
  | f + 1, x2, x3 =>
  if (6 : Int32) ≤ x3 then
  (some x2)
else
  ((gA M x0 8 1).bind fun a7 =>
  (aA M a7 108 x3).bind fun a8 =>
  if (M.1 a8).1 = 3 then
  ((tX0_isOpenOn a8 x1 M).bind fun z9 =>
  if z9 = 0 then
  (tX5_countOpenCursors_J29_4 (tX5_countOpenCursors_L4 x0 x1 M f) x0 x1 x3 x2 0 M)
else
  (tX5_countOpenCursors_J29_4 (tX5_countOpenCursors_L4 x0 x1 M f) x0 x1 x3 x2 1 M))
else none)
def tX5_countOpenCursors (x0 : Nat) (x1 : Int32) (M : vMe) : Option Int32 :=
  (tX5_countOpenCursors_L4 x0 x1 M vF 0 0).bind fun z11 =>
  some z11
def rmX5_countOpenCursors : Room := { frames := 2, cells := 0, slots := 0, locals := 21 }
set_option maxHeartbeats 4000000 in
set_option maxRecDepth 100000 in
theorem mX5_countOpenCursors (l : Launch) (hfl : l.stackTraces = false) (D : vD) (x0 : Nat) (x1 : Int32) (M : vMe) (z : Int32) (h : tX5_countOpenCursors x0 x1 M = some z) : Met l yX5_countOpenCursors (Cond.code yX5_countOpenCursors cX5_countOpenCursors 4 (some .int) :: TB) rmX5_countOpenCursors (va_Pc [.ref x0, .int x1] (vPre D M)) (qW D (some (.int z)) M) 0 0 (vA D) := by
  refine v_ofW (cc := cX5_countOpenCursors) (maxL := 4) (ret := (some .int)) (by decide) (Nat.le_of_ble_eq_true rfl) ?_
  intro p e s m args below meth c Q hx hb hr hml hown hts hlk hnm hSS hR0 hQ ls hl
  have hK := hSS.1
  have hl : lv_has ls 4 [(0, .ref x0), (1, .int x1)] := hl
  unfold tX5_countOpenCursors at h
  have X5_countOpenCursors_L4p : ∀ (x0 : Nat) (x1 : Int32), ∀ (f : Nat) (x2 : Int32) (x3 : Int32) (ls : Array Slot) (z : Int32), lv_has ls 4 [(0, .ref x0), (1, .int x1), (2, .int x2), (3, .int x3)] → tX5_countOpenCursors_L4 x0 x1 M f x2 x3 = some z → (∀ ls : Array Slot, lv_has ls 4 [(2, .int z)] → vV D p l e rmX5_countOpenCursors s m args below meth c 0 0 Q M (F0 m 37 ls [])) → vV D p l e rmX5_countOpenCursors s m args below meth c 0 0 Q M (F0 m 4 ls []) := by
    intro x0 x1 f
    induction f with
    | zero =>
      intro x2 x3 ls z hl h
      exact absurd h (by simp [tX5_countOpenCursors_L4])
    | succ f ih =>
      intro x2 x3 ls z hl h KX
      rw [tX5_countOpenCursors_L4] at h
      have X5_countOpenCursors_J29_4p : ∀ (x3 : Int32) (y0 : Int32) (y1 : Int32) (ls : Array Slot), lv_has ls 4 [(0, .ref x0), (1, .int x1), (3, .int x3)] → tX5_countOpenCursors_J29_4 (tX5_countOpenCursors_L4 x0 x1 M f) x0 x1 x3 y0 y1 M = some z → vV D p l e rmX5_countOpenCursors s m args below meth c 0 0 Q M (F0 m 29 ls [.int y1, .int y0]) := by
        intro x3 y0 y1 ls hl h
        unfold tX5_countOpenCursors_J29_4 at h
        refine w_iadd hx hb dX5_countOpenCursors_29 ?_
        refine w_istore_n (lv' := [(2, .int (y0 + y1)), (0, .ref x0), (1, .int x1), (3, .int x3)]) hx hb dX5_countOpenCursors_30 rfl hl (by decide) rfl (fun ls hl => ?_)
        have hl : lv_has ls 4 [(0, .ref x0), (1, .int x1), (2, .int (y0 + y1)), (3, .int x3)] := lv_sub hl [1, 2, 0, 3] rfl
        refine w_iinc (v := x3 + 1) (lv' := [(3, .int (x3 + 1)), (0, .ref x0), (1, .int x1), (2, .int (y0 + y1))]) hx hb dX5_countOpenCursors_31 hl (j := 3) rfl rfl (by decide) rfl (fun ls hl => ?_)
        have hl : lv_has ls 4 [(0, .ref x0), (1, .int x1), (2, .int (y0 + y1)), (3, .int (x3 + 1))] := lv_sub hl [1, 2, 3, 0] rfl
        refine w_goto (tgt := 4) hx hb dX5_countOpenCursors_34 (by decide) ?_
        exact ih (y0 + y1) (x3 + 1) ls z (lv_sub hl [0, 1, 2, 3] rfl) h KX
      refine w_iload_n hx hb dX5_countOpenCursors_4 rfl (lv_at hl 3 rfl) ?_
      refine w_bipush (v := 6) hx hb dX5_countOpenCursors_5 (by decide) ?_
      refine w_icmp_ge (tgt := 37) hx hb dX5_countOpenCursors_7 (by decide) (fun c6 => ?_) (fun c6 => ?_)
      · rw [if_pos c6] at h
        obtain rfl := Option.some.inj h
        exact KX ls (lv_sub hl [2] rfl)
      · rw [if_neg c6] at h
        refine w_iload_n hx hb dX5_countOpenCursors_10 rfl (lv_at hl 2 rfl) ?_
        refine w_aload_n hx hb dX5_countOpenCursors_11 rfl (lv_at hl 0 rfl) ?_
        obtain ⟨a7, ea7, h⟩ := v_bnd h
        refine v_gA (ci := 7) hx hb hts iwX5 hown hK 1 ea7 rfl (by decide) (Or.inl (hts _ kw247)) (fun _ h9 => h9) dX5_countOpenCursors_12 ?_
        refine w_iload_n hx hb dX5_countOpenCursors_15 rfl (lv_at hl 3 rfl) ?_
        obtain ⟨a8, ea8, h⟩ := v_bnd h
        refine v_aaldA hx hb hK ea8 (by decide) dX5_countOpenCursors_16 ?_
        refine w_iload_n hx hb dX5_countOpenCursors_17 rfl (lv_at hl 1 rfl) ?_
        obtain ⟨g8, h⟩ := v_ifs h
        obtain ⟨z9, ez9, h⟩ := v_bnd h
        refine v_call1 (v := .int z9) (M1 := M) (mc := 0) (ms := 0) (fun H locs hR hS => va_runV (As := [.int x1]) (rest := [.int x2]) ⟨hx, hb, hml, hown, hts⟩ (mX0_isOpenOn l hfl D a8 x1 M z9 ez9) (cwV 1 hts (gdV kw993 kw994 kw995 kw34 kw996) rfl rfl rfl (by decide +kernel) ⟨Nat.le_of_ble_eq_true rfl, Nat.le_of_ble_eq_true rfl⟩) (v_preV (ci := 2) hSS hR hS g8 (by decide) rfl [.int x1]) rfl rfl hl.1 rfl (lv_room (Nat.le_of_ble_eq_true rfl)) dX5_countOpenCursors_18 ⟨Nat.zero_le _, Nat.zero_le _⟩) ?_
        refine w_if_eq (tgt := 28) hx hb dX5_countOpenCursors_21 (by decide) (fun c10 => ?_) (fun c10 => ?_)
        · rw [if_pos c10] at h
          refine w_iconst (v := 0) hx hb dX5_countOpenCursors_28 (by decide) ?_
          exact X5_countOpenCursors_J29_4p x3 x2 0 ls (lv_sub hl [0, 1, 3] rfl) h
        · rw [if_neg c10] at h
          refine w_iconst (v := 1) hx hb dX5_countOpenCursors_24 (by decide) ?_
          refine w_goto (tgt := 29) hx hb dX5_countOpenCursors_25 (by decide) ?_
          exact X5_countOpenCursors_J29_4p x3 x2 1 ls (lv_sub hl [0, 1, 3] rfl) h
  refine w_iconst (v := 0) hx hb dX5_countOpenCursors_0 (by decide) ?_
  refine w_istore_n (lv' := [(2, .int 0), (0, .ref x0), (1, .int x1)]) hx hb dX5_countOpenCursors_1 rfl hl (by decide) rfl (fun ls hl => ?_)
  have hl : lv_has ls 4 [(0, .ref x0), (1, .int x1), (2, .int 0)] := lv_sub hl [1, 2, 0] rfl
  refine w_iconst (v := 0) hx hb dX5_countOpenCursors_2 (by decide) ?_
  refine w_istore_n (lv' := [(3, .int 0), (0, .ref x0), (1, .int x1), (2, .int 0)]) hx hb dX5_countOpenCursors_3 rfl hl (by decide) rfl (fun ls hl => ?_)
  have hl : lv_has ls 4 [(0, .ref x0), (1, .int x1), (2, .int 0), (3, .int 0)] := lv_sub hl [1, 2, 3, 0] rfl
  obtain ⟨z11, ez11, h⟩ := v_bnd h
  refine X5_countOpenCursors_L4p x0 x1 vF 0 0 ls z11 (lv_sub hl [0, 1, 2, 3] rfl) ez11 (fun ls hl => ?_)
  refine w_iload_n hx hb dX5_countOpenCursors_37 rfl (lv_at hl 0 rfl) ?_
  obtain rfl := Option.some.inj h
  rw [hQ]
  exact v_iret hx hb hr hlk dX5_countOpenCursors_38

def tX7_stampAt (x0 : Nat) (x1 : Int32) (M : vMe) : Option Int32 :=
  (gA M x0 9 2).bind fun a1 =>
  (gA M x0 9 0).bind fun a2 =>
  (aI M a2 101 x1).bind fun v3 =>
  (aI M a1 101 v3).bind fun v4 =>
  some v4
def rmX7_stampAt : Room := { frames := 1, cells := 0, slots := 0, locals := 0 }
set_option maxHeartbeats 4000000 in
set_option maxRecDepth 100000 in
theorem mX7_stampAt (l : Launch) (hfl : l.stackTraces = false) (D : vD) (x0 : Nat) (x1 : Int32) (M : vMe) (z : Int32) (h : tX7_stampAt x0 x1 M = some z) : Met l yX7_stampAt (Cond.code yX7_stampAt cX7_stampAt 2 (some .int) :: TB) rmX7_stampAt (va_Pc [.ref x0, .int x1] (vPre D M)) (qW D (some (.int z)) M) 0 0 (vA D) := by
  refine v_ofW (cc := cX7_stampAt) (maxL := 2) (ret := (some .int)) (by decide) (Nat.le_of_ble_eq_true rfl) ?_
  intro p e s m args below meth c Q hx hb hr hml hown hts hlk hnm hSS hR0 hQ ls hl
  have hK := hSS.1
  have hl : lv_has ls 2 [(0, .ref x0), (1, .int x1)] := hl
  unfold tX7_stampAt at h
  refine w_aload_n hx hb dX7_stampAt_0 rfl (lv_at hl 0 rfl) ?_
  obtain ⟨a1, ea1, h⟩ := v_bnd h
  refine v_gA (ci := 8) hx hb hts iwX7 hown hK 2 ea1 rfl (by decide) (Or.inl (hts _ kw171)) (fun _ h9 => h9) dX7_stampAt_1 ?_
  refine w_aload_n hx hb dX7_stampAt_4 rfl (lv_at hl 0 rfl) ?_
  obtain ⟨a2, ea2, h⟩ := v_bnd h
  refine v_gA (ci := 8) hx hb hts iwX7 hown hK 0 ea2 rfl (by decide) (Or.inl (hts _ kw165)) (fun _ h9 => h9) dX7_stampAt_5 ?_
  refine w_iload_n hx hb dX7_stampAt_8 rfl (lv_at hl 1 rfl) ?_
  obtain ⟨v3, ev3, h⟩ := v_bnd h
  refine v_iald hx hb hK ev3 dX7_stampAt_9 ?_
  obtain ⟨v4, ev4, h⟩ := v_bnd h
  refine v_iald hx hb hK ev4 dX7_stampAt_10 ?_
  obtain rfl := Option.some.inj h
  rw [hQ]
  exact v_iret hx hb hr hlk dX7_stampAt_11

def tX5_countAhead_J53_18 (rec : Int32 → Int32 → Option Int32) (x1 : Nat) (x3 : Nat) (x4 : Int32) (y0 : Int32) (y1 : Int32) (M : vMe) : Option Int32 :=
  rec (y0 + y1) (x4 + 1)
def tX5_countAhead_L18 (x1 : Nat) (x3 : Nat) (M : vMe) : Nat → Int32 → Int32 → Option Int32
  | 0, _, _ => none
  | f + 1, x2, x4 =>
  (gI M x1 3 1).bind fun v12 =>
  if v12 = 0 then
  (some x2)
else
  ((gI M x3 9 5).bind fun v14 =>
  if v14 ≤ x4 then
  (some x2)
else
  (if (M.1 x3).1 = 9 then
  ((tX7_stampAt x3 x4 M).bind fun z16 =>
  if (M.1 x1).1 = 3 then
  ((tX0_meets x1 z16 M).bind fun z17 =>
  if z17 = 0 then
  (tX5_countAhead_J53_18 (tX5_countAhead_L18 x1 x3 M f) x1 x3 x4 x2 0 M)
else
  (tX5_countAhead_J53_18 (tX5_countAhead_L18 x1 x3 M f) x1 x3 x4 x2 1 M))
else none)
else none))
def tX5_countAhead (x0 : Nat) (x1 : Nat) (M : vMe) : Option Int32 :=
  (gA M x0 8 0).bind fun a1 =>
  (gI M x1 3 3).bind fun v2 =>
  (aA M a1 107 v2).bind fun a3 =>
  (gI M x1 3 4).bind fun v4 =>
  (tX5_countAhead_L18 x1 a3 M vF 0 v4).bind fun z19 =>
  some z19
def rmX5_countAhead : Room := { frames := 2, cells := 0, slots := 0, locals := 21 }
set_option maxHeartbeats 4000000 in
set_option maxRecDepth 100000 in
theorem mX5_countAhead (l : Launch) (hfl : l.stackTraces = false) (D : vD) (x0 : Nat) (x1 : Nat) (M : vMe) (z : Int32) (h : tX5_countAhead x0 x1 M = some z) : Met l yX5_countAhead (Cond.code yX5_countAhead cX5_countAhead 5 (some .int) :: TB) rmX5_countAhead (va_Pc [.ref x0, .ref x1] (vPre D M)) (qW D (some (.int z)) M) 0 0 (vA D) := by
  refine v_ofW (cc := cX5_countAhead) (maxL := 5) (ret := (some .int)) (by decide) (Nat.le_of_ble_eq_true rfl) ?_
  intro p e s m args below meth c Q hx hb hr hml hown hts hlk hnm hSS hR0 hQ ls hl
  have hK := hSS.1
  have hl : lv_has ls 5 [(0, .ref x0), (1, .ref x1)] := hl
  unfold tX5_countAhead at h
  have X5_countAhead_L18p : ∀ (x1 : Nat) (x3 : Nat), ∀ (f : Nat) (x2 : Int32) (x4 : Int32) (ls : Array Slot) (z : Int32), lv_has ls 5 [(1, .ref x1), (2, .int x2), (3, .ref x3), (4, .int x4)] → tX5_countAhead_L18 x1 x3 M f x2 x4 = some z → (∀ ls : Array Slot, lv_has ls 5 [(2, .int z)] → vV D p l e rmX5_countAhead s m args below meth c 0 0 Q M (F0 m 61 ls [])) → vV D p l e rmX5_countAhead s m args below meth c 0 0 Q M (F0 m 18 ls []) := by
    intro x1 x3 f
    induction f with
    | zero =>
      intro x2 x4 ls z hl h
      exact absurd h (by simp [tX5_countAhead_L18])
    | succ f ih =>
      intro x2 x4 ls z hl h KX
      rw [tX5_countAhead_L18] at h
      have X5_countAhead_J53_18p : ∀ (x4 : Int32) (y0 : Int32) (y1 : Int32) (ls : Array Slot), lv_has ls 5 [(1, .ref x1), (3, .ref x3), (4, .int x4)] → tX5_countAhead_J53_18 (tX5_countAhead_L18 x1 x3 M f) x1 x3 x4 y0 y1 M = some z → vV D p l e rmX5_countAhead s m args below meth c 0 0 Q M (F0 m 53 ls [.int y1, .int y0]) := by
        intro x4 y0 y1 ls hl h
        unfold tX5_countAhead_J53_18 at h
        refine w_iadd hx hb dX5_countAhead_53 ?_
        refine w_istore_n (lv' := [(2, .int (y0 + y1)), (1, .ref x1), (3, .ref x3), (4, .int x4)]) hx hb dX5_countAhead_54 rfl hl (by decide) rfl (fun ls hl => ?_)
        have hl : lv_has ls 5 [(1, .ref x1), (2, .int (y0 + y1)), (3, .ref x3), (4, .int x4)] := lv_sub hl [1, 0, 2, 3] rfl
        refine w_iinc (v := x4 + 1) (lv' := [(4, .int (x4 + 1)), (1, .ref x1), (2, .int (y0 + y1)), (3, .ref x3)]) hx hb dX5_countAhead_55 hl (j := 3) rfl rfl (by decide) rfl (fun ls hl => ?_)
        have hl : lv_has ls 5 [(1, .ref x1), (2, .int (y0 + y1)), (3, .ref x3), (4, .int (x4 + 1))] := lv_sub hl [1, 2, 3, 0] rfl
        refine w_goto (tgt := 18) hx hb dX5_countAhead_58 (by decide) ?_
        exact ih (y0 + y1) (x4 + 1) ls z (lv_sub hl [0, 1, 2, 3] rfl) h KX
      refine w_aload_n hx hb dX5_countAhead_18 rfl (lv_at hl 0 rfl) ?_
      obtain ⟨v12, ev12, h⟩ := v_bnd h
      refine v_gI (ci := 2) hx hb hts iwX0 hown hK 1 ev12 rfl (by decide) (Or.inr ⟨_, kn23 hSS _⟩) (fun _ h9 => h9) dX5_countAhead_19 ?_
      refine w_if_eq (tgt := 61) hx hb dX5_countAhead_22 (by decide) (fun c13 => ?_) (fun c13 => ?_)
      · rw [if_pos c13] at h
        obtain rfl := Option.some.inj h
        exact KX ls (lv_sub hl [1] rfl)
      · rw [if_neg c13] at h
        refine w_iload hx hb dX5_countAhead_25 (lv_at hl 3 rfl) ?_
        refine w_aload_n hx hb dX5_countAhead_27 rfl (lv_at hl 2 rfl) ?_
        obtain ⟨v14, ev14, h⟩ := v_bnd h
        refine v_gI (ci := 8) hx hb hts iwX7 hown hK 5 ev14 rfl (by decide) (Or.inr ⟨_, kn17 hSS _⟩) (fun _ h9 => h9) dX5_countAhead_28 ?_
        refine w_icmp_ge (tgt := 61) hx hb dX5_countAhead_31 (by decide) (fun c15 => ?_) (fun c15 => ?_)
        · rw [if_pos c15] at h
          obtain rfl := Option.some.inj h
          exact KX ls (lv_sub hl [1] rfl)
        · rw [if_neg c15] at h
          refine w_iload_n hx hb dX5_countAhead_34 rfl (lv_at hl 1 rfl) ?_
          refine w_aload_n hx hb dX5_countAhead_35 rfl (lv_at hl 0 rfl) ?_
          refine w_aload_n hx hb dX5_countAhead_36 rfl (lv_at hl 2 rfl) ?_
          refine w_iload hx hb dX5_countAhead_37 (lv_at hl 3 rfl) ?_
          obtain ⟨g8, h⟩ := v_ifs h
          obtain ⟨z16, ez16, h⟩ := v_bnd h
          refine v_call1 (v := .int z16) (M1 := M) (mc := 0) (ms := 0) (fun H locs hR hS => va_runV (As := [.int x4]) (rest := [.ref x1, .int x2]) ⟨hx, hb, hml, hown, hts⟩ (mX7_stampAt l hfl D x3 x4 M z16 ez16) (cwV 1 hts (gdV kw1188 kw1189 kw1190 kw32 kw1191) rfl rfl rfl (by decide +kernel) ⟨Nat.le_of_ble_eq_true rfl, Nat.le_of_ble_eq_true rfl⟩) (v_preV (ci := 8) hSS hR hS g8 (by decide) rfl [.int x4]) rfl rfl hl.1 rfl (lv_room (Nat.le_of_ble_eq_true rfl)) dX5_countAhead_39 ⟨Nat.zero_le _, Nat.zero_le _⟩) ?_
          obtain ⟨g8, h⟩ := v_ifs h
          obtain ⟨z17, ez17, h⟩ := v_bnd h
          refine v_call1 (v := .int z17) (M1 := M) (mc := 0) (ms := 0) (fun H locs hR hS => va_runV (As := [.int z16]) (rest := [.int x2]) ⟨hx, hb, hml, hown, hts⟩ (mX0_meets l hfl D x1 z16 M z17 ez17) (cwV 1 hts (gdV kw1192 kw1193 kw1194 kw34 kw1195) rfl rfl rfl (by decide +kernel) ⟨Nat.le_of_ble_eq_true rfl, Nat.le_of_ble_eq_true rfl⟩) (v_preV (ci := 2) hSS hR hS g8 (by decide) rfl [.int z16]) rfl rfl hl.1 rfl (lv_room (Nat.le_of_ble_eq_true rfl)) dX5_countAhead_42 ⟨Nat.zero_le _, Nat.zero_le _⟩) ?_
          refine w_if_eq (tgt := 52) hx hb dX5_countAhead_45 (by decide) (fun c18 => ?_) (fun c18 => ?_)
          · rw [if_pos c18] at h
            refine w_iconst (v := 0) hx hb dX5_countAhead_52 (by decide) ?_
            exact X5_countAhead_J53_18p x4 x2 0 ls (lv_sub hl [0, 2, 3] rfl) h
          · rw [if_neg c18] at h
            refine w_iconst (v := 1) hx hb dX5_countAhead_48 (by decide) ?_
            refine w_goto (tgt := 53) hx hb dX5_countAhead_49 (by decide) ?_
            exact X5_countAhead_J53_18p x4 x2 1 ls (lv_sub hl [0, 2, 3] rfl) h
  refine w_iconst (v := 0) hx hb dX5_countAhead_0 (by decide) ?_
  refine w_istore_n (lv' := [(2, .int 0), (0, .ref x0), (1, .ref x1)]) hx hb dX5_countAhead_1 rfl hl (by decide) rfl (fun ls hl => ?_)
  have hl : lv_has ls 5 [(0, .ref x0), (1, .ref x1), (2, .int 0)] := lv_sub hl [1, 2, 0] rfl
  refine w_aload_n hx hb dX5_countAhead_2 rfl (lv_at hl 0 rfl) ?_
  obtain ⟨a1, ea1, h⟩ := v_bnd h
  refine v_gA (ci := 7) hx hb hts iwX5 hown hK 0 ea1 rfl (by decide) (Or.inl (hts _ kw244)) (fun _ h9 => h9) dX5_countAhead_3 ?_
  refine w_aload_n hx hb dX5_countAhead_6 rfl (lv_at hl 1 rfl) ?_
  obtain ⟨v2, ev2, h⟩ := v_bnd h
  refine v_gI (ci := 2) hx hb hts iwX0 hown hK 3 ev2 rfl (by decide) (Or.inr ⟨_, kn27 hSS _⟩) (fun _ h9 => h9) dX5_countAhead_7 ?_
  obtain ⟨a3, ea3, h⟩ := v_bnd h
  refine v_aaldA hx hb hK ea3 (by decide) dX5_countAhead_10 ?_
  refine w_astore_n (lv' := [(3, .ref a3), (0, .ref x0), (1, .ref x1), (2, .int 0)]) hx hb dX5_countAhead_11 rfl hl (by decide) rfl (fun ls hl => ?_)
  have hl : lv_has ls 5 [(0, .ref x0), (1, .ref x1), (2, .int 0), (3, .ref a3)] := lv_sub hl [1, 2, 3, 0] rfl
  refine w_aload_n hx hb dX5_countAhead_12 rfl (lv_at hl 1 rfl) ?_
  obtain ⟨v4, ev4, h⟩ := v_bnd h
  refine v_gI (ci := 2) hx hb hts iwX0 hown hK 4 ev4 rfl (by decide) (Or.inr ⟨_, kn28 hSS _⟩) (fun _ h9 => h9) dX5_countAhead_13 ?_
  refine w_istore (lv' := [(4, .int v4), (0, .ref x0), (1, .ref x1), (2, .int 0), (3, .ref a3)]) hx hb dX5_countAhead_16 hl (by decide) rfl (fun ls hl => ?_)
  have hl : lv_has ls 5 [(0, .ref x0), (1, .ref x1), (2, .int 0), (3, .ref a3), (4, .int v4)] := lv_sub hl [1, 2, 3, 4, 0] rfl
  obtain ⟨z19, ez19, h⟩ := v_bnd h
  refine X5_countAhead_L18p x1 a3 vF 0 v4 ls z19 (lv_sub hl [1, 2, 3, 4] rfl) ez19 (fun ls hl => ?_)
  refine w_iload_n hx hb dX5_countAhead_61 rfl (lv_at hl 0 rfl) ?_
  obtain rfl := Option.some.inj h
  rw [hQ]
  exact v_iret hx hb hr hlk dX5_countAhead_62

def tX5_meetNext_L15 (x0 : Nat) (x1 : Nat) (x2 : Nat) : Nat → Int32 → vMe → Option ((Int32 ⊕ Unit) × vMe)
  | 0, _, _ => none
  | f + 1, x3, Mi =>
  (gI Mi x2 9 5).bind fun v19 =>
  if v19 ≤ x3 then
  (some (Sum.inr (()), Mi))
else
  ((sV Mi x1 3 4 (.int (x3 + 1))).bind fun M21 =>
  (gI M21 x0 8 8).bind fun v22 =>
  (sV M21 x0 8 8 (.int (v22 + 1))).bind fun M23 =>
  if (M23.1 x2).1 = 9 then
  ((tX7_stampAt x2 x3 M23).bind fun z24 =>
  if (M23.1 x1).1 = 3 then
  ((tX0_meets x1 z24 M23).bind fun z25 =>
  if z25 = 0 then
  (tX5_meetNext_L15 x0 x1 x2 f (x3 + 1) M23)
else
  ((gI M23 x1 3 6).bind fun v27 =>
  (sV M23 x1 3 6 (.int (v27 + 1))).bind fun M28 =>
  (gA M28 x2 9 0).bind fun a29 =>
  (aI M28 a29 101 x3).bind fun v30 =>
  (sV M28 x1 3 7 (.int v30)).bind fun M31 =>
  (gI M31 x1 3 7).bind fun v32 =>
  some (Sum.inl v32, M31)))
else none)
else none)
def tX5_meetNext (x0 : Nat) (x1 : Nat) (M : vMe) : Option (Int32 × vMe) :=
  (gA M x0 8 0).bind fun a1 =>
  (gI M x1 3 3).bind fun v2 =>
  (aA M a1 107 v2).bind fun a3 =>
  (gI M x1 3 4).bind fun v4 =>
  (tX5_meetNext_L15 x0 x1 a3 vF v4 M).bind fun z33 =>
  Sum.elim (fun r36 => some (r36, z33.2)) (fun w34 =>
  (sV z33.2 x1 3 1 (.int 0)).bind fun M35 =>
  some ((-1), M35)) z33.1
def rmX5_meetNext : Room := { frames := 2, cells := 0, slots := 0, locals := 21 }
set_option maxHeartbeats 4000000 in
set_option maxRecDepth 100000 in
theorem mX5_meetNext (l : Launch) (hfl : l.stackTraces = false) (D : vD) (x0 : Nat) (x1 : Nat) (M : vMe) (z : (Int32 × vMe)) (h : tX5_meetNext x0 x1 M = some z) : Met l yX5_meetNext (Cond.code yX5_meetNext cX5_meetNext 4 (some .int) :: TB) rmX5_meetNext (va_Pc [.ref x0, .ref x1] (vPre D M)) (qW D (some (.int z.1)) z.2) 0 0 (vA D) := by
  refine v_ofW (cc := cX5_meetNext) (maxL := 4) (ret := (some .int)) (by decide) (Nat.le_of_ble_eq_true rfl) ?_
  intro p e s m args below meth c Q hx hb hr hml hown hts hlk hnm hSS hR0 hQ ls hl
  have hK := hSS.1
  have hl : lv_has ls 4 [(0, .ref x0), (1, .ref x1)] := hl
  unfold tX5_meetNext at h
  have X5_meetNext_L15p : ∀ (x0 : Nat) (x1 : Nat) (x2 : Nat), ∀ (f : Nat) (x3 : Int32) (Mi : vMe) (ls : Array Slot) (z : ((Int32 ⊕ Unit) × vMe)), lv_has ls 4 [(0, .ref x0), (1, .ref x1), (2, .ref x2), (3, .int x3)] → tX5_meetNext_L15 x0 x1 x2 f x3 Mi = some z → (∀ w, z.1 = Sum.inr w → ∀ ls : Array Slot, lv_has ls 4 [(1, .ref x1)] → vV D p l e rmX5_meetNext s m args below meth c 0 0 Q z.2 (F0 m 83 ls [])) → (∀ r9, z.1 = Sum.inl r9 → Q = MQ below (qW D (some (.int r9)) z.2) args s 0 0 (vA D)) → vV D p l e rmX5_meetNext s m args below meth c 0 0 Q Mi (F0 m 15 ls []) := by
    intro x0 x1 x2 f
    induction f with
    | zero =>
      intro x3 Mi ls z hl h
      exact absurd h (by simp [tX5_meetNext_L15])
    | succ f ih =>
      intro x3 Mi ls z hl h KX KR
      rw [tX5_meetNext_L15] at h
      refine w_iload_n hx hb dX5_meetNext_15 rfl (lv_at hl 3 rfl) ?_
      refine w_aload_n hx hb dX5_meetNext_16 rfl (lv_at hl 2 rfl) ?_
      obtain ⟨v19, ev19, h⟩ := v_bnd h
      refine v_gI (ci := 8) hx hb hts iwX7 hown hK 5 ev19 rfl (by decide) (Or.inr ⟨_, kn17 hSS _⟩) (fun _ h9 => h9) dX5_meetNext_17 ?_
      refine w_icmp_ge (tgt := 83) hx hb dX5_meetNext_20 (by decide) (fun c20 => ?_) (fun c20 => ?_)
      · rw [if_pos c20] at h
        obtain rfl := Option.some.inj h
        exact KX _ rfl ls (lv_sub hl [1] rfl)
      · rw [if_neg c20] at h
        refine w_aload_n hx hb dX5_meetNext_23 rfl (lv_at hl 1 rfl) ?_
        refine w_iload_n hx hb dX5_meetNext_24 rfl (lv_at hl 3 rfl) ?_
        refine w_iconst (v := 1) hx hb dX5_meetNext_25 (by decide) ?_
        refine w_iadd hx hb dX5_meetNext_26 ?_
        obtain ⟨M21, eM21, h⟩ := v_bnd h
        refine v_putf (ci := 2) hx hb hts iwX0 hown hK tyX0_ok nmX0 4 eM21 rfl (by decide) (Or.inr ⟨_, kn28 hSS _⟩) (fun _ h9 => h9) (Or.inl rfl) rfl rfl dX5_meetNext_27 ?_
        refine w_aload_n hx hb dX5_meetNext_30 rfl (lv_at hl 0 rfl) ?_
        refine w_dup hx hb dX5_meetNext_31 rfl ?_
        obtain ⟨v22, ev22, h⟩ := v_bnd h
        refine v_gI (ci := 7) hx hb hts iwX5 hown hK 8 ev22 rfl (by decide) (Or.inl (hts _ kw264)) (fun _ h9 => h9) dX5_meetNext_32 ?_
        refine w_iconst (v := 1) hx hb dX5_meetNext_35 (by decide) ?_
        refine w_iadd hx hb dX5_meetNext_36 ?_
        obtain ⟨M23, eM23, h⟩ := v_bnd h
        refine v_putf (ci := 7) hx hb hts iwX5 hown hK tyX5_ok nmX5 8 eM23 rfl (by decide) (Or.inl (hts _ kw264)) (fun _ h9 => h9) (Or.inl rfl) rfl rfl dX5_meetNext_37 ?_
        refine w_aload_n hx hb dX5_meetNext_40 rfl (lv_at hl 1 rfl) ?_
        refine w_aload_n hx hb dX5_meetNext_41 rfl (lv_at hl 2 rfl) ?_
        refine w_iload_n hx hb dX5_meetNext_42 rfl (lv_at hl 3 rfl) ?_
        obtain ⟨g8, h⟩ := v_ifs h
        obtain ⟨z24, ez24, h⟩ := v_bnd h
        refine v_call1 (v := .int z24) (M1 := M23) (mc := 0) (ms := 0) (fun H locs hR hS => va_runV (As := [.int x3]) (rest := [.ref x1]) ⟨hx, hb, hml, hown, hts⟩ (mX7_stampAt l hfl D x2 x3 M23 z24 ez24) (cwV 1 hts (gdV kw1188 kw1189 kw1190 kw32 kw1191) rfl rfl rfl (by decide +kernel) ⟨Nat.le_of_ble_eq_true rfl, Nat.le_of_ble_eq_true rfl⟩) (v_preV (ci := 8) hSS hR hS g8 (by decide) rfl [.int x3]) rfl rfl hl.1 rfl (lv_room (Nat.le_of_ble_eq_true rfl)) dX5_meetNext_43 ⟨Nat.zero_le _, Nat.zero_le _⟩) ?_
        obtain ⟨g8, h⟩ := v_ifs h
        obtain ⟨z25, ez25, h⟩ := v_bnd h
        refine v_call1 (v := .int z25) (M1 := M23) (mc := 0) (ms := 0) (fun H locs hR hS => va_runV (As := [.int z24]) (rest := []) ⟨hx, hb, hml, hown, hts⟩ (mX0_meets l hfl D x1 z24 M23 z25 ez25) (cwV 1 hts (gdV kw1192 kw1193 kw1194 kw34 kw1195) rfl rfl rfl (by decide +kernel) ⟨Nat.le_of_ble_eq_true rfl, Nat.le_of_ble_eq_true rfl⟩) (v_preV (ci := 2) hSS hR hS g8 (by decide) rfl [.int z24]) rfl rfl hl.1 rfl (lv_room (Nat.le_of_ble_eq_true rfl)) dX5_meetNext_46 ⟨Nat.zero_le _, Nat.zero_le _⟩) ?_
        refine w_if_eq (tgt := 77) hx hb dX5_meetNext_49 (by decide) (fun c26 => ?_) (fun c26 => ?_)
        · rw [if_pos c26] at h
          refine w_iinc (v := x3 + 1) (lv' := [(3, .int (x3 + 1)), (0, .ref x0), (1, .ref x1), (2, .ref x2)]) hx hb dX5_meetNext_77 hl (j := 3) rfl rfl (by decide) rfl (fun ls hl => ?_)
          have hl : lv_has ls 4 [(0, .ref x0), (1, .ref x1), (2, .ref x2), (3, .int (x3 + 1))] := lv_sub hl [1, 2, 3, 0] rfl
          refine w_goto (tgt := 15) hx hb dX5_meetNext_80 (by decide) ?_
          exact ih (x3 + 1) M23 ls z (lv_sub hl [0, 1, 2, 3] rfl) h KX KR
        · rw [if_neg c26] at h
          refine w_aload_n hx hb dX5_meetNext_52 rfl (lv_at hl 1 rfl) ?_
          refine w_dup hx hb dX5_meetNext_53 rfl ?_
          obtain ⟨v27, ev27, h⟩ := v_bnd h
          refine v_gI (ci := 2) hx hb hts iwX0 hown hK 6 ev27 rfl (by decide) (Or.inr ⟨_, kn32 hSS _⟩) (fun _ h9 => h9) dX5_meetNext_54 ?_
          refine w_iconst (v := 1) hx hb dX5_meetNext_57 (by decide) ?_
          refine w_iadd hx hb dX5_meetNext_58 ?_
          obtain ⟨M28, eM28, h⟩ := v_bnd h
          refine v_putf (ci := 2) hx hb hts iwX0 hown hK tyX0_ok nmX0 6 eM28 rfl (by decide) (Or.inr ⟨_, kn32 hSS _⟩) (fun _ h9 => h9) (Or.inl rfl) rfl rfl dX5_meetNext_59 ?_
          refine w_aload_n hx hb dX5_meetNext_62 rfl (lv_at hl 1 rfl) ?_
          refine w_aload_n hx hb dX5_meetNext_63 rfl (lv_at hl 2 rfl) ?_
          obtain ⟨a29, ea29, h⟩ := v_bnd h
          refine v_gA (ci := 8) hx hb hts iwX7 hown hK 0 ea29 rfl (by decide) (Or.inr ⟨_, kn8 hSS _⟩) (fun _ h9 => h9) dX5_meetNext_64 ?_
          refine w_iload_n hx hb dX5_meetNext_67 rfl (lv_at hl 3 rfl) ?_
          obtain ⟨v30, ev30, h⟩ := v_bnd h
          refine v_iald hx hb hK ev30 dX5_meetNext_68 ?_
          obtain ⟨M31, eM31, h⟩ := v_bnd h
          refine v_putf (ci := 2) hx hb hts iwX0 hown hK tyX0_ok nmX0 7 eM31 rfl (by decide) (Or.inr ⟨_, kn34 hSS _⟩) (fun _ h9 => h9) (Or.inl rfl) rfl rfl dX5_meetNext_69 ?_
          refine w_aload_n hx hb dX5_meetNext_72 rfl (lv_at hl 1 rfl) ?_
          obtain ⟨v32, ev32, h⟩ := v_bnd h
          refine v_gI (ci := 2) hx hb hts iwX0 hown hK 7 ev32 rfl (by decide) (Or.inr ⟨_, kn34 hSS _⟩) (fun _ h9 => h9) dX5_meetNext_73 ?_
          obtain rfl := Option.some.inj h
          rw [KR _ rfl]
          exact v_iret hx hb hr hlk dX5_meetNext_76
  refine w_aload_n hx hb dX5_meetNext_0 rfl (lv_at hl 0 rfl) ?_
  obtain ⟨a1, ea1, h⟩ := v_bnd h
  refine v_gA (ci := 7) hx hb hts iwX5 hown hK 0 ea1 rfl (by decide) (Or.inl (hts _ kw244)) (fun _ h9 => h9) dX5_meetNext_1 ?_
  refine w_aload_n hx hb dX5_meetNext_4 rfl (lv_at hl 1 rfl) ?_
  obtain ⟨v2, ev2, h⟩ := v_bnd h
  refine v_gI (ci := 2) hx hb hts iwX0 hown hK 3 ev2 rfl (by decide) (Or.inr ⟨_, kn27 hSS _⟩) (fun _ h9 => h9) dX5_meetNext_5 ?_
  obtain ⟨a3, ea3, h⟩ := v_bnd h
  refine v_aaldA hx hb hK ea3 (by decide) dX5_meetNext_8 ?_
  refine w_astore_n (lv' := [(2, .ref a3), (0, .ref x0), (1, .ref x1)]) hx hb dX5_meetNext_9 rfl hl (by decide) rfl (fun ls hl => ?_)
  have hl : lv_has ls 4 [(0, .ref x0), (1, .ref x1), (2, .ref a3)] := lv_sub hl [1, 2, 0] rfl
  refine w_aload_n hx hb dX5_meetNext_10 rfl (lv_at hl 1 rfl) ?_
  obtain ⟨v4, ev4, h⟩ := v_bnd h
  refine v_gI (ci := 2) hx hb hts iwX0 hown hK 4 ev4 rfl (by decide) (Or.inr ⟨_, kn28 hSS _⟩) (fun _ h9 => h9) dX5_meetNext_11 ?_
  refine w_istore_n (lv' := [(3, .int v4), (0, .ref x0), (1, .ref x1), (2, .ref a3)]) hx hb dX5_meetNext_14 rfl hl (by decide) rfl (fun ls hl => ?_)
  have hl : lv_has ls 4 [(0, .ref x0), (1, .ref x1), (2, .ref a3), (3, .int v4)] := lv_sub hl [1, 2, 3, 0] rfl
  obtain ⟨z33, ez33, h⟩ := v_bnd h
  refine X5_meetNext_L15p x0 x1 a3 vF v4 M ls z33 (lv_sub hl [0, 1, 2, 3] rfl) ez33 (fun w34 qw34 ls hl => ?_) (fun r36 qr36 => ?_)
  · replace h := v_inr qw34 h
    refine w_aload_n hx hb dX5_meetNext_83 rfl (lv_at hl 0 rfl) ?_
    refine w_iconst (v := 0) hx hb dX5_meetNext_84 (by decide) ?_
    obtain ⟨M35, eM35, h⟩ := v_bnd h
    refine v_putf (ci := 2) hx hb hts iwX0 hown hK tyX0_ok nmX0 1 eM35 rfl (by decide) (Or.inr ⟨_, kn23 hSS _⟩) (fun _ h9 => h9) (Or.inl rfl) (by decide) (by decide) dX5_meetNext_85 ?_
    refine w_iconst (v := (-1)) hx hb dX5_meetNext_88 (by decide) ?_
    obtain rfl := Option.some.inj h
    rw [hQ]
    exact v_iret hx hb hr hlk dX5_meetNext_89
  · replace h := v_inl qr36 h
    obtain rfl := Option.some.inj h
    exact hQ

def tX7_bits_L4 (x0 : Nat) (M : vMe) : Nat → Int64 → Int32 → Option Int64
  | 0, _, _ => none
  | f + 1, x1, x3 =>
  (gI M x0 9 5).bind fun v5 =>
  if v5 ≤ x3 then
  (some x1)
else
  ((gA M x0 9 0).bind fun a7 =>
  (aI M a7 101 x3).bind fun v8 =>
  tX7_bits_L4 x0 M f (x1 ||| (1 <<< (v8.toInt64 &&& 63))) (x3 + 1))
def tX7_bits (x0 : Nat) (M : vMe) : Option Int64 :=
  (tX7_bits_L4 x0 M vF 0 0).bind fun z9 =>
  some z9
def rmX7_bits : Room := { frames := 1, cells := 0, slots := 0, locals := 0 }
set_option maxHeartbeats 4000000 in
set_option maxRecDepth 100000 in
theorem mX7_bits (l : Launch) (hfl : l.stackTraces = false) (D : vD) (x0 : Nat) (M : vMe) (z : Int64) (h : tX7_bits x0 M = some z) : Met l yX7_bits (Cond.code yX7_bits cX7_bits 4 (some .long) :: TB) rmX7_bits (va_Pc [.ref x0] (vPre D M)) (qW D (some (.long z)) M) 0 0 (vA D) := by
  refine v_ofW (cc := cX7_bits) (maxL := 4) (ret := (some .long)) (by decide) (Nat.le_of_ble_eq_true rfl) ?_
  intro p e s m args below meth c Q hx hb hr hml hown hts hlk hnm hSS hR0 hQ ls hl
  have hK := hSS.1
  have hl : lv_has ls 4 [(0, .ref x0)] := hl
  unfold tX7_bits at h
  have X7_bits_L4p : ∀ (x0 : Nat), ∀ (f : Nat) (x1 : Int64) (x3 : Int32) (ls : Array Slot) (z : Int64), lv_has ls 4 [(0, .ref x0), (1, .long x1), (3, .int x3)] → tX7_bits_L4 x0 M f x1 x3 = some z → (∀ ls : Array Slot, lv_has ls 4 [(1, .long z)] → vV D p l e rmX7_bits s m args below meth c 0 0 Q M (F0 m 29 ls [])) → vV D p l e rmX7_bits s m args below meth c 0 0 Q M (F0 m 4 ls []) := by
    intro x0 f
    induction f with
    | zero =>
      intro x1 x3 ls z hl h
      exact absurd h (by simp [tX7_bits_L4])
    | succ f ih =>
      intro x1 x3 ls z hl h KX
      rw [tX7_bits_L4] at h
      refine w_iload_n hx hb dX7_bits_4 rfl (lv_at hl 2 rfl) ?_
      refine w_aload_n hx hb dX7_bits_5 rfl (lv_at hl 0 rfl) ?_
      obtain ⟨v5, ev5, h⟩ := v_bnd h
      refine v_gI (ci := 8) hx hb hts iwX7 hown hK 5 ev5 rfl (by decide) (Or.inl (hts _ kw179)) (fun _ h9 => h9) dX7_bits_6 ?_
      refine w_icmp_ge (tgt := 29) hx hb dX7_bits_9 (by decide) (fun c6 => ?_) (fun c6 => ?_)
      · rw [if_pos c6] at h
        obtain rfl := Option.some.inj h
        exact KX ls (lv_sub hl [1] rfl)
      · rw [if_neg c6] at h
        refine w_lload_n hx hb dX7_bits_12 rfl (lv_at hl 1 rfl) ?_
        refine w_lconst (v := 1) hx hb dX7_bits_13 (by decide) ?_
        refine w_aload_n hx hb dX7_bits_14 rfl (lv_at hl 0 rfl) ?_
        obtain ⟨a7, ea7, h⟩ := v_bnd h
        refine v_gA (ci := 8) hx hb hts iwX7 hown hK 0 ea7 rfl (by decide) (Or.inl (hts _ kw165)) (fun _ h9 => h9) dX7_bits_15 ?_
        refine w_iload_n hx hb dX7_bits_18 rfl (lv_at hl 2 rfl) ?_
        obtain ⟨v8, ev8, h⟩ := v_bnd h
        refine v_iald hx hb hK ev8 dX7_bits_19 ?_
        refine w_lshl hx hb dX7_bits_20 ?_
        refine w_lor hx hb dX7_bits_21 ?_
        refine w_lstore_n (lv' := [(1, .long (x1 ||| (1 <<< (v8.toInt64 &&& 63)))), (0, .ref x0), (3, .int x3)]) hx hb dX7_bits_22 rfl hl (by decide) rfl (fun ls hl => ?_)
        have hl : lv_has ls 4 [(0, .ref x0), (1, .long (x1 ||| (1 <<< (v8.toInt64 &&& 63)))), (3, .int x3)] := lv_sub hl [1, 0, 2] rfl
        refine w_iinc (v := x3 + 1) (lv' := [(3, .int (x3 + 1)), (0, .ref x0), (1, .long (x1 ||| (1 <<< (v8.toInt64 &&& 63))))]) hx hb dX7_bits_23 hl (j := 2) rfl rfl (by decide) rfl (fun ls hl => ?_)
        have hl : lv_has ls 4 [(0, .ref x0), (1, .long (x1 ||| (1 <<< (v8.toInt64 &&& 63)))), (3, .int (x3 + 1))] := lv_sub hl [1, 2, 0] rfl
        refine w_goto (tgt := 4) hx hb dX7_bits_26 (by decide) ?_
        exact ih (x1 ||| (1 <<< (v8.toInt64 &&& 63))) (x3 + 1) ls z (lv_sub hl [0, 1, 2] rfl) h KX
  refine w_lconst (v := 0) hx hb dX7_bits_0 (by decide) ?_
  refine w_lstore_n (lv' := [(1, .long 0), (0, .ref x0)]) hx hb dX7_bits_1 rfl hl (by decide) rfl (fun ls hl => ?_)
  have hl : lv_has ls 4 [(0, .ref x0), (1, .long 0)] := lv_sub hl [1, 0] rfl
  refine w_iconst (v := 0) hx hb dX7_bits_2 (by decide) ?_
  refine w_istore_n (lv' := [(3, .int 0), (0, .ref x0), (1, .long 0)]) hx hb dX7_bits_3 rfl hl (by decide) rfl (fun ls hl => ?_)
  have hl : lv_has ls 4 [(0, .ref x0), (1, .long 0), (3, .int 0)] := lv_sub hl [1, 2, 0] rfl
  obtain ⟨z9, ez9, h⟩ := v_bnd h
  refine X7_bits_L4p x0 vF 0 0 ls z9 (lv_sub hl [0, 1, 2] rfl) ez9 (fun ls hl => ?_)
  refine w_lload_n hx hb dX7_bits_29 rfl (lv_at hl 0 rfl) ?_
  obtain rfl := Option.some.inj h
  rw [hQ]
  exact v_lret hx hb hr hlk dX7_bits_30

def tX8_init (x0 : Nat) (M : vMe) : Option (Unit × vMe) :=
  (nwO M 106 10 10 (fun _ => .null) M.2.1 M.2.2.1 1 10).bind fun M1 =>
  (sV M1 x0 10 0 (.ref M.2.1)).bind fun M2 =>
  if M2.2.1 ≤ M.2.1 + 1 ∧ M2.2.2.1 ≤ M.2.2.1 + 10 then some ((), M2) else none
def rmX8_init : Room := { frames := 1, cells := 1, slots := 10, locals := 60 }
set_option maxHeartbeats 4000000 in
set_option maxRecDepth 100000 in
theorem mX8_init (l : Launch) (hfl : l.stackTraces = false) (D : vD) (x0 : Nat) (M : vMe) (z : (Unit × vMe)) (h : tX8_init x0 M = some z) : Met l yX8_init (Cond.code yX8_init cX8_init 1 none :: TB) rmX8_init (va_Pc [.ref x0] (vPre D M)) (qW D none z.2) 1 10 (vA D) := by
  refine v_ofW (cc := cX8_init) (maxL := 1) (ret := none) (by decide) (Nat.le_of_ble_eq_true rfl) ?_
  intro p e s m args below meth c Q hx hb hr hml hown hts hlk hnm hSS hR0 hQ ls hl
  have hz0 := hR0.2.1
  have hs0 := hR0.2.2.1
  have hb0 : D.2.2.2.1 ≤ s.heap.size := hR0.2.2.2.2.1
  refine v_tight hb0 ?_
  have hK := hSS.1
  have hl : lv_has ls 1 [(0, .ref x0)] := hl
  unfold tX8_init at h
  refine w_aload_n hx hb dX8_init_0 rfl (lv_at hl 0 rfl) ?_
  refine v_objInit hx hb hown (hts _ kw89) (hts _ kw66) (hts _ kw67) (hl.1.trans hml.symm) dX8_init_1 (Nat.le_of_ble_eq_true rfl) (Nat.le_of_ble_eq_true rfl) ?_
  refine w_aload_n hx hb dX8_init_4 rfl (lv_at hl 0 rfl) ?_
  refine w_bipush (v := 10) hx hb dX8_init_5 (by decide) ?_
  obtain ⟨M1, eM1, h⟩ := v_bnd h
  refine u_anew (x := 10) hx hb hK hown (hts _ kw90) (va_AO.use (hSS.2.2.2.2.2.2.2.2.2.2.1 0 _ rfl)) (by decide) (by decide) rfl (by decide) (by decide) hb0 hz0 hs0 rfl rfl eM1 dX8_init_7 ?_
  obtain ⟨M2, eM2, h⟩ := v_bnd h
  refine v_putf (ci := 9) hx hb hts iwX8 hown hK tyX8_ok nmX8 0 eM2 rfl (by decide) (Or.inl (hts _ kw92)) (fun _ h9 => h9) (Or.inr ⟨rfl, hnm, rfl, (hts _ kw92)⟩) rfl rfl dX8_init_10 ?_
  obtain ⟨g9, h⟩ := v_ifs h
  refine v_tight hb0 (vV.widen (n' := 1) (k' := 10) (by omega) (by omega) ?_)
  obtain rfl := Option.some.inj h
  rw [hQ]
  exact v_vret hx hb hr hlk dX8_init_13

def tX8_remember_J28 (n0 s0 : Nat) (x0 : Nat) (x1 : Nat) (Mj : vMe) : Option (Unit × vMe) :=
  (gA Mj x0 10 0).bind fun a10 =>
  (gI Mj x0 10 1).bind fun v11 =>
  (aA Mj a10 106 v11).bind fun a12 =>
  if Mj.2.1 + 0 ≤ n0 + 50 ∧ Mj.2.2.1 + 0 ≤ s0 + 2001 then
  (if (Mj.1 a12).1 = 8 then
  ((tX5_copyFrom a12 x1 Mj).bind fun z13 =>
  (gI z13.2 x0 10 1).bind fun v14 =>
  (sV z13.2 x0 10 1 (.int ((v14 + 1) - (v14 + 1) / 10 * 10))).bind fun M15 =>
  (gI M15 x0 10 2).bind fun v16 =>
  if M15.2.1 ≤ n0 + 50 ∧ M15.2.2.1 ≤ s0 + 2001 then
  ((sV M15 x0 10 2 (.int (if 10 < (v16 + 1) then 10 else v16 + 1))).bind fun M17 =>
  if M17.2.1 ≤ n0 + 50 ∧ M17.2.2.1 ≤ s0 + 2001 then some ((), M17) else none)
else none)
else none)
else none
def tX8_remember (G : Nat → Nat) (x0 : Nat) (x1 : Nat) (M : vMe) : Option (Unit × vMe) :=
  (gA M x0 10 0).bind fun a1 =>
  (gI M x0 10 1).bind fun v2 =>
  (aR M a1 106 v2).bind fun a3 =>
  if a3 = none then
  ((gA M x0 10 0).bind fun a5 =>
  (gI M x0 10 1).bind fun v6 =>
  (nwO M 8 0 9 (vp_V [.null, .null, .null, .int 0, .int 0, .int 0, .int 0, .int 0, .int 0]) M.2.1 M.2.2.1 50 2001).bind fun M7 =>
  if M7.2.1 + 49 ≤ M.2.1 + 50 ∧ M7.2.2.1 + 1992 ≤ M.2.2.1 + 2001 then
  ((tX5_init G M.2.1 M7).bind fun z8 =>
  (sQ z8.2 a5 106 v6 M.2.1 8).bind fun M9 =>
  tX8_remember_J28 M.2.1 M.2.2.1 x0 x1 M9)
else none)
else
  (tX8_remember_J28 M.2.1 M.2.2.1 x0 x1 M)
def rmX8_remember : Room := { frames := 4, cells := 50, slots := 2001, locals := 124 }
set_option maxHeartbeats 4000000 in
set_option maxRecDepth 100000 in
theorem mX8_remember (l : Launch) (hfl : l.stackTraces = false) (D : vD) (x0 : Nat) (x1 : Nat) (M : vMe) (z : (Unit × vMe)) (h : tX8_remember D.2.2.2.2 x0 x1 M = some z) : Met l yX8_remember (Cond.code yX8_remember cX8_remember 2 none :: TB) rmX8_remember (va_Pc [.ref x0, .ref x1] (vPre D M)) (qW D none z.2) 50 2001 (vA D) := by
  refine v_ofW (cc := cX8_remember) (maxL := 2) (ret := none) (by decide) (Nat.le_of_ble_eq_true rfl) ?_
  intro p e s m args below meth c Q hx hb hr hml hown hts hlk hnm hSS hR0 hQ ls hl
  have hz0 := hR0.2.1
  have hs0 := hR0.2.2.1
  have hb0 : D.2.2.2.1 ≤ s.heap.size := hR0.2.2.2.2.1
  refine v_tight hb0 ?_
  have hK := hSS.1
  have hl : lv_has ls 2 [(0, .ref x0), (1, .ref x1)] := hl
  unfold tX8_remember at h
  have X8_remember_J28p : ∀ (x0 : Nat) (x1 : Nat) (Mj : vMe) (ls : Array Slot), lv_has ls 2 [(0, .ref x0), (1, .ref x1)] → tX8_remember_J28 M.2.1 M.2.2.1 x0 x1 Mj = some z → vV D p l e rmX8_remember s m args below meth c (Mj.2.1 - s.heap.size) (Mj.2.2.1 - vSum D.2.2.2.1 s.heap) Q Mj (F0 m 28 ls []) := by
    intro x0 x1 Mj ls hl h
    unfold tX8_remember_J28 at h
    refine w_aload_n hx hb dX8_remember_28 rfl (lv_at hl 0 rfl) ?_
    obtain ⟨a10, ea10, h⟩ := v_bnd h
    refine v_gA (ci := 9) hx hb hts iwX8 hown hK 0 ea10 rfl (by decide) (Or.inl (hts _ kw92)) (fun _ h9 => h9) dX8_remember_29 ?_
    refine w_aload_n hx hb dX8_remember_32 rfl (lv_at hl 0 rfl) ?_
    obtain ⟨v11, ev11, h⟩ := v_bnd h
    refine v_gI (ci := 9) hx hb hts iwX8 hown hK 1 ev11 rfl (by decide) (Or.inl (hts _ kw93)) (fun _ h9 => h9) dX8_remember_33 ?_
    obtain ⟨a12, ea12, h⟩ := v_bnd h
    refine v_aaldA hx hb hK ea12 (by decide) dX8_remember_36 ?_
    refine w_aload_n hx hb dX8_remember_37 rfl (lv_at hl 1 rfl) ?_
    obtain ⟨g7, h⟩ := v_ifs h
    refine v_tight hb0 ?_
    obtain ⟨g8, h⟩ := v_ifs h
    obtain ⟨z13, ez13, h⟩ := v_bnd h
    refine v_call0 (M1 := z13.2) (mc := 0) (ms := 0) (fun H locs hR hS => va_runV (As := [.ref x1]) (rest := []) ⟨hx, hb, hml, hown, hts⟩ (mX5_copyFrom l hfl D a12 x1 Mj z13 ez13) (cwV 1 hts (gdV kw1068 kw1069 kw1070 kw31 kw1071) rfl rfl rfl (by decide +kernel) ⟨Nat.le_of_ble_eq_true rfl, Nat.le_of_ble_eq_true rfl⟩) (v_preV (ci := 7) hSS hR hS g8 (by decide) rfl [.ref x1]) rfl rfl hl.1 rfl (lv_room (Nat.le_of_ble_eq_true rfl)) dX8_remember_38 ⟨by show _ + _ ≤ 50; omega, by show _ + _ ≤ 2001; omega⟩) ?_
    refine w_aload_n hx hb dX8_remember_41 rfl (lv_at hl 0 rfl) ?_
    refine w_aload_n hx hb dX8_remember_42 rfl (lv_at hl 0 rfl) ?_
    obtain ⟨v14, ev14, h⟩ := v_bnd h
    refine v_gI (ci := 9) hx hb hts iwX8 hown hK 1 ev14 rfl (by decide) (Or.inl (hts _ kw93)) (fun _ h9 => h9) dX8_remember_43 ?_
    refine w_iconst (v := 1) hx hb dX8_remember_46 (by decide) ?_
    refine w_iadd hx hb dX8_remember_47 ?_
    refine w_bipush (v := 10) hx hb dX8_remember_48 (by decide) ?_
    refine w_irem hx hb dX8_remember_50 (by decide) ?_
    obtain ⟨M15, eM15, h⟩ := v_bnd h
    refine v_putf (ci := 9) hx hb hts iwX8 hown hK tyX8_ok nmX8 1 eM15 rfl (by decide) (Or.inl (hts _ kw93)) (fun _ h9 => h9) (Or.inl rfl) rfl rfl dX8_remember_51 ?_
    refine w_aload_n hx hb dX8_remember_54 rfl (lv_at hl 0 rfl) ?_
    refine w_aload_n hx hb dX8_remember_55 rfl (lv_at hl 0 rfl) ?_
    obtain ⟨v16, ev16, h⟩ := v_bnd h
    refine v_gI (ci := 9) hx hb hts iwX8 hown hK 2 ev16 rfl (by decide) (Or.inl (hts _ kw94)) (fun _ h9 => h9) dX8_remember_56 ?_
    refine w_iconst (v := 1) hx hb dX8_remember_59 (by decide) ?_
    refine w_iadd hx hb dX8_remember_60 ?_
    refine w_bipush (v := 10) hx hb dX8_remember_61 (by decide) ?_
    obtain ⟨g9, h⟩ := v_ifs h
    refine v_tight hb0 ?_
    refine w_min hx hb (hml.trans hl.1.symm) hown (hts _ kw1086) (hts _ kw484) (hts _ kw42) (hts _ kw485) (Nat.le_of_ble_eq_true rfl) (Nat.le_of_ble_eq_true rfl) (by show _ ≤ 50; omega) (by show _ ≤ 2001; omega) dX8_remember_63 ?_
    obtain ⟨M17, eM17, h⟩ := v_bnd h
    refine v_putf (ci := 9) hx hb hts iwX8 hown hK tyX8_ok nmX8 2 eM17 rfl (by decide) (Or.inl (hts _ kw94)) (fun _ h9 => h9) (Or.inl rfl) rfl rfl dX8_remember_66 ?_
    obtain ⟨g9, h⟩ := v_ifs h
    refine v_tight hb0 (vV.widen (n' := 50) (k' := 2001) (by omega) (by omega) ?_)
    obtain rfl := Option.some.inj h
    rw [hQ]
    exact v_vret hx hb hr hlk dX8_remember_69
  refine w_aload_n hx hb dX8_remember_0 rfl (lv_at hl 0 rfl) ?_
  obtain ⟨a1, ea1, h⟩ := v_bnd h
  refine v_gA (ci := 9) hx hb hts iwX8 hown hK 0 ea1 rfl (by decide) (Or.inl (hts _ kw92)) (fun _ h9 => h9) dX8_remember_1 ?_
  refine w_aload_n hx hb dX8_remember_4 rfl (lv_at hl 0 rfl) ?_
  obtain ⟨v2, ev2, h⟩ := v_bnd h
  refine v_gI (ci := 9) hx hb hts iwX8 hown hK 1 ev2 rfl (by decide) (Or.inl (hts _ kw93)) (fun _ h9 => h9) dX8_remember_5 ?_
  obtain ⟨a3, ea3, h⟩ := v_bnd h
  refine v_aald hx hb hK ea3 (by decide) dX8_remember_8 ?_
  refine w_ifnonnull (tgt := 28) hx hb dX8_remember_9 (by decide) (fun c4 => ?_) (fun c4 => ?_)
  · rw [if_pos c4] at h
    refine w_aload_n hx hb dX8_remember_12 rfl (lv_at hl 0 rfl) ?_
    obtain ⟨a5, ea5, h⟩ := v_bnd h
    refine v_gA (ci := 9) hx hb hts iwX8 hown hK 0 ea5 rfl (by decide) (Or.inl (hts _ kw92)) (fun _ h9 => h9) dX8_remember_13 ?_
    refine w_aload_n hx hb dX8_remember_16 rfl (lv_at hl 0 rfl) ?_
    obtain ⟨v6, ev6, h⟩ := v_bnd h
    refine v_gI (ci := 9) hx hb hts iwX8 hown hK 1 ev6 rfl (by decide) (Or.inl (hts _ kw93)) (fun _ h9 => h9) dX8_remember_17 ?_
    obtain ⟨M7, eM7, h⟩ := v_bnd h
    refine u_new (ci := 7) (N := 9) hx hb hts iwX5 hown hK tyX5_ok rfl (hts _ kw90) (hts _ kw119) (hts _ kw31) (by decide) (by decide) (by decide) hb0 hz0 hs0 rfl rfl eM7 dX8_remember_20 ?_
    refine w_dup hx hb dX8_remember_23 rfl ?_
    obtain ⟨g7, h⟩ := v_ifs h
    refine v_tight hb0 ?_
    obtain ⟨z8, ez8, h⟩ := v_bnd h
    refine v_call0 (M1 := z8.2) (mc := 49) (ms := 1992) (fun H locs hR hS => va_runI (As := []) (rest := [.ref M.2.1, .int v6, .ref a5]) ⟨hx, hb, hml, hown, hts⟩ (mX5_init l hfl D M.2.1 M7 z8 ez8) (cwI 0 hts (gdI kw122) rfl rfl rfl (hts _ kw31) (hts _ kw1067) (hts _ kw121) rfl (by decide +kernel) ⟨Nat.le_of_ble_eq_true rfl, Nat.le_of_ble_eq_true rfl⟩) (v_preS hSS hR hS [.ref M.2.1]) rfl rfl hl.1 rfl (lv_room (Nat.le_of_ble_eq_true rfl)) dX8_remember_24 ⟨by show _ + _ ≤ 50; omega, by show _ + _ ≤ 2001; omega⟩) ?_
    obtain ⟨M9, eM9, h⟩ := v_bnd h
    refine v_aast (ci := 7) hx hb hK eM9 (by decide) rfl dX8_remember_27 ?_
    refine v_tight hb0 ?_
    exact X8_remember_J28p x0 x1 M9 ls (lv_sub hl [0, 1] rfl) h
  · rw [if_neg c4] at h
    refine v_tight hb0 ?_
    exact X8_remember_J28p x0 x1 M ls (lv_sub hl [0, 1] rfl) h

def tX8_forgetAll (x0 : Nat) (M : vMe) : Option (Unit × vMe) :=
  (sV M x0 10 2 (.int 0)).bind fun M1 =>
  some ((), M1)
def rmX8_forgetAll : Room := { frames := 1, cells := 0, slots := 0, locals := 0 }
set_option maxHeartbeats 4000000 in
set_option maxRecDepth 100000 in
theorem mX8_forgetAll (l : Launch) (hfl : l.stackTraces = false) (D : vD) (x0 : Nat) (M : vMe) (z : (Unit × vMe)) (h : tX8_forgetAll x0 M = some z) : Met l yX8_forgetAll (Cond.code yX8_forgetAll cX8_forgetAll 1 none :: TB) rmX8_forgetAll (va_Pc [.ref x0] (vPre D M)) (qW D none z.2) 0 0 (vA D) := by
  refine v_ofW (cc := cX8_forgetAll) (maxL := 1) (ret := none) (by decide) (Nat.le_of_ble_eq_true rfl) ?_
  intro p e s m args below meth c Q hx hb hr hml hown hts hlk hnm hSS hR0 hQ ls hl
  have hK := hSS.1
  have hl : lv_has ls 1 [(0, .ref x0)] := hl
  unfold tX8_forgetAll at h
  refine w_aload_n hx hb dX8_forgetAll_0 rfl (lv_at hl 0 rfl) ?_
  refine w_iconst (v := 0) hx hb dX8_forgetAll_1 (by decide) ?_
  obtain ⟨M1, eM1, h⟩ := v_bnd h
  refine v_putf (ci := 9) hx hb hts iwX8 hown hK tyX8_ok nmX8 2 eM1 rfl (by decide) (Or.inl (hts _ kw94)) (fun _ h9 => h9) (Or.inl rfl) rfl rfl dX8_forgetAll_2 ?_
  obtain rfl := Option.some.inj h
  rw [hQ]
  exact v_vret hx hb hr hlk dX8_forgetAll_5

def tX9_init (G : Nat → Nat) (x0 : Nat) (M : vMe) : Option (Unit × vMe) :=
  (nwO M 4 0 2 (vp_V [.null, .int 0]) M.2.1 M.2.2.1 120 5000).bind fun M1 =>
  if M1.2.1 + 1 ≤ M.2.1 + 120 ∧ M1.2.2.1 + 600 ≤ M.2.2.1 + 5000 then
  ((tX1_init M.2.1 M1).bind fun z2 =>
  (sV z2.2 x0 11 0 (.ref M.2.1)).bind fun M3 =>
  (nwO M3 10 0 3 (vp_V [.null, .int 0, .int 0]) M.2.1 M.2.2.1 120 5000).bind fun M4 =>
  if M4.2.1 + 1 ≤ M.2.1 + 120 ∧ M4.2.2.1 + 10 ≤ M.2.2.1 + 5000 then
  ((tX8_init M3.2.1 M4).bind fun z5 =>
  (sV z5.2 x0 11 1 (.ref M3.2.1)).bind fun M6 =>
  (nwO M6 7 0 2 (vp_V [.null, .null]) M.2.1 M.2.2.1 120 5000).bind fun M7 =>
  if M7.2.1 + 2 ≤ M.2.1 + 120 ∧ M7.2.2.1 + 4 ≤ M.2.2.1 + 5000 then
  ((tX4_init M6.2.1 M7).bind fun z8 =>
  (sV z8.2 x0 11 2 (.ref M6.2.1)).bind fun M9 =>
  (nwO M9 8 0 9 (vp_V [.null, .null, .null, .int 0, .int 0, .int 0, .int 0, .int 0, .int 0]) M.2.1 M.2.2.1 120 5000).bind fun M10 =>
  if M10.2.1 + 49 ≤ M.2.1 + 120 ∧ M10.2.2.1 + 1992 ≤ M.2.2.1 + 5000 then
  ((tX5_init G M9.2.1 M10).bind fun z11 =>
  (sV z11.2 x0 11 3 (.ref M9.2.1)).bind fun M12 =>
  (nwO M12 8 0 9 (vp_V [.null, .null, .null, .int 0, .int 0, .int 0, .int 0, .int 0, .int 0]) M.2.1 M.2.2.1 120 5000).bind fun M13 =>
  if M13.2.1 + 49 ≤ M.2.1 + 120 ∧ M13.2.2.1 + 1992 ≤ M.2.2.1 + 5000 then
  ((tX5_init G M12.2.1 M13).bind fun z14 =>
  (sV z14.2 x0 11 4 (.ref M12.2.1)).bind fun M15 =>
  (sV M15 x0 11 5 (.int ((-1)))).bind fun M16 =>
  (gA M16 x0 11 3).bind fun a17 =>
  if M16.2.1 + 0 ≤ M.2.1 + 120 ∧ M16.2.2.1 + 0 ≤ M.2.2.1 + 5000 then
  (if (M16.1 a17).1 = 8 then
  ((tX5_begin a17 1 1 M16).bind fun z18 =>
  if z18.2.2.1 ≤ M.2.1 + 120 ∧ z18.2.2.2.1 ≤ M.2.2.1 + 5000 then some ((), z18.2) else none)
else none)
else none)
else none)
else none)
else none)
else none)
else none
def rmX9_init : Room := { frames := 4, cells := 120, slots := 5000, locals := 121 }
set_option maxHeartbeats 4000000 in
set_option maxRecDepth 100000 in
theorem mX9_init (l : Launch) (hfl : l.stackTraces = false) (D : vD) (x0 : Nat) (M : vMe) (z : (Unit × vMe)) (h : tX9_init D.2.2.2.2 x0 M = some z) : Met l yX9_init (Cond.code yX9_init cX9_init 1 none :: TB) rmX9_init (va_Pc [.ref x0] (vPre D M)) (qW D none z.2) 120 5000 (vA D) := by
  refine v_ofW (cc := cX9_init) (maxL := 1) (ret := none) (by decide) (Nat.le_of_ble_eq_true rfl) ?_
  intro p e s m args below meth c Q hx hb hr hml hown hts hlk hnm hSS hR0 hQ ls hl
  have hz0 := hR0.2.1
  have hs0 := hR0.2.2.1
  have hb0 : D.2.2.2.1 ≤ s.heap.size := hR0.2.2.2.2.1
  refine v_tight hb0 ?_
  have hK := hSS.1
  have hl : lv_has ls 1 [(0, .ref x0)] := hl
  unfold tX9_init at h
  refine w_aload_n hx hb dX9_init_0 rfl (lv_at hl 0 rfl) ?_
  refine v_objInit hx hb hown (hts _ kw65) (hts _ kw66) (hts _ kw67) (hl.1.trans hml.symm) dX9_init_1 (Nat.le_of_ble_eq_true rfl) (Nat.le_of_ble_eq_true rfl) ?_
  refine w_aload_n hx hb dX9_init_4 rfl (lv_at hl 0 rfl) ?_
  obtain ⟨M1, eM1, h⟩ := v_bnd h
  refine u_new (ci := 3) (N := 2) hx hb hts iwX1 hown hK tyX1_ok rfl (hts _ kw68) (hts _ kw69) (hts _ kw28) (by decide) (by decide) (by decide) hb0 hz0 hs0 rfl rfl eM1 dX9_init_5 ?_
  refine w_dup hx hb dX9_init_8 rfl ?_
  obtain ⟨g7, h⟩ := v_ifs h
  refine v_tight hb0 ?_
  obtain ⟨z2, ez2, h⟩ := v_bnd h
  refine v_call0 (M1 := z2.2) (mc := 1) (ms := 600) (fun H locs hR hS => va_runIN (As := []) (rest := [.ref M.2.1, .ref x0]) ⟨hx, hb, hml, hown, hts⟩ (mX1_init l hfl D M.2.1 M1 z2 ez2) ⟨va_cnB 0 hts (gdI kw72) rfl rfl rfl (km0 hSS) (hts _ kw28) (by decide +kernel) ⟨Nat.le_of_ble_eq_true rfl, Nat.le_of_ble_eq_true rfl⟩, rfl, (hts _ kw71)⟩ (v_preS hSS hR hS [.ref M.2.1]) rfl rfl hl.1 rfl (lv_room (Nat.le_of_ble_eq_true rfl)) dX9_init_9 ⟨by show _ + _ ≤ 120; omega, by show _ + _ ≤ 5000; omega⟩) ?_
  obtain ⟨M3, eM3, h⟩ := v_bnd h
  refine v_putf (ci := 10) hx hb hts iwX9 hown hK tyX9_ok nmX9 0 eM3 rfl (by decide) (Or.inl (hts _ kw289)) (fun _ h9 => h9) (Or.inr ⟨rfl, hnm, rfl, (hts _ kw289)⟩) rfl rfl dX9_init_12 ?_
  refine w_aload_n hx hb dX9_init_15 rfl (lv_at hl 0 rfl) ?_
  obtain ⟨M4, eM4, h⟩ := v_bnd h
  refine u_new (ci := 9) (N := 3) hx hb hts iwX8 hown hK tyX8_ok rfl (hts _ kw84) (hts _ kw85) (hts _ kw29) (by decide) (by decide) (by decide) hb0 hz0 hs0 rfl rfl eM4 dX9_init_16 ?_
  refine w_dup hx hb dX9_init_19 rfl ?_
  obtain ⟨g7, h⟩ := v_ifs h
  refine v_tight hb0 ?_
  obtain ⟨z5, ez5, h⟩ := v_bnd h
  refine v_call0 (M1 := z5.2) (mc := 1) (ms := 10) (fun H locs hR hS => va_runIN (As := []) (rest := [.ref M3.2.1, .ref x0]) ⟨hx, hb, hml, hown, hts⟩ (mX8_init l hfl D M3.2.1 M4 z5 ez5) ⟨va_cnB 0 hts (gdI kw88) rfl rfl rfl (km1 hSS) (hts _ kw29) (by decide +kernel) ⟨Nat.le_of_ble_eq_true rfl, Nat.le_of_ble_eq_true rfl⟩, rfl, (hts _ kw87)⟩ (v_preS hSS hR hS [.ref M3.2.1]) rfl rfl hl.1 rfl (lv_room (Nat.le_of_ble_eq_true rfl)) dX9_init_20 ⟨by show _ + _ ≤ 120; omega, by show _ + _ ≤ 5000; omega⟩) ?_
  obtain ⟨M6, eM6, h⟩ := v_bnd h
  refine v_putf (ci := 10) hx hb hts iwX9 hown hK tyX9_ok nmX9 1 eM6 rfl (by decide) (Or.inl (hts _ kw290)) (fun _ h9 => h9) (Or.inr ⟨rfl, hnm, rfl, (hts _ kw290)⟩) rfl rfl dX9_init_23 ?_
  refine w_aload_n hx hb dX9_init_26 rfl (lv_at hl 0 rfl) ?_
  obtain ⟨M7, eM7, h⟩ := v_bnd h
  refine u_new (ci := 6) (N := 2) hx hb hts iwX4 hown hK tyX4_ok rfl (hts _ kw103) (hts _ kw104) (hts _ kw30) (by decide) (by decide) (by decide) hb0 hz0 hs0 rfl rfl eM7 dX9_init_27 ?_
  refine w_dup hx hb dX9_init_30 rfl ?_
  obtain ⟨g7, h⟩ := v_ifs h
  refine v_tight hb0 ?_
  obtain ⟨z8, ez8, h⟩ := v_bnd h
  refine v_call0 (M1 := z8.2) (mc := 2) (ms := 4) (fun H locs hR hS => va_runIN (As := []) (rest := [.ref M6.2.1, .ref x0]) ⟨hx, hb, hml, hown, hts⟩ (mX4_init l hfl D M6.2.1 M7 z8 ez8) ⟨va_cnB 0 hts (gdI kw107) rfl rfl rfl (km2 hSS) (hts _ kw30) (by decide +kernel) ⟨Nat.le_of_ble_eq_true rfl, Nat.le_of_ble_eq_true rfl⟩, rfl, (hts _ kw106)⟩ (v_preS hSS hR hS [.ref M6.2.1]) rfl rfl hl.1 rfl (lv_room (Nat.le_of_ble_eq_true rfl)) dX9_init_31 ⟨by show _ + _ ≤ 120; omega, by show _ + _ ≤ 5000; omega⟩) ?_
  obtain ⟨M9, eM9, h⟩ := v_bnd h
  refine v_putf (ci := 10) hx hb hts iwX9 hown hK tyX9_ok nmX9 2 eM9 rfl (by decide) (Or.inl (hts _ kw291)) (fun _ h9 => h9) (Or.inr ⟨rfl, hnm, rfl, (hts _ kw291)⟩) rfl rfl dX9_init_34 ?_
  refine w_aload_n hx hb dX9_init_37 rfl (lv_at hl 0 rfl) ?_
  obtain ⟨M10, eM10, h⟩ := v_bnd h
  refine u_new (ci := 7) (N := 9) hx hb hts iwX5 hown hK tyX5_ok rfl (hts _ kw118) (hts _ kw119) (hts _ kw31) (by decide) (by decide) (by decide) hb0 hz0 hs0 rfl rfl eM10 dX9_init_38 ?_
  refine w_dup hx hb dX9_init_41 rfl ?_
  obtain ⟨g7, h⟩ := v_ifs h
  refine v_tight hb0 ?_
  obtain ⟨z11, ez11, h⟩ := v_bnd h
  refine v_call0 (M1 := z11.2) (mc := 49) (ms := 1992) (fun H locs hR hS => va_runI (As := []) (rest := [.ref M9.2.1, .ref x0]) ⟨hx, hb, hml, hown, hts⟩ (mX5_init l hfl D M9.2.1 M10 z11 ez11) (cwI 0 hts (gdI kw122) rfl rfl rfl (hts _ kw31) (hts _ kw120) (hts _ kw121) rfl (by decide +kernel) ⟨Nat.le_of_ble_eq_true rfl, Nat.le_of_ble_eq_true rfl⟩) (v_preS hSS hR hS [.ref M9.2.1]) rfl rfl hl.1 rfl (lv_room (Nat.le_of_ble_eq_true rfl)) dX9_init_42 ⟨by show _ + _ ≤ 120; omega, by show _ + _ ≤ 5000; omega⟩) ?_
  obtain ⟨M12, eM12, h⟩ := v_bnd h
  refine v_putf (ci := 10) hx hb hts iwX9 hown hK tyX9_ok nmX9 3 eM12 rfl (by decide) (Or.inl (hts _ kw292)) (fun _ h9 => h9) (Or.inl rfl) rfl rfl dX9_init_45 ?_
  refine w_aload_n hx hb dX9_init_48 rfl (lv_at hl 0 rfl) ?_
  obtain ⟨M13, eM13, h⟩ := v_bnd h
  refine u_new (ci := 7) (N := 9) hx hb hts iwX5 hown hK tyX5_ok rfl (hts _ kw118) (hts _ kw119) (hts _ kw31) (by decide) (by decide) (by decide) hb0 hz0 hs0 rfl rfl eM13 dX9_init_49 ?_
  refine w_dup hx hb dX9_init_52 rfl ?_
  obtain ⟨g7, h⟩ := v_ifs h
  refine v_tight hb0 ?_
  obtain ⟨z14, ez14, h⟩ := v_bnd h
  refine v_call0 (M1 := z14.2) (mc := 49) (ms := 1992) (fun H locs hR hS => va_runI (As := []) (rest := [.ref M12.2.1, .ref x0]) ⟨hx, hb, hml, hown, hts⟩ (mX5_init l hfl D M12.2.1 M13 z14 ez14) (cwI 0 hts (gdI kw122) rfl rfl rfl (hts _ kw31) (hts _ kw120) (hts _ kw121) rfl (by decide +kernel) ⟨Nat.le_of_ble_eq_true rfl, Nat.le_of_ble_eq_true rfl⟩) (v_preS hSS hR hS [.ref M12.2.1]) rfl rfl hl.1 rfl (lv_room (Nat.le_of_ble_eq_true rfl)) dX9_init_53 ⟨by show _ + _ ≤ 120; omega, by show _ + _ ≤ 5000; omega⟩) ?_
  obtain ⟨M15, eM15, h⟩ := v_bnd h
  refine v_putf (ci := 10) hx hb hts iwX9 hown hK tyX9_ok nmX9 4 eM15 rfl (by decide) (Or.inl (hts _ kw293)) (fun _ h9 => h9) (Or.inl rfl) rfl rfl dX9_init_56 ?_
  refine w_aload_n hx hb dX9_init_59 rfl (lv_at hl 0 rfl) ?_
  refine w_iconst (v := (-1)) hx hb dX9_init_60 (by decide) ?_
  obtain ⟨M16, eM16, h⟩ := v_bnd h
  refine v_putf (ci := 10) hx hb hts iwX9 hown hK tyX9_ok nmX9 5 eM16 rfl (by decide) (Or.inl (hts _ kw294)) (fun _ h9 => h9) (Or.inl rfl) rfl rfl dX9_init_61 ?_
  refine w_aload_n hx hb dX9_init_64 rfl (lv_at hl 0 rfl) ?_
  obtain ⟨a17, ea17, h⟩ := v_bnd h
  refine v_gA (ci := 10) hx hb hts iwX9 hown hK 3 ea17 rfl (by decide) (Or.inl (hts _ kw292)) (fun _ h9 => h9) dX9_init_65 ?_
  refine w_iconst (v := 1) hx hb dX9_init_68 (by decide) ?_
  refine w_iconst (v := 1) hx hb dX9_init_69 (by decide) ?_
  obtain ⟨g7, h⟩ := v_ifs h
  refine v_tight hb0 ?_
  obtain ⟨g8, h⟩ := v_ifs h
  obtain ⟨z18, ez18, h⟩ := v_bnd h
  refine v_call0 (M1 := z18.2) (mc := 0) (ms := 0) (fun H locs hR hS => va_runV (As := [.int 1, .int 1]) (rest := []) ⟨hx, hb, hml, hown, hts⟩ (mX5_begin l hfl D a17 1 1 M16 z18 ez18) (cwV 2 hts (gdV kw285 kw286 kw287 kw31 kw288) rfl rfl rfl (by decide +kernel) ⟨Nat.le_of_ble_eq_true rfl, Nat.le_of_ble_eq_true rfl⟩) (v_preV (ci := 7) hSS hR hS g8 (by decide) rfl [.int 1, .int 1]) rfl rfl hl.1 rfl (lv_room (Nat.le_of_ble_eq_true rfl)) dX9_init_70 ⟨by show _ + _ ≤ 120; omega, by show _ + _ ≤ 5000; omega⟩) ?_
  obtain ⟨g9, h⟩ := v_ifs h
  refine v_tight hb0 (vV.widen (n' := 120) (k' := 5000) (by omega) (by omega) ?_)
  obtain rfl := Option.some.inj h
  rw [hQ]
  exact v_vret hx hb hr hlk dX9_init_73

def tX9_append (x0 : Nat) (x1 : Int32) (x2 : Int32) (x3 : Int32) (x4 : Int32) (x5 : Int32) (M : vMe) : Option (Int32 × vMe) :=
  (gA M x0 11 0).bind fun a1 =>
  (gI M a1 4 1).bind fun v2 =>
  if (v2 + 20) ≤ (600 : Int32) then
  ((gA M x0 11 0).bind fun a4 =>
  if (M.1 a4).1 = 4 then
  ((tX1_takeFourBytes a4 x1 M).bind fun z5 =>
  (gA z5.2 x0 11 0).bind fun a6 =>
  if (z5.2.1 a6).1 = 4 then
  ((tX1_takeFourBytes a6 x2 z5.2).bind fun z7 =>
  (gA z7.2 x0 11 0).bind fun a8 =>
  if (z7.2.1 a8).1 = 4 then
  ((tX1_takeFourBytes a8 x3 z7.2).bind fun z9 =>
  (gA z9.2 x0 11 0).bind fun a10 =>
  if (z9.2.1 a10).1 = 4 then
  ((tX1_takeFourBytes a10 x4 z9.2).bind fun z11 =>
  (gA z11.2 x0 11 0).bind fun a12 =>
  if (z11.2.1 a12).1 = 4 then
  ((tX1_takeFourBytes a12 x5 z11.2).bind fun z13 =>
  (gA z13.2 x0 11 0).bind fun a14 =>
  (gI z13.2 a14 4 1).bind fun v15 =>
  some (v15, z13.2))
else none)
else none)
else none)
else none)
else none)
else
  (some ((-1), M))
def rmX9_append : Room := { frames := 2, cells := 0, slots := 0, locals := 22 }
set_option maxHeartbeats 4000000 in
set_option maxRecDepth 100000 in
theorem mX9_append (l : Launch) (hfl : l.stackTraces = false) (D : vD) (x0 : Nat) (x1 : Int32) (x2 : Int32) (x3 : Int32) (x4 : Int32) (x5 : Int32) (M : vMe) (z : (Int32 × vMe)) (h : tX9_append x0 x1 x2 x3 x4 x5 M = some z) : Met l yX9_append (Cond.code yX9_append cX9_append 6 (some .int) :: TB) rmX9_append (va_Pc [.ref x0, .int x1, .int x2, .int x3, .int x4, .int x5] (vPre D M)) (qW D (some (.int z.1)) z.2) 0 0 (vA D) := by
  refine v_ofW (cc := cX9_append) (maxL := 6) (ret := (some .int)) (by decide) (Nat.le_of_ble_eq_true rfl) ?_
  intro p e s m args below meth c Q hx hb hr hml hown hts hlk hnm hSS hR0 hQ ls hl
  have hK := hSS.1
  have hl : lv_has ls 6 [(0, .ref x0), (1, .int x1), (2, .int x2), (3, .int x3), (4, .int x4), (5, .int x5)] := hl
  unfold tX9_append at h
  refine w_aload_n hx hb dX9_append_0 rfl (lv_at hl 0 rfl) ?_
  obtain ⟨a1, ea1, h⟩ := v_bnd h
  refine v_gA (ci := 10) hx hb hts iwX9 hown hK 0 ea1 rfl (by decide) (Or.inl (hts _ kw289)) (fun _ h9 => h9) dX9_append_1 ?_
  obtain ⟨v2, ev2, h⟩ := v_bnd h
  refine v_gI (ci := 3) hx hb hts iwX1 hown hK 1 ev2 rfl (by decide) (Or.inr ⟨_, kn1 hSS _⟩) (fun _ h9 => h9) dX9_append_4 ?_
  refine w_bipush (v := 20) hx hb dX9_append_7 (by decide) ?_
  refine w_iadd hx hb dX9_append_9 ?_
  refine w_sipush (v := 600) hx hb dX9_append_10 (by decide) ?_
  refine w_icmp_le (tgt := 18) hx hb dX9_append_13 (by decide) (fun c3 => ?_) (fun c3 => ?_)
  · rw [if_pos c3] at h
    refine w_aload_n hx hb dX9_append_18 rfl (lv_at hl 0 rfl) ?_
    obtain ⟨a4, ea4, h⟩ := v_bnd h
    refine v_gA (ci := 10) hx hb hts iwX9 hown hK 0 ea4 rfl (by decide) (Or.inl (hts _ kw289)) (fun _ h9 => h9) dX9_append_19 ?_
    refine w_iload_n hx hb dX9_append_22 rfl (lv_at hl 1 rfl) ?_
    obtain ⟨g8, h⟩ := v_ifs h
    obtain ⟨z5, ez5, h⟩ := v_bnd h
    refine v_call0 (M1 := z5.2) (mc := 0) (ms := 0) (fun H locs hR hS => va_runV (As := [.int x1]) (rest := []) ⟨hx, hb, hml, hown, hts⟩ (mX1_takeFourBytes l hfl D a4 x1 M z5 ez5) (cwV 1 hts (gdV kw734 kw735 kw736 kw28 kw737) rfl rfl rfl (by decide +kernel) ⟨Nat.le_of_ble_eq_true rfl, Nat.le_of_ble_eq_true rfl⟩) (v_preV (ci := 3) hSS hR hS g8 (by decide) rfl [.int x1]) rfl rfl hl.1 rfl (lv_room (Nat.le_of_ble_eq_true rfl)) dX9_append_23 ⟨Nat.zero_le _, Nat.zero_le _⟩) ?_
    refine w_aload_n hx hb dX9_append_26 rfl (lv_at hl 0 rfl) ?_
    obtain ⟨a6, ea6, h⟩ := v_bnd h
    refine v_gA (ci := 10) hx hb hts iwX9 hown hK 0 ea6 rfl (by decide) (Or.inl (hts _ kw289)) (fun _ h9 => h9) dX9_append_27 ?_
    refine w_iload_n hx hb dX9_append_30 rfl (lv_at hl 2 rfl) ?_
    obtain ⟨g8, h⟩ := v_ifs h
    obtain ⟨z7, ez7, h⟩ := v_bnd h
    refine v_call0 (M1 := z7.2) (mc := 0) (ms := 0) (fun H locs hR hS => va_runV (As := [.int x2]) (rest := []) ⟨hx, hb, hml, hown, hts⟩ (mX1_takeFourBytes l hfl D a6 x2 z5.2 z7 ez7) (cwV 1 hts (gdV kw734 kw735 kw736 kw28 kw737) rfl rfl rfl (by decide +kernel) ⟨Nat.le_of_ble_eq_true rfl, Nat.le_of_ble_eq_true rfl⟩) (v_preV (ci := 3) hSS hR hS g8 (by decide) rfl [.int x2]) rfl rfl hl.1 rfl (lv_room (Nat.le_of_ble_eq_true rfl)) dX9_append_31 ⟨Nat.zero_le _, Nat.zero_le _⟩) ?_
    refine w_aload_n hx hb dX9_append_34 rfl (lv_at hl 0 rfl) ?_
    obtain ⟨a8, ea8, h⟩ := v_bnd h
    refine v_gA (ci := 10) hx hb hts iwX9 hown hK 0 ea8 rfl (by decide) (Or.inl (hts _ kw289)) (fun _ h9 => h9) dX9_append_35 ?_
    refine w_iload_n hx hb dX9_append_38 rfl (lv_at hl 3 rfl) ?_
    obtain ⟨g8, h⟩ := v_ifs h
    obtain ⟨z9, ez9, h⟩ := v_bnd h
    refine v_call0 (M1 := z9.2) (mc := 0) (ms := 0) (fun H locs hR hS => va_runV (As := [.int x3]) (rest := []) ⟨hx, hb, hml, hown, hts⟩ (mX1_takeFourBytes l hfl D a8 x3 z7.2 z9 ez9) (cwV 1 hts (gdV kw734 kw735 kw736 kw28 kw737) rfl rfl rfl (by decide +kernel) ⟨Nat.le_of_ble_eq_true rfl, Nat.le_of_ble_eq_true rfl⟩) (v_preV (ci := 3) hSS hR hS g8 (by decide) rfl [.int x3]) rfl rfl hl.1 rfl (lv_room (Nat.le_of_ble_eq_true rfl)) dX9_append_39 ⟨Nat.zero_le _, Nat.zero_le _⟩) ?_
    refine w_aload_n hx hb dX9_append_42 rfl (lv_at hl 0 rfl) ?_
    obtain ⟨a10, ea10, h⟩ := v_bnd h
    refine v_gA (ci := 10) hx hb hts iwX9 hown hK 0 ea10 rfl (by decide) (Or.inl (hts _ kw289)) (fun _ h9 => h9) dX9_append_43 ?_
    refine w_iload hx hb dX9_append_46 (lv_at hl 4 rfl) ?_
    obtain ⟨g8, h⟩ := v_ifs h
    obtain ⟨z11, ez11, h⟩ := v_bnd h
    refine v_call0 (M1 := z11.2) (mc := 0) (ms := 0) (fun H locs hR hS => va_runV (As := [.int x4]) (rest := []) ⟨hx, hb, hml, hown, hts⟩ (mX1_takeFourBytes l hfl D a10 x4 z9.2 z11 ez11) (cwV 1 hts (gdV kw734 kw735 kw736 kw28 kw737) rfl rfl rfl (by decide +kernel) ⟨Nat.le_of_ble_eq_true rfl, Nat.le_of_ble_eq_true rfl⟩) (v_preV (ci := 3) hSS hR hS g8 (by decide) rfl [.int x4]) rfl rfl hl.1 rfl (lv_room (Nat.le_of_ble_eq_true rfl)) dX9_append_48 ⟨Nat.zero_le _, Nat.zero_le _⟩) ?_
    refine w_aload_n hx hb dX9_append_51 rfl (lv_at hl 0 rfl) ?_
    obtain ⟨a12, ea12, h⟩ := v_bnd h
    refine v_gA (ci := 10) hx hb hts iwX9 hown hK 0 ea12 rfl (by decide) (Or.inl (hts _ kw289)) (fun _ h9 => h9) dX9_append_52 ?_
    refine w_iload hx hb dX9_append_55 (lv_at hl 5 rfl) ?_
    obtain ⟨g8, h⟩ := v_ifs h
    obtain ⟨z13, ez13, h⟩ := v_bnd h
    refine v_call0 (M1 := z13.2) (mc := 0) (ms := 0) (fun H locs hR hS => va_runV (As := [.int x5]) (rest := []) ⟨hx, hb, hml, hown, hts⟩ (mX1_takeFourBytes l hfl D a12 x5 z11.2 z13 ez13) (cwV 1 hts (gdV kw734 kw735 kw736 kw28 kw737) rfl rfl rfl (by decide +kernel) ⟨Nat.le_of_ble_eq_true rfl, Nat.le_of_ble_eq_true rfl⟩) (v_preV (ci := 3) hSS hR hS g8 (by decide) rfl [.int x5]) rfl rfl hl.1 rfl (lv_room (Nat.le_of_ble_eq_true rfl)) dX9_append_57 ⟨Nat.zero_le _, Nat.zero_le _⟩) ?_
    refine w_aload_n hx hb dX9_append_60 rfl (lv_at hl 0 rfl) ?_
    obtain ⟨a14, ea14, h⟩ := v_bnd h
    refine v_gA (ci := 10) hx hb hts iwX9 hown hK 0 ea14 rfl (by decide) (Or.inl (hts _ kw289)) (fun _ h9 => h9) dX9_append_61 ?_
    obtain ⟨v15, ev15, h⟩ := v_bnd h
    refine v_gI (ci := 3) hx hb hts iwX1 hown hK 1 ev15 rfl (by decide) (Or.inr ⟨_, kn1 hSS _⟩) (fun _ h9 => h9) dX9_append_64 ?_
    obtain rfl := Option.some.inj h
    rw [hQ]
    exact v_iret hx hb hr hlk dX9_append_67
  · rw [if_neg c3] at h
    refine w_iconst (v := (-1)) hx hb dX9_append_16 (by decide) ?_
    obtain rfl := Option.some.inj h
    rw [hQ]
    exact v_iret hx hb hr hlk dX9_append_17

def tX9_beginWithDraft (x0 : Nat) (M : vMe) : Option (Unit × vMe) :=
  (gA M x0 11 3).bind fun a1 =>
  (gA M x0 11 4).bind fun a2 =>
  (sV M x0 11 3 (.ref a2)).bind fun M3 =>
  (sV M3 x0 11 4 (.ref a1)).bind fun M4 =>
  (gA M4 x0 11 1).bind fun a5 =>
  if (M4.1 a5).1 = 10 then
  ((tX8_forgetAll a5 M4).bind fun z6 =>
  (gA z6.2 x0 11 2).bind fun a7 =>
  if (z6.2.1 a7).1 = 7 then
  ((tX4_emptyAll a7 z6.2).bind fun z8 =>
  some ((), z8.2))
else none)
else none
def rmX9_beginWithDraft : Room := { frames := 2, cells := 0, slots := 0, locals := 21 }
set_option maxHeartbeats 4000000 in
set_option maxRecDepth 100000 in
theorem mX9_beginWithDraft (l : Launch) (hfl : l.stackTraces = false) (D : vD) (x0 : Nat) (M : vMe) (z : (Unit × vMe)) (h : tX9_beginWithDraft x0 M = some z) : Met l yX9_beginWithDraft (Cond.code yX9_beginWithDraft cX9_beginWithDraft 2 none :: TB) rmX9_beginWithDraft (va_Pc [.ref x0] (vPre D M)) (qW D none z.2) 0 0 (vA D) := by
  refine v_ofW (cc := cX9_beginWithDraft) (maxL := 2) (ret := none) (by decide) (Nat.le_of_ble_eq_true rfl) ?_
  intro p e s m args below meth c Q hx hb hr hml hown hts hlk hnm hSS hR0 hQ ls hl
  have hK := hSS.1
  have hl : lv_has ls 2 [(0, .ref x0)] := hl
  unfold tX9_beginWithDraft at h
  refine w_aload_n hx hb dX9_beginWithDraft_0 rfl (lv_at hl 0 rfl) ?_
  obtain ⟨a1, ea1, h⟩ := v_bnd h
  refine v_gA (ci := 10) hx hb hts iwX9 hown hK 3 ea1 rfl (by decide) (Or.inl (hts _ kw292)) (fun _ h9 => h9) dX9_beginWithDraft_1 ?_
  refine w_astore_n (lv' := [(1, .ref a1), (0, .ref x0)]) hx hb dX9_beginWithDraft_4 rfl hl (by decide) rfl (fun ls hl => ?_)
  have hl : lv_has ls 2 [(0, .ref x0), (1, .ref a1)] := lv_sub hl [1, 0] rfl
  refine w_aload_n hx hb dX9_beginWithDraft_5 rfl (lv_at hl 0 rfl) ?_
  refine w_aload_n hx hb dX9_beginWithDraft_6 rfl (lv_at hl 0 rfl) ?_
  obtain ⟨a2, ea2, h⟩ := v_bnd h
  refine v_gA (ci := 10) hx hb hts iwX9 hown hK 4 ea2 rfl (by decide) (Or.inl (hts _ kw293)) (fun _ h9 => h9) dX9_beginWithDraft_7 ?_
  obtain ⟨M3, eM3, h⟩ := v_bnd h
  refine v_putf (ci := 10) hx hb hts iwX9 hown hK tyX9_ok nmX9 3 eM3 rfl (by decide) (Or.inl (hts _ kw292)) (fun _ h9 => h9) (Or.inl rfl) rfl rfl dX9_beginWithDraft_10 ?_
  refine w_aload_n hx hb dX9_beginWithDraft_13 rfl (lv_at hl 0 rfl) ?_
  refine w_aload_n hx hb dX9_beginWithDraft_14 rfl (lv_at hl 1 rfl) ?_
  obtain ⟨M4, eM4, h⟩ := v_bnd h
  refine v_putf (ci := 10) hx hb hts iwX9 hown hK tyX9_ok nmX9 4 eM4 rfl (by decide) (Or.inl (hts _ kw293)) (fun _ h9 => h9) (Or.inl rfl) rfl rfl dX9_beginWithDraft_15 ?_
  refine w_aload_n hx hb dX9_beginWithDraft_18 rfl (lv_at hl 0 rfl) ?_
  obtain ⟨a5, ea5, h⟩ := v_bnd h
  refine v_gA (ci := 10) hx hb hts iwX9 hown hK 1 ea5 rfl (by decide) (Or.inl (hts _ kw290)) (fun _ h9 => h9) dX9_beginWithDraft_19 ?_
  obtain ⟨g8, h⟩ := v_ifs h
  obtain ⟨z6, ez6, h⟩ := v_bnd h
  refine v_call0 (M1 := z6.2) (mc := 0) (ms := 0) (fun H locs hR hS => va_runV (As := []) (rest := []) ⟨hx, hb, hml, hown, hts⟩ (mX8_forgetAll l hfl D a5 M4 z6 ez6) (cwV 0 hts (gdV kw1024 kw1025 kw1026 kw29 kw1027) rfl rfl rfl (by decide +kernel) ⟨Nat.le_of_ble_eq_true rfl, Nat.le_of_ble_eq_true rfl⟩) (v_preV (ci := 9) hSS hR hS g8 (by decide) rfl []) rfl rfl hl.1 rfl (lv_room (Nat.le_of_ble_eq_true rfl)) dX9_beginWithDraft_22 ⟨Nat.zero_le _, Nat.zero_le _⟩) ?_
  refine w_aload_n hx hb dX9_beginWithDraft_25 rfl (lv_at hl 0 rfl) ?_
  obtain ⟨a7, ea7, h⟩ := v_bnd h
  refine v_gA (ci := 10) hx hb hts iwX9 hown hK 2 ea7 rfl (by decide) (Or.inl (hts _ kw291)) (fun _ h9 => h9) dX9_beginWithDraft_26 ?_
  obtain ⟨g8, h⟩ := v_ifs h
  obtain ⟨z8, ez8, h⟩ := v_bnd h
  refine v_call0 (M1 := z8.2) (mc := 0) (ms := 0) (fun H locs hR hS => va_runV (As := []) (rest := []) ⟨hx, hb, hml, hown, hts⟩ (mX4_emptyAll l hfl D a7 z6.2 z8 ez8) (cwV 0 hts (gdV kw1028 kw1029 kw1030 kw30 kw1031) rfl rfl rfl (by decide +kernel) ⟨Nat.le_of_ble_eq_true rfl, Nat.le_of_ble_eq_true rfl⟩) (v_preV (ci := 6) hSS hR hS g8 (by decide) rfl []) rfl rfl hl.1 rfl (lv_room (Nat.le_of_ble_eq_true rfl)) dX9_beginWithDraft_29 ⟨Nat.zero_le _, Nat.zero_le _⟩) ?_
  obtain rfl := Option.some.inj h
  rw [hQ]
  exact v_vret hx hb hr hlk dX9_beginWithDraft_32

def tX9_parse_J15 (n0 s0 : Nat)  (Mj : vMe) : Option ((Int32 ⊕ Nat) × vMe) :=
  if Mj.2.1 + 1 ≤ n0 + 26 ∧ Mj.2.2.1 + 6 ≤ s0 + 669 then some (Sum.inr 0, Mj) else none
def tX9_parse_J71 (n0 s0 : Nat) (x2 : Nat) (Mj : vMe) : Option ((Int32 ⊕ Nat) × vMe) :=
  (gI Mj x2 6 7).bind fun v15 =>
  if Mj.2.1 ≤ n0 + 26 ∧ Mj.2.2.1 ≤ s0 + 669 then some (Sum.inl v15, Mj) else none
def tX9_parse (G : Nat → Nat) (x0 : Nat) (x1 : Int32) (M : vMe) : Option ((Int32 ⊕ Nat) × vMe) :=
  if x1 < 0 then
  (tX9_parse_J15 M.2.1 M.2.2.1  M)
else
  ((gA M x0 11 0).bind fun a2 =>
  (gI M a2 4 1).bind fun v3 =>
  if x1 ≤ v3 then
  ((nwO M 6 0 9 (vp_V [.null, .int 0, .null, .null, .int 0, .int 0, .int 0, .int 0, .int 0]) M.2.1 M.2.2.1 26 669).bind fun M5 =>
  (gA M5 x0 11 0).bind fun a6 =>
  (gA M5 x0 11 4).bind fun a7 =>
  if M5.2.1 + 0 ≤ M.2.1 + 26 ∧ M5.2.2.1 + 0 ≤ M.2.2.1 + 669 then
  ((tX3_init G M.2.1 a6 x1 a7 M5).bind fun z8 =>
  if z8.2.2.1 + 25 ≤ M.2.1 + 26 ∧ z8.2.2.2.1 + 660 ≤ M.2.2.1 + 669 then
  (if (z8.2.1 M.2.1).1 = 6 then
  ((tX3_readText G M.2.1 z8.2).bind fun z9 =>
  (gA z9.2 x0 11 0).bind fun a10 =>
  (sV z9.2 a10 4 1 (.int 0)).bind fun M11 =>
  (gI M11 M.2.1 6 8).bind fun v12 =>
  (sV M11 x0 11 5 (.int v12)).bind fun M13 =>
  if z9.1 = 0 then
  (tX9_parse_J71 M.2.1 M.2.2.1 M.2.1 M13)
else
  (if M13.2.1 + 0 ≤ M.2.1 + 26 ∧ M13.2.2.1 + 0 ≤ M.2.2.1 + 669 then
  (if (M13.1 x0).1 = 11 then
  ((tX9_beginWithDraft x0 M13).bind fun z16 =>
  tX9_parse_J71 M.2.1 M.2.2.1 M.2.1 z16.2)
else none)
else none))
else none)
else none)
else none)
else
  (tX9_parse_J15 M.2.1 M.2.2.1  M))
def rmX9_parse : Room := { frames := 11, cells := 26, slots := 669, locals := 257 }
set_option maxHeartbeats 4000000 in
set_option maxRecDepth 100000 in
theorem mX9_parse (l : Launch) (hfl : l.stackTraces = false) (D : vD) (x0 : Nat) (x1 : Int32) (M : vMe) (z : ((Int32 ⊕ Nat) × vMe)) (h : tX9_parse D.2.2.2.2 x0 x1 M = some z) : vx_Met l yX9_parse (Cond.code yX9_parse cX9_parse 4 (some .int) :: TB) rmX9_parse (va_Pc [.ref x0, .int x1] (vPre D M)) (qX D (Sum.elim (fun r => some (some (.int r))) (fun _ => none) z.1) z.2) (xX D (Sum.elim (fun _ => none) some z.1) z.2) 26 669 (vA D) := by
  refine v_ofX (cc := cX9_parse) (maxL := 4) (ret := (some .int)) (by decide) (Nat.le_of_ble_eq_true rfl) ?_
  intro p e s m args below meth c Q hx hb hr hml hown hts hlk hnm hSS hR0 hQ hnt ls hl
  have hz0 := hR0.2.1
  have hs0 := hR0.2.2.1
  have hb0 : D.2.2.2.1 ≤ s.heap.size := hR0.2.2.2.2.1
  refine v_tight hb0 ?_
  have hK := hSS.1
  have hl : lv_has ls 4 [(0, .ref x0), (1, .int x1)] := hl
  unfold tX9_parse at h
  have X9_parse_J15p : ∀  (Mj : vMe) (ls : Array Slot), lv_has ls 4 [] → tX9_parse_J15 M.2.1 M.2.2.1  Mj = some z → vV D p l e rmX9_parse s m args below meth c (Mj.2.1 - s.heap.size) (Mj.2.2.1 - vSum D.2.2.2.1 s.heap) Q Mj (F0 m 15 ls []) := by
    intro  Mj ls hl h
    unfold tX9_parse_J15 at h
    obtain ⟨g5, h⟩ := v_ifs h
    obtain rfl := Option.some.inj h
    rw [hQ]
    refine v_tight hb0 ?_
    exact v_thS hx hb hfl hown (by decide +kernel) hts kw743 kw52 (hSS.2.2.1 12 _ rfl) xat0 xbt0 (by decide) xot0 hSS (hl.1.trans hml.symm) dX9_parse_15 dX9_parse_18 dX9_parse_19 dX9_parse_21 dX9_parse_24 hnt (Nat.le_of_ble_eq_true rfl) (Nat.le_of_ble_eq_true rfl) (by show _ + _ ≤ 26; omega) (by show _ + _ ≤ 669; omega) hlk (by omega) (by omega) rfl
  have X9_parse_J71p : ∀ (x2 : Nat) (Mj : vMe) (ls : Array Slot), lv_has ls 4 [(2, .ref x2)] → tX9_parse_J71 M.2.1 M.2.2.1 x2 Mj = some z → vV D p l e rmX9_parse s m args below meth c (Mj.2.1 - s.heap.size) (Mj.2.2.1 - vSum D.2.2.2.1 s.heap) Q Mj (F0 m 71 ls []) := by
    intro x2 Mj ls hl h
    unfold tX9_parse_J71 at h
    refine w_aload_n hx hb dX9_parse_71 rfl (lv_at hl 0 rfl) ?_
    obtain ⟨v15, ev15, h⟩ := v_bnd h
    refine v_gI (ci := 5) hx hb hts iwX3 hown hK 7 ev15 rfl (by decide) (Or.inr ⟨_, kn73 hSS _⟩) (fun _ h9 => h9) dX9_parse_72 ?_
    obtain ⟨g9, h⟩ := v_ifs h
    refine v_tight hb0 (vV.widen (n' := 26) (k' := 669) (by omega) (by omega) ?_)
    obtain rfl := Option.some.inj h
    rw [hQ]
    refine v_xok ?_
    exact v_iret hx hb hr hlk dX9_parse_75
  refine w_iload_n hx hb dX9_parse_0 rfl (lv_at hl 1 rfl) ?_
  refine w_if_lt (tgt := 15) hx hb dX9_parse_1 (by decide) (fun c1 => ?_) (fun c1 => ?_)
  · rw [if_pos c1] at h
    refine v_tight hb0 ?_
    exact X9_parse_J15p  M ls (lv_sub hl [] rfl) h
  · rw [if_neg c1] at h
    refine w_iload_n hx hb dX9_parse_4 rfl (lv_at hl 1 rfl) ?_
    refine w_aload_n hx hb dX9_parse_5 rfl (lv_at hl 0 rfl) ?_
    obtain ⟨a2, ea2, h⟩ := v_bnd h
    refine v_gA (ci := 10) hx hb hts iwX9 hown hK 0 ea2 rfl (by decide) (Or.inl (hts _ kw289)) (fun _ h9 => h9) dX9_parse_6 ?_
    obtain ⟨v3, ev3, h⟩ := v_bnd h
    refine v_gI (ci := 3) hx hb hts iwX1 hown hK 1 ev3 rfl (by decide) (Or.inr ⟨_, kn1 hSS _⟩) (fun _ h9 => h9) dX9_parse_9 ?_
    refine w_icmp_le (tgt := 25) hx hb dX9_parse_12 (by decide) (fun c4 => ?_) (fun c4 => ?_)
    · rw [if_pos c4] at h
      obtain ⟨M5, eM5, h⟩ := v_bnd h
      refine u_new (ci := 5) (N := 9) hx hb hts iwX3 hown hK tyX3_ok rfl (hts _ kw810) (hts _ kw811) (hts _ kw53) (by decide) (by decide) (by decide) hb0 hz0 hs0 rfl rfl eM5 dX9_parse_25 ?_
      refine w_dup hx hb dX9_parse_28 rfl ?_
      refine w_aload_n hx hb dX9_parse_29 rfl (lv_at hl 0 rfl) ?_
      obtain ⟨a6, ea6, h⟩ := v_bnd h
      refine v_gA (ci := 10) hx hb hts iwX9 hown hK 0 ea6 rfl (by decide) (Or.inl (hts _ kw289)) (fun _ h9 => h9) dX9_parse_30 ?_
      refine w_iload_n hx hb dX9_parse_33 rfl (lv_at hl 1 rfl) ?_
      refine w_aload_n hx hb dX9_parse_34 rfl (lv_at hl 0 rfl) ?_
      obtain ⟨a7, ea7, h⟩ := v_bnd h
      refine v_gA (ci := 10) hx hb hts iwX9 hown hK 4 ea7 rfl (by decide) (Or.inl (hts _ kw293)) (fun _ h9 => h9) dX9_parse_35 ?_
      obtain ⟨g7, h⟩ := v_ifs h
      refine v_tight hb0 ?_
      obtain ⟨z8, ez8, h⟩ := v_bnd h
      refine v_call0 (M1 := z8.2) (mc := 0) (ms := 0) (fun H locs hR hS => va_runI (As := [.ref a6, .int x1, .ref a7]) (rest := [.ref M.2.1]) ⟨hx, hb, hml, hown, hts⟩ (mX3_init l hfl D M.2.1 a6 x1 a7 M5 z8 ez8) (cwI 3 hts (gdI kw814) rfl rfl rfl (hts _ kw53) (hts _ kw812) (hts _ kw813) rfl (by decide +kernel) ⟨Nat.le_of_ble_eq_true rfl, Nat.le_of_ble_eq_true rfl⟩) (v_preS hSS hR hS [.ref M.2.1, .ref a6, .int x1, .ref a7]) rfl rfl hl.1 rfl (lv_room (Nat.le_of_ble_eq_true rfl)) dX9_parse_38 ⟨by show _ + _ ≤ 26; omega, by show _ + _ ≤ 669; omega⟩) ?_
      refine w_astore_n (lv' := [(2, .ref M.2.1), (0, .ref x0), (1, .int x1)]) hx hb dX9_parse_41 rfl hl (by decide) rfl (fun ls hl => ?_)
      have hl : lv_has ls 4 [(0, .ref x0), (1, .int x1), (2, .ref M.2.1)] := lv_sub hl [1, 2, 0] rfl
      refine w_aload_n hx hb dX9_parse_42 rfl (lv_at hl 2 rfl) ?_
      obtain ⟨g7, h⟩ := v_ifs h
      refine v_tight hb0 ?_
      obtain ⟨g8, h⟩ := v_ifs h
      obtain ⟨z9, ez9, h⟩ := v_bnd h
      refine v_call1 (v := .int z9.1) (M1 := z9.2) (mc := 25) (ms := 660) (fun H locs hR hS => va_runV (As := []) (rest := []) ⟨hx, hb, hml, hown, hts⟩ (mX3_readText l hfl D M.2.1 z8.2 z9 ez9) (cwV 0 hts (gdV kw848 kw849 kw850 kw53 kw851) rfl rfl rfl (by decide +kernel) ⟨Nat.le_of_ble_eq_true rfl, Nat.le_of_ble_eq_true rfl⟩) (v_preV (ci := 5) hSS hR hS g8 (by decide) rfl []) rfl rfl hl.1 rfl (lv_room (Nat.le_of_ble_eq_true rfl)) dX9_parse_43 ⟨by show _ + _ ≤ 26; omega, by show _ + _ ≤ 669; omega⟩) ?_
      refine w_istore_n (lv' := [(3, .int z9.1), (0, .ref x0), (1, .int x1), (2, .ref M.2.1)]) hx hb dX9_parse_46 rfl hl (by decide) rfl (fun ls hl => ?_)
      have hl : lv_has ls 4 [(0, .ref x0), (1, .int x1), (2, .ref M.2.1), (3, .int z9.1)] := lv_sub hl [1, 2, 3, 0] rfl
      refine w_aload_n hx hb dX9_parse_47 rfl (lv_at hl 0 rfl) ?_
      obtain ⟨a10, ea10, h⟩ := v_bnd h
      refine v_gA (ci := 10) hx hb hts iwX9 hown hK 0 ea10 rfl (by decide) (Or.inl (hts _ kw289)) (fun _ h9 => h9) dX9_parse_48 ?_
      refine w_iconst (v := 0) hx hb dX9_parse_51 (by decide) ?_
      obtain ⟨M11, eM11, h⟩ := v_bnd h
      refine v_putf (ci := 3) hx hb hts iwX1 hown hK tyX1_ok nmX1 1 eM11 rfl (by decide) (Or.inr ⟨_, kn1 hSS _⟩) (fun _ h9 => h9) (Or.inl rfl) rfl rfl dX9_parse_52 ?_
      refine w_aload_n hx hb dX9_parse_55 rfl (lv_at hl 0 rfl) ?_
      refine w_aload_n hx hb dX9_parse_56 rfl (lv_at hl 2 rfl) ?_
      obtain ⟨v12, ev12, h⟩ := v_bnd h
      refine v_gI (ci := 5) hx hb hts iwX3 hown hK 8 ev12 rfl (by decide) (Or.inr ⟨_, kn74 hSS _⟩) (fun _ h9 => h9) dX9_parse_57 ?_
      obtain ⟨M13, eM13, h⟩ := v_bnd h
      refine v_putf (ci := 10) hx hb hts iwX9 hown hK tyX9_ok nmX9 5 eM13 rfl (by decide) (Or.inl (hts _ kw294)) (fun _ h9 => h9) (Or.inl rfl) rfl rfl dX9_parse_60 ?_
      refine w_iload_n hx hb dX9_parse_63 rfl (lv_at hl 3 rfl) ?_
      refine w_if_eq (tgt := 71) hx hb dX9_parse_64 (by decide) (fun c14 => ?_) (fun c14 => ?_)
      · rw [if_pos c14] at h
        refine v_tight hb0 ?_
        exact X9_parse_J71p M.2.1 M13 ls (lv_sub hl [2] rfl) h
      · rw [if_neg c14] at h
        refine w_aload_n hx hb dX9_parse_67 rfl (lv_at hl 0 rfl) ?_
        obtain ⟨g7, h⟩ := v_ifs h
        refine v_tight hb0 ?_
        obtain ⟨g8, h⟩ := v_ifs h
        obtain ⟨z16, ez16, h⟩ := v_bnd h
        refine v_call0 (M1 := z16.2) (mc := 0) (ms := 0) (fun H locs hR hS => va_runV (As := []) (rest := []) ⟨hx, hb, hml, hown, hts⟩ (mX9_beginWithDraft l hfl D x0 M13 z16 ez16) (cwV 0 hts (gdV kw1020 kw1022 kw20 kw27 kw1023) rfl rfl rfl (by decide +kernel) ⟨Nat.le_of_ble_eq_true rfl, Nat.le_of_ble_eq_true rfl⟩) (v_preV (ci := 10) hSS hR hS g8 (by decide) rfl []) rfl rfl hl.1 rfl (lv_room (Nat.le_of_ble_eq_true rfl)) dX9_parse_68 ⟨by show _ + _ ≤ 26; omega, by show _ + _ ≤ 669; omega⟩) ?_
        refine v_tight hb0 ?_
        exact X9_parse_J71p M.2.1 z16.2 ls (lv_sub hl [2] rfl) h
    · rw [if_neg c4] at h
      refine v_tight hb0 ?_
      exact X9_parse_J15p  M ls (lv_sub hl [] rfl) h

def tX9_size (x0 : Nat) (x1 : Int32) (M : vMe) : Option ((Int32 ⊕ Nat) × vMe) :=
  if x1 = 0 then
  ((gA M x0 11 3).bind fun a1 =>
  (gI M a1 8 5).bind fun v2 =>
  if M.2.1 ≤ M.2.1 + 1 ∧ M.2.2.1 ≤ M.2.2.1 + 6 then some (Sum.inl v2, M) else none)
else
  (if x1 = 1 then
  ((gA M x0 11 3).bind fun a3 =>
  (gI M a3 8 3).bind fun v4 =>
  if M.2.1 ≤ M.2.1 + 1 ∧ M.2.2.1 ≤ M.2.2.1 + 6 then some (Sum.inl v4, M) else none)
else
  (if x1 = 2 then
  ((gA M x0 11 3).bind fun a5 =>
  (gI M a5 8 4).bind fun v6 =>
  if M.2.1 ≤ M.2.1 + 1 ∧ M.2.2.1 ≤ M.2.2.1 + 6 then some (Sum.inl v6, M) else none)
else
  (if x1 = 3 then
  ((gA M x0 11 3).bind fun a7 =>
  (gI M a7 8 7).bind fun v8 =>
  if M.2.1 ≤ M.2.1 + 1 ∧ M.2.2.1 ≤ M.2.2.1 + 6 then some (Sum.inl v8, M) else none)
else
  (if x1 = 4 then
  ((gA M x0 11 3).bind fun a9 =>
  (gI M a9 8 6).bind fun v10 =>
  if M.2.1 ≤ M.2.1 + 1 ∧ M.2.2.1 ≤ M.2.2.1 + 6 then some (Sum.inl v10, M) else none)
else
  (if x1 = 5 then
  ((gA M x0 11 3).bind fun a11 =>
  if M.2.1 + 0 ≤ M.2.1 + 1 ∧ M.2.2.1 + 0 ≤ M.2.2.1 + 6 then
  (if (M.1 a11).1 = 8 then
  ((tX5_countCursors a11 M).bind fun z12 =>
  if M.2.1 ≤ M.2.1 + 1 ∧ M.2.2.1 ≤ M.2.2.1 + 6 then some (Sum.inl z12, M) else none)
else none)
else none)
else
  (if x1 = 6 then
  ((gA M x0 11 3).bind fun a13 =>
  (gI M a13 8 8).bind fun v14 =>
  if M.2.1 ≤ M.2.1 + 1 ∧ M.2.2.1 ≤ M.2.2.1 + 6 then some (Sum.inl v14, M) else none)
else
  (if x1 = 7 then
  ((gA M x0 11 1).bind fun a15 =>
  (gI M a15 10 2).bind fun v16 =>
  if M.2.1 ≤ M.2.1 + 1 ∧ M.2.2.1 ≤ M.2.2.1 + 6 then some (Sum.inl v16, M) else none)
else
  (if M.2.1 + 1 ≤ M.2.1 + 1 ∧ M.2.2.1 + 6 ≤ M.2.2.1 + 6 then some (Sum.inr 0, M) else none))))))))
def rmX9_size : Room := { frames := 6, cells := 1, slots := 6, locals := 100 }
set_option maxHeartbeats 4000000 in
set_option maxRecDepth 100000 in
theorem mX9_size (l : Launch) (hfl : l.stackTraces = false) (D : vD) (x0 : Nat) (x1 : Int32) (M : vMe) (z : ((Int32 ⊕ Nat) × vMe)) (h : tX9_size x0 x1 M = some z) : vx_Met l yX9_size (Cond.code yX9_size cX9_size 2 (some .int) :: TB) rmX9_size (va_Pc [.ref x0, .int x1] (vPre D M)) (qX D (Sum.elim (fun r => some (some (.int r))) (fun _ => none) z.1) z.2) (xX D (Sum.elim (fun _ => none) some z.1) z.2) 1 6 (vA D) := by
  refine v_ofX (cc := cX9_size) (maxL := 2) (ret := (some .int)) (by decide) (Nat.le_of_ble_eq_true rfl) ?_
  intro p e s m args below meth c Q hx hb hr hml hown hts hlk hnm hSS hR0 hQ hnt ls hl
  have hz0 := hR0.2.1
  have hs0 := hR0.2.2.1
  have hb0 : D.2.2.2.1 ≤ s.heap.size := hR0.2.2.2.2.1
  refine v_tight hb0 ?_
  have hK := hSS.1
  have hl : lv_has ls 2 [(0, .ref x0), (1, .int x1)] := hl
  unfold tX9_size at h
  refine w_iload_n hx hb dX9_size_0 rfl (lv_at hl 1 rfl) ?_
  by_cases c17 : x1 = 0
  · rw [if_pos c17] at h
    refine w_tabIn (tgt := 48) (off := 47) hx hb dX9_size_1 (by rw [c17]; decide) (by rw [c17]; decide) (by rw [c17]; rfl) (by decide) ?_
    refine w_aload_n hx hb dX9_size_48 rfl (lv_at hl 0 rfl) ?_
    obtain ⟨a1, ea1, h⟩ := v_bnd h
    refine v_gA (ci := 10) hx hb hts iwX9 hown hK 3 ea1 rfl (by decide) (Or.inl (hts _ kw292)) (fun _ h9 => h9) dX9_size_49 ?_
    obtain ⟨v2, ev2, h⟩ := v_bnd h
    refine v_gI (ci := 7) hx hb hts iwX5 hown hK 5 ev2 rfl (by decide) (Or.inr ⟨_, kn43 hSS _⟩) (fun _ h9 => h9) dX9_size_52 ?_
    obtain ⟨g9, h⟩ := v_ifs h
    refine v_tight hb0 (vV.widen (n' := 1) (k' := 6) (by omega) (by omega) ?_)
    obtain rfl := Option.some.inj h
    rw [hQ]
    refine v_xok ?_
    exact v_iret hx hb hr hlk dX9_size_55
  rw [if_neg c17] at h
  by_cases c18 : x1 = 1
  · rw [if_pos c18] at h
    refine w_tabIn (tgt := 56) (off := 55) hx hb dX9_size_1 (by rw [c18]; decide) (by rw [c18]; decide) (by rw [c18]; rfl) (by decide) ?_
    refine w_aload_n hx hb dX9_size_56 rfl (lv_at hl 0 rfl) ?_
    obtain ⟨a3, ea3, h⟩ := v_bnd h
    refine v_gA (ci := 10) hx hb hts iwX9 hown hK 3 ea3 rfl (by decide) (Or.inl (hts _ kw292)) (fun _ h9 => h9) dX9_size_57 ?_
    obtain ⟨v4, ev4, h⟩ := v_bnd h
    refine v_gI (ci := 7) hx hb hts iwX5 hown hK 3 ev4 rfl (by decide) (Or.inr ⟨_, kn40 hSS _⟩) (fun _ h9 => h9) dX9_size_60 ?_
    obtain ⟨g9, h⟩ := v_ifs h
    refine v_tight hb0 (vV.widen (n' := 1) (k' := 6) (by omega) (by omega) ?_)
    obtain rfl := Option.some.inj h
    rw [hQ]
    refine v_xok ?_
    exact v_iret hx hb hr hlk dX9_size_63
  rw [if_neg c18] at h
  by_cases c19 : x1 = 2
  · rw [if_pos c19] at h
    refine w_tabIn (tgt := 64) (off := 63) hx hb dX9_size_1 (by rw [c19]; decide) (by rw [c19]; decide) (by rw [c19]; rfl) (by decide) ?_
    refine w_aload_n hx hb dX9_size_64 rfl (lv_at hl 0 rfl) ?_
    obtain ⟨a5, ea5, h⟩ := v_bnd h
    refine v_gA (ci := 10) hx hb hts iwX9 hown hK 3 ea5 rfl (by decide) (Or.inl (hts _ kw292)) (fun _ h9 => h9) dX9_size_65 ?_
    obtain ⟨v6, ev6, h⟩ := v_bnd h
    refine v_gI (ci := 7) hx hb hts iwX5 hown hK 4 ev6 rfl (by decide) (Or.inr ⟨_, kn41 hSS _⟩) (fun _ h9 => h9) dX9_size_68 ?_
    obtain ⟨g9, h⟩ := v_ifs h
    refine v_tight hb0 (vV.widen (n' := 1) (k' := 6) (by omega) (by omega) ?_)
    obtain rfl := Option.some.inj h
    rw [hQ]
    refine v_xok ?_
    exact v_iret hx hb hr hlk dX9_size_71
  rw [if_neg c19] at h
  by_cases c20 : x1 = 3
  · rw [if_pos c20] at h
    refine w_tabIn (tgt := 72) (off := 71) hx hb dX9_size_1 (by rw [c20]; decide) (by rw [c20]; decide) (by rw [c20]; rfl) (by decide) ?_
    refine w_aload_n hx hb dX9_size_72 rfl (lv_at hl 0 rfl) ?_
    obtain ⟨a7, ea7, h⟩ := v_bnd h
    refine v_gA (ci := 10) hx hb hts iwX9 hown hK 3 ea7 rfl (by decide) (Or.inl (hts _ kw292)) (fun _ h9 => h9) dX9_size_73 ?_
    obtain ⟨v8, ev8, h⟩ := v_bnd h
    refine v_gI (ci := 7) hx hb hts iwX5 hown hK 7 ev8 rfl (by decide) (Or.inr ⟨_, kn46 hSS _⟩) (fun _ h9 => h9) dX9_size_76 ?_
    obtain ⟨g9, h⟩ := v_ifs h
    refine v_tight hb0 (vV.widen (n' := 1) (k' := 6) (by omega) (by omega) ?_)
    obtain rfl := Option.some.inj h
    rw [hQ]
    refine v_xok ?_
    exact v_iret hx hb hr hlk dX9_size_79
  rw [if_neg c20] at h
  by_cases c21 : x1 = 4
  · rw [if_pos c21] at h
    refine w_tabIn (tgt := 80) (off := 79) hx hb dX9_size_1 (by rw [c21]; decide) (by rw [c21]; decide) (by rw [c21]; rfl) (by decide) ?_
    refine w_aload_n hx hb dX9_size_80 rfl (lv_at hl 0 rfl) ?_
    obtain ⟨a9, ea9, h⟩ := v_bnd h
    refine v_gA (ci := 10) hx hb hts iwX9 hown hK 3 ea9 rfl (by decide) (Or.inl (hts _ kw292)) (fun _ h9 => h9) dX9_size_81 ?_
    obtain ⟨v10, ev10, h⟩ := v_bnd h
    refine v_gI (ci := 7) hx hb hts iwX5 hown hK 6 ev10 rfl (by decide) (Or.inr ⟨_, kn44 hSS _⟩) (fun _ h9 => h9) dX9_size_84 ?_
    obtain ⟨g9, h⟩ := v_ifs h
    refine v_tight hb0 (vV.widen (n' := 1) (k' := 6) (by omega) (by omega) ?_)
    obtain rfl := Option.some.inj h
    rw [hQ]
    refine v_xok ?_
    exact v_iret hx hb hr hlk dX9_size_87
  rw [if_neg c21] at h
  by_cases c22 : x1 = 5
  · rw [if_pos c22] at h
    refine w_tabIn (tgt := 88) (off := 87) hx hb dX9_size_1 (by rw [c22]; decide) (by rw [c22]; decide) (by rw [c22]; rfl) (by decide) ?_
    refine w_aload_n hx hb dX9_size_88 rfl (lv_at hl 0 rfl) ?_
    obtain ⟨a11, ea11, h⟩ := v_bnd h
    refine v_gA (ci := 10) hx hb hts iwX9 hown hK 3 ea11 rfl (by decide) (Or.inl (hts _ kw292)) (fun _ h9 => h9) dX9_size_89 ?_
    obtain ⟨g7, h⟩ := v_ifs h
    refine v_tight hb0 ?_
    obtain ⟨g8, h⟩ := v_ifs h
    obtain ⟨z12, ez12, h⟩ := v_bnd h
    refine v_call1 (v := .int z12) (M1 := M) (mc := 0) (ms := 0) (fun H locs hR hS => va_runV (As := []) (rest := []) ⟨hx, hb, hml, hown, hts⟩ (mX5_countCursors l hfl D a11 M z12 ez12) (cwV 0 hts (gdV kw1305 kw1306 kw1307 kw31 kw1308) rfl rfl rfl (by decide +kernel) ⟨Nat.le_of_ble_eq_true rfl, Nat.le_of_ble_eq_true rfl⟩) (v_preV (ci := 7) hSS hR hS g8 (by decide) rfl []) rfl rfl hl.1 rfl (lv_room (Nat.le_of_ble_eq_true rfl)) dX9_size_92 ⟨by show _ + _ ≤ 1; omega, by show _ + _ ≤ 6; omega⟩) ?_
    obtain ⟨g9, h⟩ := v_ifs h
    refine v_tight hb0 (vV.widen (n' := 1) (k' := 6) (by omega) (by omega) ?_)
    obtain rfl := Option.some.inj h
    rw [hQ]
    refine v_xok ?_
    exact v_iret hx hb hr hlk dX9_size_95
  rw [if_neg c22] at h
  by_cases c23 : x1 = 6
  · rw [if_pos c23] at h
    refine w_tabIn (tgt := 96) (off := 95) hx hb dX9_size_1 (by rw [c23]; decide) (by rw [c23]; decide) (by rw [c23]; rfl) (by decide) ?_
    refine w_aload_n hx hb dX9_size_96 rfl (lv_at hl 0 rfl) ?_
    obtain ⟨a13, ea13, h⟩ := v_bnd h
    refine v_gA (ci := 10) hx hb hts iwX9 hown hK 3 ea13 rfl (by decide) (Or.inl (hts _ kw292)) (fun _ h9 => h9) dX9_size_97 ?_
    obtain ⟨v14, ev14, h⟩ := v_bnd h
    refine v_gI (ci := 7) hx hb hts iwX5 hown hK 8 ev14 rfl (by decide) (Or.inr ⟨_, kn47 hSS _⟩) (fun _ h9 => h9) dX9_size_100 ?_
    obtain ⟨g9, h⟩ := v_ifs h
    refine v_tight hb0 (vV.widen (n' := 1) (k' := 6) (by omega) (by omega) ?_)
    obtain rfl := Option.some.inj h
    rw [hQ]
    refine v_xok ?_
    exact v_iret hx hb hr hlk dX9_size_103
  rw [if_neg c23] at h
  by_cases c24 : x1 = 7
  · rw [if_pos c24] at h
    refine w_tabIn (tgt := 104) (off := 103) hx hb dX9_size_1 (by rw [c24]; decide) (by rw [c24]; decide) (by rw [c24]; rfl) (by decide) ?_
    refine w_aload_n hx hb dX9_size_104 rfl (lv_at hl 0 rfl) ?_
    obtain ⟨a15, ea15, h⟩ := v_bnd h
    refine v_gA (ci := 10) hx hb hts iwX9 hown hK 1 ea15 rfl (by decide) (Or.inl (hts _ kw290)) (fun _ h9 => h9) dX9_size_105 ?_
    obtain ⟨v16, ev16, h⟩ := v_bnd h
    refine v_gI (ci := 9) hx hb hts iwX8 hown hK 2 ev16 rfl (by decide) (Or.inr ⟨_, kn2 hSS _⟩) (fun _ h9 => h9) dX9_size_108 ?_
    obtain ⟨g9, h⟩ := v_ifs h
    refine v_tight hb0 (vV.widen (n' := 1) (k' := 6) (by omega) (by omega) ?_)
    obtain rfl := Option.some.inj h
    rw [hQ]
    refine v_xok ?_
    exact v_iret hx hb hr hlk dX9_size_111
  rw [if_neg c24] at h
  refine w_tabOut (tgt := 112) hx hb dX9_size_1 (by exact v_sw x1 (fun v h1 h2 => (fun e => e.elim (fun e q => c17 (Int32.toInt_inj.mp (q.trans (e.trans (by decide))))) (fun e => e.elim (fun e q => c18 (Int32.toInt_inj.mp (q.trans (e.trans (by decide))))) (fun e => e.elim (fun e q => c19 (Int32.toInt_inj.mp (q.trans (e.trans (by decide))))) (fun e => e.elim (fun e q => c20 (Int32.toInt_inj.mp (q.trans (e.trans (by decide))))) (fun e => e.elim (fun e q => c21 (Int32.toInt_inj.mp (q.trans (e.trans (by decide))))) (fun e => e.elim (fun e q => c22 (Int32.toInt_inj.mp (q.trans (e.trans (by decide))))) (fun e => e.elim (fun e q => c23 (Int32.toInt_inj.mp (q.trans (e.trans (by decide))))) (fun e q => c24 (Int32.toInt_inj.mp (q.trans (e.trans (by decide)))))))))))) (show v = 0 ∨ v = 1 ∨ v = 2 ∨ v = 3 ∨ v = 4 ∨ v = 5 ∨ v = 6 ∨ v = 7 by omega))) (by decide) ?_
  obtain ⟨g5, h⟩ := v_ifs h
  obtain rfl := Option.some.inj h
  rw [hQ]
  refine v_tight hb0 ?_
  exact v_thS hx hb hfl hown (by decide +kernel) hts kw743 kw52 (hSS.2.2.1 0 _ rfl) xat0 xbt0 (by decide) xot0 hSS (hl.1.trans hml.symm) dX9_size_112 dX9_size_115 dX9_size_116 dX9_size_118 dX9_size_121 hnt (Nat.le_of_ble_eq_true rfl) (Nat.le_of_ble_eq_true rfl) (by show _ + _ ≤ 1; omega) (by show _ + _ ≤ 6; omega) hlk (by omega) (by omega) rfl

def tX9_marked (x0 : Nat) (x1 : Int32) (M : vMe) : Option Int32 :=
  if x1 < 0 then
  (some ((-1)))
else
  ((gA M x0 11 3).bind fun a2 =>
  (gI M a2 8 6).bind fun v3 =>
  if v3 ≤ x1 then
  (some ((-1)))
else
  ((gA M x0 11 3).bind fun a5 =>
  (gA M a5 8 2).bind fun a6 =>
  (aI M a6 101 x1).bind fun v7 =>
  some v7))
def rmX9_marked : Room := { frames := 1, cells := 0, slots := 0, locals := 0 }
set_option maxHeartbeats 4000000 in
set_option maxRecDepth 100000 in
theorem mX9_marked (l : Launch) (hfl : l.stackTraces = false) (D : vD) (x0 : Nat) (x1 : Int32) (M : vMe) (z : Int32) (h : tX9_marked x0 x1 M = some z) : Met l yX9_marked (Cond.code yX9_marked cX9_marked 2 (some .int) :: TB) rmX9_marked (va_Pc [.ref x0, .int x1] (vPre D M)) (qW D (some (.int z)) M) 0 0 (vA D) := by
  refine v_ofW (cc := cX9_marked) (maxL := 2) (ret := (some .int)) (by decide) (Nat.le_of_ble_eq_true rfl) ?_
  intro p e s m args below meth c Q hx hb hr hml hown hts hlk hnm hSS hR0 hQ ls hl
  have hK := hSS.1
  have hl : lv_has ls 2 [(0, .ref x0), (1, .int x1)] := hl
  unfold tX9_marked at h
  refine w_iload_n hx hb dX9_marked_0 rfl (lv_at hl 1 rfl) ?_
  refine w_if_lt (tgt := 27) hx hb dX9_marked_1 (by decide) (fun c1 => ?_) (fun c1 => ?_)
  · rw [if_pos c1] at h
    refine w_iconst (v := (-1)) hx hb dX9_marked_27 (by decide) ?_
    obtain rfl := Option.some.inj h
    rw [hQ]
    exact v_iret hx hb hr hlk dX9_marked_28
  · rw [if_neg c1] at h
    refine w_iload_n hx hb dX9_marked_4 rfl (lv_at hl 1 rfl) ?_
    refine w_aload_n hx hb dX9_marked_5 rfl (lv_at hl 0 rfl) ?_
    obtain ⟨a2, ea2, h⟩ := v_bnd h
    refine v_gA (ci := 10) hx hb hts iwX9 hown hK 3 ea2 rfl (by decide) (Or.inl (hts _ kw292)) (fun _ h9 => h9) dX9_marked_6 ?_
    obtain ⟨v3, ev3, h⟩ := v_bnd h
    refine v_gI (ci := 7) hx hb hts iwX5 hown hK 6 ev3 rfl (by decide) (Or.inr ⟨_, kn44 hSS _⟩) (fun _ h9 => h9) dX9_marked_9 ?_
    refine w_icmp_ge (tgt := 27) hx hb dX9_marked_12 (by decide) (fun c4 => ?_) (fun c4 => ?_)
    · rw [if_pos c4] at h
      refine w_iconst (v := (-1)) hx hb dX9_marked_27 (by decide) ?_
      obtain rfl := Option.some.inj h
      rw [hQ]
      exact v_iret hx hb hr hlk dX9_marked_28
    · rw [if_neg c4] at h
      refine w_aload_n hx hb dX9_marked_15 rfl (lv_at hl 0 rfl) ?_
      obtain ⟨a5, ea5, h⟩ := v_bnd h
      refine v_gA (ci := 10) hx hb hts iwX9 hown hK 3 ea5 rfl (by decide) (Or.inl (hts _ kw292)) (fun _ h9 => h9) dX9_marked_16 ?_
      obtain ⟨a6, ea6, h⟩ := v_bnd h
      refine v_gA (ci := 7) hx hb hts iwX5 hown hK 2 ea6 rfl (by decide) (Or.inr ⟨_, kn38 hSS _⟩) (fun _ h9 => h9) dX9_marked_19 ?_
      refine w_iload_n hx hb dX9_marked_22 rfl (lv_at hl 1 rfl) ?_
      obtain ⟨v7, ev7, h⟩ := v_bnd h
      refine v_iald hx hb hK ev7 dX9_marked_23 ?_
      refine w_goto (tgt := 28) hx hb dX9_marked_24 (by decide) ?_
      obtain rfl := Option.some.inj h
      rw [hQ]
      exact v_iret hx hb hr hlk dX9_marked_28

def tX9_checkSet_J15 (n0 s0 : Nat)  (Mj : vMe) : Option ((Unit ⊕ Nat) × vMe) :=
  if Mj.2.1 + 1 ≤ n0 + 1 ∧ Mj.2.2.1 + 6 ≤ s0 + 6 then some (Sum.inr 1, Mj) else none
def tX9_checkSet (x0 : Nat) (x1 : Int32) (M : vMe) : Option ((Unit ⊕ Nat) × vMe) :=
  if x1 < 0 then
  (tX9_checkSet_J15 M.2.1 M.2.2.1  M)
else
  ((gA M x0 11 3).bind fun a2 =>
  (gI M a2 8 5).bind fun v3 =>
  if x1 < v3 then
  (if M.2.1 ≤ M.2.1 + 1 ∧ M.2.2.1 ≤ M.2.2.1 + 6 then some (Sum.inl (()), M) else none)
else
  (tX9_checkSet_J15 M.2.1 M.2.2.1  M))
def rmX9_checkSet : Room := { frames := 6, cells := 1, slots := 6, locals := 100 }
set_option maxHeartbeats 4000000 in
set_option maxRecDepth 100000 in
theorem mX9_checkSet (l : Launch) (hfl : l.stackTraces = false) (D : vD) (x0 : Nat) (x1 : Int32) (M : vMe) (z : ((Unit ⊕ Nat) × vMe)) (h : tX9_checkSet x0 x1 M = some z) : vx_Met l yX9_checkSet (Cond.code yX9_checkSet cX9_checkSet 2 none :: TB) rmX9_checkSet (va_Pc [.ref x0, .int x1] (vPre D M)) (qX D (Sum.elim (fun _ => some none) (fun _ => none) z.1) z.2) (xX D (Sum.elim (fun _ => none) some z.1) z.2) 1 6 (vA D) := by
  refine v_ofX (cc := cX9_checkSet) (maxL := 2) (ret := none) (by decide) (Nat.le_of_ble_eq_true rfl) ?_
  intro p e s m args below meth c Q hx hb hr hml hown hts hlk hnm hSS hR0 hQ hnt ls hl
  have hz0 := hR0.2.1
  have hs0 := hR0.2.2.1
  have hb0 : D.2.2.2.1 ≤ s.heap.size := hR0.2.2.2.2.1
  refine v_tight hb0 ?_
  have hK := hSS.1
  have hl : lv_has ls 2 [(0, .ref x0), (1, .int x1)] := hl
  unfold tX9_checkSet at h
  have X9_checkSet_J15p : ∀  (Mj : vMe) (ls : Array Slot), lv_has ls 2 [] → tX9_checkSet_J15 M.2.1 M.2.2.1  Mj = some z → vV D p l e rmX9_checkSet s m args below meth c (Mj.2.1 - s.heap.size) (Mj.2.2.1 - vSum D.2.2.2.1 s.heap) Q Mj (F0 m 15 ls []) := by
    intro  Mj ls hl h
    unfold tX9_checkSet_J15 at h
    obtain ⟨g5, h⟩ := v_ifs h
    obtain rfl := Option.some.inj h
    rw [hQ]
    refine v_tight hb0 ?_
    exact v_thW hx hb hfl hown (by decide +kernel) hts kw1047 kw56 (hSS.2.2.1 7 _ rfl) xat1 xbt1 (by decide) xot1 hSS (hl.1.trans hml.symm) dX9_checkSet_15 dX9_checkSet_18 dX9_checkSet_19 dX9_checkSet_22 dX9_checkSet_25 hnt (Nat.le_of_ble_eq_true rfl) (Nat.le_of_ble_eq_true rfl) (by show _ + _ ≤ 1; omega) (by show _ + _ ≤ 6; omega) hlk (by omega) (by omega) rfl
  refine w_iload_n hx hb dX9_checkSet_0 rfl (lv_at hl 1 rfl) ?_
  refine w_if_lt (tgt := 15) hx hb dX9_checkSet_1 (by decide) (fun c1 => ?_) (fun c1 => ?_)
  · rw [if_pos c1] at h
    refine v_tight hb0 ?_
    exact X9_checkSet_J15p  M ls (lv_sub hl [] rfl) h
  · rw [if_neg c1] at h
    refine w_iload_n hx hb dX9_checkSet_4 rfl (lv_at hl 1 rfl) ?_
    refine w_aload_n hx hb dX9_checkSet_5 rfl (lv_at hl 0 rfl) ?_
    obtain ⟨a2, ea2, h⟩ := v_bnd h
    refine v_gA (ci := 10) hx hb hts iwX9 hown hK 3 ea2 rfl (by decide) (Or.inl (hts _ kw292)) (fun _ h9 => h9) dX9_checkSet_6 ?_
    obtain ⟨v3, ev3, h⟩ := v_bnd h
    refine v_gI (ci := 7) hx hb hts iwX5 hown hK 5 ev3 rfl (by decide) (Or.inr ⟨_, kn43 hSS _⟩) (fun _ h9 => h9) dX9_checkSet_9 ?_
    refine w_icmp_lt (tgt := 26) hx hb dX9_checkSet_12 (by decide) (fun c4 => ?_) (fun c4 => ?_)
    · rw [if_pos c4] at h
      obtain ⟨g9, h⟩ := v_ifs h
      refine v_tight hb0 (vV.widen (n' := 1) (k' := 6) (by omega) (by omega) ?_)
      obtain rfl := Option.some.inj h
      rw [hQ]
      refine v_xok ?_
      exact v_vret hx hb hr hlk dX9_checkSet_26
    · rw [if_neg c4] at h
      refine v_tight hb0 ?_
      exact X9_checkSet_J15p  M ls (lv_sub hl [] rfl) h

def tX9_rowsOf (x0 : Nat) (x1 : Int32) (M : vMe) : Option ((Nat ⊕ Nat) × vMe) :=
  if M.2.1 + 1 ≤ M.2.1 + 1 ∧ M.2.2.1 + 6 ≤ M.2.2.1 + 6 then
  (if (M.1 x0).1 = 11 then
  ((tX9_checkSet x0 x1 M).bind fun z1 =>
  Sum.elim (fun r2 =>
  (gA z1.2 x0 11 3).bind fun a4 =>
  (gA z1.2 a4 8 0).bind fun a5 =>
  (aA z1.2 a5 107 x1).bind fun a6 =>
  if z1.2.2.1 ≤ M.2.1 + 1 ∧ z1.2.2.2.1 ≤ M.2.2.1 + 6 then some (Sum.inl a6, z1.2) else none) (fun j3 => some (Sum.inr j3, z1.2)) z1.1)
else none)
else none
def rmX9_rowsOf : Room := { frames := 7, cells := 1, slots := 6, locals := 121 }
set_option maxHeartbeats 4000000 in
set_option maxRecDepth 100000 in
theorem mX9_rowsOf (l : Launch) (hfl : l.stackTraces = false) (D : vD) (x0 : Nat) (x1 : Int32) (M : vMe) (z : ((Nat ⊕ Nat) × vMe)) (h : tX9_rowsOf x0 x1 M = some z) : vx_Met l yX9_rowsOf (Cond.code yX9_rowsOf cX9_rowsOf 2 (some (.object "TwinSets$TwinRows")) :: TB) rmX9_rowsOf (va_Pc [.ref x0, .int x1] (vPre D M)) (qX D (Sum.elim (fun r => some (some (.ref r))) (fun _ => none) z.1) z.2) (xX D (Sum.elim (fun _ => none) some z.1) z.2) 1 6 (vA D) := by
  refine v_ofX (cc := cX9_rowsOf) (maxL := 2) (ret := (some (.object "TwinSets$TwinRows"))) (by decide) (Nat.le_of_ble_eq_true rfl) ?_
  intro p e s m args below meth c Q hx hb hr hml hown hts hlk hnm hSS hR0 hQ hnt ls hl
  have hz0 := hR0.2.1
  have hs0 := hR0.2.2.1
  have hb0 : D.2.2.2.1 ≤ s.heap.size := hR0.2.2.2.2.1
  refine v_tight hb0 ?_
  have hK := hSS.1
  have hl : lv_has ls 2 [(0, .ref x0), (1, .int x1)] := hl
  unfold tX9_rowsOf at h
  refine w_aload_n hx hb dX9_rowsOf_0 rfl (lv_at hl 0 rfl) ?_
  refine w_iload_n hx hb dX9_rowsOf_1 rfl (lv_at hl 1 rfl) ?_
  obtain ⟨g7, h⟩ := v_ifs h
  refine v_tight hb0 ?_
  obtain ⟨g8, h⟩ := v_ifs h
  obtain ⟨z1, ez1, h⟩ := v_bnd h
  rcases hz1 : z1.1 with r2 | j3
  · replace h := v_inl hz1 h
    refine v_callXok (ov := none) (mcz := 1) (msz := 6) (fun H locs hR hS => vx_runV (As := [.int x1]) (rest := []) ⟨hx, hb, hml, hown, hts⟩ (mX9_checkSet l hfl D x0 x1 M z1 ez1) (cwV 1 hts (gdV kw1043 kw1045 kw22 kw27 kw1046) rfl rfl rfl (by decide +kernel) ⟨Nat.le_of_ble_eq_true rfl, Nat.le_of_ble_eq_true rfl⟩) (v_preV (ci := 10) hSS hR hS g8 (by decide) rfl [.int x1]) rfl rfl hl.1 rfl (lv_room (Nat.le_of_ble_eq_true rfl)) dX9_rowsOf_2 ⟨by show _ + _ ≤ 1; omega, by show _ + _ ≤ 6; omega⟩) (by rw [hz1]; rfl) (by rw [hz1]; rfl) (st1 := []) rfl ?_
    refine w_aload_n hx hb dX9_rowsOf_5 rfl (lv_at hl 0 rfl) ?_
    obtain ⟨a4, ea4, h⟩ := v_bnd h
    refine v_gA (ci := 10) hx hb hts iwX9 hown hK 3 ea4 rfl (by decide) (Or.inl (hts _ kw292)) (fun _ h9 => h9) dX9_rowsOf_6 ?_
    obtain ⟨a5, ea5, h⟩ := v_bnd h
    refine v_gA (ci := 7) hx hb hts iwX5 hown hK 0 ea5 rfl (by decide) (Or.inr ⟨_, kn36 hSS _⟩) (fun _ h9 => h9) dX9_rowsOf_9 ?_
    refine w_iload_n hx hb dX9_rowsOf_12 rfl (lv_at hl 1 rfl) ?_
    obtain ⟨a6, ea6, h⟩ := v_bnd h
    refine v_aaldA hx hb hK ea6 (by decide) dX9_rowsOf_13 ?_
    obtain ⟨g9, h⟩ := v_ifs h
    refine v_tight hb0 (vV.widen (n' := 1) (k' := 6) (by omega) (by omega) ?_)
    obtain rfl := Option.some.inj h
    rw [hQ]
    refine v_xok ?_
    exact v_aret hx hb hr (Or.inl ⟨_, rfl⟩) (Or.inr ⟨_, rfl⟩) hlk dX9_rowsOf_14
  · replace h := v_inr hz1 h
    obtain rfl := Option.some.inj h
    rw [hQ]
    exact v_callXth (mcz := 1) (msz := 6) (fun H locs hR hS => vx_runV (As := [.int x1]) (rest := []) ⟨hx, hb, hml, hown, hts⟩ (mX9_checkSet l hfl D x0 x1 M z1 ez1) (cwV 1 hts (gdV kw1043 kw1045 kw22 kw27 kw1046) rfl rfl rfl (by decide +kernel) ⟨Nat.le_of_ble_eq_true rfl, Nat.le_of_ble_eq_true rfl⟩) (v_preV (ci := 10) hSS hR hS g8 (by decide) rfl [.int x1]) rfl rfl hl.1 rfl (lv_room (Nat.le_of_ble_eq_true rfl)) dX9_rowsOf_2 ⟨by show _ + _ ≤ 1; omega, by show _ + _ ≤ 6; omega⟩) (by rw [hz1]; rfl) (by rw [hz1]; rfl) hnt hlk (by omega) (by omega)

def tX9_set (x0 : Nat) (x1 : Int32) (x2 : Int32) (M : vMe) : Option ((Int32 ⊕ Nat) × vMe) :=
  if M.2.1 + 1 ≤ M.2.1 + 1 ∧ M.2.2.1 + 6 ≤ M.2.2.1 + 6 then
  (if (M.1 x0).1 = 11 then
  ((tX9_rowsOf x0 x1 M).bind fun z1 =>
  Sum.elim (fun r2 =>
  if x2 = 0 then
  ((gI z1.2 r2 9 5).bind fun v4 =>
  if z1.2.2.1 ≤ M.2.1 + 1 ∧ z1.2.2.2.1 ≤ M.2.2.1 + 6 then some (Sum.inl v4, z1.2) else none)
else
  (if x2 = 1 then
  ((gI z1.2 r2 9 6).bind fun v5 =>
  if z1.2.2.1 ≤ M.2.1 + 1 ∧ z1.2.2.2.1 ≤ M.2.2.1 + 6 then some (Sum.inl v5, z1.2) else none)
else
  (if x2 = 2 then
  ((gA z1.2 r2 9 3).bind fun a6 =>
  (gI z1.2 a6 5 4).bind fun v7 =>
  if z1.2.2.1 ≤ M.2.1 + 1 ∧ z1.2.2.2.1 ≤ M.2.2.1 + 6 then some (Sum.inl v7, z1.2) else none)
else
  (if x2 = 3 then
  ((gA z1.2 r2 9 3).bind fun a8 =>
  (gI z1.2 a8 5 3).bind fun v9 =>
  if z1.2.2.1 ≤ M.2.1 + 1 ∧ z1.2.2.2.1 ≤ M.2.2.1 + 6 then some (Sum.inl v9, z1.2) else none)
else
  (if x2 = 4 then
  ((gA z1.2 x0 11 3).bind fun a10 =>
  if z1.2.2.1 + 0 ≤ M.2.1 + 1 ∧ z1.2.2.2.1 + 0 ≤ M.2.2.1 + 6 then
  (if (z1.2.1 a10).1 = 8 then
  ((tX5_countOpenCursors a10 x1 z1.2).bind fun z11 =>
  if z1.2.2.1 ≤ M.2.1 + 1 ∧ z1.2.2.2.1 ≤ M.2.2.1 + 6 then some (Sum.inl z11, z1.2) else none)
else none)
else none)
else
  (if z1.2.2.1 + 1 ≤ M.2.1 + 1 ∧ z1.2.2.2.1 + 6 ≤ M.2.2.1 + 6 then some (Sum.inr 0, z1.2) else none)))))) (fun j3 => some (Sum.inr j3, z1.2)) z1.1)
else none)
else none
def rmX9_set : Room := { frames := 8, cells := 1, slots := 6, locals := 142 }
set_option maxHeartbeats 4000000 in
set_option maxRecDepth 100000 in
theorem mX9_set (l : Launch) (hfl : l.stackTraces = false) (D : vD) (x0 : Nat) (x1 : Int32) (x2 : Int32) (M : vMe) (z : ((Int32 ⊕ Nat) × vMe)) (h : tX9_set x0 x1 x2 M = some z) : vx_Met l yX9_set (Cond.code yX9_set cX9_set 4 (some .int) :: TB) rmX9_set (va_Pc [.ref x0, .int x1, .int x2] (vPre D M)) (qX D (Sum.elim (fun r => some (some (.int r))) (fun _ => none) z.1) z.2) (xX D (Sum.elim (fun _ => none) some z.1) z.2) 1 6 (vA D) := by
  refine v_ofX (cc := cX9_set) (maxL := 4) (ret := (some .int)) (by decide) (Nat.le_of_ble_eq_true rfl) ?_
  intro p e s m args below meth c Q hx hb hr hml hown hts hlk hnm hSS hR0 hQ hnt ls hl
  have hz0 := hR0.2.1
  have hs0 := hR0.2.2.1
  have hb0 : D.2.2.2.1 ≤ s.heap.size := hR0.2.2.2.2.1
  refine v_tight hb0 ?_
  have hK := hSS.1
  have hl : lv_has ls 4 [(0, .ref x0), (1, .int x1), (2, .int x2)] := hl
  unfold tX9_set at h
  refine w_aload_n hx hb dX9_set_0 rfl (lv_at hl 0 rfl) ?_
  refine w_iload_n hx hb dX9_set_1 rfl (lv_at hl 1 rfl) ?_
  obtain ⟨g7, h⟩ := v_ifs h
  refine v_tight hb0 ?_
  obtain ⟨g8, h⟩ := v_ifs h
  obtain ⟨z1, ez1, h⟩ := v_bnd h
  rcases hz1 : z1.1 with r2 | j3
  · replace h := v_inl hz1 h
    refine v_callXok (ov := some (.ref r2)) (mcz := 1) (msz := 6) (fun H locs hR hS => vx_runV (As := [.int x1]) (rest := []) ⟨hx, hb, hml, hown, hts⟩ (mX9_rowsOf l hfl D x0 x1 M z1 ez1) (cwV 1 hts (gdV kw1039 kw1041 kw21 kw27 kw1042) rfl rfl rfl (by decide +kernel) ⟨Nat.le_of_ble_eq_true rfl, Nat.le_of_ble_eq_true rfl⟩) (v_preV (ci := 10) hSS hR hS g8 (by decide) rfl [.int x1]) rfl rfl hl.1 rfl (lv_room (Nat.le_of_ble_eq_true rfl)) dX9_set_2 ⟨by show _ + _ ≤ 1; omega, by show _ + _ ≤ 6; omega⟩) (by rw [hz1]; rfl) (by rw [hz1]; rfl) (st1 := [.ref r2]) rfl ?_
    refine w_astore_n (lv' := [(3, .ref r2), (0, .ref x0), (1, .int x1), (2, .int x2)]) hx hb dX9_set_5 rfl hl (by decide) rfl (fun ls hl => ?_)
    have hl : lv_has ls 4 [(0, .ref x0), (1, .int x1), (2, .int x2), (3, .ref r2)] := lv_sub hl [1, 2, 3, 0] rfl
    refine w_iload_n hx hb dX9_set_6 rfl (lv_at hl 2 rfl) ?_
    by_cases c12 : x2 = 0
    · rw [if_pos c12] at h
      refine w_tabIn (tgt := 40) (off := 33) hx hb dX9_set_7 (by rw [c12]; decide) (by rw [c12]; decide) (by rw [c12]; rfl) (by decide) ?_
      refine w_aload_n hx hb dX9_set_40 rfl (lv_at hl 3 rfl) ?_
      obtain ⟨v4, ev4, h⟩ := v_bnd h
      refine v_gI (ci := 8) hx hb hts iwX7 hown hK 5 ev4 rfl (by decide) (Or.inr ⟨_, kn18 hSS _⟩) (fun _ h9 => h9) dX9_set_41 ?_
      obtain ⟨g9, h⟩ := v_ifs h
      refine v_tight hb0 (vV.widen (n' := 1) (k' := 6) (by omega) (by omega) ?_)
      obtain rfl := Option.some.inj h
      rw [hQ]
      refine v_xok ?_
      exact v_iret hx hb hr hlk dX9_set_44
    rw [if_neg c12] at h
    by_cases c13 : x2 = 1
    · rw [if_pos c13] at h
      refine w_tabIn (tgt := 45) (off := 38) hx hb dX9_set_7 (by rw [c13]; decide) (by rw [c13]; decide) (by rw [c13]; rfl) (by decide) ?_
      refine w_aload_n hx hb dX9_set_45 rfl (lv_at hl 3 rfl) ?_
      obtain ⟨v5, ev5, h⟩ := v_bnd h
      refine v_gI (ci := 8) hx hb hts iwX7 hown hK 6 ev5 rfl (by decide) (Or.inr ⟨_, kn19 hSS _⟩) (fun _ h9 => h9) dX9_set_46 ?_
      obtain ⟨g9, h⟩ := v_ifs h
      refine v_tight hb0 (vV.widen (n' := 1) (k' := 6) (by omega) (by omega) ?_)
      obtain rfl := Option.some.inj h
      rw [hQ]
      refine v_xok ?_
      exact v_iret hx hb hr hlk dX9_set_49
    rw [if_neg c13] at h
    by_cases c14 : x2 = 2
    · rw [if_pos c14] at h
      refine w_tabIn (tgt := 50) (off := 43) hx hb dX9_set_7 (by rw [c14]; decide) (by rw [c14]; decide) (by rw [c14]; rfl) (by decide) ?_
      refine w_aload_n hx hb dX9_set_50 rfl (lv_at hl 3 rfl) ?_
      obtain ⟨a6, ea6, h⟩ := v_bnd h
      refine v_gA (ci := 8) hx hb hts iwX7 hown hK 3 ea6 rfl (by decide) (Or.inr ⟨_, kn15 hSS _⟩) (fun _ h9 => h9) dX9_set_51 ?_
      obtain ⟨v7, ev7, h⟩ := v_bnd h
      refine v_gI (ci := 4) hx hb hts iwX2 hown hK 4 ev7 rfl (by decide) (Or.inr ⟨_, kn7 hSS _⟩) (fun _ h9 => h9) dX9_set_54 ?_
      obtain ⟨g9, h⟩ := v_ifs h
      refine v_tight hb0 (vV.widen (n' := 1) (k' := 6) (by omega) (by omega) ?_)
      obtain rfl := Option.some.inj h
      rw [hQ]
      refine v_xok ?_
      exact v_iret hx hb hr hlk dX9_set_57
    rw [if_neg c14] at h
    by_cases c15 : x2 = 3
    · rw [if_pos c15] at h
      refine w_tabIn (tgt := 58) (off := 51) hx hb dX9_set_7 (by rw [c15]; decide) (by rw [c15]; decide) (by rw [c15]; rfl) (by decide) ?_
      refine w_aload_n hx hb dX9_set_58 rfl (lv_at hl 3 rfl) ?_
      obtain ⟨a8, ea8, h⟩ := v_bnd h
      refine v_gA (ci := 8) hx hb hts iwX7 hown hK 3 ea8 rfl (by decide) (Or.inr ⟨_, kn15 hSS _⟩) (fun _ h9 => h9) dX9_set_59 ?_
      obtain ⟨v9, ev9, h⟩ := v_bnd h
      refine v_gI (ci := 4) hx hb hts iwX2 hown hK 3 ev9 rfl (by decide) (Or.inr ⟨_, kn6 hSS _⟩) (fun _ h9 => h9) dX9_set_62 ?_
      obtain ⟨g9, h⟩ := v_ifs h
      refine v_tight hb0 (vV.widen (n' := 1) (k' := 6) (by omega) (by omega) ?_)
      obtain rfl := Option.some.inj h
      rw [hQ]
      refine v_xok ?_
      exact v_iret hx hb hr hlk dX9_set_65
    rw [if_neg c15] at h
    by_cases c16 : x2 = 4
    · rw [if_pos c16] at h
      refine w_tabIn (tgt := 66) (off := 59) hx hb dX9_set_7 (by rw [c16]; decide) (by rw [c16]; decide) (by rw [c16]; rfl) (by decide) ?_
      refine w_aload_n hx hb dX9_set_66 rfl (lv_at hl 0 rfl) ?_
      obtain ⟨a10, ea10, h⟩ := v_bnd h
      refine v_gA (ci := 10) hx hb hts iwX9 hown hK 3 ea10 rfl (by decide) (Or.inl (hts _ kw292)) (fun _ h9 => h9) dX9_set_67 ?_
      refine w_iload_n hx hb dX9_set_70 rfl (lv_at hl 1 rfl) ?_
      obtain ⟨g7, h⟩ := v_ifs h
      refine v_tight hb0 ?_
      obtain ⟨g8, h⟩ := v_ifs h
      obtain ⟨z11, ez11, h⟩ := v_bnd h
      refine v_call1 (v := .int z11) (M1 := z1.2) (mc := 0) (ms := 0) (fun H locs hR hS => va_runV (As := [.int x1]) (rest := []) ⟨hx, hb, hml, hown, hts⟩ (mX5_countOpenCursors l hfl D a10 x1 z1.2 z11 ez11) (cwV 1 hts (gdV kw1265 kw1266 kw1267 kw31 kw1268) rfl rfl rfl (by decide +kernel) ⟨Nat.le_of_ble_eq_true rfl, Nat.le_of_ble_eq_true rfl⟩) (v_preV (ci := 7) hSS hR hS g8 (by decide) rfl [.int x1]) rfl rfl hl.1 rfl (lv_room (Nat.le_of_ble_eq_true rfl)) dX9_set_71 ⟨by show _ + _ ≤ 1; omega, by show _ + _ ≤ 6; omega⟩) ?_
      obtain ⟨g9, h⟩ := v_ifs h
      refine v_tight hb0 (vV.widen (n' := 1) (k' := 6) (by omega) (by omega) ?_)
      obtain rfl := Option.some.inj h
      rw [hQ]
      refine v_xok ?_
      exact v_iret hx hb hr hlk dX9_set_74
    rw [if_neg c16] at h
    refine w_tabOut (tgt := 75) hx hb dX9_set_7 (by exact v_sw x2 (fun v h1 h2 => (fun e => e.elim (fun e q => c12 (Int32.toInt_inj.mp (q.trans (e.trans (by decide))))) (fun e => e.elim (fun e q => c13 (Int32.toInt_inj.mp (q.trans (e.trans (by decide))))) (fun e => e.elim (fun e q => c14 (Int32.toInt_inj.mp (q.trans (e.trans (by decide))))) (fun e => e.elim (fun e q => c15 (Int32.toInt_inj.mp (q.trans (e.trans (by decide))))) (fun e q => c16 (Int32.toInt_inj.mp (q.trans (e.trans (by decide))))))))) (show v = 0 ∨ v = 1 ∨ v = 2 ∨ v = 3 ∨ v = 4 by omega))) (by decide) ?_
    obtain ⟨g5, h⟩ := v_ifs h
    obtain rfl := Option.some.inj h
    rw [hQ]
    refine v_tight hb0 ?_
    exact v_thS hx hb hfl hown (by decide +kernel) hts kw743 kw52 (hSS.2.2.1 0 _ rfl) xat0 xbt0 (by decide) xot0 hSS (hl.1.trans hml.symm) dX9_set_75 dX9_set_78 dX9_set_79 dX9_set_81 dX9_set_84 hnt (Nat.le_of_ble_eq_true rfl) (Nat.le_of_ble_eq_true rfl) (by show _ + _ ≤ 1; omega) (by show _ + _ ≤ 6; omega) hlk (by omega) (by omega) rfl
  · replace h := v_inr hz1 h
    obtain rfl := Option.some.inj h
    rw [hQ]
    exact v_callXth (mcz := 1) (msz := 6) (fun H locs hR hS => vx_runV (As := [.int x1]) (rest := []) ⟨hx, hb, hml, hown, hts⟩ (mX9_rowsOf l hfl D x0 x1 M z1 ez1) (cwV 1 hts (gdV kw1039 kw1041 kw21 kw27 kw1042) rfl rfl rfl (by decide +kernel) ⟨Nat.le_of_ble_eq_true rfl, Nat.le_of_ble_eq_true rfl⟩) (v_preV (ci := 10) hSS hR hS g8 (by decide) rfl [.int x1]) rfl rfl hl.1 rfl (lv_room (Nat.le_of_ble_eq_true rfl)) dX9_set_2 ⟨by show _ + _ ≤ 1; omega, by show _ + _ ≤ 6; omega⟩) (by rw [hz1]; rfl) (by rw [hz1]; rfl) hnt hlk (by omega) (by omega)

def tX9_cell (x0 : Nat) (x1 : Int32) (x2 : Int32) (x3 : Int32) (M : vMe) : Option ((Int32 ⊕ Nat) × vMe) :=
  if M.2.1 + 1 ≤ M.2.1 + 1 ∧ M.2.2.1 + 6 ≤ M.2.2.1 + 6 then
  (if (M.1 x0).1 = 11 then
  ((tX9_rowsOf x0 x1 M).bind fun z1 =>
  Sum.elim (fun r2 =>
  (gA z1.2 x0 11 3).bind fun a4 =>
  if z1.2.2.1 + 0 ≤ M.2.1 + 1 ∧ z1.2.2.2.1 + 0 ≤ M.2.2.1 + 6 then
  (if (z1.2.1 a4).1 = 8 then
  ((tX5_hasNumber a4 x2 z1.2).bind fun z5 =>
  if z5 = 0 then
  (if z1.2.2.1 + 1 ≤ M.2.1 + 1 ∧ z1.2.2.2.1 + 6 ≤ M.2.2.1 + 6 then some (Sum.inr 0, z1.2) else none)
else
  (if x3 = 0 then
  ((gA z1.2 r2 9 0).bind fun a8 =>
  (aI z1.2 a8 101 x2).bind fun v9 =>
  if z1.2.2.1 ≤ M.2.1 + 1 ∧ z1.2.2.2.1 ≤ M.2.2.1 + 6 then some (Sum.inl v9, z1.2) else none)
else
  ((gA z1.2 r2 9 1).bind fun a10 =>
  (aI z1.2 a10 101 x2).bind fun v11 =>
  if z1.2.2.1 ≤ M.2.1 + 1 ∧ z1.2.2.2.1 ≤ M.2.2.1 + 6 then some (Sum.inl v11, z1.2) else none)))
else none)
else none) (fun j3 => some (Sum.inr j3, z1.2)) z1.1)
else none)
else none
def rmX9_cell : Room := { frames := 8, cells := 1, slots := 6, locals := 142 }
set_option maxHeartbeats 4000000 in
set_option maxRecDepth 100000 in
theorem mX9_cell (l : Launch) (hfl : l.stackTraces = false) (D : vD) (x0 : Nat) (x1 : Int32) (x2 : Int32) (x3 : Int32) (M : vMe) (z : ((Int32 ⊕ Nat) × vMe)) (h : tX9_cell x0 x1 x2 x3 M = some z) : vx_Met l yX9_cell (Cond.code yX9_cell cX9_cell 5 (some .int) :: TB) rmX9_cell (va_Pc [.ref x0, .int x1, .int x2, .int x3] (vPre D M)) (qX D (Sum.elim (fun r => some (some (.int r))) (fun _ => none) z.1) z.2) (xX D (Sum.elim (fun _ => none) some z.1) z.2) 1 6 (vA D) := by
  refine v_ofX (cc := cX9_cell) (maxL := 5) (ret := (some .int)) (by decide) (Nat.le_of_ble_eq_true rfl) ?_
  intro p e s m args below meth c Q hx hb hr hml hown hts hlk hnm hSS hR0 hQ hnt ls hl
  have hz0 := hR0.2.1
  have hs0 := hR0.2.2.1
  have hb0 : D.2.2.2.1 ≤ s.heap.size := hR0.2.2.2.2.1
  refine v_tight hb0 ?_
  have hK := hSS.1
  have hl : lv_has ls 5 [(0, .ref x0), (1, .int x1), (2, .int x2), (3, .int x3)] := hl
  unfold tX9_cell at h
  refine w_aload_n hx hb dX9_cell_0 rfl (lv_at hl 0 rfl) ?_
  refine w_iload_n hx hb dX9_cell_1 rfl (lv_at hl 1 rfl) ?_
  obtain ⟨g7, h⟩ := v_ifs h
  refine v_tight hb0 ?_
  obtain ⟨g8, h⟩ := v_ifs h
  obtain ⟨z1, ez1, h⟩ := v_bnd h
  rcases hz1 : z1.1 with r2 | j3
  · replace h := v_inl hz1 h
    refine v_callXok (ov := some (.ref r2)) (mcz := 1) (msz := 6) (fun H locs hR hS => vx_runV (As := [.int x1]) (rest := []) ⟨hx, hb, hml, hown, hts⟩ (mX9_rowsOf l hfl D x0 x1 M z1 ez1) (cwV 1 hts (gdV kw1039 kw1041 kw21 kw27 kw1042) rfl rfl rfl (by decide +kernel) ⟨Nat.le_of_ble_eq_true rfl, Nat.le_of_ble_eq_true rfl⟩) (v_preV (ci := 10) hSS hR hS g8 (by decide) rfl [.int x1]) rfl rfl hl.1 rfl (lv_room (Nat.le_of_ble_eq_true rfl)) dX9_cell_2 ⟨by show _ + _ ≤ 1; omega, by show _ + _ ≤ 6; omega⟩) (by rw [hz1]; rfl) (by rw [hz1]; rfl) (st1 := [.ref r2]) rfl ?_
    refine w_astore (lv' := [(4, .ref r2), (0, .ref x0), (1, .int x1), (2, .int x2), (3, .int x3)]) hx hb dX9_cell_5 hl (by decide) rfl (fun ls hl => ?_)
    have hl : lv_has ls 5 [(0, .ref x0), (1, .int x1), (2, .int x2), (3, .int x3), (4, .ref r2)] := lv_sub hl [1, 2, 3, 4, 0] rfl
    refine w_aload_n hx hb dX9_cell_7 rfl (lv_at hl 0 rfl) ?_
    obtain ⟨a4, ea4, h⟩ := v_bnd h
    refine v_gA (ci := 10) hx hb hts iwX9 hown hK 3 ea4 rfl (by decide) (Or.inl (hts _ kw292)) (fun _ h9 => h9) dX9_cell_8 ?_
    refine w_iload_n hx hb dX9_cell_11 rfl (lv_at hl 2 rfl) ?_
    obtain ⟨g7, h⟩ := v_ifs h
    refine v_tight hb0 ?_
    obtain ⟨g8, h⟩ := v_ifs h
    obtain ⟨z5, ez5, h⟩ := v_bnd h
    refine v_call1 (v := .int z5) (M1 := z1.2) (mc := 0) (ms := 0) (fun H locs hR hS => va_runV (As := [.int x2]) (rest := []) ⟨hx, hb, hml, hown, hts⟩ (mX5_hasNumber l hfl D a4 x2 z1.2 z5 ez5) (cwV 1 hts (gdV kw1220 kw1221 kw1222 kw31 kw1223) rfl rfl rfl (by decide +kernel) ⟨Nat.le_of_ble_eq_true rfl, Nat.le_of_ble_eq_true rfl⟩) (v_preV (ci := 7) hSS hR hS g8 (by decide) rfl [.int x2]) rfl rfl hl.1 rfl (lv_room (Nat.le_of_ble_eq_true rfl)) dX9_cell_12 ⟨by show _ + _ ≤ 1; omega, by show _ + _ ≤ 6; omega⟩) ?_
    refine w_if_ne (tgt := 28) hx hb dX9_cell_15 (by decide) (fun c6 => ?_) (fun c6 => ?_)
    · rw [if_pos c6] at h
      obtain ⟨g5, h⟩ := v_ifs h
      obtain rfl := Option.some.inj h
      rw [hQ]
      refine v_tight hb0 ?_
      exact v_thS hx hb hfl hown (by decide +kernel) hts kw743 kw52 (hSS.2.2.1 1 _ rfl) xat0 xbt0 (by decide) xot0 hSS (hl.1.trans hml.symm) dX9_cell_18 dX9_cell_21 dX9_cell_22 dX9_cell_24 dX9_cell_27 hnt (Nat.le_of_ble_eq_true rfl) (Nat.le_of_ble_eq_true rfl) (by show _ + _ ≤ 1; omega) (by show _ + _ ≤ 6; omega) hlk (by omega) (by omega) rfl
    · rw [if_neg c6] at h
      refine w_iload_n hx hb dX9_cell_28 rfl (lv_at hl 3 rfl) ?_
      refine w_if_eq (tgt := 42) hx hb dX9_cell_29 (by decide) (fun c7 => ?_) (fun c7 => ?_)
      · rw [if_pos c7] at h
        refine w_aload hx hb dX9_cell_42 (lv_at hl 4 rfl) ?_
        obtain ⟨a8, ea8, h⟩ := v_bnd h
        refine v_gA (ci := 8) hx hb hts iwX7 hown hK 0 ea8 rfl (by decide) (Or.inr ⟨_, kn9 hSS _⟩) (fun _ h9 => h9) dX9_cell_44 ?_
        refine w_iload_n hx hb dX9_cell_47 rfl (lv_at hl 2 rfl) ?_
        obtain ⟨v9, ev9, h⟩ := v_bnd h
        refine v_iald hx hb hK ev9 dX9_cell_48 ?_
        obtain ⟨g9, h⟩ := v_ifs h
        refine v_tight hb0 (vV.widen (n' := 1) (k' := 6) (by omega) (by omega) ?_)
        obtain rfl := Option.some.inj h
        rw [hQ]
        refine v_xok ?_
        exact v_iret hx hb hr hlk dX9_cell_49
      · rw [if_neg c7] at h
        refine w_aload hx hb dX9_cell_32 (lv_at hl 4 rfl) ?_
        obtain ⟨a10, ea10, h⟩ := v_bnd h
        refine v_gA (ci := 8) hx hb hts iwX7 hown hK 1 ea10 rfl (by decide) (Or.inr ⟨_, kn10 hSS _⟩) (fun _ h9 => h9) dX9_cell_34 ?_
        refine w_iload_n hx hb dX9_cell_37 rfl (lv_at hl 2 rfl) ?_
        obtain ⟨v11, ev11, h⟩ := v_bnd h
        refine v_iald hx hb hK ev11 dX9_cell_38 ?_
        refine w_goto (tgt := 49) hx hb dX9_cell_39 (by decide) ?_
        obtain ⟨g9, h⟩ := v_ifs h
        refine v_tight hb0 (vV.widen (n' := 1) (k' := 6) (by omega) (by omega) ?_)
        obtain rfl := Option.some.inj h
        rw [hQ]
        refine v_xok ?_
        exact v_iret hx hb hr hlk dX9_cell_49
  · replace h := v_inr hz1 h
    obtain rfl := Option.some.inj h
    rw [hQ]
    exact v_callXth (mcz := 1) (msz := 6) (fun H locs hR hS => vx_runV (As := [.int x1]) (rest := []) ⟨hx, hb, hml, hown, hts⟩ (mX9_rowsOf l hfl D x0 x1 M z1 ez1) (cwV 1 hts (gdV kw1039 kw1041 kw21 kw27 kw1042) rfl rfl rfl (by decide +kernel) ⟨Nat.le_of_ble_eq_true rfl, Nat.le_of_ble_eq_true rfl⟩) (v_preV (ci := 10) hSS hR hS g8 (by decide) rfl [.int x1]) rfl rfl hl.1 rfl (lv_room (Nat.le_of_ble_eq_true rfl)) dX9_cell_2 ⟨by show _ + _ ≤ 1; omega, by show _ + _ ≤ 6; omega⟩) (by rw [hz1]; rfl) (by rw [hz1]; rfl) hnt hlk (by omega) (by omega)

def tX9_place (x0 : Nat) (x1 : Int32) (x2 : Int32) (M : vMe) : Option ((Int32 ⊕ Nat) × vMe) :=
  if M.2.1 + 1 ≤ M.2.1 + 1 ∧ M.2.2.1 + 6 ≤ M.2.2.1 + 6 then
  (if (M.1 x0).1 = 11 then
  ((tX9_rowsOf x0 x1 M).bind fun z1 =>
  Sum.elim (fun r2 =>
  if z1.2.2.1 + 0 ≤ M.2.1 + 1 ∧ z1.2.2.2.1 + 0 ≤ M.2.2.1 + 6 then
  (if (z1.2.1 r2).1 = 9 then
  ((tX7_placeOf r2 x2 z1.2).bind fun z4 =>
  if z1.2.2.1 ≤ M.2.1 + 1 ∧ z1.2.2.2.1 ≤ M.2.2.1 + 6 then some (Sum.inl z4, z1.2) else none)
else none)
else none) (fun j3 => some (Sum.inr j3, z1.2)) z1.1)
else none)
else none
def rmX9_place : Room := { frames := 8, cells := 1, slots := 6, locals := 142 }
set_option maxHeartbeats 4000000 in
set_option maxRecDepth 100000 in
theorem mX9_place (l : Launch) (hfl : l.stackTraces = false) (D : vD) (x0 : Nat) (x1 : Int32) (x2 : Int32) (M : vMe) (z : ((Int32 ⊕ Nat) × vMe)) (h : tX9_place x0 x1 x2 M = some z) : vx_Met l yX9_place (Cond.code yX9_place cX9_place 3 (some .int) :: TB) rmX9_place (va_Pc [.ref x0, .int x1, .int x2] (vPre D M)) (qX D (Sum.elim (fun r => some (some (.int r))) (fun _ => none) z.1) z.2) (xX D (Sum.elim (fun _ => none) some z.1) z.2) 1 6 (vA D) := by
  refine v_ofX (cc := cX9_place) (maxL := 3) (ret := (some .int)) (by decide) (Nat.le_of_ble_eq_true rfl) ?_
  intro p e s m args below meth c Q hx hb hr hml hown hts hlk hnm hSS hR0 hQ hnt ls hl
  have hz0 := hR0.2.1
  have hs0 := hR0.2.2.1
  have hb0 : D.2.2.2.1 ≤ s.heap.size := hR0.2.2.2.2.1
  refine v_tight hb0 ?_
  have hK := hSS.1
  have hl : lv_has ls 3 [(0, .ref x0), (1, .int x1), (2, .int x2)] := hl
  unfold tX9_place at h
  refine w_aload_n hx hb dX9_place_0 rfl (lv_at hl 0 rfl) ?_
  refine w_iload_n hx hb dX9_place_1 rfl (lv_at hl 1 rfl) ?_
  obtain ⟨g7, h⟩ := v_ifs h
  refine v_tight hb0 ?_
  obtain ⟨g8, h⟩ := v_ifs h
  obtain ⟨z1, ez1, h⟩ := v_bnd h
  rcases hz1 : z1.1 with r2 | j3
  · replace h := v_inl hz1 h
    refine v_callXok (ov := some (.ref r2)) (mcz := 1) (msz := 6) (fun H locs hR hS => vx_runV (As := [.int x1]) (rest := []) ⟨hx, hb, hml, hown, hts⟩ (mX9_rowsOf l hfl D x0 x1 M z1 ez1) (cwV 1 hts (gdV kw1039 kw1041 kw21 kw27 kw1042) rfl rfl rfl (by decide +kernel) ⟨Nat.le_of_ble_eq_true rfl, Nat.le_of_ble_eq_true rfl⟩) (v_preV (ci := 10) hSS hR hS g8 (by decide) rfl [.int x1]) rfl rfl hl.1 rfl (lv_room (Nat.le_of_ble_eq_true rfl)) dX9_place_2 ⟨by show _ + _ ≤ 1; omega, by show _ + _ ≤ 6; omega⟩) (by rw [hz1]; rfl) (by rw [hz1]; rfl) (st1 := [.ref r2]) rfl ?_
    refine w_iload_n hx hb dX9_place_5 rfl (lv_at hl 2 rfl) ?_
    obtain ⟨g7, h⟩ := v_ifs h
    refine v_tight hb0 ?_
    obtain ⟨g8, h⟩ := v_ifs h
    obtain ⟨z4, ez4, h⟩ := v_bnd h
    refine v_call1 (v := .int z4) (M1 := z1.2) (mc := 0) (ms := 0) (fun H locs hR hS => va_runV (As := [.int x2]) (rest := []) ⟨hx, hb, hml, hown, hts⟩ (mX7_placeOf l hfl D r2 x2 z1.2 z4 ez4) (cwV 1 hts (gdV kw1248 kw967 kw968 kw32 kw969) rfl rfl rfl (by decide +kernel) ⟨Nat.le_of_ble_eq_true rfl, Nat.le_of_ble_eq_true rfl⟩) (v_preV (ci := 8) hSS hR hS g8 (by decide) rfl [.int x2]) rfl rfl hl.1 rfl (lv_room (Nat.le_of_ble_eq_true rfl)) dX9_place_6 ⟨by show _ + _ ≤ 1; omega, by show _ + _ ≤ 6; omega⟩) ?_
    obtain ⟨g9, h⟩ := v_ifs h
    refine v_tight hb0 (vV.widen (n' := 1) (k' := 6) (by omega) (by omega) ?_)
    obtain rfl := Option.some.inj h
    rw [hQ]
    refine v_xok ?_
    exact v_iret hx hb hr hlk dX9_place_9
  · replace h := v_inr hz1 h
    obtain rfl := Option.some.inj h
    rw [hQ]
    exact v_callXth (mcz := 1) (msz := 6) (fun H locs hR hS => vx_runV (As := [.int x1]) (rest := []) ⟨hx, hb, hml, hown, hts⟩ (mX9_rowsOf l hfl D x0 x1 M z1 ez1) (cwV 1 hts (gdV kw1039 kw1041 kw21 kw27 kw1042) rfl rfl rfl (by decide +kernel) ⟨Nat.le_of_ble_eq_true rfl, Nat.le_of_ble_eq_true rfl⟩) (v_preV (ci := 10) hSS hR hS g8 (by decide) rfl [.int x1]) rfl rfl hl.1 rfl (lv_room (Nat.le_of_ble_eq_true rfl)) dX9_place_2 ⟨by show _ + _ ≤ 1; omega, by show _ + _ ≤ 6; omega⟩) (by rw [hz1]; rfl) (by rw [hz1]; rfl) hnt hlk (by omega) (by omega)

def tX9_stampOf (x0 : Nat) (x1 : Int32) (x2 : Int32) (M : vMe) : Option ((Int32 ⊕ Nat) × vMe) :=
  if M.2.1 + 1 ≤ M.2.1 + 1 ∧ M.2.2.1 + 6 ≤ M.2.2.1 + 6 then
  (if (M.1 x0).1 = 11 then
  ((tX9_rowsOf x0 x1 M).bind fun z1 =>
  Sum.elim (fun r2 =>
  if z1.2.2.1 + 0 ≤ M.2.1 + 1 ∧ z1.2.2.2.1 + 0 ≤ M.2.2.1 + 6 then
  (if (z1.2.1 r2).1 = 9 then
  ((tX7_has r2 x2 z1.2).bind fun z4 =>
  if z4 = 0 then
  (if z1.2.2.1 ≤ M.2.1 + 1 ∧ z1.2.2.2.1 ≤ M.2.2.1 + 6 then some (Sum.inl ((-1)), z1.2) else none)
else
  ((gA z1.2 r2 9 2).bind fun a6 =>
  (aI z1.2 a6 101 x2).bind fun v7 =>
  if z1.2.2.1 ≤ M.2.1 + 1 ∧ z1.2.2.2.1 ≤ M.2.2.1 + 6 then some (Sum.inl v7, z1.2) else none))
else none)
else none) (fun j3 => some (Sum.inr j3, z1.2)) z1.1)
else none)
else none
def rmX9_stampOf : Room := { frames := 8, cells := 1, slots := 6, locals := 142 }
set_option maxHeartbeats 4000000 in
set_option maxRecDepth 100000 in
theorem mX9_stampOf (l : Launch) (hfl : l.stackTraces = false) (D : vD) (x0 : Nat) (x1 : Int32) (x2 : Int32) (M : vMe) (z : ((Int32 ⊕ Nat) × vMe)) (h : tX9_stampOf x0 x1 x2 M = some z) : vx_Met l yX9_stampOf (Cond.code yX9_stampOf cX9_stampOf 4 (some .int) :: TB) rmX9_stampOf (va_Pc [.ref x0, .int x1, .int x2] (vPre D M)) (qX D (Sum.elim (fun r => some (some (.int r))) (fun _ => none) z.1) z.2) (xX D (Sum.elim (fun _ => none) some z.1) z.2) 1 6 (vA D) := by
  refine v_ofX (cc := cX9_stampOf) (maxL := 4) (ret := (some .int)) (by decide) (Nat.le_of_ble_eq_true rfl) ?_
  intro p e s m args below meth c Q hx hb hr hml hown hts hlk hnm hSS hR0 hQ hnt ls hl
  have hz0 := hR0.2.1
  have hs0 := hR0.2.2.1
  have hb0 : D.2.2.2.1 ≤ s.heap.size := hR0.2.2.2.2.1
  refine v_tight hb0 ?_
  have hK := hSS.1
  have hl : lv_has ls 4 [(0, .ref x0), (1, .int x1), (2, .int x2)] := hl
  unfold tX9_stampOf at h
  refine w_aload_n hx hb dX9_stampOf_0 rfl (lv_at hl 0 rfl) ?_
  refine w_iload_n hx hb dX9_stampOf_1 rfl (lv_at hl 1 rfl) ?_
  obtain ⟨g7, h⟩ := v_ifs h
  refine v_tight hb0 ?_
  obtain ⟨g8, h⟩ := v_ifs h
  obtain ⟨z1, ez1, h⟩ := v_bnd h
  rcases hz1 : z1.1 with r2 | j3
  · replace h := v_inl hz1 h
    refine v_callXok (ov := some (.ref r2)) (mcz := 1) (msz := 6) (fun H locs hR hS => vx_runV (As := [.int x1]) (rest := []) ⟨hx, hb, hml, hown, hts⟩ (mX9_rowsOf l hfl D x0 x1 M z1 ez1) (cwV 1 hts (gdV kw1039 kw1041 kw21 kw27 kw1042) rfl rfl rfl (by decide +kernel) ⟨Nat.le_of_ble_eq_true rfl, Nat.le_of_ble_eq_true rfl⟩) (v_preV (ci := 10) hSS hR hS g8 (by decide) rfl [.int x1]) rfl rfl hl.1 rfl (lv_room (Nat.le_of_ble_eq_true rfl)) dX9_stampOf_2 ⟨by show _ + _ ≤ 1; omega, by show _ + _ ≤ 6; omega⟩) (by rw [hz1]; rfl) (by rw [hz1]; rfl) (st1 := [.ref r2]) rfl ?_
    refine w_astore_n (lv' := [(3, .ref r2), (0, .ref x0), (1, .int x1), (2, .int x2)]) hx hb dX9_stampOf_5 rfl hl (by decide) rfl (fun ls hl => ?_)
    have hl : lv_has ls 4 [(0, .ref x0), (1, .int x1), (2, .int x2), (3, .ref r2)] := lv_sub hl [1, 2, 3, 0] rfl
    refine w_aload_n hx hb dX9_stampOf_6 rfl (lv_at hl 3 rfl) ?_
    refine w_iload_n hx hb dX9_stampOf_7 rfl (lv_at hl 2 rfl) ?_
    obtain ⟨g7, h⟩ := v_ifs h
    refine v_tight hb0 ?_
    obtain ⟨g8, h⟩ := v_ifs h
    obtain ⟨z4, ez4, h⟩ := v_bnd h
    refine v_call1 (v := .int z4) (M1 := z1.2) (mc := 0) (ms := 0) (fun H locs hR hS => va_runV (As := [.int x2]) (rest := []) ⟨hx, hb, hml, hown, hts⟩ (mX7_has l hfl D r2 x2 z1.2 z4 ez4) (cwV 1 hts (gdV kw1209 kw963 kw964 kw32 kw965) rfl rfl rfl (by decide +kernel) ⟨Nat.le_of_ble_eq_true rfl, Nat.le_of_ble_eq_true rfl⟩) (v_preV (ci := 8) hSS hR hS g8 (by decide) rfl [.int x2]) rfl rfl hl.1 rfl (lv_room (Nat.le_of_ble_eq_true rfl)) dX9_stampOf_8 ⟨by show _ + _ ≤ 1; omega, by show _ + _ ≤ 6; omega⟩) ?_
    refine w_if_eq (tgt := 23) hx hb dX9_stampOf_11 (by decide) (fun c5 => ?_) (fun c5 => ?_)
    · rw [if_pos c5] at h
      refine w_iconst (v := (-1)) hx hb dX9_stampOf_23 (by decide) ?_
      obtain ⟨g9, h⟩ := v_ifs h
      refine v_tight hb0 (vV.widen (n' := 1) (k' := 6) (by omega) (by omega) ?_)
      obtain rfl := Option.some.inj h
      rw [hQ]
      refine v_xok ?_
      exact v_iret hx hb hr hlk dX9_stampOf_24
    · rw [if_neg c5] at h
      refine w_aload_n hx hb dX9_stampOf_14 rfl (lv_at hl 3 rfl) ?_
      obtain ⟨a6, ea6, h⟩ := v_bnd h
      refine v_gA (ci := 8) hx hb hts iwX7 hown hK 2 ea6 rfl (by decide) (Or.inr ⟨_, kn13 hSS _⟩) (fun _ h9 => h9) dX9_stampOf_15 ?_
      refine w_iload_n hx hb dX9_stampOf_18 rfl (lv_at hl 2 rfl) ?_
      obtain ⟨v7, ev7, h⟩ := v_bnd h
      refine v_iald hx hb hK ev7 dX9_stampOf_19 ?_
      refine w_goto (tgt := 24) hx hb dX9_stampOf_20 (by decide) ?_
      obtain ⟨g9, h⟩ := v_ifs h
      refine v_tight hb0 (vV.widen (n' := 1) (k' := 6) (by omega) (by omega) ?_)
      obtain rfl := Option.some.inj h
      rw [hQ]
      refine v_xok ?_
      exact v_iret hx hb hr hlk dX9_stampOf_24
  · replace h := v_inr hz1 h
    obtain rfl := Option.some.inj h
    rw [hQ]
    exact v_callXth (mcz := 1) (msz := 6) (fun H locs hR hS => vx_runV (As := [.int x1]) (rest := []) ⟨hx, hb, hml, hown, hts⟩ (mX9_rowsOf l hfl D x0 x1 M z1 ez1) (cwV 1 hts (gdV kw1039 kw1041 kw21 kw27 kw1042) rfl rfl rfl (by decide +kernel) ⟨Nat.le_of_ble_eq_true rfl, Nat.le_of_ble_eq_true rfl⟩) (v_preV (ci := 10) hSS hR hS g8 (by decide) rfl [.int x1]) rfl rfl hl.1 rfl (lv_room (Nat.le_of_ble_eq_true rfl)) dX9_stampOf_2 ⟨by show _ + _ ≤ 1; omega, by show _ + _ ≤ 6; omega⟩) (by rw [hz1]; rfl) (by rw [hz1]; rfl) hnt hlk (by omega) (by omega)

def tX9_event_J19 (n0 s0 : Nat)  (Mj : vMe) : Option ((Int32 ⊕ Nat) × vMe) :=
  if Mj.2.1 + 1 ≤ n0 + 1 ∧ Mj.2.2.1 + 6 ≤ s0 + 6 then some (Sum.inr 0, Mj) else none
def tX9_event (x0 : Nat) (x1 : Int32) (x2 : Int32) (x3 : Int32) (M : vMe) : Option ((Int32 ⊕ Nat) × vMe) :=
  if M.2.1 + 1 ≤ M.2.1 + 1 ∧ M.2.2.1 + 6 ≤ M.2.2.1 + 6 then
  (if (M.1 x0).1 = 11 then
  ((tX9_rowsOf x0 x1 M).bind fun z1 =>
  Sum.elim (fun r2 =>
  (gA z1.2 r2 9 3).bind fun a4 =>
  if x3 < 0 then
  (tX9_event_J19 M.2.1 M.2.2.1  z1.2)
else
  (if x3 ≤ (2 : Int32) then
  (if x2 < 0 then
  (if z1.2.2.1 ≤ M.2.1 + 1 ∧ z1.2.2.2.1 ≤ M.2.2.1 + 6 then some (Sum.inl ((-1)), z1.2) else none)
else
  ((gI z1.2 a4 5 3).bind fun v8 =>
  if x2 < v8 then
  (if x3 = 0 then
  ((gA z1.2 a4 5 0).bind fun a11 =>
  (aI z1.2 a11 101 x2).bind fun v12 =>
  if z1.2.2.1 ≤ M.2.1 + 1 ∧ z1.2.2.2.1 ≤ M.2.2.1 + 6 then some (Sum.inl v12, z1.2) else none)
else
  (if x3 = (1 : Int32) then
  ((gA z1.2 a4 5 1).bind fun a14 =>
  (aI z1.2 a14 101 x2).bind fun v15 =>
  if z1.2.2.1 ≤ M.2.1 + 1 ∧ z1.2.2.2.1 ≤ M.2.2.1 + 6 then some (Sum.inl v15, z1.2) else none)
else
  ((gA z1.2 a4 5 2).bind fun a16 =>
  (aI z1.2 a16 101 x2).bind fun v17 =>
  if z1.2.2.1 ≤ M.2.1 + 1 ∧ z1.2.2.2.1 ≤ M.2.2.1 + 6 then some (Sum.inl v17, z1.2) else none)))
else
  (if z1.2.2.1 ≤ M.2.1 + 1 ∧ z1.2.2.2.1 ≤ M.2.2.1 + 6 then some (Sum.inl ((-1)), z1.2) else none)))
else
  (tX9_event_J19 M.2.1 M.2.2.1  z1.2))) (fun j3 => some (Sum.inr j3, z1.2)) z1.1)
else none)
else none
def rmX9_event : Room := { frames := 8, cells := 1, slots := 6, locals := 142 }
set_option maxHeartbeats 4000000 in
set_option maxRecDepth 100000 in
theorem mX9_event (l : Launch) (hfl : l.stackTraces = false) (D : vD) (x0 : Nat) (x1 : Int32) (x2 : Int32) (x3 : Int32) (M : vMe) (z : ((Int32 ⊕ Nat) × vMe)) (h : tX9_event x0 x1 x2 x3 M = some z) : vx_Met l yX9_event (Cond.code yX9_event cX9_event 5 (some .int) :: TB) rmX9_event (va_Pc [.ref x0, .int x1, .int x2, .int x3] (vPre D M)) (qX D (Sum.elim (fun r => some (some (.int r))) (fun _ => none) z.1) z.2) (xX D (Sum.elim (fun _ => none) some z.1) z.2) 1 6 (vA D) := by
  refine v_ofX (cc := cX9_event) (maxL := 5) (ret := (some .int)) (by decide) (Nat.le_of_ble_eq_true rfl) ?_
  intro p e s m args below meth c Q hx hb hr hml hown hts hlk hnm hSS hR0 hQ hnt ls hl
  have hz0 := hR0.2.1
  have hs0 := hR0.2.2.1
  have hb0 : D.2.2.2.1 ≤ s.heap.size := hR0.2.2.2.2.1
  refine v_tight hb0 ?_
  have hK := hSS.1
  have hl : lv_has ls 5 [(0, .ref x0), (1, .int x1), (2, .int x2), (3, .int x3)] := hl
  unfold tX9_event at h
  have X9_event_J19p : ∀  (Mj : vMe) (ls : Array Slot), lv_has ls 5 [] → tX9_event_J19 M.2.1 M.2.2.1  Mj = some z → vV D p l e rmX9_event s m args below meth c (Mj.2.1 - s.heap.size) (Mj.2.2.1 - vSum D.2.2.2.1 s.heap) Q Mj (F0 m 19 ls []) := by
    intro  Mj ls hl h
    unfold tX9_event_J19 at h
    obtain ⟨g5, h⟩ := v_ifs h
    obtain rfl := Option.some.inj h
    rw [hQ]
    refine v_tight hb0 ?_
    exact v_thS hx hb hfl hown (by decide +kernel) hts kw743 kw52 (hSS.2.2.1 2 _ rfl) xat0 xbt0 (by decide) xot0 hSS (hl.1.trans hml.symm) dX9_event_19 dX9_event_22 dX9_event_23 dX9_event_25 dX9_event_28 hnt (Nat.le_of_ble_eq_true rfl) (Nat.le_of_ble_eq_true rfl) (by show _ + _ ≤ 1; omega) (by show _ + _ ≤ 6; omega) hlk (by omega) (by omega) rfl
  refine w_aload_n hx hb dX9_event_0 rfl (lv_at hl 0 rfl) ?_
  refine w_iload_n hx hb dX9_event_1 rfl (lv_at hl 1 rfl) ?_
  obtain ⟨g7, h⟩ := v_ifs h
  refine v_tight hb0 ?_
  obtain ⟨g8, h⟩ := v_ifs h
  obtain ⟨z1, ez1, h⟩ := v_bnd h
  rcases hz1 : z1.1 with r2 | j3
  · replace h := v_inl hz1 h
    refine v_callXok (ov := some (.ref r2)) (mcz := 1) (msz := 6) (fun H locs hR hS => vx_runV (As := [.int x1]) (rest := []) ⟨hx, hb, hml, hown, hts⟩ (mX9_rowsOf l hfl D x0 x1 M z1 ez1) (cwV 1 hts (gdV kw1039 kw1041 kw21 kw27 kw1042) rfl rfl rfl (by decide +kernel) ⟨Nat.le_of_ble_eq_true rfl, Nat.le_of_ble_eq_true rfl⟩) (v_preV (ci := 10) hSS hR hS g8 (by decide) rfl [.int x1]) rfl rfl hl.1 rfl (lv_room (Nat.le_of_ble_eq_true rfl)) dX9_event_2 ⟨by show _ + _ ≤ 1; omega, by show _ + _ ≤ 6; omega⟩) (by rw [hz1]; rfl) (by rw [hz1]; rfl) (st1 := [.ref r2]) rfl ?_
    obtain ⟨a4, ea4, h⟩ := v_bnd h
    refine v_gA (ci := 8) hx hb hts iwX7 hown hK 3 ea4 rfl (by decide) (Or.inr ⟨_, kn15 hSS _⟩) (fun _ h9 => h9) dX9_event_5 ?_
    refine w_astore (lv' := [(4, .ref a4), (0, .ref x0), (1, .int x1), (2, .int x2), (3, .int x3)]) hx hb dX9_event_8 hl (by decide) rfl (fun ls hl => ?_)
    have hl : lv_has ls 5 [(0, .ref x0), (1, .int x1), (2, .int x2), (3, .int x3), (4, .ref a4)] := lv_sub hl [1, 2, 3, 4, 0] rfl
    refine w_iload_n hx hb dX9_event_10 rfl (lv_at hl 3 rfl) ?_
    refine w_if_lt (tgt := 19) hx hb dX9_event_11 (by decide) (fun c5 => ?_) (fun c5 => ?_)
    · rw [if_pos c5] at h
      refine v_tight hb0 ?_
      exact X9_event_J19p  z1.2 ls (lv_sub hl [] rfl) h
    · rw [if_neg c5] at h
      refine w_iload_n hx hb dX9_event_14 rfl (lv_at hl 3 rfl) ?_
      refine w_iconst (v := 2) hx hb dX9_event_15 (by decide) ?_
      refine w_icmp_le (tgt := 29) hx hb dX9_event_16 (by decide) (fun c6 => ?_) (fun c6 => ?_)
      · rw [if_pos c6] at h
        refine w_iload_n hx hb dX9_event_29 rfl (lv_at hl 2 rfl) ?_
        refine w_if_lt (tgt := 42) hx hb dX9_event_30 (by decide) (fun c7 => ?_) (fun c7 => ?_)
        · rw [if_pos c7] at h
          refine w_iconst (v := (-1)) hx hb dX9_event_42 (by decide) ?_
          obtain ⟨g9, h⟩ := v_ifs h
          refine v_tight hb0 (vV.widen (n' := 1) (k' := 6) (by omega) (by omega) ?_)
          obtain rfl := Option.some.inj h
          rw [hQ]
          refine v_xok ?_
          exact v_iret hx hb hr hlk dX9_event_43
        · rw [if_neg c7] at h
          refine w_iload_n hx hb dX9_event_33 rfl (lv_at hl 2 rfl) ?_
          refine w_aload hx hb dX9_event_34 (lv_at hl 4 rfl) ?_
          obtain ⟨v8, ev8, h⟩ := v_bnd h
          refine v_gI (ci := 4) hx hb hts iwX2 hown hK 3 ev8 rfl (by decide) (Or.inr ⟨_, kn6 hSS _⟩) (fun _ h9 => h9) dX9_event_36 ?_
          refine w_icmp_lt (tgt := 44) hx hb dX9_event_39 (by decide) (fun c9 => ?_) (fun c9 => ?_)
          · rw [if_pos c9] at h
            refine w_iload_n hx hb dX9_event_44 rfl (lv_at hl 3 rfl) ?_
            refine w_if_ne (tgt := 56) hx hb dX9_event_45 (by decide) (fun c10 => ?_) (fun c10 => ?_)
            · rw [if_pos c10] at h
              refine w_aload hx hb dX9_event_48 (lv_at hl 4 rfl) ?_
              obtain ⟨a11, ea11, h⟩ := v_bnd h
              refine v_gA (ci := 4) hx hb hts iwX2 hown hK 0 ea11 rfl (by decide) (Or.inr ⟨_, kn3 hSS _⟩) (fun _ h9 => h9) dX9_event_50 ?_
              refine w_iload_n hx hb dX9_event_53 rfl (lv_at hl 2 rfl) ?_
              obtain ⟨v12, ev12, h⟩ := v_bnd h
              refine v_iald hx hb hK ev12 dX9_event_54 ?_
              obtain ⟨g9, h⟩ := v_ifs h
              refine v_tight hb0 (vV.widen (n' := 1) (k' := 6) (by omega) (by omega) ?_)
              obtain rfl := Option.some.inj h
              rw [hQ]
              refine v_xok ?_
              exact v_iret hx hb hr hlk dX9_event_55
            · rw [if_neg c10] at h
              refine w_iload_n hx hb dX9_event_56 rfl (lv_at hl 3 rfl) ?_
              refine w_iconst (v := 1) hx hb dX9_event_57 (by decide) ?_
              refine w_icmp_ne (tgt := 71) hx hb dX9_event_58 (by decide) (fun c13 => ?_) (fun c13 => ?_)
              · rw [if_pos c13] at h
                refine w_aload hx hb dX9_event_61 (lv_at hl 4 rfl) ?_
                obtain ⟨a14, ea14, h⟩ := v_bnd h
                refine v_gA (ci := 4) hx hb hts iwX2 hown hK 1 ea14 rfl (by decide) (Or.inr ⟨_, kn4 hSS _⟩) (fun _ h9 => h9) dX9_event_63 ?_
                refine w_iload_n hx hb dX9_event_66 rfl (lv_at hl 2 rfl) ?_
                obtain ⟨v15, ev15, h⟩ := v_bnd h
                refine v_iald hx hb hK ev15 dX9_event_67 ?_
                refine w_goto (tgt := 78) hx hb dX9_event_68 (by decide) ?_
                obtain ⟨g9, h⟩ := v_ifs h
                refine v_tight hb0 (vV.widen (n' := 1) (k' := 6) (by omega) (by omega) ?_)
                obtain rfl := Option.some.inj h
                rw [hQ]
                refine v_xok ?_
                exact v_iret hx hb hr hlk dX9_event_78
              · rw [if_neg c13] at h
                refine w_aload hx hb dX9_event_71 (lv_at hl 4 rfl) ?_
                obtain ⟨a16, ea16, h⟩ := v_bnd h
                refine v_gA (ci := 4) hx hb hts iwX2 hown hK 2 ea16 rfl (by decide) (Or.inr ⟨_, kn5 hSS _⟩) (fun _ h9 => h9) dX9_event_73 ?_
                refine w_iload_n hx hb dX9_event_76 rfl (lv_at hl 2 rfl) ?_
                obtain ⟨v17, ev17, h⟩ := v_bnd h
                refine v_iald hx hb hK ev17 dX9_event_77 ?_
                obtain ⟨g9, h⟩ := v_ifs h
                refine v_tight hb0 (vV.widen (n' := 1) (k' := 6) (by omega) (by omega) ?_)
                obtain rfl := Option.some.inj h
                rw [hQ]
                refine v_xok ?_
                exact v_iret hx hb hr hlk dX9_event_78
          · rw [if_neg c9] at h
            refine w_iconst (v := (-1)) hx hb dX9_event_42 (by decide) ?_
            obtain ⟨g9, h⟩ := v_ifs h
            refine v_tight hb0 (vV.widen (n' := 1) (k' := 6) (by omega) (by omega) ?_)
            obtain rfl := Option.some.inj h
            rw [hQ]
            refine v_xok ?_
            exact v_iret hx hb hr hlk dX9_event_43
      · rw [if_neg c6] at h
        refine v_tight hb0 ?_
        exact X9_event_J19p  z1.2 ls (lv_sub hl [] rfl) h
  · replace h := v_inr hz1 h
    obtain rfl := Option.some.inj h
    rw [hQ]
    exact v_callXth (mcz := 1) (msz := 6) (fun H locs hR hS => vx_runV (As := [.int x1]) (rest := []) ⟨hx, hb, hml, hown, hts⟩ (mX9_rowsOf l hfl D x0 x1 M z1 ez1) (cwV 1 hts (gdV kw1039 kw1041 kw21 kw27 kw1042) rfl rfl rfl (by decide +kernel) ⟨Nat.le_of_ble_eq_true rfl, Nat.le_of_ble_eq_true rfl⟩) (v_preV (ci := 10) hSS hR hS g8 (by decide) rfl [.int x1]) rfl rfl hl.1 rfl (lv_room (Nat.le_of_ble_eq_true rfl)) dX9_event_2 ⟨by show _ + _ ≤ 1; omega, by show _ + _ ≤ 6; omega⟩) (by rw [hz1]; rfl) (by rw [hz1]; rfl) hnt hlk (by omega) (by omega)

def tX9_checkStamp_J19 (n0 s0 : Nat)  (Mj : vMe) : Option ((Unit ⊕ Nat) × vMe) :=
  if Mj.2.1 + 1 ≤ n0 + 1 ∧ Mj.2.2.1 + 6 ≤ s0 + 6 then some (Sum.inr 0, Mj) else none
def tX9_checkStamp (x0 : Nat) (x1 : Nat) (x2 : Int32) (M : vMe) : Option ((Unit ⊕ Nat) × vMe) :=
  (gI M x1 5 4).bind fun v1 =>
  if x2 < v1 then
  (tX9_checkStamp_J19 M.2.1 M.2.2.1  M)
else
  ((gA M x0 11 3).bind fun a3 =>
  (gI M a3 8 7).bind fun v4 =>
  if x2 ≤ v4 then
  (if M.2.1 ≤ M.2.1 + 1 ∧ M.2.2.1 ≤ M.2.2.1 + 6 then some (Sum.inl (()), M) else none)
else
  (tX9_checkStamp_J19 M.2.1 M.2.2.1  M))
def rmX9_checkStamp : Room := { frames := 6, cells := 1, slots := 6, locals := 100 }
set_option maxHeartbeats 4000000 in
set_option maxRecDepth 100000 in
theorem mX9_checkStamp (l : Launch) (hfl : l.stackTraces = false) (D : vD) (x0 : Nat) (x1 : Nat) (x2 : Int32) (M : vMe) (z : ((Unit ⊕ Nat) × vMe)) (h : tX9_checkStamp x0 x1 x2 M = some z) : vx_Met l yX9_checkStamp (Cond.code yX9_checkStamp cX9_checkStamp 3 none :: TB) rmX9_checkStamp (va_Pc [.ref x0, .ref x1, .int x2] (vPre D M)) (qX D (Sum.elim (fun _ => some none) (fun _ => none) z.1) z.2) (xX D (Sum.elim (fun _ => none) some z.1) z.2) 1 6 (vA D) := by
  refine v_ofX (cc := cX9_checkStamp) (maxL := 3) (ret := none) (by decide) (Nat.le_of_ble_eq_true rfl) ?_
  intro p e s m args below meth c Q hx hb hr hml hown hts hlk hnm hSS hR0 hQ hnt ls hl
  have hz0 := hR0.2.1
  have hs0 := hR0.2.2.1
  have hb0 : D.2.2.2.1 ≤ s.heap.size := hR0.2.2.2.2.1
  refine v_tight hb0 ?_
  have hK := hSS.1
  have hl : lv_has ls 3 [(0, .ref x0), (1, .ref x1), (2, .int x2)] := hl
  unfold tX9_checkStamp at h
  have X9_checkStamp_J19p : ∀  (Mj : vMe) (ls : Array Slot), lv_has ls 3 [] → tX9_checkStamp_J19 M.2.1 M.2.2.1  Mj = some z → vV D p l e rmX9_checkStamp s m args below meth c (Mj.2.1 - s.heap.size) (Mj.2.2.1 - vSum D.2.2.2.1 s.heap) Q Mj (F0 m 19 ls []) := by
    intro  Mj ls hl h
    unfold tX9_checkStamp_J19 at h
    obtain ⟨g5, h⟩ := v_ifs h
    obtain rfl := Option.some.inj h
    rw [hQ]
    refine v_tight hb0 ?_
    exact v_thW hx hb hfl hown (by decide +kernel) hts kw743 kw52 (hSS.2.2.1 10 _ rfl) xat0 xbt0 (by decide) xot0 hSS (hl.1.trans hml.symm) dX9_checkStamp_19 dX9_checkStamp_22 dX9_checkStamp_23 dX9_checkStamp_26 dX9_checkStamp_29 hnt (Nat.le_of_ble_eq_true rfl) (Nat.le_of_ble_eq_true rfl) (by show _ + _ ≤ 1; omega) (by show _ + _ ≤ 6; omega) hlk (by omega) (by omega) rfl
  refine w_iload_n hx hb dX9_checkStamp_0 rfl (lv_at hl 2 rfl) ?_
  refine w_aload_n hx hb dX9_checkStamp_1 rfl (lv_at hl 1 rfl) ?_
  obtain ⟨v1, ev1, h⟩ := v_bnd h
  refine v_gI (ci := 4) hx hb hts iwX2 hown hK 4 ev1 rfl (by decide) (Or.inr ⟨_, kn7 hSS _⟩) (fun _ h9 => h9) dX9_checkStamp_2 ?_
  refine w_icmp_lt (tgt := 19) hx hb dX9_checkStamp_5 (by decide) (fun c2 => ?_) (fun c2 => ?_)
  · rw [if_pos c2] at h
    refine v_tight hb0 ?_
    exact X9_checkStamp_J19p  M ls (lv_sub hl [] rfl) h
  · rw [if_neg c2] at h
    refine w_iload_n hx hb dX9_checkStamp_8 rfl (lv_at hl 2 rfl) ?_
    refine w_aload_n hx hb dX9_checkStamp_9 rfl (lv_at hl 0 rfl) ?_
    obtain ⟨a3, ea3, h⟩ := v_bnd h
    refine v_gA (ci := 10) hx hb hts iwX9 hown hK 3 ea3 rfl (by decide) (Or.inl (hts _ kw292)) (fun _ h9 => h9) dX9_checkStamp_10 ?_
    obtain ⟨v4, ev4, h⟩ := v_bnd h
    refine v_gI (ci := 7) hx hb hts iwX5 hown hK 7 ev4 rfl (by decide) (Or.inr ⟨_, kn46 hSS _⟩) (fun _ h9 => h9) dX9_checkStamp_13 ?_
    refine w_icmp_le (tgt := 30) hx hb dX9_checkStamp_16 (by decide) (fun c5 => ?_) (fun c5 => ?_)
    · rw [if_pos c5] at h
      obtain ⟨g9, h⟩ := v_ifs h
      refine v_tight hb0 (vV.widen (n' := 1) (k' := 6) (by omega) (by omega) ?_)
      obtain rfl := Option.some.inj h
      rw [hQ]
      refine v_xok ?_
      exact v_vret hx hb hr hlk dX9_checkStamp_30
    · rw [if_neg c5] at h
      refine v_tight hb0 ?_
      exact X9_checkStamp_J19p  M ls (lv_sub hl [] rfl) h

def tX9_at (x0 : Nat) (x1 : Int32) (x2 : Int32) (M : vMe) : Option ((Int64 ⊕ Nat) × vMe) :=
  if M.2.1 + 1 ≤ M.2.1 + 1 ∧ M.2.2.1 + 6 ≤ M.2.2.1 + 6 then
  (if (M.1 x0).1 = 11 then
  ((tX9_rowsOf x0 x1 M).bind fun z1 =>
  Sum.elim (fun r2 =>
  (gA z1.2 r2 9 3).bind fun a4 =>
  if z1.2.2.1 + 1 ≤ M.2.1 + 1 ∧ z1.2.2.2.1 + 6 ≤ M.2.2.1 + 6 then
  (if (z1.2.1 x0).1 = 11 then
  ((tX9_checkStamp x0 a4 x2 z1.2).bind fun z5 =>
  Sum.elim (fun r6 =>
  if z5.2.2.1 + 0 ≤ M.2.1 + 1 ∧ z5.2.2.2.1 + 0 ≤ M.2.2.1 + 6 then
  (if (z5.2.1 a4).1 = 5 then
  ((tX2_bitsAt a4 x2 z5.2).bind fun z8 =>
  if z5.2.2.1 ≤ M.2.1 + 1 ∧ z5.2.2.2.1 ≤ M.2.2.1 + 6 then some (Sum.inl z8, z5.2) else none)
else none)
else none) (fun j7 => some (Sum.inr j7, z5.2)) z5.1)
else none)
else none) (fun j3 => some (Sum.inr j3, z1.2)) z1.1)
else none)
else none
def rmX9_at : Room := { frames := 8, cells := 1, slots := 6, locals := 142 }
set_option maxHeartbeats 4000000 in
set_option maxRecDepth 100000 in
theorem mX9_at (l : Launch) (hfl : l.stackTraces = false) (D : vD) (x0 : Nat) (x1 : Int32) (x2 : Int32) (M : vMe) (z : ((Int64 ⊕ Nat) × vMe)) (h : tX9_at x0 x1 x2 M = some z) : vx_Met l yX9_at (Cond.code yX9_at cX9_at 4 (some .long) :: TB) rmX9_at (va_Pc [.ref x0, .int x1, .int x2] (vPre D M)) (qX D (Sum.elim (fun r => some (some (.long r))) (fun _ => none) z.1) z.2) (xX D (Sum.elim (fun _ => none) some z.1) z.2) 1 6 (vA D) := by
  refine v_ofX (cc := cX9_at) (maxL := 4) (ret := (some .long)) (by decide) (Nat.le_of_ble_eq_true rfl) ?_
  intro p e s m args below meth c Q hx hb hr hml hown hts hlk hnm hSS hR0 hQ hnt ls hl
  have hz0 := hR0.2.1
  have hs0 := hR0.2.2.1
  have hb0 : D.2.2.2.1 ≤ s.heap.size := hR0.2.2.2.2.1
  refine v_tight hb0 ?_
  have hK := hSS.1
  have hl : lv_has ls 4 [(0, .ref x0), (1, .int x1), (2, .int x2)] := hl
  unfold tX9_at at h
  refine w_aload_n hx hb dX9_at_0 rfl (lv_at hl 0 rfl) ?_
  refine w_iload_n hx hb dX9_at_1 rfl (lv_at hl 1 rfl) ?_
  obtain ⟨g7, h⟩ := v_ifs h
  refine v_tight hb0 ?_
  obtain ⟨g8, h⟩ := v_ifs h
  obtain ⟨z1, ez1, h⟩ := v_bnd h
  rcases hz1 : z1.1 with r2 | j3
  · replace h := v_inl hz1 h
    refine v_callXok (ov := some (.ref r2)) (mcz := 1) (msz := 6) (fun H locs hR hS => vx_runV (As := [.int x1]) (rest := []) ⟨hx, hb, hml, hown, hts⟩ (mX9_rowsOf l hfl D x0 x1 M z1 ez1) (cwV 1 hts (gdV kw1039 kw1041 kw21 kw27 kw1042) rfl rfl rfl (by decide +kernel) ⟨Nat.le_of_ble_eq_true rfl, Nat.le_of_ble_eq_true rfl⟩) (v_preV (ci := 10) hSS hR hS g8 (by decide) rfl [.int x1]) rfl rfl hl.1 rfl (lv_room (Nat.le_of_ble_eq_true rfl)) dX9_at_2 ⟨by show _ + _ ≤ 1; omega, by show _ + _ ≤ 6; omega⟩) (by rw [hz1]; rfl) (by rw [hz1]; rfl) (st1 := [.ref r2]) rfl ?_
    obtain ⟨a4, ea4, h⟩ := v_bnd h
    refine v_gA (ci := 8) hx hb hts iwX7 hown hK 3 ea4 rfl (by decide) (Or.inr ⟨_, kn15 hSS _⟩) (fun _ h9 => h9) dX9_at_5 ?_
    refine w_astore_n (lv' := [(3, .ref a4), (0, .ref x0), (1, .int x1), (2, .int x2)]) hx hb dX9_at_8 rfl hl (by decide) rfl (fun ls hl => ?_)
    have hl : lv_has ls 4 [(0, .ref x0), (1, .int x1), (2, .int x2), (3, .ref a4)] := lv_sub hl [1, 2, 3, 0] rfl
    refine w_aload_n hx hb dX9_at_9 rfl (lv_at hl 0 rfl) ?_
    refine w_aload_n hx hb dX9_at_10 rfl (lv_at hl 3 rfl) ?_
    refine w_iload_n hx hb dX9_at_11 rfl (lv_at hl 2 rfl) ?_
    obtain ⟨g7, h⟩ := v_ifs h
    refine v_tight hb0 ?_
    obtain ⟨g8, h⟩ := v_ifs h
    obtain ⟨z5, ez5, h⟩ := v_bnd h
    rcases hz5 : z5.1 with r6 | j7
    · replace h := v_inl hz5 h
      refine v_callXok (ov := none) (mcz := 1) (msz := 6) (fun H locs hR hS => vx_runV (As := [.ref a4, .int x2]) (rest := []) ⟨hx, hb, hml, hown, hts⟩ (mX9_checkStamp l hfl D x0 a4 x2 z1.2 z5 ez5) (cwV 2 hts (gdV kw1320 kw1322 kw25 kw27 kw1323) rfl rfl rfl (by decide +kernel) ⟨Nat.le_of_ble_eq_true rfl, Nat.le_of_ble_eq_true rfl⟩) (v_preV (ci := 10) hSS hR hS g8 (by decide) rfl [.ref a4, .int x2]) rfl rfl hl.1 rfl (lv_room (Nat.le_of_ble_eq_true rfl)) dX9_at_12 ⟨by show _ + _ ≤ 1; omega, by show _ + _ ≤ 6; omega⟩) (by rw [hz5]; rfl) (by rw [hz5]; rfl) (st1 := []) rfl ?_
      refine w_aload_n hx hb dX9_at_15 rfl (lv_at hl 3 rfl) ?_
      refine w_iload_n hx hb dX9_at_16 rfl (lv_at hl 2 rfl) ?_
      obtain ⟨g7, h⟩ := v_ifs h
      refine v_tight hb0 ?_
      obtain ⟨g8, h⟩ := v_ifs h
      obtain ⟨z8, ez8, h⟩ := v_bnd h
      refine v_call1 (v := .long z8) (M1 := z5.2) (mc := 0) (ms := 0) (fun H locs hR hS => va_runV (As := [.int x2]) (rest := []) ⟨hx, hb, hml, hown, hts⟩ (mX2_bitsAt l hfl D a4 x2 z5.2 z8 ez8) (cwV 1 hts (gdV kw1325 kw1326 kw1327 kw33 kw1328) rfl rfl rfl (by decide +kernel) ⟨Nat.le_of_ble_eq_true rfl, Nat.le_of_ble_eq_true rfl⟩) (v_preV (ci := 4) hSS hR hS g8 (by decide) rfl [.int x2]) rfl rfl hl.1 rfl (lv_room (Nat.le_of_ble_eq_true rfl)) dX9_at_17 ⟨by show _ + _ ≤ 1; omega, by show _ + _ ≤ 6; omega⟩) ?_
      obtain ⟨g9, h⟩ := v_ifs h
      refine v_tight hb0 (vV.widen (n' := 1) (k' := 6) (by omega) (by omega) ?_)
      obtain rfl := Option.some.inj h
      rw [hQ]
      refine v_xok ?_
      exact v_lret hx hb hr hlk dX9_at_20
    · replace h := v_inr hz5 h
      obtain rfl := Option.some.inj h
      rw [hQ]
      exact v_callXth (mcz := 1) (msz := 6) (fun H locs hR hS => vx_runV (As := [.ref a4, .int x2]) (rest := []) ⟨hx, hb, hml, hown, hts⟩ (mX9_checkStamp l hfl D x0 a4 x2 z1.2 z5 ez5) (cwV 2 hts (gdV kw1320 kw1322 kw25 kw27 kw1323) rfl rfl rfl (by decide +kernel) ⟨Nat.le_of_ble_eq_true rfl, Nat.le_of_ble_eq_true rfl⟩) (v_preV (ci := 10) hSS hR hS g8 (by decide) rfl [.ref a4, .int x2]) rfl rfl hl.1 rfl (lv_room (Nat.le_of_ble_eq_true rfl)) dX9_at_12 ⟨by show _ + _ ≤ 1; omega, by show _ + _ ≤ 6; omega⟩) (by rw [hz5]; rfl) (by rw [hz5]; rfl) hnt hlk (by omega) (by omega)
  · replace h := v_inr hz1 h
    obtain rfl := Option.some.inj h
    rw [hQ]
    exact v_callXth (mcz := 1) (msz := 6) (fun H locs hR hS => vx_runV (As := [.int x1]) (rest := []) ⟨hx, hb, hml, hown, hts⟩ (mX9_rowsOf l hfl D x0 x1 M z1 ez1) (cwV 1 hts (gdV kw1039 kw1041 kw21 kw27 kw1042) rfl rfl rfl (by decide +kernel) ⟨Nat.le_of_ble_eq_true rfl, Nat.le_of_ble_eq_true rfl⟩) (v_preV (ci := 10) hSS hR hS g8 (by decide) rfl [.int x1]) rfl rfl hl.1 rfl (lv_room (Nat.le_of_ble_eq_true rfl)) dX9_at_2 ⟨by show _ + _ ≤ 1; omega, by show _ + _ ≤ 6; omega⟩) (by rw [hz1]; rfl) (by rw [hz1]; rfl) hnt hlk (by omega) (by omega)

def tX9_differs_J66 (n0 s0 : Nat) (y0 : Int64) (Mj : vMe) : Option ((Int32 ⊕ Nat) × vMe) :=
  if Mj.2.1 + 0 ≤ n0 + 1 ∧ Mj.2.2.1 + 0 ≤ s0 + 6 then
  ((tJ13_bitCount_95d88 y0 Mj).bind fun z14 =>
  if Mj.2.1 ≤ n0 + 1 ∧ Mj.2.2.1 ≤ s0 + 6 then some (Sum.inl z14, Mj) else none)
else none
def tX9_differs (x0 : Nat) (x1 : Int32) (x2 : Int32) (x3 : Int32) (x4 : Int32) (M : vMe) : Option ((Int32 ⊕ Nat) × vMe) :=
  if M.2.1 + 1 ≤ M.2.1 + 1 ∧ M.2.2.1 + 6 ≤ M.2.2.1 + 6 then
  (if (M.1 x0).1 = 11 then
  ((tX9_rowsOf x0 x1 M).bind fun z1 =>
  Sum.elim (fun r2 =>
  (gA z1.2 r2 9 3).bind fun a4 =>
  if z1.2.2.1 + 1 ≤ M.2.1 + 1 ∧ z1.2.2.2.1 + 6 ≤ M.2.2.1 + 6 then
  (if (z1.2.1 x0).1 = 11 then
  ((tX9_checkStamp x0 a4 x2 z1.2).bind fun z5 =>
  Sum.elim (fun r6 =>
  if z5.2.2.1 + 1 ≤ M.2.1 + 1 ∧ z5.2.2.2.1 + 6 ≤ M.2.2.1 + 6 then
  (if (z5.2.1 x0).1 = 11 then
  ((tX9_checkStamp x0 a4 x3 z5.2).bind fun z8 =>
  Sum.elim (fun r9 =>
  if z8.2.2.1 + 0 ≤ M.2.1 + 1 ∧ z8.2.2.2.1 + 0 ≤ M.2.2.1 + 6 then
  (if (z8.2.1 a4).1 = 5 then
  ((tX2_bitsAt a4 x2 z8.2).bind fun z11 =>
  if z8.2.2.1 + 0 ≤ M.2.1 + 1 ∧ z8.2.2.2.1 + 0 ≤ M.2.2.1 + 6 then
  (if (z8.2.1 a4).1 = 5 then
  ((tX2_bitsAt a4 x3 z8.2).bind fun z12 =>
  if x4 = 0 then
  (tX9_differs_J66 M.2.1 M.2.2.1 (z11 &&& (z12 ^^^ ((-1)))) z8.2)
else
  (tX9_differs_J66 M.2.1 M.2.2.1 (z12 &&& (z11 ^^^ ((-1)))) z8.2))
else none)
else none)
else none)
else none) (fun j10 => some (Sum.inr j10, z8.2)) z8.1)
else none)
else none) (fun j7 => some (Sum.inr j7, z5.2)) z5.1)
else none)
else none) (fun j3 => some (Sum.inr j3, z1.2)) z1.1)
else none)
else none
def rmX9_differs : Room := { frames := 8, cells := 1, slots := 6, locals := 142 }
set_option maxHeartbeats 4000000 in
set_option maxRecDepth 100000 in
theorem mX9_differs (l : Launch) (hfl : l.stackTraces = false) (D : vD) (x0 : Nat) (x1 : Int32) (x2 : Int32) (x3 : Int32) (x4 : Int32) (M : vMe) (z : ((Int32 ⊕ Nat) × vMe)) (h : tX9_differs x0 x1 x2 x3 x4 M = some z) : vx_Met l yX9_differs (Cond.code yX9_differs cX9_differs 10 (some .int) :: TB) rmX9_differs (va_Pc [.ref x0, .int x1, .int x2, .int x3, .int x4] (vPre D M)) (qX D (Sum.elim (fun r => some (some (.int r))) (fun _ => none) z.1) z.2) (xX D (Sum.elim (fun _ => none) some z.1) z.2) 1 6 (vA D) := by
  refine v_ofX (cc := cX9_differs) (maxL := 10) (ret := (some .int)) (by decide) (Nat.le_of_ble_eq_true rfl) ?_
  intro p e s m args below meth c Q hx hb hr hml hown hts hlk hnm hSS hR0 hQ hnt ls hl
  have hz0 := hR0.2.1
  have hs0 := hR0.2.2.1
  have hb0 : D.2.2.2.1 ≤ s.heap.size := hR0.2.2.2.2.1
  refine v_tight hb0 ?_
  have hK := hSS.1
  have hl : lv_has ls 10 [(0, .ref x0), (1, .int x1), (2, .int x2), (3, .int x3), (4, .int x4)] := hl
  unfold tX9_differs at h
  have X9_differs_J66p : ∀ (y0 : Int64) (Mj : vMe) (ls : Array Slot), lv_has ls 10 [] → tX9_differs_J66 M.2.1 M.2.2.1 y0 Mj = some z → vV D p l e rmX9_differs s m args below meth c (Mj.2.1 - s.heap.size) (Mj.2.2.1 - vSum D.2.2.2.1 s.heap) Q Mj (F0 m 66 ls [.long y0]) := by
    intro y0 Mj ls hl h
    unfold tX9_differs_J66 at h
    obtain ⟨g7, h⟩ := v_ifs h
    refine v_tight hb0 ?_
    obtain ⟨z14, ez14, h⟩ := v_bnd h
    refine v_call1 (v := .int z14) (M1 := Mj) (mc := 0) (ms := 0) (fun H locs hR hS => va_runS (As := [.long y0]) (rest := []) ⟨hx, hb, hml, hown, hts⟩ (mJ13_bitCount_95d88 l hfl D y0 Mj z14 ez14) (va_cwS 1 hts (gdS kw1338 kw1339 kw59 kw1340) rfl rfl rfl (by decide +kernel) ⟨Nat.le_of_ble_eq_true rfl, Nat.le_of_ble_eq_true rfl⟩) (v_preS hSS hR hS [.long y0]) rfl rfl hl.1 rfl (lv_room (Nat.le_of_ble_eq_true rfl)) dX9_differs_66 ⟨by show _ + _ ≤ 1; omega, by show _ + _ ≤ 6; omega⟩) ?_
    obtain ⟨g9, h⟩ := v_ifs h
    refine v_tight hb0 (vV.widen (n' := 1) (k' := 6) (by omega) (by omega) ?_)
    obtain rfl := Option.some.inj h
    rw [hQ]
    refine v_xok ?_
    exact v_iret hx hb hr hlk dX9_differs_69
  refine w_aload_n hx hb dX9_differs_0 rfl (lv_at hl 0 rfl) ?_
  refine w_iload_n hx hb dX9_differs_1 rfl (lv_at hl 1 rfl) ?_
  obtain ⟨g7, h⟩ := v_ifs h
  refine v_tight hb0 ?_
  obtain ⟨g8, h⟩ := v_ifs h
  obtain ⟨z1, ez1, h⟩ := v_bnd h
  rcases hz1 : z1.1 with r2 | j3
  · replace h := v_inl hz1 h
    refine v_callXok (ov := some (.ref r2)) (mcz := 1) (msz := 6) (fun H locs hR hS => vx_runV (As := [.int x1]) (rest := []) ⟨hx, hb, hml, hown, hts⟩ (mX9_rowsOf l hfl D x0 x1 M z1 ez1) (cwV 1 hts (gdV kw1039 kw1041 kw21 kw27 kw1042) rfl rfl rfl (by decide +kernel) ⟨Nat.le_of_ble_eq_true rfl, Nat.le_of_ble_eq_true rfl⟩) (v_preV (ci := 10) hSS hR hS g8 (by decide) rfl [.int x1]) rfl rfl hl.1 rfl (lv_room (Nat.le_of_ble_eq_true rfl)) dX9_differs_2 ⟨by show _ + _ ≤ 1; omega, by show _ + _ ≤ 6; omega⟩) (by rw [hz1]; rfl) (by rw [hz1]; rfl) (st1 := [.ref r2]) rfl ?_
    obtain ⟨a4, ea4, h⟩ := v_bnd h
    refine v_gA (ci := 8) hx hb hts iwX7 hown hK 3 ea4 rfl (by decide) (Or.inr ⟨_, kn15 hSS _⟩) (fun _ h9 => h9) dX9_differs_5 ?_
    refine w_astore (lv' := [(5, .ref a4), (0, .ref x0), (1, .int x1), (2, .int x2), (3, .int x3), (4, .int x4)]) hx hb dX9_differs_8 hl (by decide) rfl (fun ls hl => ?_)
    have hl : lv_has ls 10 [(0, .ref x0), (1, .int x1), (2, .int x2), (3, .int x3), (4, .int x4), (5, .ref a4)] := lv_sub hl [1, 2, 3, 4, 5, 0] rfl
    refine w_aload_n hx hb dX9_differs_10 rfl (lv_at hl 0 rfl) ?_
    refine w_aload hx hb dX9_differs_11 (lv_at hl 5 rfl) ?_
    refine w_iload_n hx hb dX9_differs_13 rfl (lv_at hl 2 rfl) ?_
    obtain ⟨g7, h⟩ := v_ifs h
    refine v_tight hb0 ?_
    obtain ⟨g8, h⟩ := v_ifs h
    obtain ⟨z5, ez5, h⟩ := v_bnd h
    rcases hz5 : z5.1 with r6 | j7
    · replace h := v_inl hz5 h
      refine v_callXok (ov := none) (mcz := 1) (msz := 6) (fun H locs hR hS => vx_runV (As := [.ref a4, .int x2]) (rest := []) ⟨hx, hb, hml, hown, hts⟩ (mX9_checkStamp l hfl D x0 a4 x2 z1.2 z5 ez5) (cwV 2 hts (gdV kw1320 kw1322 kw25 kw27 kw1323) rfl rfl rfl (by decide +kernel) ⟨Nat.le_of_ble_eq_true rfl, Nat.le_of_ble_eq_true rfl⟩) (v_preV (ci := 10) hSS hR hS g8 (by decide) rfl [.ref a4, .int x2]) rfl rfl hl.1 rfl (lv_room (Nat.le_of_ble_eq_true rfl)) dX9_differs_14 ⟨by show _ + _ ≤ 1; omega, by show _ + _ ≤ 6; omega⟩) (by rw [hz5]; rfl) (by rw [hz5]; rfl) (st1 := []) rfl ?_
      refine w_aload_n hx hb dX9_differs_17 rfl (lv_at hl 0 rfl) ?_
      refine w_aload hx hb dX9_differs_18 (lv_at hl 5 rfl) ?_
      refine w_iload_n hx hb dX9_differs_20 rfl (lv_at hl 3 rfl) ?_
      obtain ⟨g7, h⟩ := v_ifs h
      refine v_tight hb0 ?_
      obtain ⟨g8, h⟩ := v_ifs h
      obtain ⟨z8, ez8, h⟩ := v_bnd h
      rcases hz8 : z8.1 with r9 | j10
      · replace h := v_inl hz8 h
        refine v_callXok (ov := none) (mcz := 1) (msz := 6) (fun H locs hR hS => vx_runV (As := [.ref a4, .int x3]) (rest := []) ⟨hx, hb, hml, hown, hts⟩ (mX9_checkStamp l hfl D x0 a4 x3 z5.2 z8 ez8) (cwV 2 hts (gdV kw1320 kw1322 kw25 kw27 kw1323) rfl rfl rfl (by decide +kernel) ⟨Nat.le_of_ble_eq_true rfl, Nat.le_of_ble_eq_true rfl⟩) (v_preV (ci := 10) hSS hR hS g8 (by decide) rfl [.ref a4, .int x3]) rfl rfl hl.1 rfl (lv_room (Nat.le_of_ble_eq_true rfl)) dX9_differs_21 ⟨by show _ + _ ≤ 1; omega, by show _ + _ ≤ 6; omega⟩) (by rw [hz8]; rfl) (by rw [hz8]; rfl) (st1 := []) rfl ?_
        refine w_aload hx hb dX9_differs_24 (lv_at hl 5 rfl) ?_
        refine w_iload_n hx hb dX9_differs_26 rfl (lv_at hl 2 rfl) ?_
        obtain ⟨g7, h⟩ := v_ifs h
        refine v_tight hb0 ?_
        obtain ⟨g8, h⟩ := v_ifs h
        obtain ⟨z11, ez11, h⟩ := v_bnd h
        refine v_call1 (v := .long z11) (M1 := z8.2) (mc := 0) (ms := 0) (fun H locs hR hS => va_runV (As := [.int x2]) (rest := []) ⟨hx, hb, hml, hown, hts⟩ (mX2_bitsAt l hfl D a4 x2 z8.2 z11 ez11) (cwV 1 hts (gdV kw1325 kw1326 kw1327 kw33 kw1328) rfl rfl rfl (by decide +kernel) ⟨Nat.le_of_ble_eq_true rfl, Nat.le_of_ble_eq_true rfl⟩) (v_preV (ci := 4) hSS hR hS g8 (by decide) rfl [.int x2]) rfl rfl hl.1 rfl (lv_room (Nat.le_of_ble_eq_true rfl)) dX9_differs_27 ⟨by show _ + _ ≤ 1; omega, by show _ + _ ≤ 6; omega⟩) ?_
        refine w_lstore (lv' := [(6, .long z11), (0, .ref x0), (1, .int x1), (2, .int x2), (3, .int x3), (4, .int x4), (5, .ref a4)]) hx hb dX9_differs_30 hl (by decide) rfl (fun ls hl => ?_)
        have hl : lv_has ls 10 [(0, .ref x0), (1, .int x1), (2, .int x2), (3, .int x3), (4, .int x4), (5, .ref a4), (6, .long z11)] := lv_sub hl [1, 2, 3, 4, 5, 6, 0] rfl
        refine w_aload hx hb dX9_differs_32 (lv_at hl 5 rfl) ?_
        refine w_iload_n hx hb dX9_differs_34 rfl (lv_at hl 3 rfl) ?_
        obtain ⟨g7, h⟩ := v_ifs h
        refine v_tight hb0 ?_
        obtain ⟨g8, h⟩ := v_ifs h
        obtain ⟨z12, ez12, h⟩ := v_bnd h
        refine v_call1 (v := .long z12) (M1 := z8.2) (mc := 0) (ms := 0) (fun H locs hR hS => va_runV (As := [.int x3]) (rest := []) ⟨hx, hb, hml, hown, hts⟩ (mX2_bitsAt l hfl D a4 x3 z8.2 z12 ez12) (cwV 1 hts (gdV kw1325 kw1326 kw1327 kw33 kw1328) rfl rfl rfl (by decide +kernel) ⟨Nat.le_of_ble_eq_true rfl, Nat.le_of_ble_eq_true rfl⟩) (v_preV (ci := 4) hSS hR hS g8 (by decide) rfl [.int x3]) rfl rfl hl.1 rfl (lv_room (Nat.le_of_ble_eq_true rfl)) dX9_differs_35 ⟨by show _ + _ ≤ 1; omega, by show _ + _ ≤ 6; omega⟩) ?_
        refine w_lstore (lv' := [(8, .long z12), (0, .ref x0), (1, .int x1), (2, .int x2), (3, .int x3), (4, .int x4), (5, .ref a4), (6, .long z11)]) hx hb dX9_differs_38 hl (by decide) rfl (fun ls hl => ?_)
        have hl : lv_has ls 10 [(0, .ref x0), (1, .int x1), (2, .int x2), (3, .int x3), (4, .int x4), (5, .ref a4), (6, .long z11), (8, .long z12)] := lv_sub hl [1, 2, 3, 4, 5, 6, 7, 0] rfl
        refine w_iload hx hb dX9_differs_40 (lv_at hl 4 rfl) ?_
        refine w_if_eq (tgt := 57) hx hb dX9_differs_42 (by decide) (fun c13 => ?_) (fun c13 => ?_)
        · rw [if_pos c13] at h
          refine w_lload hx hb dX9_differs_57 (lv_at hl 6 rfl) ?_
          refine w_lload hx hb dX9_differs_59 (lv_at hl 7 rfl) ?_
          refine w_ldcL hx hb hown (hts _ kw1337) dX9_differs_61 ?_
          refine w_lxor hx hb dX9_differs_64 ?_
          refine w_land hx hb dX9_differs_65 ?_
          refine v_tight hb0 ?_
          exact X9_differs_J66p (z11 &&& (z12 ^^^ ((-1)))) z8.2 ls (lv_sub hl [] rfl) h
        · rw [if_neg c13] at h
          refine w_lload hx hb dX9_differs_45 (lv_at hl 7 rfl) ?_
          refine w_lload hx hb dX9_differs_47 (lv_at hl 6 rfl) ?_
          refine w_ldcL hx hb hown (hts _ kw1337) dX9_differs_49 ?_
          refine w_lxor hx hb dX9_differs_52 ?_
          refine w_land hx hb dX9_differs_53 ?_
          refine w_goto (tgt := 66) hx hb dX9_differs_54 (by decide) ?_
          refine v_tight hb0 ?_
          exact X9_differs_J66p (z12 &&& (z11 ^^^ ((-1)))) z8.2 ls (lv_sub hl [] rfl) h
      · replace h := v_inr hz8 h
        obtain rfl := Option.some.inj h
        rw [hQ]
        exact v_callXth (mcz := 1) (msz := 6) (fun H locs hR hS => vx_runV (As := [.ref a4, .int x3]) (rest := []) ⟨hx, hb, hml, hown, hts⟩ (mX9_checkStamp l hfl D x0 a4 x3 z5.2 z8 ez8) (cwV 2 hts (gdV kw1320 kw1322 kw25 kw27 kw1323) rfl rfl rfl (by decide +kernel) ⟨Nat.le_of_ble_eq_true rfl, Nat.le_of_ble_eq_true rfl⟩) (v_preV (ci := 10) hSS hR hS g8 (by decide) rfl [.ref a4, .int x3]) rfl rfl hl.1 rfl (lv_room (Nat.le_of_ble_eq_true rfl)) dX9_differs_21 ⟨by show _ + _ ≤ 1; omega, by show _ + _ ≤ 6; omega⟩) (by rw [hz8]; rfl) (by rw [hz8]; rfl) hnt hlk (by omega) (by omega)
    · replace h := v_inr hz5 h
      obtain rfl := Option.some.inj h
      rw [hQ]
      exact v_callXth (mcz := 1) (msz := 6) (fun H locs hR hS => vx_runV (As := [.ref a4, .int x2]) (rest := []) ⟨hx, hb, hml, hown, hts⟩ (mX9_checkStamp l hfl D x0 a4 x2 z1.2 z5 ez5) (cwV 2 hts (gdV kw1320 kw1322 kw25 kw27 kw1323) rfl rfl rfl (by decide +kernel) ⟨Nat.le_of_ble_eq_true rfl, Nat.le_of_ble_eq_true rfl⟩) (v_preV (ci := 10) hSS hR hS g8 (by decide) rfl [.ref a4, .int x2]) rfl rfl hl.1 rfl (lv_room (Nat.le_of_ble_eq_true rfl)) dX9_differs_14 ⟨by show _ + _ ≤ 1; omega, by show _ + _ ≤ 6; omega⟩) (by rw [hz5]; rfl) (by rw [hz5]; rfl) hnt hlk (by omega) (by omega)
  · replace h := v_inr hz1 h
    obtain rfl := Option.some.inj h
    rw [hQ]
    exact v_callXth (mcz := 1) (msz := 6) (fun H locs hR hS => vx_runV (As := [.int x1]) (rest := []) ⟨hx, hb, hml, hown, hts⟩ (mX9_rowsOf l hfl D x0 x1 M z1 ez1) (cwV 1 hts (gdV kw1039 kw1041 kw21 kw27 kw1042) rfl rfl rfl (by decide +kernel) ⟨Nat.le_of_ble_eq_true rfl, Nat.le_of_ble_eq_true rfl⟩) (v_preV (ci := 10) hSS hR hS g8 (by decide) rfl [.int x1]) rfl rfl hl.1 rfl (lv_room (Nat.le_of_ble_eq_true rfl)) dX9_differs_2 ⟨by show _ + _ ≤ 1; omega, by show _ + _ ≤ 6; omega⟩) (by rw [hz1]; rfl) (by rw [hz1]; rfl) hnt hlk (by omega) (by omega)

def tX9_checkNumber (x0 : Nat) (x1 : Int32) (M : vMe) : Option ((Unit ⊕ Nat) × vMe) :=
  (gA M x0 11 3).bind fun a1 =>
  if M.2.1 + 0 ≤ M.2.1 + 1 ∧ M.2.2.1 + 0 ≤ M.2.2.1 + 6 then
  (if (M.1 a1).1 = 8 then
  ((tX5_hasNumber a1 x1 M).bind fun z2 =>
  if z2 = 0 then
  (if M.2.1 + 1 ≤ M.2.1 + 1 ∧ M.2.2.1 + 6 ≤ M.2.2.1 + 6 then some (Sum.inr 0, M) else none)
else
  (if M.2.1 ≤ M.2.1 + 1 ∧ M.2.2.1 ≤ M.2.2.1 + 6 then some (Sum.inl (()), M) else none))
else none)
else none
def rmX9_checkNumber : Room := { frames := 6, cells := 1, slots := 6, locals := 100 }
set_option maxHeartbeats 4000000 in
set_option maxRecDepth 100000 in
theorem mX9_checkNumber (l : Launch) (hfl : l.stackTraces = false) (D : vD) (x0 : Nat) (x1 : Int32) (M : vMe) (z : ((Unit ⊕ Nat) × vMe)) (h : tX9_checkNumber x0 x1 M = some z) : vx_Met l yX9_checkNumber (Cond.code yX9_checkNumber cX9_checkNumber 2 none :: TB) rmX9_checkNumber (va_Pc [.ref x0, .int x1] (vPre D M)) (qX D (Sum.elim (fun _ => some none) (fun _ => none) z.1) z.2) (xX D (Sum.elim (fun _ => none) some z.1) z.2) 1 6 (vA D) := by
  refine v_ofX (cc := cX9_checkNumber) (maxL := 2) (ret := none) (by decide) (Nat.le_of_ble_eq_true rfl) ?_
  intro p e s m args below meth c Q hx hb hr hml hown hts hlk hnm hSS hR0 hQ hnt ls hl
  have hz0 := hR0.2.1
  have hs0 := hR0.2.2.1
  have hb0 : D.2.2.2.1 ≤ s.heap.size := hR0.2.2.2.2.1
  refine v_tight hb0 ?_
  have hK := hSS.1
  have hl : lv_has ls 2 [(0, .ref x0), (1, .int x1)] := hl
  unfold tX9_checkNumber at h
  refine w_aload_n hx hb dX9_checkNumber_0 rfl (lv_at hl 0 rfl) ?_
  obtain ⟨a1, ea1, h⟩ := v_bnd h
  refine v_gA (ci := 10) hx hb hts iwX9 hown hK 3 ea1 rfl (by decide) (Or.inl (hts _ kw292)) (fun _ h9 => h9) dX9_checkNumber_1 ?_
  refine w_iload_n hx hb dX9_checkNumber_4 rfl (lv_at hl 1 rfl) ?_
  obtain ⟨g7, h⟩ := v_ifs h
  refine v_tight hb0 ?_
  obtain ⟨g8, h⟩ := v_ifs h
  obtain ⟨z2, ez2, h⟩ := v_bnd h
  refine v_call1 (v := .int z2) (M1 := M) (mc := 0) (ms := 0) (fun H locs hR hS => va_runV (As := [.int x1]) (rest := []) ⟨hx, hb, hml, hown, hts⟩ (mX5_hasNumber l hfl D a1 x1 M z2 ez2) (cwV 1 hts (gdV kw1220 kw1221 kw1222 kw31 kw1223) rfl rfl rfl (by decide +kernel) ⟨Nat.le_of_ble_eq_true rfl, Nat.le_of_ble_eq_true rfl⟩) (v_preV (ci := 7) hSS hR hS g8 (by decide) rfl [.int x1]) rfl rfl hl.1 rfl (lv_room (Nat.le_of_ble_eq_true rfl)) dX9_checkNumber_5 ⟨by show _ + _ ≤ 1; omega, by show _ + _ ≤ 6; omega⟩) ?_
  refine w_if_ne (tgt := 22) hx hb dX9_checkNumber_8 (by decide) (fun c3 => ?_) (fun c3 => ?_)
  · rw [if_pos c3] at h
    obtain ⟨g5, h⟩ := v_ifs h
    obtain rfl := Option.some.inj h
    rw [hQ]
    refine v_tight hb0 ?_
    exact v_thW hx hb hfl hown (by decide +kernel) hts kw743 kw52 (hSS.2.2.1 9 _ rfl) xat0 xbt0 (by decide) xot0 hSS (hl.1.trans hml.symm) dX9_checkNumber_11 dX9_checkNumber_14 dX9_checkNumber_15 dX9_checkNumber_18 dX9_checkNumber_21 hnt (Nat.le_of_ble_eq_true rfl) (Nat.le_of_ble_eq_true rfl) (by show _ + _ ≤ 1; omega) (by show _ + _ ≤ 6; omega) hlk (by omega) (by omega) rfl
  · rw [if_neg c3] at h
    obtain ⟨g9, h⟩ := v_ifs h
    refine v_tight hb0 (vV.widen (n' := 1) (k' := 6) (by omega) (by omega) ?_)
    obtain rfl := Option.some.inj h
    rw [hQ]
    refine v_xok ?_
    exact v_vret hx hb hr hlk dX9_checkNumber_22

def tX9_since (x0 : Nat) (x1 : Int32) (x2 : Int32) (M : vMe) : Option ((Int32 ⊕ Nat) × vMe) :=
  if M.2.1 + 1 ≤ M.2.1 + 1 ∧ M.2.2.1 + 6 ≤ M.2.2.1 + 6 then
  (if (M.1 x0).1 = 11 then
  ((tX9_rowsOf x0 x1 M).bind fun z1 =>
  Sum.elim (fun r2 =>
  (gA z1.2 r2 9 3).bind fun a4 =>
  if z1.2.2.1 + 1 ≤ M.2.1 + 1 ∧ z1.2.2.2.1 + 6 ≤ M.2.2.1 + 6 then
  (if (z1.2.1 x0).1 = 11 then
  ((tX9_checkNumber x0 x2 z1.2).bind fun z5 =>
  Sum.elim (fun r6 =>
  if z5.2.2.1 + 0 ≤ M.2.1 + 1 ∧ z5.2.2.2.1 + 0 ≤ M.2.2.1 + 6 then
  (if (z5.2.1 a4).1 = 5 then
  ((tX2_latestChangeOf a4 x2 z5.2).bind fun z8 =>
  if z5.2.2.1 ≤ M.2.1 + 1 ∧ z5.2.2.2.1 ≤ M.2.2.1 + 6 then some (Sum.inl z8, z5.2) else none)
else none)
else none) (fun j7 => some (Sum.inr j7, z5.2)) z5.1)
else none)
else none) (fun j3 => some (Sum.inr j3, z1.2)) z1.1)
else none)
else none
def rmX9_since : Room := { frames := 8, cells := 1, slots := 6, locals := 142 }
set_option maxHeartbeats 4000000 in
set_option maxRecDepth 100000 in
theorem mX9_since (l : Launch) (hfl : l.stackTraces = false) (D : vD) (x0 : Nat) (x1 : Int32) (x2 : Int32) (M : vMe) (z : ((Int32 ⊕ Nat) × vMe)) (h : tX9_since x0 x1 x2 M = some z) : vx_Met l yX9_since (Cond.code yX9_since cX9_since 4 (some .int) :: TB) rmX9_since (va_Pc [.ref x0, .int x1, .int x2] (vPre D M)) (qX D (Sum.elim (fun r => some (some (.int r))) (fun _ => none) z.1) z.2) (xX D (Sum.elim (fun _ => none) some z.1) z.2) 1 6 (vA D) := by
  refine v_ofX (cc := cX9_since) (maxL := 4) (ret := (some .int)) (by decide) (Nat.le_of_ble_eq_true rfl) ?_
  intro p e s m args below meth c Q hx hb hr hml hown hts hlk hnm hSS hR0 hQ hnt ls hl
  have hz0 := hR0.2.1
  have hs0 := hR0.2.2.1
  have hb0 : D.2.2.2.1 ≤ s.heap.size := hR0.2.2.2.2.1
  refine v_tight hb0 ?_
  have hK := hSS.1
  have hl : lv_has ls 4 [(0, .ref x0), (1, .int x1), (2, .int x2)] := hl
  unfold tX9_since at h
  refine w_aload_n hx hb dX9_since_0 rfl (lv_at hl 0 rfl) ?_
  refine w_iload_n hx hb dX9_since_1 rfl (lv_at hl 1 rfl) ?_
  obtain ⟨g7, h⟩ := v_ifs h
  refine v_tight hb0 ?_
  obtain ⟨g8, h⟩ := v_ifs h
  obtain ⟨z1, ez1, h⟩ := v_bnd h
  rcases hz1 : z1.1 with r2 | j3
  · replace h := v_inl hz1 h
    refine v_callXok (ov := some (.ref r2)) (mcz := 1) (msz := 6) (fun H locs hR hS => vx_runV (As := [.int x1]) (rest := []) ⟨hx, hb, hml, hown, hts⟩ (mX9_rowsOf l hfl D x0 x1 M z1 ez1) (cwV 1 hts (gdV kw1039 kw1041 kw21 kw27 kw1042) rfl rfl rfl (by decide +kernel) ⟨Nat.le_of_ble_eq_true rfl, Nat.le_of_ble_eq_true rfl⟩) (v_preV (ci := 10) hSS hR hS g8 (by decide) rfl [.int x1]) rfl rfl hl.1 rfl (lv_room (Nat.le_of_ble_eq_true rfl)) dX9_since_2 ⟨by show _ + _ ≤ 1; omega, by show _ + _ ≤ 6; omega⟩) (by rw [hz1]; rfl) (by rw [hz1]; rfl) (st1 := [.ref r2]) rfl ?_
    obtain ⟨a4, ea4, h⟩ := v_bnd h
    refine v_gA (ci := 8) hx hb hts iwX7 hown hK 3 ea4 rfl (by decide) (Or.inr ⟨_, kn15 hSS _⟩) (fun _ h9 => h9) dX9_since_5 ?_
    refine w_astore_n (lv' := [(3, .ref a4), (0, .ref x0), (1, .int x1), (2, .int x2)]) hx hb dX9_since_8 rfl hl (by decide) rfl (fun ls hl => ?_)
    have hl : lv_has ls 4 [(0, .ref x0), (1, .int x1), (2, .int x2), (3, .ref a4)] := lv_sub hl [1, 2, 3, 0] rfl
    refine w_aload_n hx hb dX9_since_9 rfl (lv_at hl 0 rfl) ?_
    refine w_iload_n hx hb dX9_since_10 rfl (lv_at hl 2 rfl) ?_
    obtain ⟨g7, h⟩ := v_ifs h
    refine v_tight hb0 ?_
    obtain ⟨g8, h⟩ := v_ifs h
    obtain ⟨z5, ez5, h⟩ := v_bnd h
    rcases hz5 : z5.1 with r6 | j7
    · replace h := v_inl hz5 h
      refine v_callXok (ov := none) (mcz := 1) (msz := 6) (fun H locs hR hS => vx_runV (As := [.int x2]) (rest := []) ⟨hx, hb, hml, hown, hts⟩ (mX9_checkNumber l hfl D x0 x2 z1.2 z5 ez5) (cwV 1 hts (gdV kw1216 kw1218 kw24 kw27 kw1219) rfl rfl rfl (by decide +kernel) ⟨Nat.le_of_ble_eq_true rfl, Nat.le_of_ble_eq_true rfl⟩) (v_preV (ci := 10) hSS hR hS g8 (by decide) rfl [.int x2]) rfl rfl hl.1 rfl (lv_room (Nat.le_of_ble_eq_true rfl)) dX9_since_11 ⟨by show _ + _ ≤ 1; omega, by show _ + _ ≤ 6; omega⟩) (by rw [hz5]; rfl) (by rw [hz5]; rfl) (st1 := []) rfl ?_
      refine w_aload_n hx hb dX9_since_14 rfl (lv_at hl 3 rfl) ?_
      refine w_iload_n hx hb dX9_since_15 rfl (lv_at hl 2 rfl) ?_
      obtain ⟨g7, h⟩ := v_ifs h
      refine v_tight hb0 ?_
      obtain ⟨g8, h⟩ := v_ifs h
      obtain ⟨z8, ez8, h⟩ := v_bnd h
      refine v_call1 (v := .int z8) (M1 := z5.2) (mc := 0) (ms := 0) (fun H locs hR hS => va_runV (As := [.int x2]) (rest := []) ⟨hx, hb, hml, hown, hts⟩ (mX2_latestChangeOf l hfl D a4 x2 z5.2 z8 ez8) (cwV 1 hts (gdV kw1359 kw1360 kw1361 kw33 kw1362) rfl rfl rfl (by decide +kernel) ⟨Nat.le_of_ble_eq_true rfl, Nat.le_of_ble_eq_true rfl⟩) (v_preV (ci := 4) hSS hR hS g8 (by decide) rfl [.int x2]) rfl rfl hl.1 rfl (lv_room (Nat.le_of_ble_eq_true rfl)) dX9_since_16 ⟨by show _ + _ ≤ 1; omega, by show _ + _ ≤ 6; omega⟩) ?_
      obtain ⟨g9, h⟩ := v_ifs h
      refine v_tight hb0 (vV.widen (n' := 1) (k' := 6) (by omega) (by omega) ?_)
      obtain rfl := Option.some.inj h
      rw [hQ]
      refine v_xok ?_
      exact v_iret hx hb hr hlk dX9_since_19
    · replace h := v_inr hz5 h
      obtain rfl := Option.some.inj h
      rw [hQ]
      exact v_callXth (mcz := 1) (msz := 6) (fun H locs hR hS => vx_runV (As := [.int x2]) (rest := []) ⟨hx, hb, hml, hown, hts⟩ (mX9_checkNumber l hfl D x0 x2 z1.2 z5 ez5) (cwV 1 hts (gdV kw1216 kw1218 kw24 kw27 kw1219) rfl rfl rfl (by decide +kernel) ⟨Nat.le_of_ble_eq_true rfl, Nat.le_of_ble_eq_true rfl⟩) (v_preV (ci := 10) hSS hR hS g8 (by decide) rfl [.int x2]) rfl rfl hl.1 rfl (lv_room (Nat.le_of_ble_eq_true rfl)) dX9_since_11 ⟨by show _ + _ ≤ 1; omega, by show _ + _ ≤ 6; omega⟩) (by rw [hz5]; rfl) (by rw [hz5]; rfl) hnt hlk (by omega) (by omega)
  · replace h := v_inr hz1 h
    obtain rfl := Option.some.inj h
    rw [hQ]
    exact v_callXth (mcz := 1) (msz := 6) (fun H locs hR hS => vx_runV (As := [.int x1]) (rest := []) ⟨hx, hb, hml, hown, hts⟩ (mX9_rowsOf l hfl D x0 x1 M z1 ez1) (cwV 1 hts (gdV kw1039 kw1041 kw21 kw27 kw1042) rfl rfl rfl (by decide +kernel) ⟨Nat.le_of_ble_eq_true rfl, Nat.le_of_ble_eq_true rfl⟩) (v_preV (ci := 10) hSS hR hS g8 (by decide) rfl [.int x1]) rfl rfl hl.1 rfl (lv_room (Nat.le_of_ble_eq_true rfl)) dX9_since_2 ⟨by show _ + _ ≤ 1; omega, by show _ + _ ≤ 6; omega⟩) (by rw [hz1]; rfl) (by rw [hz1]; rfl) hnt hlk (by omega) (by omega)

def tX9_fullest (x0 : Nat) (x1 : Int32) (M : vMe) : Option ((Int32 ⊕ Nat) × vMe) :=
  if M.2.1 + 1 ≤ M.2.1 + 1 ∧ M.2.2.1 + 6 ≤ M.2.2.1 + 6 then
  (if (M.1 x0).1 = 11 then
  ((tX9_rowsOf x0 x1 M).bind fun z1 =>
  Sum.elim (fun r2 =>
  (gA z1.2 r2 9 3).bind fun a4 =>
  if z1.2.2.1 + 0 ≤ M.2.1 + 1 ∧ z1.2.2.2.1 + 0 ≤ M.2.2.1 + 6 then
  (if (z1.2.1 a4).1 = 5 then
  ((tX2_stampOfMostMembers a4 z1.2).bind fun z5 =>
  if z1.2.2.1 ≤ M.2.1 + 1 ∧ z1.2.2.2.1 ≤ M.2.2.1 + 6 then some (Sum.inl z5, z1.2) else none)
else none)
else none) (fun j3 => some (Sum.inr j3, z1.2)) z1.1)
else none)
else none
def rmX9_fullest : Room := { frames := 8, cells := 1, slots := 6, locals := 142 }
set_option maxHeartbeats 4000000 in
set_option maxRecDepth 100000 in
theorem mX9_fullest (l : Launch) (hfl : l.stackTraces = false) (D : vD) (x0 : Nat) (x1 : Int32) (M : vMe) (z : ((Int32 ⊕ Nat) × vMe)) (h : tX9_fullest x0 x1 M = some z) : vx_Met l yX9_fullest (Cond.code yX9_fullest cX9_fullest 2 (some .int) :: TB) rmX9_fullest (va_Pc [.ref x0, .int x1] (vPre D M)) (qX D (Sum.elim (fun r => some (some (.int r))) (fun _ => none) z.1) z.2) (xX D (Sum.elim (fun _ => none) some z.1) z.2) 1 6 (vA D) := by
  refine v_ofX (cc := cX9_fullest) (maxL := 2) (ret := (some .int)) (by decide) (Nat.le_of_ble_eq_true rfl) ?_
  intro p e s m args below meth c Q hx hb hr hml hown hts hlk hnm hSS hR0 hQ hnt ls hl
  have hz0 := hR0.2.1
  have hs0 := hR0.2.2.1
  have hb0 : D.2.2.2.1 ≤ s.heap.size := hR0.2.2.2.2.1
  refine v_tight hb0 ?_
  have hK := hSS.1
  have hl : lv_has ls 2 [(0, .ref x0), (1, .int x1)] := hl
  unfold tX9_fullest at h
  refine w_aload_n hx hb dX9_fullest_0 rfl (lv_at hl 0 rfl) ?_
  refine w_iload_n hx hb dX9_fullest_1 rfl (lv_at hl 1 rfl) ?_
  obtain ⟨g7, h⟩ := v_ifs h
  refine v_tight hb0 ?_
  obtain ⟨g8, h⟩ := v_ifs h
  obtain ⟨z1, ez1, h⟩ := v_bnd h
  rcases hz1 : z1.1 with r2 | j3
  · replace h := v_inl hz1 h
    refine v_callXok (ov := some (.ref r2)) (mcz := 1) (msz := 6) (fun H locs hR hS => vx_runV (As := [.int x1]) (rest := []) ⟨hx, hb, hml, hown, hts⟩ (mX9_rowsOf l hfl D x0 x1 M z1 ez1) (cwV 1 hts (gdV kw1039 kw1041 kw21 kw27 kw1042) rfl rfl rfl (by decide +kernel) ⟨Nat.le_of_ble_eq_true rfl, Nat.le_of_ble_eq_true rfl⟩) (v_preV (ci := 10) hSS hR hS g8 (by decide) rfl [.int x1]) rfl rfl hl.1 rfl (lv_room (Nat.le_of_ble_eq_true rfl)) dX9_fullest_2 ⟨by show _ + _ ≤ 1; omega, by show _ + _ ≤ 6; omega⟩) (by rw [hz1]; rfl) (by rw [hz1]; rfl) (st1 := [.ref r2]) rfl ?_
    obtain ⟨a4, ea4, h⟩ := v_bnd h
    refine v_gA (ci := 8) hx hb hts iwX7 hown hK 3 ea4 rfl (by decide) (Or.inr ⟨_, kn15 hSS _⟩) (fun _ h9 => h9) dX9_fullest_5 ?_
    obtain ⟨g7, h⟩ := v_ifs h
    refine v_tight hb0 ?_
    obtain ⟨g8, h⟩ := v_ifs h
    obtain ⟨z5, ez5, h⟩ := v_bnd h
    refine v_call1 (v := .int z5) (M1 := z1.2) (mc := 0) (ms := 0) (fun H locs hR hS => va_runV (As := []) (rest := []) ⟨hx, hb, hml, hown, hts⟩ (mX2_stampOfMostMembers l hfl D a4 z1.2 z5 ez5) (cwV 0 hts (gdV kw1350 kw1351 kw1352 kw33 kw1353) rfl rfl rfl (by decide +kernel) ⟨Nat.le_of_ble_eq_true rfl, Nat.le_of_ble_eq_true rfl⟩) (v_preV (ci := 4) hSS hR hS g8 (by decide) rfl []) rfl rfl hl.1 rfl (lv_room (Nat.le_of_ble_eq_true rfl)) dX9_fullest_8 ⟨by show _ + _ ≤ 1; omega, by show _ + _ ≤ 6; omega⟩) ?_
    obtain ⟨g9, h⟩ := v_ifs h
    refine v_tight hb0 (vV.widen (n' := 1) (k' := 6) (by omega) (by omega) ?_)
    obtain rfl := Option.some.inj h
    rw [hQ]
    refine v_xok ?_
    exact v_iret hx hb hr hlk dX9_fullest_11
  · replace h := v_inr hz1 h
    obtain rfl := Option.some.inj h
    rw [hQ]
    exact v_callXth (mcz := 1) (msz := 6) (fun H locs hR hS => vx_runV (As := [.int x1]) (rest := []) ⟨hx, hb, hml, hown, hts⟩ (mX9_rowsOf l hfl D x0 x1 M z1 ez1) (cwV 1 hts (gdV kw1039 kw1041 kw21 kw27 kw1042) rfl rfl rfl (by decide +kernel) ⟨Nat.le_of_ble_eq_true rfl, Nat.le_of_ble_eq_true rfl⟩) (v_preV (ci := 10) hSS hR hS g8 (by decide) rfl [.int x1]) rfl rfl hl.1 rfl (lv_room (Nat.le_of_ble_eq_true rfl)) dX9_fullest_2 ⟨by show _ + _ ≤ 1; omega, by show _ + _ ≤ 6; omega⟩) (by rw [hz1]; rfl) (by rw [hz1]; rfl) hnt hlk (by omega) (by omega)

def tX9_cursorOf_J25 (n0 s0 : Nat)  (Mj : vMe) : Option ((Nat ⊕ Nat) × vMe) :=
  if Mj.2.1 + 1 ≤ n0 + 1 ∧ Mj.2.2.1 + 6 ≤ s0 + 6 then some (Sum.inr 1, Mj) else none
def tX9_cursorOf (x0 : Nat) (x1 : Int32) (M : vMe) : Option ((Nat ⊕ Nat) × vMe) :=
  if x1 < 0 then
  (tX9_cursorOf_J25 M.2.1 M.2.2.1  M)
else
  (if (6 : Int32) ≤ x1 then
  (tX9_cursorOf_J25 M.2.1 M.2.2.1  M)
else
  ((gA M x0 11 3).bind fun a3 =>
  (gA M a3 8 1).bind fun a4 =>
  (aA M a4 108 x1).bind fun a5 =>
  (gI M a5 3 0).bind fun v6 =>
  if v6 = 0 then
  (tX9_cursorOf_J25 M.2.1 M.2.2.1  M)
else
  ((gA M x0 11 3).bind fun a8 =>
  (gA M a8 8 1).bind fun a9 =>
  (aA M a9 108 x1).bind fun a10 =>
  if M.2.1 ≤ M.2.1 + 1 ∧ M.2.2.1 ≤ M.2.2.1 + 6 then some (Sum.inl a10, M) else none)))
def rmX9_cursorOf : Room := { frames := 6, cells := 1, slots := 6, locals := 100 }
set_option maxHeartbeats 4000000 in
set_option maxRecDepth 100000 in
theorem mX9_cursorOf (l : Launch) (hfl : l.stackTraces = false) (D : vD) (x0 : Nat) (x1 : Int32) (M : vMe) (z : ((Nat ⊕ Nat) × vMe)) (h : tX9_cursorOf x0 x1 M = some z) : vx_Met l yX9_cursorOf (Cond.code yX9_cursorOf cX9_cursorOf 2 (some (.object "TwinSets$Cursor")) :: TB) rmX9_cursorOf (va_Pc [.ref x0, .int x1] (vPre D M)) (qX D (Sum.elim (fun r => some (some (.ref r))) (fun _ => none) z.1) z.2) (xX D (Sum.elim (fun _ => none) some z.1) z.2) 1 6 (vA D) := by
  refine v_ofX (cc := cX9_cursorOf) (maxL := 2) (ret := (some (.object "TwinSets$Cursor"))) (by decide) (Nat.le_of_ble_eq_true rfl) ?_
  intro p e s m args below meth c Q hx hb hr hml hown hts hlk hnm hSS hR0 hQ hnt ls hl
  have hz0 := hR0.2.1
  have hs0 := hR0.2.2.1
  have hb0 : D.2.2.2.1 ≤ s.heap.size := hR0.2.2.2.2.1
  refine v_tight hb0 ?_
  have hK := hSS.1
  have hl : lv_has ls 2 [(0, .ref x0), (1, .int x1)] := hl
  unfold tX9_cursorOf at h
  have X9_cursorOf_J25p : ∀  (Mj : vMe) (ls : Array Slot), lv_has ls 2 [] → tX9_cursorOf_J25 M.2.1 M.2.2.1  Mj = some z → vV D p l e rmX9_cursorOf s m args below meth c (Mj.2.1 - s.heap.size) (Mj.2.2.1 - vSum D.2.2.2.1 s.heap) Q Mj (F0 m 25 ls []) := by
    intro  Mj ls hl h
    unfold tX9_cursorOf_J25 at h
    obtain ⟨g5, h⟩ := v_ifs h
    obtain rfl := Option.some.inj h
    rw [hQ]
    refine v_tight hb0 ?_
    exact v_thW hx hb hfl hown (by decide +kernel) hts kw1047 kw56 (hSS.2.2.1 8 _ rfl) xat1 xbt1 (by decide) xot1 hSS (hl.1.trans hml.symm) dX9_cursorOf_25 dX9_cursorOf_28 dX9_cursorOf_29 dX9_cursorOf_32 dX9_cursorOf_35 hnt (Nat.le_of_ble_eq_true rfl) (Nat.le_of_ble_eq_true rfl) (by show _ + _ ≤ 1; omega) (by show _ + _ ≤ 6; omega) hlk (by omega) (by omega) rfl
  refine w_iload_n hx hb dX9_cursorOf_0 rfl (lv_at hl 1 rfl) ?_
  refine w_if_lt (tgt := 25) hx hb dX9_cursorOf_1 (by decide) (fun c1 => ?_) (fun c1 => ?_)
  · rw [if_pos c1] at h
    refine v_tight hb0 ?_
    exact X9_cursorOf_J25p  M ls (lv_sub hl [] rfl) h
  · rw [if_neg c1] at h
    refine w_iload_n hx hb dX9_cursorOf_4 rfl (lv_at hl 1 rfl) ?_
    refine w_bipush (v := 6) hx hb dX9_cursorOf_5 (by decide) ?_
    refine w_icmp_ge (tgt := 25) hx hb dX9_cursorOf_7 (by decide) (fun c2 => ?_) (fun c2 => ?_)
    · rw [if_pos c2] at h
      refine v_tight hb0 ?_
      exact X9_cursorOf_J25p  M ls (lv_sub hl [] rfl) h
    · rw [if_neg c2] at h
      refine w_aload_n hx hb dX9_cursorOf_10 rfl (lv_at hl 0 rfl) ?_
      obtain ⟨a3, ea3, h⟩ := v_bnd h
      refine v_gA (ci := 10) hx hb hts iwX9 hown hK 3 ea3 rfl (by decide) (Or.inl (hts _ kw292)) (fun _ h9 => h9) dX9_cursorOf_11 ?_
      obtain ⟨a4, ea4, h⟩ := v_bnd h
      refine v_gA (ci := 7) hx hb hts iwX5 hown hK 1 ea4 rfl (by decide) (Or.inr ⟨_, kn37 hSS _⟩) (fun _ h9 => h9) dX9_cursorOf_14 ?_
      refine w_iload_n hx hb dX9_cursorOf_17 rfl (lv_at hl 1 rfl) ?_
      obtain ⟨a5, ea5, h⟩ := v_bnd h
      refine v_aaldA hx hb hK ea5 (by decide) dX9_cursorOf_18 ?_
      obtain ⟨v6, ev6, h⟩ := v_bnd h
      refine v_gI (ci := 2) hx hb hts iwX0 hown hK 0 ev6 rfl (by decide) (Or.inr ⟨_, kn22 hSS _⟩) (fun _ h9 => h9) dX9_cursorOf_19 ?_
      refine w_if_ne (tgt := 36) hx hb dX9_cursorOf_22 (by decide) (fun c7 => ?_) (fun c7 => ?_)
      · rw [if_pos c7] at h
        refine v_tight hb0 ?_
        exact X9_cursorOf_J25p  M ls (lv_sub hl [] rfl) h
      · rw [if_neg c7] at h
        refine w_aload_n hx hb dX9_cursorOf_36 rfl (lv_at hl 0 rfl) ?_
        obtain ⟨a8, ea8, h⟩ := v_bnd h
        refine v_gA (ci := 10) hx hb hts iwX9 hown hK 3 ea8 rfl (by decide) (Or.inl (hts _ kw292)) (fun _ h9 => h9) dX9_cursorOf_37 ?_
        obtain ⟨a9, ea9, h⟩ := v_bnd h
        refine v_gA (ci := 7) hx hb hts iwX5 hown hK 1 ea9 rfl (by decide) (Or.inr ⟨_, kn37 hSS _⟩) (fun _ h9 => h9) dX9_cursorOf_40 ?_
        refine w_iload_n hx hb dX9_cursorOf_43 rfl (lv_at hl 1 rfl) ?_
        obtain ⟨a10, ea10, h⟩ := v_bnd h
        refine v_aaldA hx hb hK ea10 (by decide) dX9_cursorOf_44 ?_
        obtain ⟨g9, h⟩ := v_ifs h
        refine v_tight hb0 (vV.widen (n' := 1) (k' := 6) (by omega) (by omega) ?_)
        obtain rfl := Option.some.inj h
        rw [hQ]
        refine v_xok ?_
        exact v_aret hx hb hr (Or.inl ⟨_, rfl⟩) (Or.inr ⟨_, rfl⟩) hlk dX9_cursorOf_45

def tX9_cursor (x0 : Nat) (x1 : Int32) (x2 : Int32) (M : vMe) : Option ((Int32 ⊕ Nat) × vMe) :=
  if M.2.1 + 1 ≤ M.2.1 + 1 ∧ M.2.2.1 + 6 ≤ M.2.2.1 + 6 then
  (if (M.1 x0).1 = 11 then
  ((tX9_cursorOf x0 x1 M).bind fun z1 =>
  Sum.elim (fun r2 =>
  if x2 = 0 then
  ((gI z1.2 r2 3 3).bind fun v4 =>
  if z1.2.2.1 ≤ M.2.1 + 1 ∧ z1.2.2.2.1 ≤ M.2.2.1 + 6 then some (Sum.inl v4, z1.2) else none)
else
  (if x2 = 1 then
  ((gI z1.2 r2 3 4).bind fun v5 =>
  if z1.2.2.1 ≤ M.2.1 + 1 ∧ z1.2.2.2.1 ≤ M.2.2.1 + 6 then some (Sum.inl v5, z1.2) else none)
else
  (if x2 = 2 then
  ((gI z1.2 r2 3 1).bind fun v6 =>
  if v6 = 0 then
  (if z1.2.2.1 ≤ M.2.1 + 1 ∧ z1.2.2.2.1 ≤ M.2.2.1 + 6 then some (Sum.inl 0, z1.2) else none)
else
  (if z1.2.2.1 ≤ M.2.1 + 1 ∧ z1.2.2.2.1 ≤ M.2.2.1 + 6 then some (Sum.inl 1, z1.2) else none))
else
  (if x2 = 3 then
  ((gI z1.2 r2 3 2).bind fun v8 =>
  if v8 = 0 then
  (if z1.2.2.1 ≤ M.2.1 + 1 ∧ z1.2.2.2.1 ≤ M.2.2.1 + 6 then some (Sum.inl 0, z1.2) else none)
else
  (if z1.2.2.1 ≤ M.2.1 + 1 ∧ z1.2.2.2.1 ≤ M.2.2.1 + 6 then some (Sum.inl 1, z1.2) else none))
else
  (if x2 = 4 then
  ((gI z1.2 r2 3 5).bind fun v10 =>
  if z1.2.2.1 ≤ M.2.1 + 1 ∧ z1.2.2.2.1 ≤ M.2.2.1 + 6 then some (Sum.inl v10, z1.2) else none)
else
  (if x2 = 5 then
  ((gI z1.2 r2 3 6).bind fun v11 =>
  if z1.2.2.1 ≤ M.2.1 + 1 ∧ z1.2.2.2.1 ≤ M.2.2.1 + 6 then some (Sum.inl v11, z1.2) else none)
else
  (if x2 = 6 then
  ((gI z1.2 r2 3 7).bind fun v12 =>
  if z1.2.2.1 ≤ M.2.1 + 1 ∧ z1.2.2.2.1 ≤ M.2.2.1 + 6 then some (Sum.inl v12, z1.2) else none)
else
  (if z1.2.2.1 + 1 ≤ M.2.1 + 1 ∧ z1.2.2.2.1 + 6 ≤ M.2.2.1 + 6 then some (Sum.inr 0, z1.2) else none)))))))) (fun j3 => some (Sum.inr j3, z1.2)) z1.1)
else none)
else none
def rmX9_cursor : Room := { frames := 7, cells := 1, slots := 6, locals := 121 }
set_option maxHeartbeats 4000000 in
set_option maxRecDepth 100000 in
theorem mX9_cursor (l : Launch) (hfl : l.stackTraces = false) (D : vD) (x0 : Nat) (x1 : Int32) (x2 : Int32) (M : vMe) (z : ((Int32 ⊕ Nat) × vMe)) (h : tX9_cursor x0 x1 x2 M = some z) : vx_Met l yX9_cursor (Cond.code yX9_cursor cX9_cursor 4 (some .int) :: TB) rmX9_cursor (va_Pc [.ref x0, .int x1, .int x2] (vPre D M)) (qX D (Sum.elim (fun r => some (some (.int r))) (fun _ => none) z.1) z.2) (xX D (Sum.elim (fun _ => none) some z.1) z.2) 1 6 (vA D) := by
  refine v_ofX (cc := cX9_cursor) (maxL := 4) (ret := (some .int)) (by decide) (Nat.le_of_ble_eq_true rfl) ?_
  intro p e s m args below meth c Q hx hb hr hml hown hts hlk hnm hSS hR0 hQ hnt ls hl
  have hz0 := hR0.2.1
  have hs0 := hR0.2.2.1
  have hb0 : D.2.2.2.1 ≤ s.heap.size := hR0.2.2.2.2.1
  refine v_tight hb0 ?_
  have hK := hSS.1
  have hl : lv_has ls 4 [(0, .ref x0), (1, .int x1), (2, .int x2)] := hl
  unfold tX9_cursor at h
  refine w_aload_n hx hb dX9_cursor_0 rfl (lv_at hl 0 rfl) ?_
  refine w_iload_n hx hb dX9_cursor_1 rfl (lv_at hl 1 rfl) ?_
  obtain ⟨g7, h⟩ := v_ifs h
  refine v_tight hb0 ?_
  obtain ⟨g8, h⟩ := v_ifs h
  obtain ⟨z1, ez1, h⟩ := v_bnd h
  rcases hz1 : z1.1 with r2 | j3
  · replace h := v_inl hz1 h
    refine v_callXok (ov := some (.ref r2)) (mcz := 1) (msz := 6) (fun H locs hR hS => vx_runV (As := [.int x1]) (rest := []) ⟨hx, hb, hml, hown, hts⟩ (mX9_cursorOf l hfl D x0 x1 M z1 ez1) (cwV 1 hts (gdV kw1175 kw1177 kw23 kw27 kw1178) rfl rfl rfl (by decide +kernel) ⟨Nat.le_of_ble_eq_true rfl, Nat.le_of_ble_eq_true rfl⟩) (v_preV (ci := 10) hSS hR hS g8 (by decide) rfl [.int x1]) rfl rfl hl.1 rfl (lv_room (Nat.le_of_ble_eq_true rfl)) dX9_cursor_2 ⟨by show _ + _ ≤ 1; omega, by show _ + _ ≤ 6; omega⟩) (by rw [hz1]; rfl) (by rw [hz1]; rfl) (st1 := [.ref r2]) rfl ?_
    refine w_astore_n (lv' := [(3, .ref r2), (0, .ref x0), (1, .int x1), (2, .int x2)]) hx hb dX9_cursor_5 rfl hl (by decide) rfl (fun ls hl => ?_)
    have hl : lv_has ls 4 [(0, .ref x0), (1, .int x1), (2, .int x2), (3, .ref r2)] := lv_sub hl [1, 2, 3, 0] rfl
    refine w_iload_n hx hb dX9_cursor_6 rfl (lv_at hl 2 rfl) ?_
    by_cases c13 : x2 = 0
    · rw [if_pos c13] at h
      refine w_tabIn (tgt := 48) (off := 41) hx hb dX9_cursor_7 (by rw [c13]; decide) (by rw [c13]; decide) (by rw [c13]; rfl) (by decide) ?_
      refine w_aload_n hx hb dX9_cursor_48 rfl (lv_at hl 3 rfl) ?_
      obtain ⟨v4, ev4, h⟩ := v_bnd h
      refine v_gI (ci := 2) hx hb hts iwX0 hown hK 3 ev4 rfl (by decide) (Or.inr ⟨_, kn26 hSS _⟩) (fun _ h9 => h9) dX9_cursor_49 ?_
      obtain ⟨g9, h⟩ := v_ifs h
      refine v_tight hb0 (vV.widen (n' := 1) (k' := 6) (by omega) (by omega) ?_)
      obtain rfl := Option.some.inj h
      rw [hQ]
      refine v_xok ?_
      exact v_iret hx hb hr hlk dX9_cursor_52
    rw [if_neg c13] at h
    by_cases c14 : x2 = 1
    · rw [if_pos c14] at h
      refine w_tabIn (tgt := 53) (off := 46) hx hb dX9_cursor_7 (by rw [c14]; decide) (by rw [c14]; decide) (by rw [c14]; rfl) (by decide) ?_
      refine w_aload_n hx hb dX9_cursor_53 rfl (lv_at hl 3 rfl) ?_
      obtain ⟨v5, ev5, h⟩ := v_bnd h
      refine v_gI (ci := 2) hx hb hts iwX0 hown hK 4 ev5 rfl (by decide) (Or.inr ⟨_, kn29 hSS _⟩) (fun _ h9 => h9) dX9_cursor_54 ?_
      obtain ⟨g9, h⟩ := v_ifs h
      refine v_tight hb0 (vV.widen (n' := 1) (k' := 6) (by omega) (by omega) ?_)
      obtain rfl := Option.some.inj h
      rw [hQ]
      refine v_xok ?_
      exact v_iret hx hb hr hlk dX9_cursor_57
    rw [if_neg c14] at h
    by_cases c15 : x2 = 2
    · rw [if_pos c15] at h
      refine w_tabIn (tgt := 58) (off := 51) hx hb dX9_cursor_7 (by rw [c15]; decide) (by rw [c15]; decide) (by rw [c15]; rfl) (by decide) ?_
      refine w_aload_n hx hb dX9_cursor_58 rfl (lv_at hl 3 rfl) ?_
      obtain ⟨v6, ev6, h⟩ := v_bnd h
      refine v_gI (ci := 2) hx hb hts iwX0 hown hK 1 ev6 rfl (by decide) (Or.inr ⟨_, kn24 hSS _⟩) (fun _ h9 => h9) dX9_cursor_59 ?_
      refine w_if_eq (tgt := 69) hx hb dX9_cursor_62 (by decide) (fun c7 => ?_) (fun c7 => ?_)
      · rw [if_pos c7] at h
        refine w_iconst (v := 0) hx hb dX9_cursor_69 (by decide) ?_
        obtain ⟨g9, h⟩ := v_ifs h
        refine v_tight hb0 (vV.widen (n' := 1) (k' := 6) (by omega) (by omega) ?_)
        obtain rfl := Option.some.inj h
        rw [hQ]
        refine v_xok ?_
        exact v_iret hx hb hr hlk dX9_cursor_70
      · rw [if_neg c7] at h
        refine w_iconst (v := 1) hx hb dX9_cursor_65 (by decide) ?_
        refine w_goto (tgt := 70) hx hb dX9_cursor_66 (by decide) ?_
        obtain ⟨g9, h⟩ := v_ifs h
        refine v_tight hb0 (vV.widen (n' := 1) (k' := 6) (by omega) (by omega) ?_)
        obtain rfl := Option.some.inj h
        rw [hQ]
        refine v_xok ?_
        exact v_iret hx hb hr hlk dX9_cursor_70
    rw [if_neg c15] at h
    by_cases c16 : x2 = 3
    · rw [if_pos c16] at h
      refine w_tabIn (tgt := 71) (off := 64) hx hb dX9_cursor_7 (by rw [c16]; decide) (by rw [c16]; decide) (by rw [c16]; rfl) (by decide) ?_
      refine w_aload_n hx hb dX9_cursor_71 rfl (lv_at hl 3 rfl) ?_
      obtain ⟨v8, ev8, h⟩ := v_bnd h
      refine v_gI (ci := 2) hx hb hts iwX0 hown hK 2 ev8 rfl (by decide) (Or.inr ⟨_, kn25 hSS _⟩) (fun _ h9 => h9) dX9_cursor_72 ?_
      refine w_if_eq (tgt := 82) hx hb dX9_cursor_75 (by decide) (fun c9 => ?_) (fun c9 => ?_)
      · rw [if_pos c9] at h
        refine w_iconst (v := 0) hx hb dX9_cursor_82 (by decide) ?_
        obtain ⟨g9, h⟩ := v_ifs h
        refine v_tight hb0 (vV.widen (n' := 1) (k' := 6) (by omega) (by omega) ?_)
        obtain rfl := Option.some.inj h
        rw [hQ]
        refine v_xok ?_
        exact v_iret hx hb hr hlk dX9_cursor_83
      · rw [if_neg c9] at h
        refine w_iconst (v := 1) hx hb dX9_cursor_78 (by decide) ?_
        refine w_goto (tgt := 83) hx hb dX9_cursor_79 (by decide) ?_
        obtain ⟨g9, h⟩ := v_ifs h
        refine v_tight hb0 (vV.widen (n' := 1) (k' := 6) (by omega) (by omega) ?_)
        obtain rfl := Option.some.inj h
        rw [hQ]
        refine v_xok ?_
        exact v_iret hx hb hr hlk dX9_cursor_83
    rw [if_neg c16] at h
    by_cases c17 : x2 = 4
    · rw [if_pos c17] at h
      refine w_tabIn (tgt := 84) (off := 77) hx hb dX9_cursor_7 (by rw [c17]; decide) (by rw [c17]; decide) (by rw [c17]; rfl) (by decide) ?_
      refine w_aload_n hx hb dX9_cursor_84 rfl (lv_at hl 3 rfl) ?_
      obtain ⟨v10, ev10, h⟩ := v_bnd h
      refine v_gI (ci := 2) hx hb hts iwX0 hown hK 5 ev10 rfl (by decide) (Or.inr ⟨_, kn30 hSS _⟩) (fun _ h9 => h9) dX9_cursor_85 ?_
      obtain ⟨g9, h⟩ := v_ifs h
      refine v_tight hb0 (vV.widen (n' := 1) (k' := 6) (by omega) (by omega) ?_)
      obtain rfl := Option.some.inj h
      rw [hQ]
      refine v_xok ?_
      exact v_iret hx hb hr hlk dX9_cursor_88
    rw [if_neg c17] at h
    by_cases c18 : x2 = 5
    · rw [if_pos c18] at h
      refine w_tabIn (tgt := 89) (off := 82) hx hb dX9_cursor_7 (by rw [c18]; decide) (by rw [c18]; decide) (by rw [c18]; rfl) (by decide) ?_
      refine w_aload_n hx hb dX9_cursor_89 rfl (lv_at hl 3 rfl) ?_
      obtain ⟨v11, ev11, h⟩ := v_bnd h
      refine v_gI (ci := 2) hx hb hts iwX0 hown hK 6 ev11 rfl (by decide) (Or.inr ⟨_, kn31 hSS _⟩) (fun _ h9 => h9) dX9_cursor_90 ?_
      obtain ⟨g9, h⟩ := v_ifs h
      refine v_tight hb0 (vV.widen (n' := 1) (k' := 6) (by omega) (by omega) ?_)
      obtain rfl := Option.some.inj h
      rw [hQ]
      refine v_xok ?_
      exact v_iret hx hb hr hlk dX9_cursor_93
    rw [if_neg c18] at h
    by_cases c19 : x2 = 6
    · rw [if_pos c19] at h
      refine w_tabIn (tgt := 94) (off := 87) hx hb dX9_cursor_7 (by rw [c19]; decide) (by rw [c19]; decide) (by rw [c19]; rfl) (by decide) ?_
      refine w_aload_n hx hb dX9_cursor_94 rfl (lv_at hl 3 rfl) ?_
      obtain ⟨v12, ev12, h⟩ := v_bnd h
      refine v_gI (ci := 2) hx hb hts iwX0 hown hK 7 ev12 rfl (by decide) (Or.inr ⟨_, kn33 hSS _⟩) (fun _ h9 => h9) dX9_cursor_95 ?_
      obtain ⟨g9, h⟩ := v_ifs h
      refine v_tight hb0 (vV.widen (n' := 1) (k' := 6) (by omega) (by omega) ?_)
      obtain rfl := Option.some.inj h
      rw [hQ]
      refine v_xok ?_
      exact v_iret hx hb hr hlk dX9_cursor_98
    rw [if_neg c19] at h
    refine w_tabOut (tgt := 99) hx hb dX9_cursor_7 (by exact v_sw x2 (fun v h1 h2 => (fun e => e.elim (fun e q => c13 (Int32.toInt_inj.mp (q.trans (e.trans (by decide))))) (fun e => e.elim (fun e q => c14 (Int32.toInt_inj.mp (q.trans (e.trans (by decide))))) (fun e => e.elim (fun e q => c15 (Int32.toInt_inj.mp (q.trans (e.trans (by decide))))) (fun e => e.elim (fun e q => c16 (Int32.toInt_inj.mp (q.trans (e.trans (by decide))))) (fun e => e.elim (fun e q => c17 (Int32.toInt_inj.mp (q.trans (e.trans (by decide))))) (fun e => e.elim (fun e q => c18 (Int32.toInt_inj.mp (q.trans (e.trans (by decide))))) (fun e q => c19 (Int32.toInt_inj.mp (q.trans (e.trans (by decide))))))))))) (show v = 0 ∨ v = 1 ∨ v = 2 ∨ v = 3 ∨ v = 4 ∨ v = 5 ∨ v = 6 by omega))) (by decide) ?_
    obtain ⟨g5, h⟩ := v_ifs h
    obtain rfl := Option.some.inj h
    rw [hQ]
    refine v_tight hb0 ?_
    exact v_thS hx hb hfl hown (by decide +kernel) hts kw743 kw52 (hSS.2.2.1 0 _ rfl) xat0 xbt0 (by decide) xot0 hSS (hl.1.trans hml.symm) dX9_cursor_99 dX9_cursor_102 dX9_cursor_103 dX9_cursor_105 dX9_cursor_108 hnt (Nat.le_of_ble_eq_true rfl) (Nat.le_of_ble_eq_true rfl) (by show _ + _ ≤ 1; omega) (by show _ + _ ≤ 6; omega) hlk (by omega) (by omega) rfl
  · replace h := v_inr hz1 h
    obtain rfl := Option.some.inj h
    rw [hQ]
    exact v_callXth (mcz := 1) (msz := 6) (fun H locs hR hS => vx_runV (As := [.int x1]) (rest := []) ⟨hx, hb, hml, hown, hts⟩ (mX9_cursorOf l hfl D x0 x1 M z1 ez1) (cwV 1 hts (gdV kw1175 kw1177 kw23 kw27 kw1178) rfl rfl rfl (by decide +kernel) ⟨Nat.le_of_ble_eq_true rfl, Nat.le_of_ble_eq_true rfl⟩) (v_preV (ci := 10) hSS hR hS g8 (by decide) rfl [.int x1]) rfl rfl hl.1 rfl (lv_room (Nat.le_of_ble_eq_true rfl)) dX9_cursor_2 ⟨by show _ + _ ≤ 1; omega, by show _ + _ ≤ 6; omega⟩) (by rw [hz1]; rfl) (by rw [hz1]; rfl) hnt hlk (by omega) (by omega)

def tX9_ahead (x0 : Nat) (x1 : Int32) (M : vMe) : Option ((Int32 ⊕ Nat) × vMe) :=
  (gA M x0 11 3).bind fun a1 =>
  if M.2.1 + 1 ≤ M.2.1 + 1 ∧ M.2.2.1 + 6 ≤ M.2.2.1 + 6 then
  (if (M.1 x0).1 = 11 then
  ((tX9_cursorOf x0 x1 M).bind fun z2 =>
  Sum.elim (fun r3 =>
  if z2.2.2.1 + 0 ≤ M.2.1 + 1 ∧ z2.2.2.2.1 + 0 ≤ M.2.2.1 + 6 then
  (if (z2.2.1 a1).1 = 8 then
  ((tX5_countAhead a1 r3 z2.2).bind fun z5 =>
  if z2.2.2.1 ≤ M.2.1 + 1 ∧ z2.2.2.2.1 ≤ M.2.2.1 + 6 then some (Sum.inl z5, z2.2) else none)
else none)
else none) (fun j4 => some (Sum.inr j4, z2.2)) z2.1)
else none)
else none
def rmX9_ahead : Room := { frames := 7, cells := 1, slots := 6, locals := 121 }
set_option maxHeartbeats 4000000 in
set_option maxRecDepth 100000 in
theorem mX9_ahead (l : Launch) (hfl : l.stackTraces = false) (D : vD) (x0 : Nat) (x1 : Int32) (M : vMe) (z : ((Int32 ⊕ Nat) × vMe)) (h : tX9_ahead x0 x1 M = some z) : vx_Met l yX9_ahead (Cond.code yX9_ahead cX9_ahead 2 (some .int) :: TB) rmX9_ahead (va_Pc [.ref x0, .int x1] (vPre D M)) (qX D (Sum.elim (fun r => some (some (.int r))) (fun _ => none) z.1) z.2) (xX D (Sum.elim (fun _ => none) some z.1) z.2) 1 6 (vA D) := by
  refine v_ofX (cc := cX9_ahead) (maxL := 2) (ret := (some .int)) (by decide) (Nat.le_of_ble_eq_true rfl) ?_
  intro p e s m args below meth c Q hx hb hr hml hown hts hlk hnm hSS hR0 hQ hnt ls hl
  have hz0 := hR0.2.1
  have hs0 := hR0.2.2.1
  have hb0 : D.2.2.2.1 ≤ s.heap.size := hR0.2.2.2.2.1
  refine v_tight hb0 ?_
  have hK := hSS.1
  have hl : lv_has ls 2 [(0, .ref x0), (1, .int x1)] := hl
  unfold tX9_ahead at h
  refine w_aload_n hx hb dX9_ahead_0 rfl (lv_at hl 0 rfl) ?_
  obtain ⟨a1, ea1, h⟩ := v_bnd h
  refine v_gA (ci := 10) hx hb hts iwX9 hown hK 3 ea1 rfl (by decide) (Or.inl (hts _ kw292)) (fun _ h9 => h9) dX9_ahead_1 ?_
  refine w_aload_n hx hb dX9_ahead_4 rfl (lv_at hl 0 rfl) ?_
  refine w_iload_n hx hb dX9_ahead_5 rfl (lv_at hl 1 rfl) ?_
  obtain ⟨g7, h⟩ := v_ifs h
  refine v_tight hb0 ?_
  obtain ⟨g8, h⟩ := v_ifs h
  obtain ⟨z2, ez2, h⟩ := v_bnd h
  rcases hz2 : z2.1 with r3 | j4
  · replace h := v_inl hz2 h
    refine v_callXok (ov := some (.ref r3)) (mcz := 1) (msz := 6) (fun H locs hR hS => vx_runV (As := [.int x1]) (rest := [.ref a1]) ⟨hx, hb, hml, hown, hts⟩ (mX9_cursorOf l hfl D x0 x1 M z2 ez2) (cwV 1 hts (gdV kw1175 kw1177 kw23 kw27 kw1178) rfl rfl rfl (by decide +kernel) ⟨Nat.le_of_ble_eq_true rfl, Nat.le_of_ble_eq_true rfl⟩) (v_preV (ci := 10) hSS hR hS g8 (by decide) rfl [.int x1]) rfl rfl hl.1 rfl (lv_room (Nat.le_of_ble_eq_true rfl)) dX9_ahead_6 ⟨by show _ + _ ≤ 1; omega, by show _ + _ ≤ 6; omega⟩) (by rw [hz2]; rfl) (by rw [hz2]; rfl) (st1 := [.ref r3, .ref a1]) rfl ?_
    obtain ⟨g7, h⟩ := v_ifs h
    refine v_tight hb0 ?_
    obtain ⟨g8, h⟩ := v_ifs h
    obtain ⟨z5, ez5, h⟩ := v_bnd h
    refine v_call1 (v := .int z5) (M1 := z2.2) (mc := 0) (ms := 0) (fun H locs hR hS => va_runV (As := [.ref r3]) (rest := []) ⟨hx, hb, hml, hown, hts⟩ (mX5_countAhead l hfl D a1 r3 z2.2 z5 ez5) (cwV 1 hts (gdV kw1297 kw1298 kw1299 kw31 kw1300) rfl rfl rfl (by decide +kernel) ⟨Nat.le_of_ble_eq_true rfl, Nat.le_of_ble_eq_true rfl⟩) (v_preV (ci := 7) hSS hR hS g8 (by decide) rfl [.ref r3]) rfl rfl hl.1 rfl (lv_room (Nat.le_of_ble_eq_true rfl)) dX9_ahead_9 ⟨by show _ + _ ≤ 1; omega, by show _ + _ ≤ 6; omega⟩) ?_
    obtain ⟨g9, h⟩ := v_ifs h
    refine v_tight hb0 (vV.widen (n' := 1) (k' := 6) (by omega) (by omega) ?_)
    obtain rfl := Option.some.inj h
    rw [hQ]
    refine v_xok ?_
    exact v_iret hx hb hr hlk dX9_ahead_12
  · replace h := v_inr hz2 h
    obtain rfl := Option.some.inj h
    rw [hQ]
    exact v_callXth (mcz := 1) (msz := 6) (fun H locs hR hS => vx_runV (As := [.int x1]) (rest := [.ref a1]) ⟨hx, hb, hml, hown, hts⟩ (mX9_cursorOf l hfl D x0 x1 M z2 ez2) (cwV 1 hts (gdV kw1175 kw1177 kw23 kw27 kw1178) rfl rfl rfl (by decide +kernel) ⟨Nat.le_of_ble_eq_true rfl, Nat.le_of_ble_eq_true rfl⟩) (v_preV (ci := 10) hSS hR hS g8 (by decide) rfl [.int x1]) rfl rfl hl.1 rfl (lv_room (Nat.le_of_ble_eq_true rfl)) dX9_ahead_6 ⟨by show _ + _ ≤ 1; omega, by show _ + _ ≤ 6; omega⟩) (by rw [hz2]; rfl) (by rw [hz2]; rfl) hnt hlk (by omega) (by omega)

def tX9_common (x0 : Nat) (x1 : Int32) (x2 : Int32) (M : vMe) : Option ((Int32 ⊕ Nat) × vMe) :=
  if M.2.1 + 1 ≤ M.2.1 + 1 ∧ M.2.2.1 + 6 ≤ M.2.2.1 + 6 then
  (if (M.1 x0).1 = 11 then
  ((tX9_rowsOf x0 x1 M).bind fun z1 =>
  Sum.elim (fun r2 =>
  if z1.2.2.1 + 0 ≤ M.2.1 + 1 ∧ z1.2.2.2.1 + 0 ≤ M.2.2.1 + 6 then
  (if (z1.2.1 r2).1 = 9 then
  ((tX7_bits r2 z1.2).bind fun z4 =>
  if z1.2.2.1 + 1 ≤ M.2.1 + 1 ∧ z1.2.2.2.1 + 6 ≤ M.2.2.1 + 6 then
  (if (z1.2.1 x0).1 = 11 then
  ((tX9_rowsOf x0 x2 z1.2).bind fun z5 =>
  Sum.elim (fun r6 =>
  if z5.2.2.1 + 0 ≤ M.2.1 + 1 ∧ z5.2.2.2.1 + 0 ≤ M.2.2.1 + 6 then
  (if (z5.2.1 r6).1 = 9 then
  ((tX7_bits r6 z5.2).bind fun z8 =>
  if z5.2.2.1 + 0 ≤ M.2.1 + 1 ∧ z5.2.2.2.1 + 0 ≤ M.2.2.1 + 6 then
  ((tJ13_bitCount_95d88 (z4 &&& z8) z5.2).bind fun z9 =>
  if z5.2.2.1 ≤ M.2.1 + 1 ∧ z5.2.2.2.1 ≤ M.2.2.1 + 6 then some (Sum.inl z9, z5.2) else none)
else none)
else none)
else none) (fun j7 => some (Sum.inr j7, z5.2)) z5.1)
else none)
else none)
else none)
else none) (fun j3 => some (Sum.inr j3, z1.2)) z1.1)
else none)
else none
def rmX9_common : Room := { frames := 8, cells := 1, slots := 6, locals := 142 }
set_option maxHeartbeats 4000000 in
set_option maxRecDepth 100000 in
theorem mX9_common (l : Launch) (hfl : l.stackTraces = false) (D : vD) (x0 : Nat) (x1 : Int32) (x2 : Int32) (M : vMe) (z : ((Int32 ⊕ Nat) × vMe)) (h : tX9_common x0 x1 x2 M = some z) : vx_Met l yX9_common (Cond.code yX9_common cX9_common 5 (some .int) :: TB) rmX9_common (va_Pc [.ref x0, .int x1, .int x2] (vPre D M)) (qX D (Sum.elim (fun r => some (some (.int r))) (fun _ => none) z.1) z.2) (xX D (Sum.elim (fun _ => none) some z.1) z.2) 1 6 (vA D) := by
  refine v_ofX (cc := cX9_common) (maxL := 5) (ret := (some .int)) (by decide) (Nat.le_of_ble_eq_true rfl) ?_
  intro p e s m args below meth c Q hx hb hr hml hown hts hlk hnm hSS hR0 hQ hnt ls hl
  have hz0 := hR0.2.1
  have hs0 := hR0.2.2.1
  have hb0 : D.2.2.2.1 ≤ s.heap.size := hR0.2.2.2.2.1
  refine v_tight hb0 ?_
  have hK := hSS.1
  have hl : lv_has ls 5 [(0, .ref x0), (1, .int x1), (2, .int x2)] := hl
  unfold tX9_common at h
  refine w_aload_n hx hb dX9_common_0 rfl (lv_at hl 0 rfl) ?_
  refine w_iload_n hx hb dX9_common_1 rfl (lv_at hl 1 rfl) ?_
  obtain ⟨g7, h⟩ := v_ifs h
  refine v_tight hb0 ?_
  obtain ⟨g8, h⟩ := v_ifs h
  obtain ⟨z1, ez1, h⟩ := v_bnd h
  rcases hz1 : z1.1 with r2 | j3
  · replace h := v_inl hz1 h
    refine v_callXok (ov := some (.ref r2)) (mcz := 1) (msz := 6) (fun H locs hR hS => vx_runV (As := [.int x1]) (rest := []) ⟨hx, hb, hml, hown, hts⟩ (mX9_rowsOf l hfl D x0 x1 M z1 ez1) (cwV 1 hts (gdV kw1039 kw1041 kw21 kw27 kw1042) rfl rfl rfl (by decide +kernel) ⟨Nat.le_of_ble_eq_true rfl, Nat.le_of_ble_eq_true rfl⟩) (v_preV (ci := 10) hSS hR hS g8 (by decide) rfl [.int x1]) rfl rfl hl.1 rfl (lv_room (Nat.le_of_ble_eq_true rfl)) dX9_common_2 ⟨by show _ + _ ≤ 1; omega, by show _ + _ ≤ 6; omega⟩) (by rw [hz1]; rfl) (by rw [hz1]; rfl) (st1 := [.ref r2]) rfl ?_
    obtain ⟨g7, h⟩ := v_ifs h
    refine v_tight hb0 ?_
    obtain ⟨g8, h⟩ := v_ifs h
    obtain ⟨z4, ez4, h⟩ := v_bnd h
    refine v_call1 (v := .long z4) (M1 := z1.2) (mc := 0) (ms := 0) (fun H locs hR hS => va_runV (As := []) (rest := []) ⟨hx, hb, hml, hown, hts⟩ (mX7_bits l hfl D r2 z1.2 z4 ez4) (cwV 0 hts (gdV kw1368 kw1369 kw1370 kw32 kw1371) rfl rfl rfl (by decide +kernel) ⟨Nat.le_of_ble_eq_true rfl, Nat.le_of_ble_eq_true rfl⟩) (v_preV (ci := 8) hSS hR hS g8 (by decide) rfl []) rfl rfl hl.1 rfl (lv_room (Nat.le_of_ble_eq_true rfl)) dX9_common_5 ⟨by show _ + _ ≤ 1; omega, by show _ + _ ≤ 6; omega⟩) ?_
    refine w_lstore_n (lv' := [(3, .long z4), (0, .ref x0), (1, .int x1), (2, .int x2)]) hx hb dX9_common_8 rfl hl (by decide) rfl (fun ls hl => ?_)
    have hl : lv_has ls 5 [(0, .ref x0), (1, .int x1), (2, .int x2), (3, .long z4)] := lv_sub hl [1, 2, 3, 0] rfl
    refine w_lload_n hx hb dX9_common_9 rfl (lv_at hl 3 rfl) ?_
    refine w_aload_n hx hb dX9_common_10 rfl (lv_at hl 0 rfl) ?_
    refine w_iload_n hx hb dX9_common_11 rfl (lv_at hl 2 rfl) ?_
    obtain ⟨g7, h⟩ := v_ifs h
    refine v_tight hb0 ?_
    obtain ⟨g8, h⟩ := v_ifs h
    obtain ⟨z5, ez5, h⟩ := v_bnd h
    rcases hz5 : z5.1 with r6 | j7
    · replace h := v_inl hz5 h
      refine v_callXok (ov := some (.ref r6)) (mcz := 1) (msz := 6) (fun H locs hR hS => vx_runV (As := [.int x2]) (rest := [.long z4]) ⟨hx, hb, hml, hown, hts⟩ (mX9_rowsOf l hfl D x0 x2 z1.2 z5 ez5) (cwV 1 hts (gdV kw1039 kw1041 kw21 kw27 kw1042) rfl rfl rfl (by decide +kernel) ⟨Nat.le_of_ble_eq_true rfl, Nat.le_of_ble_eq_true rfl⟩) (v_preV (ci := 10) hSS hR hS g8 (by decide) rfl [.int x2]) rfl rfl hl.1 rfl (lv_room (Nat.le_of_ble_eq_true rfl)) dX9_common_12 ⟨by show _ + _ ≤ 1; omega, by show _ + _ ≤ 6; omega⟩) (by rw [hz5]; rfl) (by rw [hz5]; rfl) (st1 := [.ref r6, .long z4]) rfl ?_
      obtain ⟨g7, h⟩ := v_ifs h
      refine v_tight hb0 ?_
      obtain ⟨g8, h⟩ := v_ifs h
      obtain ⟨z8, ez8, h⟩ := v_bnd h
      refine v_call1 (v := .long z8) (M1 := z5.2) (mc := 0) (ms := 0) (fun H locs hR hS => va_runV (As := []) (rest := [.long z4]) ⟨hx, hb, hml, hown, hts⟩ (mX7_bits l hfl D r6 z5.2 z8 ez8) (cwV 0 hts (gdV kw1368 kw1369 kw1370 kw32 kw1371) rfl rfl rfl (by decide +kernel) ⟨Nat.le_of_ble_eq_true rfl, Nat.le_of_ble_eq_true rfl⟩) (v_preV (ci := 8) hSS hR hS g8 (by decide) rfl []) rfl rfl hl.1 rfl (lv_room (Nat.le_of_ble_eq_true rfl)) dX9_common_15 ⟨by show _ + _ ≤ 1; omega, by show _ + _ ≤ 6; omega⟩) ?_
      refine w_land hx hb dX9_common_18 ?_
      obtain ⟨g7, h⟩ := v_ifs h
      refine v_tight hb0 ?_
      obtain ⟨z9, ez9, h⟩ := v_bnd h
      refine v_call1 (v := .int z9) (M1 := z5.2) (mc := 0) (ms := 0) (fun H locs hR hS => va_runS (As := [.long (z4 &&& z8)]) (rest := []) ⟨hx, hb, hml, hown, hts⟩ (mJ13_bitCount_95d88 l hfl D (z4 &&& z8) z5.2 z9 ez9) (va_cwS 1 hts (gdS kw1338 kw1339 kw59 kw1340) rfl rfl rfl (by decide +kernel) ⟨Nat.le_of_ble_eq_true rfl, Nat.le_of_ble_eq_true rfl⟩) (v_preS hSS hR hS [.long (z4 &&& z8)]) rfl rfl hl.1 rfl (lv_room (Nat.le_of_ble_eq_true rfl)) dX9_common_19 ⟨by show _ + _ ≤ 1; omega, by show _ + _ ≤ 6; omega⟩) ?_
      obtain ⟨g9, h⟩ := v_ifs h
      refine v_tight hb0 (vV.widen (n' := 1) (k' := 6) (by omega) (by omega) ?_)
      obtain rfl := Option.some.inj h
      rw [hQ]
      refine v_xok ?_
      exact v_iret hx hb hr hlk dX9_common_22
    · replace h := v_inr hz5 h
      obtain rfl := Option.some.inj h
      rw [hQ]
      exact v_callXth (mcz := 1) (msz := 6) (fun H locs hR hS => vx_runV (As := [.int x2]) (rest := [.long z4]) ⟨hx, hb, hml, hown, hts⟩ (mX9_rowsOf l hfl D x0 x2 z1.2 z5 ez5) (cwV 1 hts (gdV kw1039 kw1041 kw21 kw27 kw1042) rfl rfl rfl (by decide +kernel) ⟨Nat.le_of_ble_eq_true rfl, Nat.le_of_ble_eq_true rfl⟩) (v_preV (ci := 10) hSS hR hS g8 (by decide) rfl [.int x2]) rfl rfl hl.1 rfl (lv_room (Nat.le_of_ble_eq_true rfl)) dX9_common_12 ⟨by show _ + _ ≤ 1; omega, by show _ + _ ≤ 6; omega⟩) (by rw [hz5]; rfl) (by rw [hz5]; rfl) hnt hlk (by omega) (by omega)
  · replace h := v_inr hz1 h
    obtain rfl := Option.some.inj h
    rw [hQ]
    exact v_callXth (mcz := 1) (msz := 6) (fun H locs hR hS => vx_runV (As := [.int x1]) (rest := []) ⟨hx, hb, hml, hown, hts⟩ (mX9_rowsOf l hfl D x0 x1 M z1 ez1) (cwV 1 hts (gdV kw1039 kw1041 kw21 kw27 kw1042) rfl rfl rfl (by decide +kernel) ⟨Nat.le_of_ble_eq_true rfl, Nat.le_of_ble_eq_true rfl⟩) (v_preV (ci := 10) hSS hR hS g8 (by decide) rfl [.int x1]) rfl rfl hl.1 rfl (lv_room (Nat.le_of_ble_eq_true rfl)) dX9_common_2 ⟨by show _ + _ ≤ 1; omega, by show _ + _ ≤ 6; omega⟩) (by rw [hz1]; rfl) (by rw [hz1]; rfl) hnt hlk (by omega) (by omega)

def tX9_isWithin (x0 : Nat) (x1 : Int32) (x2 : Int32) (M : vMe) : Option ((Int32 ⊕ Nat) × vMe) :=
  if M.2.1 + 1 ≤ M.2.1 + 1 ∧ M.2.2.1 + 6 ≤ M.2.2.1 + 6 then
  (if (M.1 x0).1 = 11 then
  ((tX9_rowsOf x0 x1 M).bind fun z1 =>
  Sum.elim (fun r2 =>
  if z1.2.2.1 + 0 ≤ M.2.1 + 1 ∧ z1.2.2.2.1 + 0 ≤ M.2.2.1 + 6 then
  (if (z1.2.1 r2).1 = 9 then
  ((tX7_bits r2 z1.2).bind fun z4 =>
  if z1.2.2.1 + 1 ≤ M.2.1 + 1 ∧ z1.2.2.2.1 + 6 ≤ M.2.2.1 + 6 then
  (if (z1.2.1 x0).1 = 11 then
  ((tX9_rowsOf x0 x2 z1.2).bind fun z5 =>
  Sum.elim (fun r6 =>
  if z5.2.2.1 + 0 ≤ M.2.1 + 1 ∧ z5.2.2.2.1 + 0 ≤ M.2.2.1 + 6 then
  (if (z5.2.1 r6).1 = 9 then
  ((tX7_bits r6 z5.2).bind fun z8 =>
  if (lg_cmp (z4 &&& (z8 ^^^ ((-1)))) 0) = 0 then
  (if z5.2.2.1 ≤ M.2.1 + 1 ∧ z5.2.2.2.1 ≤ M.2.2.1 + 6 then some (Sum.inl 1, z5.2) else none)
else
  (if z5.2.2.1 ≤ M.2.1 + 1 ∧ z5.2.2.2.1 ≤ M.2.2.1 + 6 then some (Sum.inl 0, z5.2) else none))
else none)
else none) (fun j7 => some (Sum.inr j7, z5.2)) z5.1)
else none)
else none)
else none)
else none) (fun j3 => some (Sum.inr j3, z1.2)) z1.1)
else none)
else none
def rmX9_isWithin : Room := { frames := 8, cells := 1, slots := 6, locals := 142 }
set_option maxHeartbeats 4000000 in
set_option maxRecDepth 100000 in
theorem mX9_isWithin (l : Launch) (hfl : l.stackTraces = false) (D : vD) (x0 : Nat) (x1 : Int32) (x2 : Int32) (M : vMe) (z : ((Int32 ⊕ Nat) × vMe)) (h : tX9_isWithin x0 x1 x2 M = some z) : vx_Met l yX9_isWithin (Cond.code yX9_isWithin cX9_isWithin 5 (some .boolean) :: TB) rmX9_isWithin (va_Pc [.ref x0, .int x1, .int x2] (vPre D M)) (qX D (Sum.elim (fun r => some (some (.int r))) (fun _ => none) z.1) z.2) (xX D (Sum.elim (fun _ => none) some z.1) z.2) 1 6 (vA D) := by
  refine v_ofX (cc := cX9_isWithin) (maxL := 5) (ret := (some .boolean)) (by decide) (Nat.le_of_ble_eq_true rfl) ?_
  intro p e s m args below meth c Q hx hb hr hml hown hts hlk hnm hSS hR0 hQ hnt ls hl
  have hz0 := hR0.2.1
  have hs0 := hR0.2.2.1
  have hb0 : D.2.2.2.1 ≤ s.heap.size := hR0.2.2.2.2.1
  refine v_tight hb0 ?_
  have hK := hSS.1
  have hl : lv_has ls 5 [(0, .ref x0), (1, .int x1), (2, .int x2)] := hl
  unfold tX9_isWithin at h
  refine w_aload_n hx hb dX9_isWithin_0 rfl (lv_at hl 0 rfl) ?_
  refine w_iload_n hx hb dX9_isWithin_1 rfl (lv_at hl 1 rfl) ?_
  obtain ⟨g7, h⟩ := v_ifs h
  refine v_tight hb0 ?_
  obtain ⟨g8, h⟩ := v_ifs h
  obtain ⟨z1, ez1, h⟩ := v_bnd h
  rcases hz1 : z1.1 with r2 | j3
  · replace h := v_inl hz1 h
    refine v_callXok (ov := some (.ref r2)) (mcz := 1) (msz := 6) (fun H locs hR hS => vx_runV (As := [.int x1]) (rest := []) ⟨hx, hb, hml, hown, hts⟩ (mX9_rowsOf l hfl D x0 x1 M z1 ez1) (cwV 1 hts (gdV kw1039 kw1041 kw21 kw27 kw1042) rfl rfl rfl (by decide +kernel) ⟨Nat.le_of_ble_eq_true rfl, Nat.le_of_ble_eq_true rfl⟩) (v_preV (ci := 10) hSS hR hS g8 (by decide) rfl [.int x1]) rfl rfl hl.1 rfl (lv_room (Nat.le_of_ble_eq_true rfl)) dX9_isWithin_2 ⟨by show _ + _ ≤ 1; omega, by show _ + _ ≤ 6; omega⟩) (by rw [hz1]; rfl) (by rw [hz1]; rfl) (st1 := [.ref r2]) rfl ?_
    obtain ⟨g7, h⟩ := v_ifs h
    refine v_tight hb0 ?_
    obtain ⟨g8, h⟩ := v_ifs h
    obtain ⟨z4, ez4, h⟩ := v_bnd h
    refine v_call1 (v := .long z4) (M1 := z1.2) (mc := 0) (ms := 0) (fun H locs hR hS => va_runV (As := []) (rest := []) ⟨hx, hb, hml, hown, hts⟩ (mX7_bits l hfl D r2 z1.2 z4 ez4) (cwV 0 hts (gdV kw1368 kw1369 kw1370 kw32 kw1371) rfl rfl rfl (by decide +kernel) ⟨Nat.le_of_ble_eq_true rfl, Nat.le_of_ble_eq_true rfl⟩) (v_preV (ci := 8) hSS hR hS g8 (by decide) rfl []) rfl rfl hl.1 rfl (lv_room (Nat.le_of_ble_eq_true rfl)) dX9_isWithin_5 ⟨by show _ + _ ≤ 1; omega, by show _ + _ ≤ 6; omega⟩) ?_
    refine w_lstore_n (lv' := [(3, .long z4), (0, .ref x0), (1, .int x1), (2, .int x2)]) hx hb dX9_isWithin_8 rfl hl (by decide) rfl (fun ls hl => ?_)
    have hl : lv_has ls 5 [(0, .ref x0), (1, .int x1), (2, .int x2), (3, .long z4)] := lv_sub hl [1, 2, 3, 0] rfl
    refine w_lload_n hx hb dX9_isWithin_9 rfl (lv_at hl 3 rfl) ?_
    refine w_aload_n hx hb dX9_isWithin_10 rfl (lv_at hl 0 rfl) ?_
    refine w_iload_n hx hb dX9_isWithin_11 rfl (lv_at hl 2 rfl) ?_
    obtain ⟨g7, h⟩ := v_ifs h
    refine v_tight hb0 ?_
    obtain ⟨g8, h⟩ := v_ifs h
    obtain ⟨z5, ez5, h⟩ := v_bnd h
    rcases hz5 : z5.1 with r6 | j7
    · replace h := v_inl hz5 h
      refine v_callXok (ov := some (.ref r6)) (mcz := 1) (msz := 6) (fun H locs hR hS => vx_runV (As := [.int x2]) (rest := [.long z4]) ⟨hx, hb, hml, hown, hts⟩ (mX9_rowsOf l hfl D x0 x2 z1.2 z5 ez5) (cwV 1 hts (gdV kw1039 kw1041 kw21 kw27 kw1042) rfl rfl rfl (by decide +kernel) ⟨Nat.le_of_ble_eq_true rfl, Nat.le_of_ble_eq_true rfl⟩) (v_preV (ci := 10) hSS hR hS g8 (by decide) rfl [.int x2]) rfl rfl hl.1 rfl (lv_room (Nat.le_of_ble_eq_true rfl)) dX9_isWithin_12 ⟨by show _ + _ ≤ 1; omega, by show _ + _ ≤ 6; omega⟩) (by rw [hz5]; rfl) (by rw [hz5]; rfl) (st1 := [.ref r6, .long z4]) rfl ?_
      obtain ⟨g7, h⟩ := v_ifs h
      refine v_tight hb0 ?_
      obtain ⟨g8, h⟩ := v_ifs h
      obtain ⟨z8, ez8, h⟩ := v_bnd h
      refine v_call1 (v := .long z8) (M1 := z5.2) (mc := 0) (ms := 0) (fun H locs hR hS => va_runV (As := []) (rest := [.long z4]) ⟨hx, hb, hml, hown, hts⟩ (mX7_bits l hfl D r6 z5.2 z8 ez8) (cwV 0 hts (gdV kw1368 kw1369 kw1370 kw32 kw1371) rfl rfl rfl (by decide +kernel) ⟨Nat.le_of_ble_eq_true rfl, Nat.le_of_ble_eq_true rfl⟩) (v_preV (ci := 8) hSS hR hS g8 (by decide) rfl []) rfl rfl hl.1 rfl (lv_room (Nat.le_of_ble_eq_true rfl)) dX9_isWithin_15 ⟨by show _ + _ ≤ 1; omega, by show _ + _ ≤ 6; omega⟩) ?_
      refine w_ldcL hx hb hown (hts _ kw1337) dX9_isWithin_18 ?_
      refine w_lxor hx hb dX9_isWithin_21 ?_
      refine w_land hx hb dX9_isWithin_22 ?_
      refine w_lconst (v := 0) hx hb dX9_isWithin_23 (by decide) ?_
      refine w_lcmp hx hb dX9_isWithin_24 ?_
      refine w_if_ne (tgt := 32) hx hb dX9_isWithin_25 (by decide) (fun c9 => ?_) (fun c9 => ?_)
      · rw [if_pos c9] at h
        refine w_iconst (v := 1) hx hb dX9_isWithin_28 (by decide) ?_
        refine w_goto (tgt := 33) hx hb dX9_isWithin_29 (by decide) ?_
        obtain ⟨g9, h⟩ := v_ifs h
        refine v_tight hb0 (vV.widen (n' := 1) (k' := 6) (by omega) (by omega) ?_)
        obtain rfl := Option.some.inj h
        rw [hQ]
        refine v_xok ?_
        exact v_zret (x := 1) hx hb hr hlk rfl dX9_isWithin_33
      · rw [if_neg c9] at h
        refine w_iconst (v := 0) hx hb dX9_isWithin_32 (by decide) ?_
        obtain ⟨g9, h⟩ := v_ifs h
        refine v_tight hb0 (vV.widen (n' := 1) (k' := 6) (by omega) (by omega) ?_)
        obtain rfl := Option.some.inj h
        rw [hQ]
        refine v_xok ?_
        exact v_zret (x := 0) hx hb hr hlk rfl dX9_isWithin_33
    · replace h := v_inr hz5 h
      obtain rfl := Option.some.inj h
      rw [hQ]
      exact v_callXth (mcz := 1) (msz := 6) (fun H locs hR hS => vx_runV (As := [.int x2]) (rest := [.long z4]) ⟨hx, hb, hml, hown, hts⟩ (mX9_rowsOf l hfl D x0 x2 z1.2 z5 ez5) (cwV 1 hts (gdV kw1039 kw1041 kw21 kw27 kw1042) rfl rfl rfl (by decide +kernel) ⟨Nat.le_of_ble_eq_true rfl, Nat.le_of_ble_eq_true rfl⟩) (v_preV (ci := 10) hSS hR hS g8 (by decide) rfl [.int x2]) rfl rfl hl.1 rfl (lv_room (Nat.le_of_ble_eq_true rfl)) dX9_isWithin_12 ⟨by show _ + _ ≤ 1; omega, by show _ + _ ≤ 6; omega⟩) (by rw [hz5]; rfl) (by rw [hz5]; rfl) hnt hlk (by omega) (by omega)
  · replace h := v_inr hz1 h
    obtain rfl := Option.some.inj h
    rw [hQ]
    exact v_callXth (mcz := 1) (msz := 6) (fun H locs hR hS => vx_runV (As := [.int x1]) (rest := []) ⟨hx, hb, hml, hown, hts⟩ (mX9_rowsOf l hfl D x0 x1 M z1 ez1) (cwV 1 hts (gdV kw1039 kw1041 kw21 kw27 kw1042) rfl rfl rfl (by decide +kernel) ⟨Nat.le_of_ble_eq_true rfl, Nat.le_of_ble_eq_true rfl⟩) (v_preV (ci := 10) hSS hR hS g8 (by decide) rfl [.int x1]) rfl rfl hl.1 rfl (lv_room (Nat.le_of_ble_eq_true rfl)) dX9_isWithin_2 ⟨by show _ + _ ≤ 1; omega, by show _ + _ ≤ 6; omega⟩) (by rw [hz1]; rfl) (by rw [hz1]; rfl) hnt hlk (by omega) (by omega)

def tX9_likeness (x0 : Nat) (x1 : Int32) (x2 : Int32) (M : vMe) : Option ((UInt64 ⊕ Nat) × vMe) :=
  if M.2.1 + 1 ≤ M.2.1 + 1 ∧ M.2.2.1 + 6 ≤ M.2.2.1 + 6 then
  (if (M.1 x0).1 = 11 then
  ((tX9_rowsOf x0 x1 M).bind fun z1 =>
  Sum.elim (fun r2 =>
  if z1.2.2.1 + 0 ≤ M.2.1 + 1 ∧ z1.2.2.2.1 + 0 ≤ M.2.2.1 + 6 then
  (if (z1.2.1 r2).1 = 9 then
  ((tX7_bits r2 z1.2).bind fun z4 =>
  if z1.2.2.1 + 1 ≤ M.2.1 + 1 ∧ z1.2.2.2.1 + 6 ≤ M.2.2.1 + 6 then
  (if (z1.2.1 x0).1 = 11 then
  ((tX9_rowsOf x0 x2 z1.2).bind fun z5 =>
  Sum.elim (fun r6 =>
  if z5.2.2.1 + 0 ≤ M.2.1 + 1 ∧ z5.2.2.2.1 + 0 ≤ M.2.2.1 + 6 then
  (if (z5.2.1 r6).1 = 9 then
  ((tX7_bits r6 z5.2).bind fun z8 =>
  if z5.2.2.1 + 0 ≤ M.2.1 + 1 ∧ z5.2.2.2.1 + 0 ≤ M.2.2.1 + 6 then
  ((tJ13_bitCount_95d88 (z4 ||| z8) z5.2).bind fun z9 =>
  if z9 = 0 then
  (if z5.2.2.1 ≤ M.2.1 + 1 ∧ z5.2.2.2.1 ≤ M.2.2.1 + 6 then some (Sum.inl 0x3FF0000000000000, z5.2) else none)
else
  (if z5.2.2.1 + 0 ≤ M.2.1 + 1 ∧ z5.2.2.2.1 + 0 ≤ M.2.2.1 + 6 then
  ((tJ13_bitCount_95d88 (z4 &&& z8) z5.2).bind fun z11 =>
  if (FP.ddiv (FP.i2d z11) (FP.i2d z9)) &&& 0x7fffffffffffffff ≤ 0x7ff0000000000000 then
  (if z5.2.2.1 ≤ M.2.1 + 1 ∧ z5.2.2.2.1 ≤ M.2.2.1 + 6 then some (Sum.inl (FP.ddiv (FP.i2d z11) (FP.i2d z9)), z5.2) else none)
else none)
else none))
else none)
else none)
else none) (fun j7 => some (Sum.inr j7, z5.2)) z5.1)
else none)
else none)
else none)
else none) (fun j3 => some (Sum.inr j3, z1.2)) z1.1)
else none)
else none
def rmX9_likeness : Room := { frames := 8, cells := 1, slots := 6, locals := 142 }
set_option maxHeartbeats 4000000 in
set_option maxRecDepth 100000 in
theorem mX9_likeness (l : Launch) (hfl : l.stackTraces = false) (D : vD) (x0 : Nat) (x1 : Int32) (x2 : Int32) (M : vMe) (z : ((UInt64 ⊕ Nat) × vMe)) (h : tX9_likeness x0 x1 x2 M = some z) : vx_Met l yX9_likeness (Cond.code yX9_likeness cX9_likeness 8 (some .double) :: TB) rmX9_likeness (va_Pc [.ref x0, .int x1, .int x2] (vPre D M)) (qX D (Sum.elim (fun r => some (some (.double r))) (fun _ => none) z.1) z.2) (xX D (Sum.elim (fun _ => none) some z.1) z.2) 1 6 (vA D) := by
  refine v_ofX (cc := cX9_likeness) (maxL := 8) (ret := (some .double)) (by decide) (Nat.le_of_ble_eq_true rfl) ?_
  intro p e s m args below meth c Q hx hb hr hml hown hts hlk hnm hSS hR0 hQ hnt ls hl
  have hz0 := hR0.2.1
  have hs0 := hR0.2.2.1
  have hb0 : D.2.2.2.1 ≤ s.heap.size := hR0.2.2.2.2.1
  refine v_tight hb0 ?_
  have hK := hSS.1
  have hl : lv_has ls 8 [(0, .ref x0), (1, .int x1), (2, .int x2)] := hl
  unfold tX9_likeness at h
  refine w_aload_n hx hb dX9_likeness_0 rfl (lv_at hl 0 rfl) ?_
  refine w_iload_n hx hb dX9_likeness_1 rfl (lv_at hl 1 rfl) ?_
  obtain ⟨g7, h⟩ := v_ifs h
  refine v_tight hb0 ?_
  obtain ⟨g8, h⟩ := v_ifs h
  obtain ⟨z1, ez1, h⟩ := v_bnd h
  rcases hz1 : z1.1 with r2 | j3
  · replace h := v_inl hz1 h
    refine v_callXok (ov := some (.ref r2)) (mcz := 1) (msz := 6) (fun H locs hR hS => vx_runV (As := [.int x1]) (rest := []) ⟨hx, hb, hml, hown, hts⟩ (mX9_rowsOf l hfl D x0 x1 M z1 ez1) (cwV 1 hts (gdV kw1039 kw1041 kw21 kw27 kw1042) rfl rfl rfl (by decide +kernel) ⟨Nat.le_of_ble_eq_true rfl, Nat.le_of_ble_eq_true rfl⟩) (v_preV (ci := 10) hSS hR hS g8 (by decide) rfl [.int x1]) rfl rfl hl.1 rfl (lv_room (Nat.le_of_ble_eq_true rfl)) dX9_likeness_2 ⟨by show _ + _ ≤ 1; omega, by show _ + _ ≤ 6; omega⟩) (by rw [hz1]; rfl) (by rw [hz1]; rfl) (st1 := [.ref r2]) rfl ?_
    obtain ⟨g7, h⟩ := v_ifs h
    refine v_tight hb0 ?_
    obtain ⟨g8, h⟩ := v_ifs h
    obtain ⟨z4, ez4, h⟩ := v_bnd h
    refine v_call1 (v := .long z4) (M1 := z1.2) (mc := 0) (ms := 0) (fun H locs hR hS => va_runV (As := []) (rest := []) ⟨hx, hb, hml, hown, hts⟩ (mX7_bits l hfl D r2 z1.2 z4 ez4) (cwV 0 hts (gdV kw1368 kw1369 kw1370 kw32 kw1371) rfl rfl rfl (by decide +kernel) ⟨Nat.le_of_ble_eq_true rfl, Nat.le_of_ble_eq_true rfl⟩) (v_preV (ci := 8) hSS hR hS g8 (by decide) rfl []) rfl rfl hl.1 rfl (lv_room (Nat.le_of_ble_eq_true rfl)) dX9_likeness_5 ⟨by show _ + _ ≤ 1; omega, by show _ + _ ≤ 6; omega⟩) ?_
    refine w_lstore_n (lv' := [(3, .long z4), (0, .ref x0), (1, .int x1), (2, .int x2)]) hx hb dX9_likeness_8 rfl hl (by decide) rfl (fun ls hl => ?_)
    have hl : lv_has ls 8 [(0, .ref x0), (1, .int x1), (2, .int x2), (3, .long z4)] := lv_sub hl [1, 2, 3, 0] rfl
    refine w_aload_n hx hb dX9_likeness_9 rfl (lv_at hl 0 rfl) ?_
    refine w_iload_n hx hb dX9_likeness_10 rfl (lv_at hl 2 rfl) ?_
    obtain ⟨g7, h⟩ := v_ifs h
    refine v_tight hb0 ?_
    obtain ⟨g8, h⟩ := v_ifs h
    obtain ⟨z5, ez5, h⟩ := v_bnd h
    rcases hz5 : z5.1 with r6 | j7
    · replace h := v_inl hz5 h
      refine v_callXok (ov := some (.ref r6)) (mcz := 1) (msz := 6) (fun H locs hR hS => vx_runV (As := [.int x2]) (rest := []) ⟨hx, hb, hml, hown, hts⟩ (mX9_rowsOf l hfl D x0 x2 z1.2 z5 ez5) (cwV 1 hts (gdV kw1039 kw1041 kw21 kw27 kw1042) rfl rfl rfl (by decide +kernel) ⟨Nat.le_of_ble_eq_true rfl, Nat.le_of_ble_eq_true rfl⟩) (v_preV (ci := 10) hSS hR hS g8 (by decide) rfl [.int x2]) rfl rfl hl.1 rfl (lv_room (Nat.le_of_ble_eq_true rfl)) dX9_likeness_11 ⟨by show _ + _ ≤ 1; omega, by show _ + _ ≤ 6; omega⟩) (by rw [hz5]; rfl) (by rw [hz5]; rfl) (st1 := [.ref r6]) rfl ?_
      obtain ⟨g7, h⟩ := v_ifs h
      refine v_tight hb0 ?_
      obtain ⟨g8, h⟩ := v_ifs h
      obtain ⟨z8, ez8, h⟩ := v_bnd h
      refine v_call1 (v := .long z8) (M1 := z5.2) (mc := 0) (ms := 0) (fun H locs hR hS => va_runV (As := []) (rest := []) ⟨hx, hb, hml, hown, hts⟩ (mX7_bits l hfl D r6 z5.2 z8 ez8) (cwV 0 hts (gdV kw1368 kw1369 kw1370 kw32 kw1371) rfl rfl rfl (by decide +kernel) ⟨Nat.le_of_ble_eq_true rfl, Nat.le_of_ble_eq_true rfl⟩) (v_preV (ci := 8) hSS hR hS g8 (by decide) rfl []) rfl rfl hl.1 rfl (lv_room (Nat.le_of_ble_eq_true rfl)) dX9_likeness_14 ⟨by show _ + _ ≤ 1; omega, by show _ + _ ≤ 6; omega⟩) ?_
      refine w_lstore (lv' := [(5, .long z8), (0, .ref x0), (1, .int x1), (2, .int x2), (3, .long z4)]) hx hb dX9_likeness_17 hl (by decide) rfl (fun ls hl => ?_)
      have hl : lv_has ls 8 [(0, .ref x0), (1, .int x1), (2, .int x2), (3, .long z4), (5, .long z8)] := lv_sub hl [1, 2, 3, 4, 0] rfl
      refine w_lload_n hx hb dX9_likeness_19 rfl (lv_at hl 3 rfl) ?_
      refine w_lload hx hb dX9_likeness_20 (lv_at hl 4 rfl) ?_
      refine w_lor hx hb dX9_likeness_22 ?_
      obtain ⟨g7, h⟩ := v_ifs h
      refine v_tight hb0 ?_
      obtain ⟨z9, ez9, h⟩ := v_bnd h
      refine v_call1 (v := .int z9) (M1 := z5.2) (mc := 0) (ms := 0) (fun H locs hR hS => va_runS (As := [.long (z4 ||| z8)]) (rest := []) ⟨hx, hb, hml, hown, hts⟩ (mJ13_bitCount_95d88 l hfl D (z4 ||| z8) z5.2 z9 ez9) (va_cwS 1 hts (gdS kw1338 kw1339 kw59 kw1340) rfl rfl rfl (by decide +kernel) ⟨Nat.le_of_ble_eq_true rfl, Nat.le_of_ble_eq_true rfl⟩) (v_preS hSS hR hS [.long (z4 ||| z8)]) rfl rfl hl.1 rfl (lv_room (Nat.le_of_ble_eq_true rfl)) dX9_likeness_23 ⟨by show _ + _ ≤ 1; omega, by show _ + _ ≤ 6; omega⟩) ?_
      refine w_istore (lv' := [(7, .int z9), (0, .ref x0), (1, .int x1), (2, .int x2), (3, .long z4), (5, .long z8)]) hx hb dX9_likeness_26 hl (by decide) rfl (fun ls hl => ?_)
      have hl : lv_has ls 8 [(0, .ref x0), (1, .int x1), (2, .int x2), (3, .long z4), (5, .long z8), (7, .int z9)] := lv_sub hl [1, 2, 3, 4, 5, 0] rfl
      refine w_iload hx hb dX9_likeness_28 (lv_at hl 5 rfl) ?_
      refine w_if_ne (tgt := 35) hx hb dX9_likeness_30 (by decide) (fun c10 => ?_) (fun c10 => ?_)
      · rw [if_pos c10] at h
        refine w_dconst1 hx hb dX9_likeness_33 ?_
        obtain ⟨g9, h⟩ := v_ifs h
        refine v_tight hb0 (vV.widen (n' := 1) (k' := 6) (by omega) (by omega) ?_)
        obtain rfl := Option.some.inj h
        rw [hQ]
        refine v_xok ?_
        exact v_dret hx hb hr hlk dX9_likeness_34
      · rw [if_neg c10] at h
        refine w_lload_n hx hb dX9_likeness_35 rfl (lv_at hl 3 rfl) ?_
        refine w_lload hx hb dX9_likeness_36 (lv_at hl 4 rfl) ?_
        refine w_land hx hb dX9_likeness_38 ?_
        obtain ⟨g7, h⟩ := v_ifs h
        refine v_tight hb0 ?_
        obtain ⟨z11, ez11, h⟩ := v_bnd h
        refine v_call1 (v := .int z11) (M1 := z5.2) (mc := 0) (ms := 0) (fun H locs hR hS => va_runS (As := [.long (z4 &&& z8)]) (rest := []) ⟨hx, hb, hml, hown, hts⟩ (mJ13_bitCount_95d88 l hfl D (z4 &&& z8) z5.2 z11 ez11) (va_cwS 1 hts (gdS kw1338 kw1339 kw59 kw1340) rfl rfl rfl (by decide +kernel) ⟨Nat.le_of_ble_eq_true rfl, Nat.le_of_ble_eq_true rfl⟩) (v_preS hSS hR hS [.long (z4 &&& z8)]) rfl rfl hl.1 rfl (lv_room (Nat.le_of_ble_eq_true rfl)) dX9_likeness_39 ⟨by show _ + _ ≤ 1; omega, by show _ + _ ≤ 6; omega⟩) ?_
        refine w_i2d hx hb dX9_likeness_42 ?_
        refine w_iload hx hb dX9_likeness_43 (lv_at hl 5 rfl) ?_
        refine w_i2d hx hb dX9_likeness_45 ?_
        obtain ⟨g9, h⟩ := v_ifs h
        refine w_ddiv hx hb dX9_likeness_46 g9 ?_
        obtain ⟨g9, h⟩ := v_ifs h
        refine v_tight hb0 (vV.widen (n' := 1) (k' := 6) (by omega) (by omega) ?_)
        obtain rfl := Option.some.inj h
        rw [hQ]
        refine v_xok ?_
        exact v_dret hx hb hr hlk dX9_likeness_47
    · replace h := v_inr hz5 h
      obtain rfl := Option.some.inj h
      rw [hQ]
      exact v_callXth (mcz := 1) (msz := 6) (fun H locs hR hS => vx_runV (As := [.int x2]) (rest := []) ⟨hx, hb, hml, hown, hts⟩ (mX9_rowsOf l hfl D x0 x2 z1.2 z5 ez5) (cwV 1 hts (gdV kw1039 kw1041 kw21 kw27 kw1042) rfl rfl rfl (by decide +kernel) ⟨Nat.le_of_ble_eq_true rfl, Nat.le_of_ble_eq_true rfl⟩) (v_preV (ci := 10) hSS hR hS g8 (by decide) rfl [.int x2]) rfl rfl hl.1 rfl (lv_room (Nat.le_of_ble_eq_true rfl)) dX9_likeness_11 ⟨by show _ + _ ≤ 1; omega, by show _ + _ ≤ 6; omega⟩) (by rw [hz5]; rfl) (by rw [hz5]; rfl) hnt hlk (by omega) (by omega)
  · replace h := v_inr hz1 h
    obtain rfl := Option.some.inj h
    rw [hQ]
    exact v_callXth (mcz := 1) (msz := 6) (fun H locs hR hS => vx_runV (As := [.int x1]) (rest := []) ⟨hx, hb, hml, hown, hts⟩ (mX9_rowsOf l hfl D x0 x1 M z1 ez1) (cwV 1 hts (gdV kw1039 kw1041 kw21 kw27 kw1042) rfl rfl rfl (by decide +kernel) ⟨Nat.le_of_ble_eq_true rfl, Nat.le_of_ble_eq_true rfl⟩) (v_preV (ci := 10) hSS hR hS g8 (by decide) rfl [.int x1]) rfl rfl hl.1 rfl (lv_room (Nat.le_of_ble_eq_true rfl)) dX9_likeness_2 ⟨by show _ + _ ≤ 1; omega, by show _ + _ ≤ 6; omega⟩) (by rw [hz1]; rfl) (by rw [hz1]; rfl) hnt hlk (by omega) (by omega)

def tX9_add (G : Nat → Nat) (x0 : Nat) (x1 : Int32) (x2 : Int32) (M : vMe) : Option ((Int32 ⊕ Nat) × vMe) :=
  if M.2.1 + 1 ≤ M.2.1 + 50 ∧ M.2.2.1 + 6 ≤ M.2.2.1 + 2001 then
  (if (M.1 x0).1 = 11 then
  ((tX9_rowsOf x0 x1 M).bind fun z1 =>
  Sum.elim (fun r2 =>
  if z1.2.2.1 + 1 ≤ M.2.1 + 50 ∧ z1.2.2.2.1 + 6 ≤ M.2.2.1 + 2001 then
  (if (z1.2.1 x0).1 = 11 then
  ((tX9_checkNumber x0 x2 z1.2).bind fun z4 =>
  Sum.elim (fun r5 =>
  (gA z4.2 x0 11 1).bind fun a7 =>
  (gA z4.2 x0 11 3).bind fun a8 =>
  if z4.2.2.1 + 50 ≤ M.2.1 + 50 ∧ z4.2.2.2.1 + 2001 ≤ M.2.2.1 + 2001 then
  (if (z4.2.1 a7).1 = 10 then
  ((tX8_remember G a7 a8 z4.2).bind fun z9 =>
  (gA z9.2 x0 11 3).bind fun a10 =>
  if z9.2.2.1 + 0 ≤ M.2.1 + 50 ∧ z9.2.2.2.1 + 0 ≤ M.2.2.1 + 2001 then
  (if (z9.2.1 a10).1 = 8 then
  ((tX5_bringIn a10 r2 x2 z9.2).bind fun z11 =>
  if z11.2.2.1 + 0 ≤ M.2.1 + 50 ∧ z11.2.2.2.1 + 0 ≤ M.2.2.1 + 2001 then
  (if (z11.2.1 r2).1 = 9 then
  ((tX7_placeOf r2 x2 z11.2).bind fun z12 =>
  if z11.2.2.1 ≤ M.2.1 + 50 ∧ z11.2.2.2.1 ≤ M.2.2.1 + 2001 then some (Sum.inl z12, z11.2) else none)
else none)
else none)
else none)
else none)
else none)
else none) (fun j6 => some (Sum.inr j6, z4.2)) z4.1)
else none)
else none) (fun j3 => some (Sum.inr j3, z1.2)) z1.1)
else none)
else none
def rmX9_add : Room := { frames := 8, cells := 50, slots := 2001, locals := 145 }
set_option maxHeartbeats 4000000 in
set_option maxRecDepth 100000 in
theorem mX9_add (l : Launch) (hfl : l.stackTraces = false) (D : vD) (x0 : Nat) (x1 : Int32) (x2 : Int32) (M : vMe) (z : ((Int32 ⊕ Nat) × vMe)) (h : tX9_add D.2.2.2.2 x0 x1 x2 M = some z) : vx_Met l yX9_add (Cond.code yX9_add cX9_add 4 (some .int) :: TB) rmX9_add (va_Pc [.ref x0, .int x1, .int x2] (vPre D M)) (qX D (Sum.elim (fun r => some (some (.int r))) (fun _ => none) z.1) z.2) (xX D (Sum.elim (fun _ => none) some z.1) z.2) 50 2001 (vA D) := by
  refine v_ofX (cc := cX9_add) (maxL := 4) (ret := (some .int)) (by decide) (Nat.le_of_ble_eq_true rfl) ?_
  intro p e s m args below meth c Q hx hb hr hml hown hts hlk hnm hSS hR0 hQ hnt ls hl
  have hz0 := hR0.2.1
  have hs0 := hR0.2.2.1
  have hb0 : D.2.2.2.1 ≤ s.heap.size := hR0.2.2.2.2.1
  refine v_tight hb0 ?_
  have hK := hSS.1
  have hl : lv_has ls 4 [(0, .ref x0), (1, .int x1), (2, .int x2)] := hl
  unfold tX9_add at h
  refine w_aload_n hx hb dX9_add_0 rfl (lv_at hl 0 rfl) ?_
  refine w_iload_n hx hb dX9_add_1 rfl (lv_at hl 1 rfl) ?_
  obtain ⟨g7, h⟩ := v_ifs h
  refine v_tight hb0 ?_
  obtain ⟨g8, h⟩ := v_ifs h
  obtain ⟨z1, ez1, h⟩ := v_bnd h
  rcases hz1 : z1.1 with r2 | j3
  · replace h := v_inl hz1 h
    refine v_callXok (ov := some (.ref r2)) (mcz := 1) (msz := 6) (fun H locs hR hS => vx_runV (As := [.int x1]) (rest := []) ⟨hx, hb, hml, hown, hts⟩ (mX9_rowsOf l hfl D x0 x1 M z1 ez1) (cwV 1 hts (gdV kw1039 kw1041 kw21 kw27 kw1042) rfl rfl rfl (by decide +kernel) ⟨Nat.le_of_ble_eq_true rfl, Nat.le_of_ble_eq_true rfl⟩) (v_preV (ci := 10) hSS hR hS g8 (by decide) rfl [.int x1]) rfl rfl hl.1 rfl (lv_room (Nat.le_of_ble_eq_true rfl)) dX9_add_2 ⟨by show _ + _ ≤ 50; omega, by show _ + _ ≤ 2001; omega⟩) (by rw [hz1]; rfl) (by rw [hz1]; rfl) (st1 := [.ref r2]) rfl ?_
    refine w_astore_n (lv' := [(3, .ref r2), (0, .ref x0), (1, .int x1), (2, .int x2)]) hx hb dX9_add_5 rfl hl (by decide) rfl (fun ls hl => ?_)
    have hl : lv_has ls 4 [(0, .ref x0), (1, .int x1), (2, .int x2), (3, .ref r2)] := lv_sub hl [1, 2, 3, 0] rfl
    refine w_aload_n hx hb dX9_add_6 rfl (lv_at hl 0 rfl) ?_
    refine w_iload_n hx hb dX9_add_7 rfl (lv_at hl 2 rfl) ?_
    obtain ⟨g7, h⟩ := v_ifs h
    refine v_tight hb0 ?_
    obtain ⟨g8, h⟩ := v_ifs h
    obtain ⟨z4, ez4, h⟩ := v_bnd h
    rcases hz4 : z4.1 with r5 | j6
    · replace h := v_inl hz4 h
      refine v_callXok (ov := none) (mcz := 1) (msz := 6) (fun H locs hR hS => vx_runV (As := [.int x2]) (rest := []) ⟨hx, hb, hml, hown, hts⟩ (mX9_checkNumber l hfl D x0 x2 z1.2 z4 ez4) (cwV 1 hts (gdV kw1216 kw1218 kw24 kw27 kw1219) rfl rfl rfl (by decide +kernel) ⟨Nat.le_of_ble_eq_true rfl, Nat.le_of_ble_eq_true rfl⟩) (v_preV (ci := 10) hSS hR hS g8 (by decide) rfl [.int x2]) rfl rfl hl.1 rfl (lv_room (Nat.le_of_ble_eq_true rfl)) dX9_add_8 ⟨by show _ + _ ≤ 50; omega, by show _ + _ ≤ 2001; omega⟩) (by rw [hz4]; rfl) (by rw [hz4]; rfl) (st1 := []) rfl ?_
      refine w_aload_n hx hb dX9_add_11 rfl (lv_at hl 0 rfl) ?_
      obtain ⟨a7, ea7, h⟩ := v_bnd h
      refine v_gA (ci := 10) hx hb hts iwX9 hown hK 1 ea7 rfl (by decide) (Or.inl (hts _ kw290)) (fun _ h9 => h9) dX9_add_12 ?_
      refine w_aload_n hx hb dX9_add_15 rfl (lv_at hl 0 rfl) ?_
      obtain ⟨a8, ea8, h⟩ := v_bnd h
      refine v_gA (ci := 10) hx hb hts iwX9 hown hK 3 ea8 rfl (by decide) (Or.inl (hts _ kw292)) (fun _ h9 => h9) dX9_add_16 ?_
      obtain ⟨g7, h⟩ := v_ifs h
      refine v_tight hb0 ?_
      obtain ⟨g8, h⟩ := v_ifs h
      obtain ⟨z9, ez9, h⟩ := v_bnd h
      refine v_call0 (M1 := z9.2) (mc := 50) (ms := 2001) (fun H locs hR hS => va_runV (As := [.ref a8]) (rest := []) ⟨hx, hb, hml, hown, hts⟩ (mX8_remember l hfl D a7 a8 z4.2 z9 ez9) (cwV 1 hts (gdV kw1063 kw1064 kw1065 kw29 kw1066) rfl rfl rfl (by decide +kernel) ⟨Nat.le_of_ble_eq_true rfl, Nat.le_of_ble_eq_true rfl⟩) (v_preV (ci := 9) hSS hR hS g8 (by decide) rfl [.ref a8]) rfl rfl hl.1 rfl (lv_room (Nat.le_of_ble_eq_true rfl)) dX9_add_19 ⟨by show _ + _ ≤ 50; omega, by show _ + _ ≤ 2001; omega⟩) ?_
      refine w_aload_n hx hb dX9_add_22 rfl (lv_at hl 0 rfl) ?_
      obtain ⟨a10, ea10, h⟩ := v_bnd h
      refine v_gA (ci := 10) hx hb hts iwX9 hown hK 3 ea10 rfl (by decide) (Or.inl (hts _ kw292)) (fun _ h9 => h9) dX9_add_23 ?_
      refine w_aload_n hx hb dX9_add_26 rfl (lv_at hl 3 rfl) ?_
      refine w_iload_n hx hb dX9_add_27 rfl (lv_at hl 2 rfl) ?_
      obtain ⟨g7, h⟩ := v_ifs h
      refine v_tight hb0 ?_
      obtain ⟨g8, h⟩ := v_ifs h
      obtain ⟨z11, ez11, h⟩ := v_bnd h
      refine v_call1 (v := .int z11.1) (M1 := z11.2) (mc := 0) (ms := 0) (fun H locs hR hS => va_runV (As := [.ref r2, .int x2]) (rest := []) ⟨hx, hb, hml, hown, hts⟩ (mX5_bringIn l hfl D a10 r2 x2 z9.2 z11 ez11) (cwV 2 hts (gdV kw1247 kw959 kw960 kw31 kw961) rfl rfl rfl (by decide +kernel) ⟨Nat.le_of_ble_eq_true rfl, Nat.le_of_ble_eq_true rfl⟩) (v_preV (ci := 7) hSS hR hS g8 (by decide) rfl [.ref r2, .int x2]) rfl rfl hl.1 rfl (lv_room (Nat.le_of_ble_eq_true rfl)) dX9_add_28 ⟨by show _ + _ ≤ 50; omega, by show _ + _ ≤ 2001; omega⟩) ?_
      refine w_pop hx hb dX9_add_31 rfl ?_
      refine w_aload_n hx hb dX9_add_32 rfl (lv_at hl 3 rfl) ?_
      refine w_iload_n hx hb dX9_add_33 rfl (lv_at hl 2 rfl) ?_
      obtain ⟨g7, h⟩ := v_ifs h
      refine v_tight hb0 ?_
      obtain ⟨g8, h⟩ := v_ifs h
      obtain ⟨z12, ez12, h⟩ := v_bnd h
      refine v_call1 (v := .int z12) (M1 := z11.2) (mc := 0) (ms := 0) (fun H locs hR hS => va_runV (As := [.int x2]) (rest := []) ⟨hx, hb, hml, hown, hts⟩ (mX7_placeOf l hfl D r2 x2 z11.2 z12 ez12) (cwV 1 hts (gdV kw1248 kw967 kw968 kw32 kw969) rfl rfl rfl (by decide +kernel) ⟨Nat.le_of_ble_eq_true rfl, Nat.le_of_ble_eq_true rfl⟩) (v_preV (ci := 8) hSS hR hS g8 (by decide) rfl [.int x2]) rfl rfl hl.1 rfl (lv_room (Nat.le_of_ble_eq_true rfl)) dX9_add_34 ⟨by show _ + _ ≤ 50; omega, by show _ + _ ≤ 2001; omega⟩) ?_
      obtain ⟨g9, h⟩ := v_ifs h
      refine v_tight hb0 (vV.widen (n' := 50) (k' := 2001) (by omega) (by omega) ?_)
      obtain rfl := Option.some.inj h
      rw [hQ]
      refine v_xok ?_
      exact v_iret hx hb hr hlk dX9_add_37
    · replace h := v_inr hz4 h
      obtain rfl := Option.some.inj h
      rw [hQ]
      exact v_callXth (mcz := 1) (msz := 6) (fun H locs hR hS => vx_runV (As := [.int x2]) (rest := []) ⟨hx, hb, hml, hown, hts⟩ (mX9_checkNumber l hfl D x0 x2 z1.2 z4 ez4) (cwV 1 hts (gdV kw1216 kw1218 kw24 kw27 kw1219) rfl rfl rfl (by decide +kernel) ⟨Nat.le_of_ble_eq_true rfl, Nat.le_of_ble_eq_true rfl⟩) (v_preV (ci := 10) hSS hR hS g8 (by decide) rfl [.int x2]) rfl rfl hl.1 rfl (lv_room (Nat.le_of_ble_eq_true rfl)) dX9_add_8 ⟨by show _ + _ ≤ 50; omega, by show _ + _ ≤ 2001; omega⟩) (by rw [hz4]; rfl) (by rw [hz4]; rfl) hnt hlk (by omega) (by omega)
  · replace h := v_inr hz1 h
    obtain rfl := Option.some.inj h
    rw [hQ]
    exact v_callXth (mcz := 1) (msz := 6) (fun H locs hR hS => vx_runV (As := [.int x1]) (rest := []) ⟨hx, hb, hml, hown, hts⟩ (mX9_rowsOf l hfl D x0 x1 M z1 ez1) (cwV 1 hts (gdV kw1039 kw1041 kw21 kw27 kw1042) rfl rfl rfl (by decide +kernel) ⟨Nat.le_of_ble_eq_true rfl, Nat.le_of_ble_eq_true rfl⟩) (v_preV (ci := 10) hSS hR hS g8 (by decide) rfl [.int x1]) rfl rfl hl.1 rfl (lv_room (Nat.le_of_ble_eq_true rfl)) dX9_add_2 ⟨by show _ + _ ≤ 50; omega, by show _ + _ ≤ 2001; omega⟩) (by rw [hz1]; rfl) (by rw [hz1]; rfl) hnt hlk (by omega) (by omega)

def tX9_remove (G : Nat → Nat) (x0 : Nat) (x1 : Int32) (x2 : Int32) (M : vMe) : Option ((Int32 ⊕ Nat) × vMe) :=
  if M.2.1 + 1 ≤ M.2.1 + 50 ∧ M.2.2.1 + 6 ≤ M.2.2.1 + 2001 then
  (if (M.1 x0).1 = 11 then
  ((tX9_checkSet x0 x1 M).bind fun z1 =>
  Sum.elim (fun r2 =>
  if z1.2.2.1 + 1 ≤ M.2.1 + 50 ∧ z1.2.2.2.1 + 6 ≤ M.2.2.1 + 2001 then
  (if (z1.2.1 x0).1 = 11 then
  ((tX9_checkNumber x0 x2 z1.2).bind fun z4 =>
  Sum.elim (fun r5 =>
  (gA z4.2 x0 11 1).bind fun a7 =>
  (gA z4.2 x0 11 3).bind fun a8 =>
  if z4.2.2.1 + 50 ≤ M.2.1 + 50 ∧ z4.2.2.2.1 + 2001 ≤ M.2.2.1 + 2001 then
  (if (z4.2.1 a7).1 = 10 then
  ((tX8_remember G a7 a8 z4.2).bind fun z9 =>
  (gA z9.2 x0 11 3).bind fun a10 =>
  if z9.2.2.1 + 0 ≤ M.2.1 + 50 ∧ z9.2.2.2.1 + 0 ≤ M.2.2.1 + 2001 then
  (if (z9.2.1 a10).1 = 8 then
  ((tX5_takeOut a10 x1 x2 z9.2).bind fun z11 =>
  if z11.2.2.1 ≤ M.2.1 + 50 ∧ z11.2.2.2.1 ≤ M.2.2.1 + 2001 then if fits .boolean (.int z11.1) = true then some (Sum.inl z11.1, z11.2) else none else none)
else none)
else none)
else none)
else none) (fun j6 => some (Sum.inr j6, z4.2)) z4.1)
else none)
else none) (fun j3 => some (Sum.inr j3, z1.2)) z1.1)
else none)
else none
def rmX9_remove : Room := { frames := 7, cells := 50, slots := 2001, locals := 145 }
set_option maxHeartbeats 4000000 in
set_option maxRecDepth 100000 in
theorem mX9_remove (l : Launch) (hfl : l.stackTraces = false) (D : vD) (x0 : Nat) (x1 : Int32) (x2 : Int32) (M : vMe) (z : ((Int32 ⊕ Nat) × vMe)) (h : tX9_remove D.2.2.2.2 x0 x1 x2 M = some z) : vx_Met l yX9_remove (Cond.code yX9_remove cX9_remove 3 (some .boolean) :: TB) rmX9_remove (va_Pc [.ref x0, .int x1, .int x2] (vPre D M)) (qX D (Sum.elim (fun r => some (some (.int r))) (fun _ => none) z.1) z.2) (xX D (Sum.elim (fun _ => none) some z.1) z.2) 50 2001 (vA D) := by
  refine v_ofX (cc := cX9_remove) (maxL := 3) (ret := (some .boolean)) (by decide) (Nat.le_of_ble_eq_true rfl) ?_
  intro p e s m args below meth c Q hx hb hr hml hown hts hlk hnm hSS hR0 hQ hnt ls hl
  have hz0 := hR0.2.1
  have hs0 := hR0.2.2.1
  have hb0 : D.2.2.2.1 ≤ s.heap.size := hR0.2.2.2.2.1
  refine v_tight hb0 ?_
  have hK := hSS.1
  have hl : lv_has ls 3 [(0, .ref x0), (1, .int x1), (2, .int x2)] := hl
  unfold tX9_remove at h
  refine w_aload_n hx hb dX9_remove_0 rfl (lv_at hl 0 rfl) ?_
  refine w_iload_n hx hb dX9_remove_1 rfl (lv_at hl 1 rfl) ?_
  obtain ⟨g7, h⟩ := v_ifs h
  refine v_tight hb0 ?_
  obtain ⟨g8, h⟩ := v_ifs h
  obtain ⟨z1, ez1, h⟩ := v_bnd h
  rcases hz1 : z1.1 with r2 | j3
  · replace h := v_inl hz1 h
    refine v_callXok (ov := none) (mcz := 1) (msz := 6) (fun H locs hR hS => vx_runV (As := [.int x1]) (rest := []) ⟨hx, hb, hml, hown, hts⟩ (mX9_checkSet l hfl D x0 x1 M z1 ez1) (cwV 1 hts (gdV kw1043 kw1045 kw22 kw27 kw1046) rfl rfl rfl (by decide +kernel) ⟨Nat.le_of_ble_eq_true rfl, Nat.le_of_ble_eq_true rfl⟩) (v_preV (ci := 10) hSS hR hS g8 (by decide) rfl [.int x1]) rfl rfl hl.1 rfl (lv_room (Nat.le_of_ble_eq_true rfl)) dX9_remove_2 ⟨by show _ + _ ≤ 50; omega, by show _ + _ ≤ 2001; omega⟩) (by rw [hz1]; rfl) (by rw [hz1]; rfl) (st1 := []) rfl ?_
    refine w_aload_n hx hb dX9_remove_5 rfl (lv_at hl 0 rfl) ?_
    refine w_iload_n hx hb dX9_remove_6 rfl (lv_at hl 2 rfl) ?_
    obtain ⟨g7, h⟩ := v_ifs h
    refine v_tight hb0 ?_
    obtain ⟨g8, h⟩ := v_ifs h
    obtain ⟨z4, ez4, h⟩ := v_bnd h
    rcases hz4 : z4.1 with r5 | j6
    · replace h := v_inl hz4 h
      refine v_callXok (ov := none) (mcz := 1) (msz := 6) (fun H locs hR hS => vx_runV (As := [.int x2]) (rest := []) ⟨hx, hb, hml, hown, hts⟩ (mX9_checkNumber l hfl D x0 x2 z1.2 z4 ez4) (cwV 1 hts (gdV kw1216 kw1218 kw24 kw27 kw1219) rfl rfl rfl (by decide +kernel) ⟨Nat.le_of_ble_eq_true rfl, Nat.le_of_ble_eq_true rfl⟩) (v_preV (ci := 10) hSS hR hS g8 (by decide) rfl [.int x2]) rfl rfl hl.1 rfl (lv_room (Nat.le_of_ble_eq_true rfl)) dX9_remove_7 ⟨by show _ + _ ≤ 50; omega, by show _ + _ ≤ 2001; omega⟩) (by rw [hz4]; rfl) (by rw [hz4]; rfl) (st1 := []) rfl ?_
      refine w_aload_n hx hb dX9_remove_10 rfl (lv_at hl 0 rfl) ?_
      obtain ⟨a7, ea7, h⟩ := v_bnd h
      refine v_gA (ci := 10) hx hb hts iwX9 hown hK 1 ea7 rfl (by decide) (Or.inl (hts _ kw290)) (fun _ h9 => h9) dX9_remove_11 ?_
      refine w_aload_n hx hb dX9_remove_14 rfl (lv_at hl 0 rfl) ?_
      obtain ⟨a8, ea8, h⟩ := v_bnd h
      refine v_gA (ci := 10) hx hb hts iwX9 hown hK 3 ea8 rfl (by decide) (Or.inl (hts _ kw292)) (fun _ h9 => h9) dX9_remove_15 ?_
      obtain ⟨g7, h⟩ := v_ifs h
      refine v_tight hb0 ?_
      obtain ⟨g8, h⟩ := v_ifs h
      obtain ⟨z9, ez9, h⟩ := v_bnd h
      refine v_call0 (M1 := z9.2) (mc := 50) (ms := 2001) (fun H locs hR hS => va_runV (As := [.ref a8]) (rest := []) ⟨hx, hb, hml, hown, hts⟩ (mX8_remember l hfl D a7 a8 z4.2 z9 ez9) (cwV 1 hts (gdV kw1063 kw1064 kw1065 kw29 kw1066) rfl rfl rfl (by decide +kernel) ⟨Nat.le_of_ble_eq_true rfl, Nat.le_of_ble_eq_true rfl⟩) (v_preV (ci := 9) hSS hR hS g8 (by decide) rfl [.ref a8]) rfl rfl hl.1 rfl (lv_room (Nat.le_of_ble_eq_true rfl)) dX9_remove_18 ⟨by show _ + _ ≤ 50; omega, by show _ + _ ≤ 2001; omega⟩) ?_
      refine w_aload_n hx hb dX9_remove_21 rfl (lv_at hl 0 rfl) ?_
      obtain ⟨a10, ea10, h⟩ := v_bnd h
      refine v_gA (ci := 10) hx hb hts iwX9 hown hK 3 ea10 rfl (by decide) (Or.inl (hts _ kw292)) (fun _ h9 => h9) dX9_remove_22 ?_
      refine w_iload_n hx hb dX9_remove_25 rfl (lv_at hl 1 rfl) ?_
      refine w_iload_n hx hb dX9_remove_26 rfl (lv_at hl 2 rfl) ?_
      obtain ⟨g7, h⟩ := v_ifs h
      refine v_tight hb0 ?_
      obtain ⟨g8, h⟩ := v_ifs h
      obtain ⟨z11, ez11, h⟩ := v_bnd h
      refine v_call1 (v := .int z11.1) (M1 := z11.2) (mc := 0) (ms := 0) (fun H locs hR hS => va_runV (As := [.int x1, .int x2]) (rest := []) ⟨hx, hb, hml, hown, hts⟩ (mX5_takeOut l hfl D a10 x1 x2 z9.2 z11 ez11) (cwV 2 hts (gdV kw1211 kw985 kw986 kw31 kw987) rfl rfl rfl (by decide +kernel) ⟨Nat.le_of_ble_eq_true rfl, Nat.le_of_ble_eq_true rfl⟩) (v_preV (ci := 7) hSS hR hS g8 (by decide) rfl [.int x1, .int x2]) rfl rfl hl.1 rfl (lv_room (Nat.le_of_ble_eq_true rfl)) dX9_remove_27 ⟨by show _ + _ ≤ 50; omega, by show _ + _ ≤ 2001; omega⟩) ?_
      obtain ⟨g9, h⟩ := v_ifs h
      refine v_tight hb0 (vV.widen (n' := 50) (k' := 2001) (by omega) (by omega) ?_)
      obtain ⟨g6, h⟩ := v_ifs h
      obtain rfl := Option.some.inj h
      rw [hQ]
      refine v_xok ?_
      exact v_zret hx hb hr hlk (v_narZ g6) dX9_remove_30
    · replace h := v_inr hz4 h
      obtain rfl := Option.some.inj h
      rw [hQ]
      exact v_callXth (mcz := 1) (msz := 6) (fun H locs hR hS => vx_runV (As := [.int x2]) (rest := []) ⟨hx, hb, hml, hown, hts⟩ (mX9_checkNumber l hfl D x0 x2 z1.2 z4 ez4) (cwV 1 hts (gdV kw1216 kw1218 kw24 kw27 kw1219) rfl rfl rfl (by decide +kernel) ⟨Nat.le_of_ble_eq_true rfl, Nat.le_of_ble_eq_true rfl⟩) (v_preV (ci := 10) hSS hR hS g8 (by decide) rfl [.int x2]) rfl rfl hl.1 rfl (lv_room (Nat.le_of_ble_eq_true rfl)) dX9_remove_7 ⟨by show _ + _ ≤ 50; omega, by show _ + _ ≤ 2001; omega⟩) (by rw [hz4]; rfl) (by rw [hz4]; rfl) hnt hlk (by omega) (by omega)
  · replace h := v_inr hz1 h
    obtain rfl := Option.some.inj h
    rw [hQ]
    exact v_callXth (mcz := 1) (msz := 6) (fun H locs hR hS => vx_runV (As := [.int x1]) (rest := []) ⟨hx, hb, hml, hown, hts⟩ (mX9_checkSet l hfl D x0 x1 M z1 ez1) (cwV 1 hts (gdV kw1043 kw1045 kw22 kw27 kw1046) rfl rfl rfl (by decide +kernel) ⟨Nat.le_of_ble_eq_true rfl, Nat.le_of_ble_eq_true rfl⟩) (v_preV (ci := 10) hSS hR hS g8 (by decide) rfl [.int x1]) rfl rfl hl.1 rfl (lv_room (Nat.le_of_ble_eq_true rfl)) dX9_remove_2 ⟨by show _ + _ ≤ 50; omega, by show _ + _ ≤ 2001; omega⟩) (by rw [hz1]; rfl) (by rw [hz1]; rfl) hnt hlk (by omega) (by omega)

def tX9_clear (G : Nat → Nat) (x0 : Nat) (x1 : Int32) (M : vMe) : Option ((Int32 ⊕ Nat) × vMe) :=
  if M.2.1 + 1 ≤ M.2.1 + 50 ∧ M.2.2.1 + 6 ≤ M.2.2.1 + 2001 then
  (if (M.1 x0).1 = 11 then
  ((tX9_rowsOf x0 x1 M).bind fun z1 =>
  Sum.elim (fun r2 =>
  (gI z1.2 r2 9 5).bind fun v4 =>
  (gA z1.2 x0 11 1).bind fun a5 =>
  (gA z1.2 x0 11 3).bind fun a6 =>
  if z1.2.2.1 + 50 ≤ M.2.1 + 50 ∧ z1.2.2.2.1 + 2001 ≤ M.2.2.1 + 2001 then
  (if (z1.2.1 a5).1 = 10 then
  ((tX8_remember G a5 a6 z1.2).bind fun z7 =>
  (gA z7.2 x0 11 3).bind fun a8 =>
  if z7.2.2.1 + 0 ≤ M.2.1 + 50 ∧ z7.2.2.2.1 + 0 ≤ M.2.2.1 + 2001 then
  (if (z7.2.1 a8).1 = 8 then
  ((tX5_emptySet a8 x1 z7.2).bind fun z9 =>
  if z9.2.2.1 ≤ M.2.1 + 50 ∧ z9.2.2.2.1 ≤ M.2.2.1 + 2001 then some (Sum.inl v4, z9.2) else none)
else none)
else none)
else none)
else none) (fun j3 => some (Sum.inr j3, z1.2)) z1.1)
else none)
else none
def rmX9_clear : Room := { frames := 8, cells := 50, slots := 2001, locals := 145 }
set_option maxHeartbeats 4000000 in
set_option maxRecDepth 100000 in
theorem mX9_clear (l : Launch) (hfl : l.stackTraces = false) (D : vD) (x0 : Nat) (x1 : Int32) (M : vMe) (z : ((Int32 ⊕ Nat) × vMe)) (h : tX9_clear D.2.2.2.2 x0 x1 M = some z) : vx_Met l yX9_clear (Cond.code yX9_clear cX9_clear 3 (some .int) :: TB) rmX9_clear (va_Pc [.ref x0, .int x1] (vPre D M)) (qX D (Sum.elim (fun r => some (some (.int r))) (fun _ => none) z.1) z.2) (xX D (Sum.elim (fun _ => none) some z.1) z.2) 50 2001 (vA D) := by
  refine v_ofX (cc := cX9_clear) (maxL := 3) (ret := (some .int)) (by decide) (Nat.le_of_ble_eq_true rfl) ?_
  intro p e s m args below meth c Q hx hb hr hml hown hts hlk hnm hSS hR0 hQ hnt ls hl
  have hz0 := hR0.2.1
  have hs0 := hR0.2.2.1
  have hb0 : D.2.2.2.1 ≤ s.heap.size := hR0.2.2.2.2.1
  refine v_tight hb0 ?_
  have hK := hSS.1
  have hl : lv_has ls 3 [(0, .ref x0), (1, .int x1)] := hl
  unfold tX9_clear at h
  refine w_aload_n hx hb dX9_clear_0 rfl (lv_at hl 0 rfl) ?_
  refine w_iload_n hx hb dX9_clear_1 rfl (lv_at hl 1 rfl) ?_
  obtain ⟨g7, h⟩ := v_ifs h
  refine v_tight hb0 ?_
  obtain ⟨g8, h⟩ := v_ifs h
  obtain ⟨z1, ez1, h⟩ := v_bnd h
  rcases hz1 : z1.1 with r2 | j3
  · replace h := v_inl hz1 h
    refine v_callXok (ov := some (.ref r2)) (mcz := 1) (msz := 6) (fun H locs hR hS => vx_runV (As := [.int x1]) (rest := []) ⟨hx, hb, hml, hown, hts⟩ (mX9_rowsOf l hfl D x0 x1 M z1 ez1) (cwV 1 hts (gdV kw1039 kw1041 kw21 kw27 kw1042) rfl rfl rfl (by decide +kernel) ⟨Nat.le_of_ble_eq_true rfl, Nat.le_of_ble_eq_true rfl⟩) (v_preV (ci := 10) hSS hR hS g8 (by decide) rfl [.int x1]) rfl rfl hl.1 rfl (lv_room (Nat.le_of_ble_eq_true rfl)) dX9_clear_2 ⟨by show _ + _ ≤ 50; omega, by show _ + _ ≤ 2001; omega⟩) (by rw [hz1]; rfl) (by rw [hz1]; rfl) (st1 := [.ref r2]) rfl ?_
    obtain ⟨v4, ev4, h⟩ := v_bnd h
    refine v_gI (ci := 8) hx hb hts iwX7 hown hK 5 ev4 rfl (by decide) (Or.inr ⟨_, kn18 hSS _⟩) (fun _ h9 => h9) dX9_clear_5 ?_
    refine w_istore_n (lv' := [(2, .int v4), (0, .ref x0), (1, .int x1)]) hx hb dX9_clear_8 rfl hl (by decide) rfl (fun ls hl => ?_)
    have hl : lv_has ls 3 [(0, .ref x0), (1, .int x1), (2, .int v4)] := lv_sub hl [1, 2, 0] rfl
    refine w_aload_n hx hb dX9_clear_9 rfl (lv_at hl 0 rfl) ?_
    obtain ⟨a5, ea5, h⟩ := v_bnd h
    refine v_gA (ci := 10) hx hb hts iwX9 hown hK 1 ea5 rfl (by decide) (Or.inl (hts _ kw290)) (fun _ h9 => h9) dX9_clear_10 ?_
    refine w_aload_n hx hb dX9_clear_13 rfl (lv_at hl 0 rfl) ?_
    obtain ⟨a6, ea6, h⟩ := v_bnd h
    refine v_gA (ci := 10) hx hb hts iwX9 hown hK 3 ea6 rfl (by decide) (Or.inl (hts _ kw292)) (fun _ h9 => h9) dX9_clear_14 ?_
    obtain ⟨g7, h⟩ := v_ifs h
    refine v_tight hb0 ?_
    obtain ⟨g8, h⟩ := v_ifs h
    obtain ⟨z7, ez7, h⟩ := v_bnd h
    refine v_call0 (M1 := z7.2) (mc := 50) (ms := 2001) (fun H locs hR hS => va_runV (As := [.ref a6]) (rest := []) ⟨hx, hb, hml, hown, hts⟩ (mX8_remember l hfl D a5 a6 z1.2 z7 ez7) (cwV 1 hts (gdV kw1063 kw1064 kw1065 kw29 kw1066) rfl rfl rfl (by decide +kernel) ⟨Nat.le_of_ble_eq_true rfl, Nat.le_of_ble_eq_true rfl⟩) (v_preV (ci := 9) hSS hR hS g8 (by decide) rfl [.ref a6]) rfl rfl hl.1 rfl (lv_room (Nat.le_of_ble_eq_true rfl)) dX9_clear_17 ⟨by show _ + _ ≤ 50; omega, by show _ + _ ≤ 2001; omega⟩) ?_
    refine w_aload_n hx hb dX9_clear_20 rfl (lv_at hl 0 rfl) ?_
    obtain ⟨a8, ea8, h⟩ := v_bnd h
    refine v_gA (ci := 10) hx hb hts iwX9 hown hK 3 ea8 rfl (by decide) (Or.inl (hts _ kw292)) (fun _ h9 => h9) dX9_clear_21 ?_
    refine w_iload_n hx hb dX9_clear_24 rfl (lv_at hl 1 rfl) ?_
    obtain ⟨g7, h⟩ := v_ifs h
    refine v_tight hb0 ?_
    obtain ⟨g8, h⟩ := v_ifs h
    obtain ⟨z9, ez9, h⟩ := v_bnd h
    refine v_call0 (M1 := z9.2) (mc := 0) (ms := 0) (fun H locs hR hS => va_runV (As := [.int x1]) (rest := []) ⟨hx, hb, hml, hown, hts⟩ (mX5_emptySet l hfl D a8 x1 z7.2 z9 ez9) (cwV 1 hts (gdV kw1087 kw1008 kw1009 kw31 kw1010) rfl rfl rfl (by decide +kernel) ⟨Nat.le_of_ble_eq_true rfl, Nat.le_of_ble_eq_true rfl⟩) (v_preV (ci := 7) hSS hR hS g8 (by decide) rfl [.int x1]) rfl rfl hl.1 rfl (lv_room (Nat.le_of_ble_eq_true rfl)) dX9_clear_25 ⟨by show _ + _ ≤ 50; omega, by show _ + _ ≤ 2001; omega⟩) ?_
    refine w_iload_n hx hb dX9_clear_28 rfl (lv_at hl 2 rfl) ?_
    obtain ⟨g9, h⟩ := v_ifs h
    refine v_tight hb0 (vV.widen (n' := 50) (k' := 2001) (by omega) (by omega) ?_)
    obtain rfl := Option.some.inj h
    rw [hQ]
    refine v_xok ?_
    exact v_iret hx hb hr hlk dX9_clear_29
  · replace h := v_inr hz1 h
    obtain rfl := Option.some.inj h
    rw [hQ]
    exact v_callXth (mcz := 1) (msz := 6) (fun H locs hR hS => vx_runV (As := [.int x1]) (rest := []) ⟨hx, hb, hml, hown, hts⟩ (mX9_rowsOf l hfl D x0 x1 M z1 ez1) (cwV 1 hts (gdV kw1039 kw1041 kw21 kw27 kw1042) rfl rfl rfl (by decide +kernel) ⟨Nat.le_of_ble_eq_true rfl, Nat.le_of_ble_eq_true rfl⟩) (v_preV (ci := 10) hSS hR hS g8 (by decide) rfl [.int x1]) rfl rfl hl.1 rfl (lv_room (Nat.le_of_ble_eq_true rfl)) dX9_clear_2 ⟨by show _ + _ ≤ 50; omega, by show _ + _ ≤ 2001; omega⟩) (by rw [hz1]; rfl) (by rw [hz1]; rfl) hnt hlk (by omega) (by omega)

def tX9_mark (G : Nat → Nat) (x0 : Nat) (M : vMe) : Option ((Int32 ⊕ Nat) × vMe) :=
  (gA M x0 11 3).bind fun a1 =>
  (gI M a1 8 6).bind fun v2 =>
  if v2 < (8 : Int32) then
  ((gA M x0 11 1).bind fun a4 =>
  (gA M x0 11 3).bind fun a5 =>
  if M.2.1 + 50 ≤ M.2.1 + 50 ∧ M.2.2.1 + 2001 ≤ M.2.2.1 + 2001 then
  (if (M.1 a4).1 = 10 then
  ((tX8_remember G a4 a5 M).bind fun z6 =>
  (gA z6.2 x0 11 3).bind fun a7 =>
  if z6.2.2.1 + 0 ≤ M.2.1 + 50 ∧ z6.2.2.2.1 + 0 ≤ M.2.2.1 + 2001 then
  (if (z6.2.1 a7).1 = 8 then
  ((tX5_makeMark a7 z6.2).bind fun z8 =>
  (gA z8.2 x0 11 3).bind fun a9 =>
  (gI z8.2 a9 8 6).bind fun v10 =>
  if z8.2.2.1 ≤ M.2.1 + 50 ∧ z8.2.2.2.1 ≤ M.2.2.1 + 2001 then some (Sum.inl (v10 - 1), z8.2) else none)
else none)
else none)
else none)
else none)
else
  (if M.2.1 + 1 ≤ M.2.1 + 50 ∧ M.2.2.1 + 6 ≤ M.2.2.1 + 2001 then some (Sum.inr 2, M) else none)
def rmX9_mark : Room := { frames := 6, cells := 50, slots := 2001, locals := 145 }
set_option maxHeartbeats 4000000 in
set_option maxRecDepth 100000 in
theorem mX9_mark (l : Launch) (hfl : l.stackTraces = false) (D : vD) (x0 : Nat) (M : vMe) (z : ((Int32 ⊕ Nat) × vMe)) (h : tX9_mark D.2.2.2.2 x0 M = some z) : vx_Met l yX9_mark (Cond.code yX9_mark cX9_mark 1 (some .int) :: TB) rmX9_mark (va_Pc [.ref x0] (vPre D M)) (qX D (Sum.elim (fun r => some (some (.int r))) (fun _ => none) z.1) z.2) (xX D (Sum.elim (fun _ => none) some z.1) z.2) 50 2001 (vA D) := by
  refine v_ofX (cc := cX9_mark) (maxL := 1) (ret := (some .int)) (by decide) (Nat.le_of_ble_eq_true rfl) ?_
  intro p e s m args below meth c Q hx hb hr hml hown hts hlk hnm hSS hR0 hQ hnt ls hl
  have hz0 := hR0.2.1
  have hs0 := hR0.2.2.1
  have hb0 : D.2.2.2.1 ≤ s.heap.size := hR0.2.2.2.2.1
  refine v_tight hb0 ?_
  have hK := hSS.1
  have hl : lv_has ls 1 [(0, .ref x0)] := hl
  unfold tX9_mark at h
  refine w_aload_n hx hb dX9_mark_0 rfl (lv_at hl 0 rfl) ?_
  obtain ⟨a1, ea1, h⟩ := v_bnd h
  refine v_gA (ci := 10) hx hb hts iwX9 hown hK 3 ea1 rfl (by decide) (Or.inl (hts _ kw292)) (fun _ h9 => h9) dX9_mark_1 ?_
  obtain ⟨v2, ev2, h⟩ := v_bnd h
  refine v_gI (ci := 7) hx hb hts iwX5 hown hK 6 ev2 rfl (by decide) (Or.inr ⟨_, kn44 hSS _⟩) (fun _ h9 => h9) dX9_mark_4 ?_
  refine w_bipush (v := 8) hx hb dX9_mark_7 (by decide) ?_
  refine w_icmp_lt (tgt := 23) hx hb dX9_mark_9 (by decide) (fun c3 => ?_) (fun c3 => ?_)
  · rw [if_pos c3] at h
    refine w_aload_n hx hb dX9_mark_23 rfl (lv_at hl 0 rfl) ?_
    obtain ⟨a4, ea4, h⟩ := v_bnd h
    refine v_gA (ci := 10) hx hb hts iwX9 hown hK 1 ea4 rfl (by decide) (Or.inl (hts _ kw290)) (fun _ h9 => h9) dX9_mark_24 ?_
    refine w_aload_n hx hb dX9_mark_27 rfl (lv_at hl 0 rfl) ?_
    obtain ⟨a5, ea5, h⟩ := v_bnd h
    refine v_gA (ci := 10) hx hb hts iwX9 hown hK 3 ea5 rfl (by decide) (Or.inl (hts _ kw292)) (fun _ h9 => h9) dX9_mark_28 ?_
    obtain ⟨g7, h⟩ := v_ifs h
    refine v_tight hb0 ?_
    obtain ⟨g8, h⟩ := v_ifs h
    obtain ⟨z6, ez6, h⟩ := v_bnd h
    refine v_call0 (M1 := z6.2) (mc := 50) (ms := 2001) (fun H locs hR hS => va_runV (As := [.ref a5]) (rest := []) ⟨hx, hb, hml, hown, hts⟩ (mX8_remember l hfl D a4 a5 M z6 ez6) (cwV 1 hts (gdV kw1063 kw1064 kw1065 kw29 kw1066) rfl rfl rfl (by decide +kernel) ⟨Nat.le_of_ble_eq_true rfl, Nat.le_of_ble_eq_true rfl⟩) (v_preV (ci := 9) hSS hR hS g8 (by decide) rfl [.ref a5]) rfl rfl hl.1 rfl (lv_room (Nat.le_of_ble_eq_true rfl)) dX9_mark_31 ⟨by show _ + _ ≤ 50; omega, by show _ + _ ≤ 2001; omega⟩) ?_
    refine w_aload_n hx hb dX9_mark_34 rfl (lv_at hl 0 rfl) ?_
    obtain ⟨a7, ea7, h⟩ := v_bnd h
    refine v_gA (ci := 10) hx hb hts iwX9 hown hK 3 ea7 rfl (by decide) (Or.inl (hts _ kw292)) (fun _ h9 => h9) dX9_mark_35 ?_
    obtain ⟨g7, h⟩ := v_ifs h
    refine v_tight hb0 ?_
    obtain ⟨g8, h⟩ := v_ifs h
    obtain ⟨z8, ez8, h⟩ := v_bnd h
    refine v_call0 (M1 := z8.2) (mc := 0) (ms := 0) (fun H locs hR hS => va_runV (As := []) (rest := []) ⟨hx, hb, hml, hown, hts⟩ (mX5_makeMark l hfl D a7 z6.2 z8 ez8) (cwV 0 hts (gdV kw1112 kw1017 kw1018 kw31 kw1019) rfl rfl rfl (by decide +kernel) ⟨Nat.le_of_ble_eq_true rfl, Nat.le_of_ble_eq_true rfl⟩) (v_preV (ci := 7) hSS hR hS g8 (by decide) rfl []) rfl rfl hl.1 rfl (lv_room (Nat.le_of_ble_eq_true rfl)) dX9_mark_38 ⟨by show _ + _ ≤ 50; omega, by show _ + _ ≤ 2001; omega⟩) ?_
    refine w_aload_n hx hb dX9_mark_41 rfl (lv_at hl 0 rfl) ?_
    obtain ⟨a9, ea9, h⟩ := v_bnd h
    refine v_gA (ci := 10) hx hb hts iwX9 hown hK 3 ea9 rfl (by decide) (Or.inl (hts _ kw292)) (fun _ h9 => h9) dX9_mark_42 ?_
    obtain ⟨v10, ev10, h⟩ := v_bnd h
    refine v_gI (ci := 7) hx hb hts iwX5 hown hK 6 ev10 rfl (by decide) (Or.inr ⟨_, kn44 hSS _⟩) (fun _ h9 => h9) dX9_mark_45 ?_
    refine w_iconst (v := 1) hx hb dX9_mark_48 (by decide) ?_
    refine w_isub hx hb dX9_mark_49 ?_
    obtain ⟨g9, h⟩ := v_ifs h
    refine v_tight hb0 (vV.widen (n' := 50) (k' := 2001) (by omega) (by omega) ?_)
    obtain rfl := Option.some.inj h
    rw [hQ]
    refine v_xok ?_
    exact v_iret hx hb hr hlk dX9_mark_50
  · rw [if_neg c3] at h
    obtain ⟨g5, h⟩ := v_ifs h
    obtain rfl := Option.some.inj h
    rw [hQ]
    refine v_tight hb0 ?_
    exact v_thW hx hb hfl hown (by decide +kernel) hts kw1096 kw57 (hSS.2.2.1 3 _ rfl) xat2 xbt2 (by decide) xot2 hSS (hl.1.trans hml.symm) dX9_mark_12 dX9_mark_15 dX9_mark_16 dX9_mark_19 dX9_mark_22 hnt (Nat.le_of_ble_eq_true rfl) (Nat.le_of_ble_eq_true rfl) (by show _ + _ ≤ 50; omega) (by show _ + _ ≤ 2001; omega) hlk (by omega) (by omega) rfl

def tX9_open (G : Nat → Nat) (x0 : Nat) (x1 : Int32) (x2 : Int32) (M : vMe) : Option ((Int32 ⊕ Nat) × vMe) :=
  if M.2.1 + 1 ≤ M.2.1 + 50 ∧ M.2.2.1 + 6 ≤ M.2.2.1 + 2001 then
  (if (M.1 x0).1 = 11 then
  ((tX9_checkSet x0 x1 M).bind fun z1 =>
  Sum.elim (fun r2 =>
  (gA z1.2 x0 11 3).bind fun a4 =>
  if z1.2.2.1 + 0 ≤ M.2.1 + 50 ∧ z1.2.2.2.1 + 0 ≤ M.2.2.1 + 2001 then
  (if (z1.2.1 a4).1 = 8 then
  ((tX5_freeCursor a4 z1.2).bind fun z5 =>
  if z5 = ((-1) : Int32) then
  (if z1.2.2.1 + 1 ≤ M.2.1 + 50 ∧ z1.2.2.2.1 + 6 ≤ M.2.2.1 + 2001 then some (Sum.inr 2, z1.2) else none)
else
  ((gA z1.2 x0 11 1).bind fun a7 =>
  (gA z1.2 x0 11 3).bind fun a8 =>
  if z1.2.2.1 + 50 ≤ M.2.1 + 50 ∧ z1.2.2.2.1 + 2001 ≤ M.2.2.1 + 2001 then
  (if (z1.2.1 a7).1 = 10 then
  ((tX8_remember G a7 a8 z1.2).bind fun z9 =>
  (gA z9.2 x0 11 3).bind fun a10 =>
  (gA z9.2 a10 8 1).bind fun a11 =>
  (aA z9.2 a11 108 z5).bind fun a12 =>
  (gA z9.2 x0 11 3).bind fun a13 =>
  (gI z9.2 a13 8 7).bind fun v14 =>
  if z9.2.2.1 + 0 ≤ M.2.1 + 50 ∧ z9.2.2.2.1 + 0 ≤ M.2.2.1 + 2001 then
  (if (z9.2.1 a12).1 = 3 then
  ((tX0_begin a12 x1 x2 v14 z9.2).bind fun z15 =>
  if z15.2.2.1 ≤ M.2.1 + 50 ∧ z15.2.2.2.1 ≤ M.2.2.1 + 2001 then some (Sum.inl z5, z15.2) else none)
else none)
else none)
else none)
else none))
else none)
else none) (fun j3 => some (Sum.inr j3, z1.2)) z1.1)
else none)
else none
def rmX9_open : Room := { frames := 7, cells := 50, slots := 2001, locals := 145 }
set_option maxHeartbeats 4000000 in
set_option maxRecDepth 100000 in
theorem mX9_open (l : Launch) (hfl : l.stackTraces = false) (D : vD) (x0 : Nat) (x1 : Int32) (x2 : Int32) (M : vMe) (z : ((Int32 ⊕ Nat) × vMe)) (h : tX9_open D.2.2.2.2 x0 x1 x2 M = some z) : vx_Met l yX9_open (Cond.code yX9_open cX9_open 4 (some .int) :: TB) rmX9_open (va_Pc [.ref x0, .int x1, .int x2] (vPre D M)) (qX D (Sum.elim (fun r => some (some (.int r))) (fun _ => none) z.1) z.2) (xX D (Sum.elim (fun _ => none) some z.1) z.2) 50 2001 (vA D) := by
  refine v_ofX (cc := cX9_open) (maxL := 4) (ret := (some .int)) (by decide) (Nat.le_of_ble_eq_true rfl) ?_
  intro p e s m args below meth c Q hx hb hr hml hown hts hlk hnm hSS hR0 hQ hnt ls hl
  have hz0 := hR0.2.1
  have hs0 := hR0.2.2.1
  have hb0 : D.2.2.2.1 ≤ s.heap.size := hR0.2.2.2.2.1
  refine v_tight hb0 ?_
  have hK := hSS.1
  have hl : lv_has ls 4 [(0, .ref x0), (1, .int x1), (2, .int x2)] := hl
  unfold tX9_open at h
  refine w_aload_n hx hb dX9_open_0 rfl (lv_at hl 0 rfl) ?_
  refine w_iload_n hx hb dX9_open_1 rfl (lv_at hl 1 rfl) ?_
  obtain ⟨g7, h⟩ := v_ifs h
  refine v_tight hb0 ?_
  obtain ⟨g8, h⟩ := v_ifs h
  obtain ⟨z1, ez1, h⟩ := v_bnd h
  rcases hz1 : z1.1 with r2 | j3
  · replace h := v_inl hz1 h
    refine v_callXok (ov := none) (mcz := 1) (msz := 6) (fun H locs hR hS => vx_runV (As := [.int x1]) (rest := []) ⟨hx, hb, hml, hown, hts⟩ (mX9_checkSet l hfl D x0 x1 M z1 ez1) (cwV 1 hts (gdV kw1043 kw1045 kw22 kw27 kw1046) rfl rfl rfl (by decide +kernel) ⟨Nat.le_of_ble_eq_true rfl, Nat.le_of_ble_eq_true rfl⟩) (v_preV (ci := 10) hSS hR hS g8 (by decide) rfl [.int x1]) rfl rfl hl.1 rfl (lv_room (Nat.le_of_ble_eq_true rfl)) dX9_open_2 ⟨by show _ + _ ≤ 50; omega, by show _ + _ ≤ 2001; omega⟩) (by rw [hz1]; rfl) (by rw [hz1]; rfl) (st1 := []) rfl ?_
    refine w_aload_n hx hb dX9_open_5 rfl (lv_at hl 0 rfl) ?_
    obtain ⟨a4, ea4, h⟩ := v_bnd h
    refine v_gA (ci := 10) hx hb hts iwX9 hown hK 3 ea4 rfl (by decide) (Or.inl (hts _ kw292)) (fun _ h9 => h9) dX9_open_6 ?_
    obtain ⟨g7, h⟩ := v_ifs h
    refine v_tight hb0 ?_
    obtain ⟨g8, h⟩ := v_ifs h
    obtain ⟨z5, ez5, h⟩ := v_bnd h
    refine v_call1 (v := .int z5) (M1 := z1.2) (mc := 0) (ms := 0) (fun H locs hR hS => va_runV (As := []) (rest := []) ⟨hx, hb, hml, hown, hts⟩ (mX5_freeCursor l hfl D a4 z1.2 z5 ez5) (cwV 0 hts (gdV kw1162 kw1163 kw1164 kw31 kw1165) rfl rfl rfl (by decide +kernel) ⟨Nat.le_of_ble_eq_true rfl, Nat.le_of_ble_eq_true rfl⟩) (v_preV (ci := 7) hSS hR hS g8 (by decide) rfl []) rfl rfl hl.1 rfl (lv_room (Nat.le_of_ble_eq_true rfl)) dX9_open_9 ⟨by show _ + _ ≤ 50; omega, by show _ + _ ≤ 2001; omega⟩) ?_
    refine w_istore_n (lv' := [(3, .int z5), (0, .ref x0), (1, .int x1), (2, .int x2)]) hx hb dX9_open_12 rfl hl (by decide) rfl (fun ls hl => ?_)
    have hl : lv_has ls 4 [(0, .ref x0), (1, .int x1), (2, .int x2), (3, .int z5)] := lv_sub hl [1, 2, 3, 0] rfl
    refine w_iload_n hx hb dX9_open_13 rfl (lv_at hl 3 rfl) ?_
    refine w_iconst (v := (-1)) hx hb dX9_open_14 (by decide) ?_
    refine w_icmp_ne (tgt := 29) hx hb dX9_open_15 (by decide) (fun c6 => ?_) (fun c6 => ?_)
    · rw [if_pos c6] at h
      obtain ⟨g5, h⟩ := v_ifs h
      obtain rfl := Option.some.inj h
      rw [hQ]
      refine v_tight hb0 ?_
      exact v_thW hx hb hfl hown (by decide +kernel) hts kw1096 kw57 (hSS.2.2.1 4 _ rfl) xat2 xbt2 (by decide) xot2 hSS (hl.1.trans hml.symm) dX9_open_18 dX9_open_21 dX9_open_22 dX9_open_25 dX9_open_28 hnt (Nat.le_of_ble_eq_true rfl) (Nat.le_of_ble_eq_true rfl) (by show _ + _ ≤ 50; omega) (by show _ + _ ≤ 2001; omega) hlk (by omega) (by omega) rfl
    · rw [if_neg c6] at h
      refine w_aload_n hx hb dX9_open_29 rfl (lv_at hl 0 rfl) ?_
      obtain ⟨a7, ea7, h⟩ := v_bnd h
      refine v_gA (ci := 10) hx hb hts iwX9 hown hK 1 ea7 rfl (by decide) (Or.inl (hts _ kw290)) (fun _ h9 => h9) dX9_open_30 ?_
      refine w_aload_n hx hb dX9_open_33 rfl (lv_at hl 0 rfl) ?_
      obtain ⟨a8, ea8, h⟩ := v_bnd h
      refine v_gA (ci := 10) hx hb hts iwX9 hown hK 3 ea8 rfl (by decide) (Or.inl (hts _ kw292)) (fun _ h9 => h9) dX9_open_34 ?_
      obtain ⟨g7, h⟩ := v_ifs h
      refine v_tight hb0 ?_
      obtain ⟨g8, h⟩ := v_ifs h
      obtain ⟨z9, ez9, h⟩ := v_bnd h
      refine v_call0 (M1 := z9.2) (mc := 50) (ms := 2001) (fun H locs hR hS => va_runV (As := [.ref a8]) (rest := []) ⟨hx, hb, hml, hown, hts⟩ (mX8_remember l hfl D a7 a8 z1.2 z9 ez9) (cwV 1 hts (gdV kw1063 kw1064 kw1065 kw29 kw1066) rfl rfl rfl (by decide +kernel) ⟨Nat.le_of_ble_eq_true rfl, Nat.le_of_ble_eq_true rfl⟩) (v_preV (ci := 9) hSS hR hS g8 (by decide) rfl [.ref a8]) rfl rfl hl.1 rfl (lv_room (Nat.le_of_ble_eq_true rfl)) dX9_open_37 ⟨by show _ + _ ≤ 50; omega, by show _ + _ ≤ 2001; omega⟩) ?_
      refine w_aload_n hx hb dX9_open_40 rfl (lv_at hl 0 rfl) ?_
      obtain ⟨a10, ea10, h⟩ := v_bnd h
      refine v_gA (ci := 10) hx hb hts iwX9 hown hK 3 ea10 rfl (by decide) (Or.inl (hts _ kw292)) (fun _ h9 => h9) dX9_open_41 ?_
      obtain ⟨a11, ea11, h⟩ := v_bnd h
      refine v_gA (ci := 7) hx hb hts iwX5 hown hK 1 ea11 rfl (by decide) (Or.inr ⟨_, kn37 hSS _⟩) (fun _ h9 => h9) dX9_open_44 ?_
      refine w_iload_n hx hb dX9_open_47 rfl (lv_at hl 3 rfl) ?_
      obtain ⟨a12, ea12, h⟩ := v_bnd h
      refine v_aaldA hx hb hK ea12 (by decide) dX9_open_48 ?_
      refine w_iload_n hx hb dX9_open_49 rfl (lv_at hl 1 rfl) ?_
      refine w_iload_n hx hb dX9_open_50 rfl (lv_at hl 2 rfl) ?_
      refine w_aload_n hx hb dX9_open_51 rfl (lv_at hl 0 rfl) ?_
      obtain ⟨a13, ea13, h⟩ := v_bnd h
      refine v_gA (ci := 10) hx hb hts iwX9 hown hK 3 ea13 rfl (by decide) (Or.inl (hts _ kw292)) (fun _ h9 => h9) dX9_open_52 ?_
      obtain ⟨v14, ev14, h⟩ := v_bnd h
      refine v_gI (ci := 7) hx hb hts iwX5 hown hK 7 ev14 rfl (by decide) (Or.inr ⟨_, kn46 hSS _⟩) (fun _ h9 => h9) dX9_open_55 ?_
      obtain ⟨g7, h⟩ := v_ifs h
      refine v_tight hb0 ?_
      obtain ⟨g8, h⟩ := v_ifs h
      obtain ⟨z15, ez15, h⟩ := v_bnd h
      refine v_call0 (M1 := z15.2) (mc := 0) (ms := 0) (fun H locs hR hS => va_runV (As := [.int x1, .int x2, .int v14]) (rest := []) ⟨hx, hb, hml, hown, hts⟩ (mX0_begin l hfl D a12 x1 x2 v14 z9.2 z15 ez15) (cwV 3 hts (gdV kw1167 kw1168 kw1169 kw34 kw1170) rfl rfl rfl (by decide +kernel) ⟨Nat.le_of_ble_eq_true rfl, Nat.le_of_ble_eq_true rfl⟩) (v_preV (ci := 2) hSS hR hS g8 (by decide) rfl [.int x1, .int x2, .int v14]) rfl rfl hl.1 rfl (lv_room (Nat.le_of_ble_eq_true rfl)) dX9_open_58 ⟨by show _ + _ ≤ 50; omega, by show _ + _ ≤ 2001; omega⟩) ?_
      refine w_iload_n hx hb dX9_open_61 rfl (lv_at hl 3 rfl) ?_
      obtain ⟨g9, h⟩ := v_ifs h
      refine v_tight hb0 (vV.widen (n' := 50) (k' := 2001) (by omega) (by omega) ?_)
      obtain rfl := Option.some.inj h
      rw [hQ]
      refine v_xok ?_
      exact v_iret hx hb hr hlk dX9_open_62
  · replace h := v_inr hz1 h
    obtain rfl := Option.some.inj h
    rw [hQ]
    exact v_callXth (mcz := 1) (msz := 6) (fun H locs hR hS => vx_runV (As := [.int x1]) (rest := []) ⟨hx, hb, hml, hown, hts⟩ (mX9_checkSet l hfl D x0 x1 M z1 ez1) (cwV 1 hts (gdV kw1043 kw1045 kw22 kw27 kw1046) rfl rfl rfl (by decide +kernel) ⟨Nat.le_of_ble_eq_true rfl, Nat.le_of_ble_eq_true rfl⟩) (v_preV (ci := 10) hSS hR hS g8 (by decide) rfl [.int x1]) rfl rfl hl.1 rfl (lv_room (Nat.le_of_ble_eq_true rfl)) dX9_open_2 ⟨by show _ + _ ≤ 50; omega, by show _ + _ ≤ 2001; omega⟩) (by rw [hz1]; rfl) (by rw [hz1]; rfl) hnt hlk (by omega) (by omega)

def tX9_close (G : Nat → Nat) (x0 : Nat) (x1 : Int32) (M : vMe) : Option ((Int32 ⊕ Nat) × vMe) :=
  if M.2.1 + 1 ≤ M.2.1 + 50 ∧ M.2.2.1 + 6 ≤ M.2.2.1 + 2001 then
  (if (M.1 x0).1 = 11 then
  ((tX9_cursorOf x0 x1 M).bind fun z1 =>
  Sum.elim (fun r2 =>
  (gA z1.2 x0 11 1).bind fun a4 =>
  (gA z1.2 x0 11 3).bind fun a5 =>
  if z1.2.2.1 + 50 ≤ M.2.1 + 50 ∧ z1.2.2.2.1 + 2001 ≤ M.2.2.1 + 2001 then
  (if (z1.2.1 a4).1 = 10 then
  ((tX8_remember G a4 a5 z1.2).bind fun z6 =>
  (sV z6.2 r2 3 0 (.int 0)).bind fun M7 =>
  (sV M7 r2 3 1 (.int 0)).bind fun M8 =>
  (gI M8 r2 3 6).bind fun v9 =>
  if M8.2.1 ≤ M.2.1 + 50 ∧ M8.2.2.1 ≤ M.2.2.1 + 2001 then some (Sum.inl v9, M8) else none)
else none)
else none) (fun j3 => some (Sum.inr j3, z1.2)) z1.1)
else none)
else none
def rmX9_close : Room := { frames := 7, cells := 50, slots := 2001, locals := 145 }
set_option maxHeartbeats 4000000 in
set_option maxRecDepth 100000 in
theorem mX9_close (l : Launch) (hfl : l.stackTraces = false) (D : vD) (x0 : Nat) (x1 : Int32) (M : vMe) (z : ((Int32 ⊕ Nat) × vMe)) (h : tX9_close D.2.2.2.2 x0 x1 M = some z) : vx_Met l yX9_close (Cond.code yX9_close cX9_close 3 (some .int) :: TB) rmX9_close (va_Pc [.ref x0, .int x1] (vPre D M)) (qX D (Sum.elim (fun r => some (some (.int r))) (fun _ => none) z.1) z.2) (xX D (Sum.elim (fun _ => none) some z.1) z.2) 50 2001 (vA D) := by
  refine v_ofX (cc := cX9_close) (maxL := 3) (ret := (some .int)) (by decide) (Nat.le_of_ble_eq_true rfl) ?_
  intro p e s m args below meth c Q hx hb hr hml hown hts hlk hnm hSS hR0 hQ hnt ls hl
  have hz0 := hR0.2.1
  have hs0 := hR0.2.2.1
  have hb0 : D.2.2.2.1 ≤ s.heap.size := hR0.2.2.2.2.1
  refine v_tight hb0 ?_
  have hK := hSS.1
  have hl : lv_has ls 3 [(0, .ref x0), (1, .int x1)] := hl
  unfold tX9_close at h
  refine w_aload_n hx hb dX9_close_0 rfl (lv_at hl 0 rfl) ?_
  refine w_iload_n hx hb dX9_close_1 rfl (lv_at hl 1 rfl) ?_
  obtain ⟨g7, h⟩ := v_ifs h
  refine v_tight hb0 ?_
  obtain ⟨g8, h⟩ := v_ifs h
  obtain ⟨z1, ez1, h⟩ := v_bnd h
  rcases hz1 : z1.1 with r2 | j3
  · replace h := v_inl hz1 h
    refine v_callXok (ov := some (.ref r2)) (mcz := 1) (msz := 6) (fun H locs hR hS => vx_runV (As := [.int x1]) (rest := []) ⟨hx, hb, hml, hown, hts⟩ (mX9_cursorOf l hfl D x0 x1 M z1 ez1) (cwV 1 hts (gdV kw1175 kw1177 kw23 kw27 kw1178) rfl rfl rfl (by decide +kernel) ⟨Nat.le_of_ble_eq_true rfl, Nat.le_of_ble_eq_true rfl⟩) (v_preV (ci := 10) hSS hR hS g8 (by decide) rfl [.int x1]) rfl rfl hl.1 rfl (lv_room (Nat.le_of_ble_eq_true rfl)) dX9_close_2 ⟨by show _ + _ ≤ 50; omega, by show _ + _ ≤ 2001; omega⟩) (by rw [hz1]; rfl) (by rw [hz1]; rfl) (st1 := [.ref r2]) rfl ?_
    refine w_astore_n (lv' := [(2, .ref r2), (0, .ref x0), (1, .int x1)]) hx hb dX9_close_5 rfl hl (by decide) rfl (fun ls hl => ?_)
    have hl : lv_has ls 3 [(0, .ref x0), (1, .int x1), (2, .ref r2)] := lv_sub hl [1, 2, 0] rfl
    refine w_aload_n hx hb dX9_close_6 rfl (lv_at hl 0 rfl) ?_
    obtain ⟨a4, ea4, h⟩ := v_bnd h
    refine v_gA (ci := 10) hx hb hts iwX9 hown hK 1 ea4 rfl (by decide) (Or.inl (hts _ kw290)) (fun _ h9 => h9) dX9_close_7 ?_
    refine w_aload_n hx hb dX9_close_10 rfl (lv_at hl 0 rfl) ?_
    obtain ⟨a5, ea5, h⟩ := v_bnd h
    refine v_gA (ci := 10) hx hb hts iwX9 hown hK 3 ea5 rfl (by decide) (Or.inl (hts _ kw292)) (fun _ h9 => h9) dX9_close_11 ?_
    obtain ⟨g7, h⟩ := v_ifs h
    refine v_tight hb0 ?_
    obtain ⟨g8, h⟩ := v_ifs h
    obtain ⟨z6, ez6, h⟩ := v_bnd h
    refine v_call0 (M1 := z6.2) (mc := 50) (ms := 2001) (fun H locs hR hS => va_runV (As := [.ref a5]) (rest := []) ⟨hx, hb, hml, hown, hts⟩ (mX8_remember l hfl D a4 a5 z1.2 z6 ez6) (cwV 1 hts (gdV kw1063 kw1064 kw1065 kw29 kw1066) rfl rfl rfl (by decide +kernel) ⟨Nat.le_of_ble_eq_true rfl, Nat.le_of_ble_eq_true rfl⟩) (v_preV (ci := 9) hSS hR hS g8 (by decide) rfl [.ref a5]) rfl rfl hl.1 rfl (lv_room (Nat.le_of_ble_eq_true rfl)) dX9_close_14 ⟨by show _ + _ ≤ 50; omega, by show _ + _ ≤ 2001; omega⟩) ?_
    refine w_aload_n hx hb dX9_close_17 rfl (lv_at hl 2 rfl) ?_
    refine w_iconst (v := 0) hx hb dX9_close_18 (by decide) ?_
    obtain ⟨M7, eM7, h⟩ := v_bnd h
    refine v_putf (ci := 2) hx hb hts iwX0 hown hK tyX0_ok nmX0 0 eM7 rfl (by decide) (Or.inr ⟨_, kn22 hSS _⟩) (fun _ h9 => h9) (Or.inl rfl) (by decide) (by decide) dX9_close_19 ?_
    refine w_aload_n hx hb dX9_close_22 rfl (lv_at hl 2 rfl) ?_
    refine w_iconst (v := 0) hx hb dX9_close_23 (by decide) ?_
    obtain ⟨M8, eM8, h⟩ := v_bnd h
    refine v_putf (ci := 2) hx hb hts iwX0 hown hK tyX0_ok nmX0 1 eM8 rfl (by decide) (Or.inr ⟨_, kn24 hSS _⟩) (fun _ h9 => h9) (Or.inl rfl) (by decide) (by decide) dX9_close_24 ?_
    refine w_aload_n hx hb dX9_close_27 rfl (lv_at hl 2 rfl) ?_
    obtain ⟨v9, ev9, h⟩ := v_bnd h
    refine v_gI (ci := 2) hx hb hts iwX0 hown hK 6 ev9 rfl (by decide) (Or.inr ⟨_, kn31 hSS _⟩) (fun _ h9 => h9) dX9_close_28 ?_
    obtain ⟨g9, h⟩ := v_ifs h
    refine v_tight hb0 (vV.widen (n' := 50) (k' := 2001) (by omega) (by omega) ?_)
    obtain rfl := Option.some.inj h
    rw [hQ]
    refine v_xok ?_
    exact v_iret hx hb hr hlk dX9_close_31
  · replace h := v_inr hz1 h
    obtain rfl := Option.some.inj h
    rw [hQ]
    exact v_callXth (mcz := 1) (msz := 6) (fun H locs hR hS => vx_runV (As := [.int x1]) (rest := []) ⟨hx, hb, hml, hown, hts⟩ (mX9_cursorOf l hfl D x0 x1 M z1 ez1) (cwV 1 hts (gdV kw1175 kw1177 kw23 kw27 kw1178) rfl rfl rfl (by decide +kernel) ⟨Nat.le_of_ble_eq_true rfl, Nat.le_of_ble_eq_true rfl⟩) (v_preV (ci := 10) hSS hR hS g8 (by decide) rfl [.int x1]) rfl rfl hl.1 rfl (lv_room (Nat.le_of_ble_eq_true rfl)) dX9_close_2 ⟨by show _ + _ ≤ 50; omega, by show _ + _ ≤ 2001; omega⟩) (by rw [hz1]; rfl) (by rw [hz1]; rfl) hnt hlk (by omega) (by omega)

def tX9_step (G : Nat → Nat) (x0 : Nat) (x1 : Int32) (M : vMe) : Option ((Int32 ⊕ Nat) × vMe) :=
  if M.2.1 + 1 ≤ M.2.1 + 50 ∧ M.2.2.1 + 6 ≤ M.2.2.1 + 2001 then
  (if (M.1 x0).1 = 11 then
  ((tX9_cursorOf x0 x1 M).bind fun z1 =>
  Sum.elim (fun r2 =>
  (gA z1.2 x0 11 1).bind fun a4 =>
  (gA z1.2 x0 11 3).bind fun a5 =>
  if z1.2.2.1 + 50 ≤ M.2.1 + 50 ∧ z1.2.2.2.1 + 2001 ≤ M.2.2.1 + 2001 then
  (if (z1.2.1 a4).1 = 10 then
  ((tX8_remember G a4 a5 z1.2).bind fun z6 =>
  (gI z6.2 r2 3 1).bind fun v7 =>
  if v7 = 0 then
  (if z6.2.2.1 ≤ M.2.1 + 50 ∧ z6.2.2.2.1 ≤ M.2.2.1 + 2001 then some (Sum.inl ((-1)), z6.2) else none)
else
  ((gA z6.2 x0 11 3).bind fun a9 =>
  if z6.2.2.1 + 0 ≤ M.2.1 + 50 ∧ z6.2.2.2.1 + 0 ≤ M.2.2.1 + 2001 then
  (if (z6.2.1 a9).1 = 8 then
  ((tX5_meetNext a9 r2 z6.2).bind fun z10 =>
  if z10.2.2.1 ≤ M.2.1 + 50 ∧ z10.2.2.2.1 ≤ M.2.2.1 + 2001 then some (Sum.inl z10.1, z10.2) else none)
else none)
else none))
else none)
else none) (fun j3 => some (Sum.inr j3, z1.2)) z1.1)
else none)
else none
def rmX9_step : Room := { frames := 7, cells := 50, slots := 2001, locals := 145 }
set_option maxHeartbeats 4000000 in
set_option maxRecDepth 100000 in
theorem mX9_step (l : Launch) (hfl : l.stackTraces = false) (D : vD) (x0 : Nat) (x1 : Int32) (M : vMe) (z : ((Int32 ⊕ Nat) × vMe)) (h : tX9_step D.2.2.2.2 x0 x1 M = some z) : vx_Met l yX9_step (Cond.code yX9_step cX9_step 3 (some .int) :: TB) rmX9_step (va_Pc [.ref x0, .int x1] (vPre D M)) (qX D (Sum.elim (fun r => some (some (.int r))) (fun _ => none) z.1) z.2) (xX D (Sum.elim (fun _ => none) some z.1) z.2) 50 2001 (vA D) := by
  refine v_ofX (cc := cX9_step) (maxL := 3) (ret := (some .int)) (by decide) (Nat.le_of_ble_eq_true rfl) ?_
  intro p e s m args below meth c Q hx hb hr hml hown hts hlk hnm hSS hR0 hQ hnt ls hl
  have hz0 := hR0.2.1
  have hs0 := hR0.2.2.1
  have hb0 : D.2.2.2.1 ≤ s.heap.size := hR0.2.2.2.2.1
  refine v_tight hb0 ?_
  have hK := hSS.1
  have hl : lv_has ls 3 [(0, .ref x0), (1, .int x1)] := hl
  unfold tX9_step at h
  refine w_aload_n hx hb dX9_step_0 rfl (lv_at hl 0 rfl) ?_
  refine w_iload_n hx hb dX9_step_1 rfl (lv_at hl 1 rfl) ?_
  obtain ⟨g7, h⟩ := v_ifs h
  refine v_tight hb0 ?_
  obtain ⟨g8, h⟩ := v_ifs h
  obtain ⟨z1, ez1, h⟩ := v_bnd h
  rcases hz1 : z1.1 with r2 | j3
  · replace h := v_inl hz1 h
    refine v_callXok (ov := some (.ref r2)) (mcz := 1) (msz := 6) (fun H locs hR hS => vx_runV (As := [.int x1]) (rest := []) ⟨hx, hb, hml, hown, hts⟩ (mX9_cursorOf l hfl D x0 x1 M z1 ez1) (cwV 1 hts (gdV kw1175 kw1177 kw23 kw27 kw1178) rfl rfl rfl (by decide +kernel) ⟨Nat.le_of_ble_eq_true rfl, Nat.le_of_ble_eq_true rfl⟩) (v_preV (ci := 10) hSS hR hS g8 (by decide) rfl [.int x1]) rfl rfl hl.1 rfl (lv_room (Nat.le_of_ble_eq_true rfl)) dX9_step_2 ⟨by show _ + _ ≤ 50; omega, by show _ + _ ≤ 2001; omega⟩) (by rw [hz1]; rfl) (by rw [hz1]; rfl) (st1 := [.ref r2]) rfl ?_
    refine w_astore_n (lv' := [(2, .ref r2), (0, .ref x0), (1, .int x1)]) hx hb dX9_step_5 rfl hl (by decide) rfl (fun ls hl => ?_)
    have hl : lv_has ls 3 [(0, .ref x0), (1, .int x1), (2, .ref r2)] := lv_sub hl [1, 2, 0] rfl
    refine w_aload_n hx hb dX9_step_6 rfl (lv_at hl 0 rfl) ?_
    obtain ⟨a4, ea4, h⟩ := v_bnd h
    refine v_gA (ci := 10) hx hb hts iwX9 hown hK 1 ea4 rfl (by decide) (Or.inl (hts _ kw290)) (fun _ h9 => h9) dX9_step_7 ?_
    refine w_aload_n hx hb dX9_step_10 rfl (lv_at hl 0 rfl) ?_
    obtain ⟨a5, ea5, h⟩ := v_bnd h
    refine v_gA (ci := 10) hx hb hts iwX9 hown hK 3 ea5 rfl (by decide) (Or.inl (hts _ kw292)) (fun _ h9 => h9) dX9_step_11 ?_
    obtain ⟨g7, h⟩ := v_ifs h
    refine v_tight hb0 ?_
    obtain ⟨g8, h⟩ := v_ifs h
    obtain ⟨z6, ez6, h⟩ := v_bnd h
    refine v_call0 (M1 := z6.2) (mc := 50) (ms := 2001) (fun H locs hR hS => va_runV (As := [.ref a5]) (rest := []) ⟨hx, hb, hml, hown, hts⟩ (mX8_remember l hfl D a4 a5 z1.2 z6 ez6) (cwV 1 hts (gdV kw1063 kw1064 kw1065 kw29 kw1066) rfl rfl rfl (by decide +kernel) ⟨Nat.le_of_ble_eq_true rfl, Nat.le_of_ble_eq_true rfl⟩) (v_preV (ci := 9) hSS hR hS g8 (by decide) rfl [.ref a5]) rfl rfl hl.1 rfl (lv_room (Nat.le_of_ble_eq_true rfl)) dX9_step_14 ⟨by show _ + _ ≤ 50; omega, by show _ + _ ≤ 2001; omega⟩) ?_
    refine w_aload_n hx hb dX9_step_17 rfl (lv_at hl 2 rfl) ?_
    obtain ⟨v7, ev7, h⟩ := v_bnd h
    refine v_gI (ci := 2) hx hb hts iwX0 hown hK 1 ev7 rfl (by decide) (Or.inr ⟨_, kn24 hSS _⟩) (fun _ h9 => h9) dX9_step_18 ?_
    refine w_if_eq (tgt := 35) hx hb dX9_step_21 (by decide) (fun c8 => ?_) (fun c8 => ?_)
    · rw [if_pos c8] at h
      refine w_iconst (v := (-1)) hx hb dX9_step_35 (by decide) ?_
      obtain ⟨g9, h⟩ := v_ifs h
      refine v_tight hb0 (vV.widen (n' := 50) (k' := 2001) (by omega) (by omega) ?_)
      obtain rfl := Option.some.inj h
      rw [hQ]
      refine v_xok ?_
      exact v_iret hx hb hr hlk dX9_step_36
    · rw [if_neg c8] at h
      refine w_aload_n hx hb dX9_step_24 rfl (lv_at hl 0 rfl) ?_
      obtain ⟨a9, ea9, h⟩ := v_bnd h
      refine v_gA (ci := 10) hx hb hts iwX9 hown hK 3 ea9 rfl (by decide) (Or.inl (hts _ kw292)) (fun _ h9 => h9) dX9_step_25 ?_
      refine w_aload_n hx hb dX9_step_28 rfl (lv_at hl 2 rfl) ?_
      obtain ⟨g7, h⟩ := v_ifs h
      refine v_tight hb0 ?_
      obtain ⟨g8, h⟩ := v_ifs h
      obtain ⟨z10, ez10, h⟩ := v_bnd h
      refine v_call1 (v := .int z10.1) (M1 := z10.2) (mc := 0) (ms := 0) (fun H locs hR hS => va_runV (As := [.ref r2]) (rest := []) ⟨hx, hb, hml, hown, hts⟩ (mX5_meetNext l hfl D a9 r2 z6.2 z10 ez10) (cwV 1 hts (gdV kw1184 kw1185 kw1186 kw31 kw1187) rfl rfl rfl (by decide +kernel) ⟨Nat.le_of_ble_eq_true rfl, Nat.le_of_ble_eq_true rfl⟩) (v_preV (ci := 7) hSS hR hS g8 (by decide) rfl [.ref r2]) rfl rfl hl.1 rfl (lv_room (Nat.le_of_ble_eq_true rfl)) dX9_step_29 ⟨by show _ + _ ≤ 50; omega, by show _ + _ ≤ 2001; omega⟩) ?_
      refine w_goto (tgt := 36) hx hb dX9_step_32 (by decide) ?_
      obtain ⟨g9, h⟩ := v_ifs h
      refine v_tight hb0 (vV.widen (n' := 50) (k' := 2001) (by omega) (by omega) ?_)
      obtain rfl := Option.some.inj h
      rw [hQ]
      refine v_xok ?_
      exact v_iret hx hb hr hlk dX9_step_36
  · replace h := v_inr hz1 h
    obtain rfl := Option.some.inj h
    rw [hQ]
    exact v_callXth (mcz := 1) (msz := 6) (fun H locs hR hS => vx_runV (As := [.int x1]) (rest := []) ⟨hx, hb, hml, hown, hts⟩ (mX9_cursorOf l hfl D x0 x1 M z1 ez1) (cwV 1 hts (gdV kw1175 kw1177 kw23 kw27 kw1178) rfl rfl rfl (by decide +kernel) ⟨Nat.le_of_ble_eq_true rfl, Nat.le_of_ble_eq_true rfl⟩) (v_preV (ci := 10) hSS hR hS g8 (by decide) rfl [.int x1]) rfl rfl hl.1 rfl (lv_room (Nat.le_of_ble_eq_true rfl)) dX9_step_2 ⟨by show _ + _ ≤ 50; omega, by show _ + _ ≤ 2001; omega⟩) (by rw [hz1]; rfl) (by rw [hz1]; rfl) hnt hlk (by omega) (by omega)

def tX9_removeMet_J37 (n0 s0 : Nat)  (Mj : vMe) : Option ((Int32 ⊕ Nat) × vMe) :=
  if Mj.2.1 + 1 ≤ n0 + 50 ∧ Mj.2.2.1 + 6 ≤ s0 + 2001 then some (Sum.inr 2, Mj) else none
def tX9_removeMet (G : Nat → Nat) (x0 : Nat) (x1 : Int32) (M : vMe) : Option ((Int32 ⊕ Nat) × vMe) :=
  if M.2.1 + 1 ≤ M.2.1 + 50 ∧ M.2.2.1 + 6 ≤ M.2.2.1 + 2001 then
  (if (M.1 x0).1 = 11 then
  ((tX9_cursorOf x0 x1 M).bind fun z1 =>
  Sum.elim (fun r2 =>
  (gI z1.2 r2 3 7).bind fun v4 =>
  (gI z1.2 r2 3 1).bind fun v5 =>
  if v5 = 0 then
  (tX9_removeMet_J37 M.2.1 M.2.2.1  z1.2)
else
  ((gA z1.2 x0 11 3).bind fun a7 =>
  (gA z1.2 a7 8 0).bind fun a8 =>
  (gI z1.2 r2 3 3).bind fun v9 =>
  (aA z1.2 a8 107 v9).bind fun a10 =>
  if z1.2.2.1 + 0 ≤ M.2.1 + 50 ∧ z1.2.2.2.1 + 0 ≤ M.2.2.1 + 2001 then
  (if (z1.2.1 a10).1 = 9 then
  ((tX7_has a10 v4 z1.2).bind fun z11 =>
  if z11 = 0 then
  (tX9_removeMet_J37 M.2.1 M.2.2.1  z1.2)
else
  ((gA z1.2 x0 11 1).bind fun a13 =>
  (gA z1.2 x0 11 3).bind fun a14 =>
  if z1.2.2.1 + 50 ≤ M.2.1 + 50 ∧ z1.2.2.2.1 + 2001 ≤ M.2.2.1 + 2001 then
  (if (z1.2.1 a13).1 = 10 then
  ((tX8_remember G a13 a14 z1.2).bind fun z15 =>
  (gA z15.2 x0 11 3).bind fun a16 =>
  (gI z15.2 r2 3 3).bind fun v17 =>
  if z15.2.2.1 + 0 ≤ M.2.1 + 50 ∧ z15.2.2.2.1 + 0 ≤ M.2.2.1 + 2001 then
  (if (z15.2.1 a16).1 = 8 then
  ((tX5_takeOut a16 v17 v4 z15.2).bind fun z18 =>
  if z18.2.2.1 ≤ M.2.1 + 50 ∧ z18.2.2.2.1 ≤ M.2.2.1 + 2001 then some (Sum.inl v4, z18.2) else none)
else none)
else none)
else none)
else none))
else none)
else none)) (fun j3 => some (Sum.inr j3, z1.2)) z1.1)
else none)
else none
def rmX9_removeMet : Room := { frames := 7, cells := 50, slots := 2001, locals := 145 }
set_option maxHeartbeats 4000000 in
set_option maxRecDepth 100000 in
theorem mX9_removeMet (l : Launch) (hfl : l.stackTraces = false) (D : vD) (x0 : Nat) (x1 : Int32) (M : vMe) (z : ((Int32 ⊕ Nat) × vMe)) (h : tX9_removeMet D.2.2.2.2 x0 x1 M = some z) : vx_Met l yX9_removeMet (Cond.code yX9_removeMet cX9_removeMet 4 (some .int) :: TB) rmX9_removeMet (va_Pc [.ref x0, .int x1] (vPre D M)) (qX D (Sum.elim (fun r => some (some (.int r))) (fun _ => none) z.1) z.2) (xX D (Sum.elim (fun _ => none) some z.1) z.2) 50 2001 (vA D) := by
  refine v_ofX (cc := cX9_removeMet) (maxL := 4) (ret := (some .int)) (by decide) (Nat.le_of_ble_eq_true rfl) ?_
  intro p e s m args below meth c Q hx hb hr hml hown hts hlk hnm hSS hR0 hQ hnt ls hl
  have hz0 := hR0.2.1
  have hs0 := hR0.2.2.1
  have hb0 : D.2.2.2.1 ≤ s.heap.size := hR0.2.2.2.2.1
  refine v_tight hb0 ?_
  have hK := hSS.1
  have hl : lv_has ls 4 [(0, .ref x0), (1, .int x1)] := hl
  unfold tX9_removeMet at h
  have X9_removeMet_J37p : ∀  (Mj : vMe) (ls : Array Slot), lv_has ls 4 [] → tX9_removeMet_J37 M.2.1 M.2.2.1  Mj = some z → vV D p l e rmX9_removeMet s m args below meth c (Mj.2.1 - s.heap.size) (Mj.2.2.1 - vSum D.2.2.2.1 s.heap) Q Mj (F0 m 37 ls []) := by
    intro  Mj ls hl h
    unfold tX9_removeMet_J37 at h
    obtain ⟨g5, h⟩ := v_ifs h
    obtain rfl := Option.some.inj h
    rw [hQ]
    refine v_tight hb0 ?_
    exact v_thW hx hb hfl hown (by decide +kernel) hts kw1096 kw57 (hSS.2.2.1 5 _ rfl) xat2 xbt2 (by decide) xot2 hSS (hl.1.trans hml.symm) dX9_removeMet_37 dX9_removeMet_40 dX9_removeMet_41 dX9_removeMet_44 dX9_removeMet_47 hnt (Nat.le_of_ble_eq_true rfl) (Nat.le_of_ble_eq_true rfl) (by show _ + _ ≤ 50; omega) (by show _ + _ ≤ 2001; omega) hlk (by omega) (by omega) rfl
  refine w_aload_n hx hb dX9_removeMet_0 rfl (lv_at hl 0 rfl) ?_
  refine w_iload_n hx hb dX9_removeMet_1 rfl (lv_at hl 1 rfl) ?_
  obtain ⟨g7, h⟩ := v_ifs h
  refine v_tight hb0 ?_
  obtain ⟨g8, h⟩ := v_ifs h
  obtain ⟨z1, ez1, h⟩ := v_bnd h
  rcases hz1 : z1.1 with r2 | j3
  · replace h := v_inl hz1 h
    refine v_callXok (ov := some (.ref r2)) (mcz := 1) (msz := 6) (fun H locs hR hS => vx_runV (As := [.int x1]) (rest := []) ⟨hx, hb, hml, hown, hts⟩ (mX9_cursorOf l hfl D x0 x1 M z1 ez1) (cwV 1 hts (gdV kw1175 kw1177 kw23 kw27 kw1178) rfl rfl rfl (by decide +kernel) ⟨Nat.le_of_ble_eq_true rfl, Nat.le_of_ble_eq_true rfl⟩) (v_preV (ci := 10) hSS hR hS g8 (by decide) rfl [.int x1]) rfl rfl hl.1 rfl (lv_room (Nat.le_of_ble_eq_true rfl)) dX9_removeMet_2 ⟨by show _ + _ ≤ 50; omega, by show _ + _ ≤ 2001; omega⟩) (by rw [hz1]; rfl) (by rw [hz1]; rfl) (st1 := [.ref r2]) rfl ?_
    refine w_astore_n (lv' := [(2, .ref r2), (0, .ref x0), (1, .int x1)]) hx hb dX9_removeMet_5 rfl hl (by decide) rfl (fun ls hl => ?_)
    have hl : lv_has ls 4 [(0, .ref x0), (1, .int x1), (2, .ref r2)] := lv_sub hl [1, 2, 0] rfl
    refine w_aload_n hx hb dX9_removeMet_6 rfl (lv_at hl 2 rfl) ?_
    obtain ⟨v4, ev4, h⟩ := v_bnd h
    refine v_gI (ci := 2) hx hb hts iwX0 hown hK 7 ev4 rfl (by decide) (Or.inr ⟨_, kn33 hSS _⟩) (fun _ h9 => h9) dX9_removeMet_7 ?_
    refine w_istore_n (lv' := [(3, .int v4), (0, .ref x0), (1, .int x1), (2, .ref r2)]) hx hb dX9_removeMet_10 rfl hl (by decide) rfl (fun ls hl => ?_)
    have hl : lv_has ls 4 [(0, .ref x0), (1, .int x1), (2, .ref r2), (3, .int v4)] := lv_sub hl [1, 2, 3, 0] rfl
    refine w_aload_n hx hb dX9_removeMet_11 rfl (lv_at hl 2 rfl) ?_
    obtain ⟨v5, ev5, h⟩ := v_bnd h
    refine v_gI (ci := 2) hx hb hts iwX0 hown hK 1 ev5 rfl (by decide) (Or.inr ⟨_, kn24 hSS _⟩) (fun _ h9 => h9) dX9_removeMet_12 ?_
    refine w_if_eq (tgt := 37) hx hb dX9_removeMet_15 (by decide) (fun c6 => ?_) (fun c6 => ?_)
    · rw [if_pos c6] at h
      refine v_tight hb0 ?_
      exact X9_removeMet_J37p  z1.2 ls (lv_sub hl [] rfl) h
    · rw [if_neg c6] at h
      refine w_aload_n hx hb dX9_removeMet_18 rfl (lv_at hl 0 rfl) ?_
      obtain ⟨a7, ea7, h⟩ := v_bnd h
      refine v_gA (ci := 10) hx hb hts iwX9 hown hK 3 ea7 rfl (by decide) (Or.inl (hts _ kw292)) (fun _ h9 => h9) dX9_removeMet_19 ?_
      obtain ⟨a8, ea8, h⟩ := v_bnd h
      refine v_gA (ci := 7) hx hb hts iwX5 hown hK 0 ea8 rfl (by decide) (Or.inr ⟨_, kn36 hSS _⟩) (fun _ h9 => h9) dX9_removeMet_22 ?_
      refine w_aload_n hx hb dX9_removeMet_25 rfl (lv_at hl 2 rfl) ?_
      obtain ⟨v9, ev9, h⟩ := v_bnd h
      refine v_gI (ci := 2) hx hb hts iwX0 hown hK 3 ev9 rfl (by decide) (Or.inr ⟨_, kn26 hSS _⟩) (fun _ h9 => h9) dX9_removeMet_26 ?_
      obtain ⟨a10, ea10, h⟩ := v_bnd h
      refine v_aaldA hx hb hK ea10 (by decide) dX9_removeMet_29 ?_
      refine w_iload_n hx hb dX9_removeMet_30 rfl (lv_at hl 3 rfl) ?_
      obtain ⟨g7, h⟩ := v_ifs h
      refine v_tight hb0 ?_
      obtain ⟨g8, h⟩ := v_ifs h
      obtain ⟨z11, ez11, h⟩ := v_bnd h
      refine v_call1 (v := .int z11) (M1 := z1.2) (mc := 0) (ms := 0) (fun H locs hR hS => va_runV (As := [.int v4]) (rest := []) ⟨hx, hb, hml, hown, hts⟩ (mX7_has l hfl D a10 v4 z1.2 z11 ez11) (cwV 1 hts (gdV kw1209 kw963 kw964 kw32 kw965) rfl rfl rfl (by decide +kernel) ⟨Nat.le_of_ble_eq_true rfl, Nat.le_of_ble_eq_true rfl⟩) (v_preV (ci := 8) hSS hR hS g8 (by decide) rfl [.int v4]) rfl rfl hl.1 rfl (lv_room (Nat.le_of_ble_eq_true rfl)) dX9_removeMet_31 ⟨by show _ + _ ≤ 50; omega, by show _ + _ ≤ 2001; omega⟩) ?_
      refine w_if_ne (tgt := 48) hx hb dX9_removeMet_34 (by decide) (fun c12 => ?_) (fun c12 => ?_)
      · rw [if_pos c12] at h
        refine v_tight hb0 ?_
        exact X9_removeMet_J37p  z1.2 ls (lv_sub hl [] rfl) h
      · rw [if_neg c12] at h
        refine w_aload_n hx hb dX9_removeMet_48 rfl (lv_at hl 0 rfl) ?_
        obtain ⟨a13, ea13, h⟩ := v_bnd h
        refine v_gA (ci := 10) hx hb hts iwX9 hown hK 1 ea13 rfl (by decide) (Or.inl (hts _ kw290)) (fun _ h9 => h9) dX9_removeMet_49 ?_
        refine w_aload_n hx hb dX9_removeMet_52 rfl (lv_at hl 0 rfl) ?_
        obtain ⟨a14, ea14, h⟩ := v_bnd h
        refine v_gA (ci := 10) hx hb hts iwX9 hown hK 3 ea14 rfl (by decide) (Or.inl (hts _ kw292)) (fun _ h9 => h9) dX9_removeMet_53 ?_
        obtain ⟨g7, h⟩ := v_ifs h
        refine v_tight hb0 ?_
        obtain ⟨g8, h⟩ := v_ifs h
        obtain ⟨z15, ez15, h⟩ := v_bnd h
        refine v_call0 (M1 := z15.2) (mc := 50) (ms := 2001) (fun H locs hR hS => va_runV (As := [.ref a14]) (rest := []) ⟨hx, hb, hml, hown, hts⟩ (mX8_remember l hfl D a13 a14 z1.2 z15 ez15) (cwV 1 hts (gdV kw1063 kw1064 kw1065 kw29 kw1066) rfl rfl rfl (by decide +kernel) ⟨Nat.le_of_ble_eq_true rfl, Nat.le_of_ble_eq_true rfl⟩) (v_preV (ci := 9) hSS hR hS g8 (by decide) rfl [.ref a14]) rfl rfl hl.1 rfl (lv_room (Nat.le_of_ble_eq_true rfl)) dX9_removeMet_56 ⟨by show _ + _ ≤ 50; omega, by show _ + _ ≤ 2001; omega⟩) ?_
        refine w_aload_n hx hb dX9_removeMet_59 rfl (lv_at hl 0 rfl) ?_
        obtain ⟨a16, ea16, h⟩ := v_bnd h
        refine v_gA (ci := 10) hx hb hts iwX9 hown hK 3 ea16 rfl (by decide) (Or.inl (hts _ kw292)) (fun _ h9 => h9) dX9_removeMet_60 ?_
        refine w_aload_n hx hb dX9_removeMet_63 rfl (lv_at hl 2 rfl) ?_
        obtain ⟨v17, ev17, h⟩ := v_bnd h
        refine v_gI (ci := 2) hx hb hts iwX0 hown hK 3 ev17 rfl (by decide) (Or.inr ⟨_, kn26 hSS _⟩) (fun _ h9 => h9) dX9_removeMet_64 ?_
        refine w_iload_n hx hb dX9_removeMet_67 rfl (lv_at hl 3 rfl) ?_
        obtain ⟨g7, h⟩ := v_ifs h
        refine v_tight hb0 ?_
        obtain ⟨g8, h⟩ := v_ifs h
        obtain ⟨z18, ez18, h⟩ := v_bnd h
        refine v_call1 (v := .int z18.1) (M1 := z18.2) (mc := 0) (ms := 0) (fun H locs hR hS => va_runV (As := [.int v17, .int v4]) (rest := []) ⟨hx, hb, hml, hown, hts⟩ (mX5_takeOut l hfl D a16 v17 v4 z15.2 z18 ez18) (cwV 2 hts (gdV kw1211 kw985 kw986 kw31 kw987) rfl rfl rfl (by decide +kernel) ⟨Nat.le_of_ble_eq_true rfl, Nat.le_of_ble_eq_true rfl⟩) (v_preV (ci := 7) hSS hR hS g8 (by decide) rfl [.int v17, .int v4]) rfl rfl hl.1 rfl (lv_room (Nat.le_of_ble_eq_true rfl)) dX9_removeMet_68 ⟨by show _ + _ ≤ 50; omega, by show _ + _ ≤ 2001; omega⟩) ?_
        refine w_pop hx hb dX9_removeMet_71 rfl ?_
        refine w_iload_n hx hb dX9_removeMet_72 rfl (lv_at hl 3 rfl) ?_
        obtain ⟨g9, h⟩ := v_ifs h
        refine v_tight hb0 (vV.widen (n' := 50) (k' := 2001) (by omega) (by omega) ?_)
        obtain rfl := Option.some.inj h
        rw [hQ]
        refine v_xok ?_
        exact v_iret hx hb hr hlk dX9_removeMet_73
  · replace h := v_inr hz1 h
    obtain rfl := Option.some.inj h
    rw [hQ]
    exact v_callXth (mcz := 1) (msz := 6) (fun H locs hR hS => vx_runV (As := [.int x1]) (rest := []) ⟨hx, hb, hml, hown, hts⟩ (mX9_cursorOf l hfl D x0 x1 M z1 ez1) (cwV 1 hts (gdV kw1175 kw1177 kw23 kw27 kw1178) rfl rfl rfl (by decide +kernel) ⟨Nat.le_of_ble_eq_true rfl, Nat.le_of_ble_eq_true rfl⟩) (v_preV (ci := 10) hSS hR hS g8 (by decide) rfl [.int x1]) rfl rfl hl.1 rfl (lv_room (Nat.le_of_ble_eq_true rfl)) dX9_removeMet_2 ⟨by show _ + _ ≤ 50; omega, by show _ + _ ≤ 2001; omega⟩) (by rw [hz1]; rfl) (by rw [hz1]; rfl) hnt hlk (by omega) (by omega)

def tX9_keep (G : Nat → Nat) (x0 : Nat) (x1 : Int32) (x2 : Int32) (M : vMe) : Option ((Int32 ⊕ Nat) × vMe) :=
  if M.2.1 + 1 ≤ M.2.1 + 50 ∧ M.2.2.1 + 6 ≤ M.2.2.1 + 2001 then
  (if (M.1 x0).1 = 11 then
  ((tX9_checkSet x0 x1 M).bind fun z1 =>
  Sum.elim (fun r2 =>
  if z1.2.2.1 + 1 ≤ M.2.1 + 50 ∧ z1.2.2.2.1 + 6 ≤ M.2.2.1 + 2001 then
  (if (z1.2.1 x0).1 = 11 then
  ((tX9_checkSet x0 x2 z1.2).bind fun z4 =>
  Sum.elim (fun r5 =>
  (gA z4.2 x0 11 1).bind fun a7 =>
  (gA z4.2 x0 11 3).bind fun a8 =>
  if z4.2.2.1 + 50 ≤ M.2.1 + 50 ∧ z4.2.2.2.1 + 2001 ≤ M.2.2.1 + 2001 then
  (if (z4.2.1 a7).1 = 10 then
  ((tX8_remember G a7 a8 z4.2).bind fun z9 =>
  (gA z9.2 x0 11 3).bind fun a10 =>
  if z9.2.2.1 + 0 ≤ M.2.1 + 50 ∧ z9.2.2.2.1 + 0 ≤ M.2.2.1 + 2001 then
  (if (z9.2.1 a10).1 = 8 then
  ((tX5_keepCommon a10 x1 x2 z9.2).bind fun z11 =>
  if z11.2.2.1 ≤ M.2.1 + 50 ∧ z11.2.2.2.1 ≤ M.2.2.1 + 2001 then some (Sum.inl z11.1, z11.2) else none)
else none)
else none)
else none)
else none) (fun j6 => some (Sum.inr j6, z4.2)) z4.1)
else none)
else none) (fun j3 => some (Sum.inr j3, z1.2)) z1.1)
else none)
else none
def rmX9_keep : Room := { frames := 7, cells := 50, slots := 2001, locals := 145 }
set_option maxHeartbeats 4000000 in
set_option maxRecDepth 100000 in
theorem mX9_keep (l : Launch) (hfl : l.stackTraces = false) (D : vD) (x0 : Nat) (x1 : Int32) (x2 : Int32) (M : vMe) (z : ((Int32 ⊕ Nat) × vMe)) (h : tX9_keep D.2.2.2.2 x0 x1 x2 M = some z) : vx_Met l yX9_keep (Cond.code yX9_keep cX9_keep 3 (some .int) :: TB) rmX9_keep (va_Pc [.ref x0, .int x1, .int x2] (vPre D M)) (qX D (Sum.elim (fun r => some (some (.int r))) (fun _ => none) z.1) z.2) (xX D (Sum.elim (fun _ => none) some z.1) z.2) 50 2001 (vA D) := by
  refine v_ofX (cc := cX9_keep) (maxL := 3) (ret := (some .int)) (by decide) (Nat.le_of_ble_eq_true rfl) ?_
  intro p e s m args below meth c Q hx hb hr hml hown hts hlk hnm hSS hR0 hQ hnt ls hl
  have hz0 := hR0.2.1
  have hs0 := hR0.2.2.1
  have hb0 : D.2.2.2.1 ≤ s.heap.size := hR0.2.2.2.2.1
  refine v_tight hb0 ?_
  have hK := hSS.1
  have hl : lv_has ls 3 [(0, .ref x0), (1, .int x1), (2, .int x2)] := hl
  unfold tX9_keep at h
  refine w_aload_n hx hb dX9_keep_0 rfl (lv_at hl 0 rfl) ?_
  refine w_iload_n hx hb dX9_keep_1 rfl (lv_at hl 1 rfl) ?_
  obtain ⟨g7, h⟩ := v_ifs h
  refine v_tight hb0 ?_
  obtain ⟨g8, h⟩ := v_ifs h
  obtain ⟨z1, ez1, h⟩ := v_bnd h
  rcases hz1 : z1.1 with r2 | j3
  · replace h := v_inl hz1 h
    refine v_callXok (ov := none) (mcz := 1) (msz := 6) (fun H locs hR hS => vx_runV (As := [.int x1]) (rest := []) ⟨hx, hb, hml, hown, hts⟩ (mX9_checkSet l hfl D x0 x1 M z1 ez1) (cwV 1 hts (gdV kw1043 kw1045 kw22 kw27 kw1046) rfl rfl rfl (by decide +kernel) ⟨Nat.le_of_ble_eq_true rfl, Nat.le_of_ble_eq_true rfl⟩) (v_preV (ci := 10) hSS hR hS g8 (by decide) rfl [.int x1]) rfl rfl hl.1 rfl (lv_room (Nat.le_of_ble_eq_true rfl)) dX9_keep_2 ⟨by show _ + _ ≤ 50; omega, by show _ + _ ≤ 2001; omega⟩) (by rw [hz1]; rfl) (by rw [hz1]; rfl) (st1 := []) rfl ?_
    refine w_aload_n hx hb dX9_keep_5 rfl (lv_at hl 0 rfl) ?_
    refine w_iload_n hx hb dX9_keep_6 rfl (lv_at hl 2 rfl) ?_
    obtain ⟨g7, h⟩ := v_ifs h
    refine v_tight hb0 ?_
    obtain ⟨g8, h⟩ := v_ifs h
    obtain ⟨z4, ez4, h⟩ := v_bnd h
    rcases hz4 : z4.1 with r5 | j6
    · replace h := v_inl hz4 h
      refine v_callXok (ov := none) (mcz := 1) (msz := 6) (fun H locs hR hS => vx_runV (As := [.int x2]) (rest := []) ⟨hx, hb, hml, hown, hts⟩ (mX9_checkSet l hfl D x0 x2 z1.2 z4 ez4) (cwV 1 hts (gdV kw1043 kw1045 kw22 kw27 kw1046) rfl rfl rfl (by decide +kernel) ⟨Nat.le_of_ble_eq_true rfl, Nat.le_of_ble_eq_true rfl⟩) (v_preV (ci := 10) hSS hR hS g8 (by decide) rfl [.int x2]) rfl rfl hl.1 rfl (lv_room (Nat.le_of_ble_eq_true rfl)) dX9_keep_7 ⟨by show _ + _ ≤ 50; omega, by show _ + _ ≤ 2001; omega⟩) (by rw [hz4]; rfl) (by rw [hz4]; rfl) (st1 := []) rfl ?_
      refine w_aload_n hx hb dX9_keep_10 rfl (lv_at hl 0 rfl) ?_
      obtain ⟨a7, ea7, h⟩ := v_bnd h
      refine v_gA (ci := 10) hx hb hts iwX9 hown hK 1 ea7 rfl (by decide) (Or.inl (hts _ kw290)) (fun _ h9 => h9) dX9_keep_11 ?_
      refine w_aload_n hx hb dX9_keep_14 rfl (lv_at hl 0 rfl) ?_
      obtain ⟨a8, ea8, h⟩ := v_bnd h
      refine v_gA (ci := 10) hx hb hts iwX9 hown hK 3 ea8 rfl (by decide) (Or.inl (hts _ kw292)) (fun _ h9 => h9) dX9_keep_15 ?_
      obtain ⟨g7, h⟩ := v_ifs h
      refine v_tight hb0 ?_
      obtain ⟨g8, h⟩ := v_ifs h
      obtain ⟨z9, ez9, h⟩ := v_bnd h
      refine v_call0 (M1 := z9.2) (mc := 50) (ms := 2001) (fun H locs hR hS => va_runV (As := [.ref a8]) (rest := []) ⟨hx, hb, hml, hown, hts⟩ (mX8_remember l hfl D a7 a8 z4.2 z9 ez9) (cwV 1 hts (gdV kw1063 kw1064 kw1065 kw29 kw1066) rfl rfl rfl (by decide +kernel) ⟨Nat.le_of_ble_eq_true rfl, Nat.le_of_ble_eq_true rfl⟩) (v_preV (ci := 9) hSS hR hS g8 (by decide) rfl [.ref a8]) rfl rfl hl.1 rfl (lv_room (Nat.le_of_ble_eq_true rfl)) dX9_keep_18 ⟨by show _ + _ ≤ 50; omega, by show _ + _ ≤ 2001; omega⟩) ?_
      refine w_aload_n hx hb dX9_keep_21 rfl (lv_at hl 0 rfl) ?_
      obtain ⟨a10, ea10, h⟩ := v_bnd h
      refine v_gA (ci := 10) hx hb hts iwX9 hown hK 3 ea10 rfl (by decide) (Or.inl (hts _ kw292)) (fun _ h9 => h9) dX9_keep_22 ?_
      refine w_iload_n hx hb dX9_keep_25 rfl (lv_at hl 1 rfl) ?_
      refine w_iload_n hx hb dX9_keep_26 rfl (lv_at hl 2 rfl) ?_
      obtain ⟨g7, h⟩ := v_ifs h
      refine v_tight hb0 ?_
      obtain ⟨g8, h⟩ := v_ifs h
      obtain ⟨z11, ez11, h⟩ := v_bnd h
      refine v_call1 (v := .int z11.1) (M1 := z11.2) (mc := 0) (ms := 0) (fun H locs hR hS => va_runV (As := [.int x1, .int x2]) (rest := []) ⟨hx, hb, hml, hown, hts⟩ (mX5_keepCommon l hfl D a10 x1 x2 z9.2 z11 ez11) (cwV 2 hts (gdV kw1229 kw1230 kw1231 kw31 kw1232) rfl rfl rfl (by decide +kernel) ⟨Nat.le_of_ble_eq_true rfl, Nat.le_of_ble_eq_true rfl⟩) (v_preV (ci := 7) hSS hR hS g8 (by decide) rfl [.int x1, .int x2]) rfl rfl hl.1 rfl (lv_room (Nat.le_of_ble_eq_true rfl)) dX9_keep_27 ⟨by show _ + _ ≤ 50; omega, by show _ + _ ≤ 2001; omega⟩) ?_
      obtain ⟨g9, h⟩ := v_ifs h
      refine v_tight hb0 (vV.widen (n' := 50) (k' := 2001) (by omega) (by omega) ?_)
      obtain rfl := Option.some.inj h
      rw [hQ]
      refine v_xok ?_
      exact v_iret hx hb hr hlk dX9_keep_30
    · replace h := v_inr hz4 h
      obtain rfl := Option.some.inj h
      rw [hQ]
      exact v_callXth (mcz := 1) (msz := 6) (fun H locs hR hS => vx_runV (As := [.int x2]) (rest := []) ⟨hx, hb, hml, hown, hts⟩ (mX9_checkSet l hfl D x0 x2 z1.2 z4 ez4) (cwV 1 hts (gdV kw1043 kw1045 kw22 kw27 kw1046) rfl rfl rfl (by decide +kernel) ⟨Nat.le_of_ble_eq_true rfl, Nat.le_of_ble_eq_true rfl⟩) (v_preV (ci := 10) hSS hR hS g8 (by decide) rfl [.int x2]) rfl rfl hl.1 rfl (lv_room (Nat.le_of_ble_eq_true rfl)) dX9_keep_7 ⟨by show _ + _ ≤ 50; omega, by show _ + _ ≤ 2001; omega⟩) (by rw [hz4]; rfl) (by rw [hz4]; rfl) hnt hlk (by omega) (by omega)
  · replace h := v_inr hz1 h
    obtain rfl := Option.some.inj h
    rw [hQ]
    exact v_callXth (mcz := 1) (msz := 6) (fun H locs hR hS => vx_runV (As := [.int x1]) (rest := []) ⟨hx, hb, hml, hown, hts⟩ (mX9_checkSet l hfl D x0 x1 M z1 ez1) (cwV 1 hts (gdV kw1043 kw1045 kw22 kw27 kw1046) rfl rfl rfl (by decide +kernel) ⟨Nat.le_of_ble_eq_true rfl, Nat.le_of_ble_eq_true rfl⟩) (v_preV (ci := 10) hSS hR hS g8 (by decide) rfl [.int x1]) rfl rfl hl.1 rfl (lv_room (Nat.le_of_ble_eq_true rfl)) dX9_keep_2 ⟨by show _ + _ ≤ 50; omega, by show _ + _ ≤ 2001; omega⟩) (by rw [hz1]; rfl) (by rw [hz1]; rfl) hnt hlk (by omega) (by omega)

def tX9_unite (G : Nat → Nat) (x0 : Nat) (x1 : Int32) (x2 : Int32) (M : vMe) : Option ((Int32 ⊕ Nat) × vMe) :=
  if M.2.1 + 1 ≤ M.2.1 + 50 ∧ M.2.2.1 + 6 ≤ M.2.2.1 + 2001 then
  (if (M.1 x0).1 = 11 then
  ((tX9_checkSet x0 x1 M).bind fun z1 =>
  Sum.elim (fun r2 =>
  if z1.2.2.1 + 1 ≤ M.2.1 + 50 ∧ z1.2.2.2.1 + 6 ≤ M.2.2.1 + 2001 then
  (if (z1.2.1 x0).1 = 11 then
  ((tX9_checkSet x0 x2 z1.2).bind fun z4 =>
  Sum.elim (fun r5 =>
  (gA z4.2 x0 11 1).bind fun a7 =>
  (gA z4.2 x0 11 3).bind fun a8 =>
  if z4.2.2.1 + 50 ≤ M.2.1 + 50 ∧ z4.2.2.2.1 + 2001 ≤ M.2.2.1 + 2001 then
  (if (z4.2.1 a7).1 = 10 then
  ((tX8_remember G a7 a8 z4.2).bind fun z9 =>
  (gA z9.2 x0 11 3).bind fun a10 =>
  if z9.2.2.1 + 0 ≤ M.2.1 + 50 ∧ z9.2.2.2.1 + 0 ≤ M.2.2.1 + 2001 then
  (if (z9.2.1 a10).1 = 8 then
  ((tX5_bringAll a10 x1 x2 z9.2).bind fun z11 =>
  if z11.2.2.1 ≤ M.2.1 + 50 ∧ z11.2.2.2.1 ≤ M.2.2.1 + 2001 then some (Sum.inl z11.1, z11.2) else none)
else none)
else none)
else none)
else none) (fun j6 => some (Sum.inr j6, z4.2)) z4.1)
else none)
else none) (fun j3 => some (Sum.inr j3, z1.2)) z1.1)
else none)
else none
def rmX9_unite : Room := { frames := 7, cells := 50, slots := 2001, locals := 145 }
set_option maxHeartbeats 4000000 in
set_option maxRecDepth 100000 in
theorem mX9_unite (l : Launch) (hfl : l.stackTraces = false) (D : vD) (x0 : Nat) (x1 : Int32) (x2 : Int32) (M : vMe) (z : ((Int32 ⊕ Nat) × vMe)) (h : tX9_unite D.2.2.2.2 x0 x1 x2 M = some z) : vx_Met l yX9_unite (Cond.code yX9_unite cX9_unite 3 (some .int) :: TB) rmX9_unite (va_Pc [.ref x0, .int x1, .int x2] (vPre D M)) (qX D (Sum.elim (fun r => some (some (.int r))) (fun _ => none) z.1) z.2) (xX D (Sum.elim (fun _ => none) some z.1) z.2) 50 2001 (vA D) := by
  refine v_ofX (cc := cX9_unite) (maxL := 3) (ret := (some .int)) (by decide) (Nat.le_of_ble_eq_true rfl) ?_
  intro p e s m args below meth c Q hx hb hr hml hown hts hlk hnm hSS hR0 hQ hnt ls hl
  have hz0 := hR0.2.1
  have hs0 := hR0.2.2.1
  have hb0 : D.2.2.2.1 ≤ s.heap.size := hR0.2.2.2.2.1
  refine v_tight hb0 ?_
  have hK := hSS.1
  have hl : lv_has ls 3 [(0, .ref x0), (1, .int x1), (2, .int x2)] := hl
  unfold tX9_unite at h
  refine w_aload_n hx hb dX9_unite_0 rfl (lv_at hl 0 rfl) ?_
  refine w_iload_n hx hb dX9_unite_1 rfl (lv_at hl 1 rfl) ?_
  obtain ⟨g7, h⟩ := v_ifs h
  refine v_tight hb0 ?_
  obtain ⟨g8, h⟩ := v_ifs h
  obtain ⟨z1, ez1, h⟩ := v_bnd h
  rcases hz1 : z1.1 with r2 | j3
  · replace h := v_inl hz1 h
    refine v_callXok (ov := none) (mcz := 1) (msz := 6) (fun H locs hR hS => vx_runV (As := [.int x1]) (rest := []) ⟨hx, hb, hml, hown, hts⟩ (mX9_checkSet l hfl D x0 x1 M z1 ez1) (cwV 1 hts (gdV kw1043 kw1045 kw22 kw27 kw1046) rfl rfl rfl (by decide +kernel) ⟨Nat.le_of_ble_eq_true rfl, Nat.le_of_ble_eq_true rfl⟩) (v_preV (ci := 10) hSS hR hS g8 (by decide) rfl [.int x1]) rfl rfl hl.1 rfl (lv_room (Nat.le_of_ble_eq_true rfl)) dX9_unite_2 ⟨by show _ + _ ≤ 50; omega, by show _ + _ ≤ 2001; omega⟩) (by rw [hz1]; rfl) (by rw [hz1]; rfl) (st1 := []) rfl ?_
    refine w_aload_n hx hb dX9_unite_5 rfl (lv_at hl 0 rfl) ?_
    refine w_iload_n hx hb dX9_unite_6 rfl (lv_at hl 2 rfl) ?_
    obtain ⟨g7, h⟩ := v_ifs h
    refine v_tight hb0 ?_
    obtain ⟨g8, h⟩ := v_ifs h
    obtain ⟨z4, ez4, h⟩ := v_bnd h
    rcases hz4 : z4.1 with r5 | j6
    · replace h := v_inl hz4 h
      refine v_callXok (ov := none) (mcz := 1) (msz := 6) (fun H locs hR hS => vx_runV (As := [.int x2]) (rest := []) ⟨hx, hb, hml, hown, hts⟩ (mX9_checkSet l hfl D x0 x2 z1.2 z4 ez4) (cwV 1 hts (gdV kw1043 kw1045 kw22 kw27 kw1046) rfl rfl rfl (by decide +kernel) ⟨Nat.le_of_ble_eq_true rfl, Nat.le_of_ble_eq_true rfl⟩) (v_preV (ci := 10) hSS hR hS g8 (by decide) rfl [.int x2]) rfl rfl hl.1 rfl (lv_room (Nat.le_of_ble_eq_true rfl)) dX9_unite_7 ⟨by show _ + _ ≤ 50; omega, by show _ + _ ≤ 2001; omega⟩) (by rw [hz4]; rfl) (by rw [hz4]; rfl) (st1 := []) rfl ?_
      refine w_aload_n hx hb dX9_unite_10 rfl (lv_at hl 0 rfl) ?_
      obtain ⟨a7, ea7, h⟩ := v_bnd h
      refine v_gA (ci := 10) hx hb hts iwX9 hown hK 1 ea7 rfl (by decide) (Or.inl (hts _ kw290)) (fun _ h9 => h9) dX9_unite_11 ?_
      refine w_aload_n hx hb dX9_unite_14 rfl (lv_at hl 0 rfl) ?_
      obtain ⟨a8, ea8, h⟩ := v_bnd h
      refine v_gA (ci := 10) hx hb hts iwX9 hown hK 3 ea8 rfl (by decide) (Or.inl (hts _ kw292)) (fun _ h9 => h9) dX9_unite_15 ?_
      obtain ⟨g7, h⟩ := v_ifs h
      refine v_tight hb0 ?_
      obtain ⟨g8, h⟩ := v_ifs h
      obtain ⟨z9, ez9, h⟩ := v_bnd h
      refine v_call0 (M1 := z9.2) (mc := 50) (ms := 2001) (fun H locs hR hS => va_runV (As := [.ref a8]) (rest := []) ⟨hx, hb, hml, hown, hts⟩ (mX8_remember l hfl D a7 a8 z4.2 z9 ez9) (cwV 1 hts (gdV kw1063 kw1064 kw1065 kw29 kw1066) rfl rfl rfl (by decide +kernel) ⟨Nat.le_of_ble_eq_true rfl, Nat.le_of_ble_eq_true rfl⟩) (v_preV (ci := 9) hSS hR hS g8 (by decide) rfl [.ref a8]) rfl rfl hl.1 rfl (lv_room (Nat.le_of_ble_eq_true rfl)) dX9_unite_18 ⟨by show _ + _ ≤ 50; omega, by show _ + _ ≤ 2001; omega⟩) ?_
      refine w_aload_n hx hb dX9_unite_21 rfl (lv_at hl 0 rfl) ?_
      obtain ⟨a10, ea10, h⟩ := v_bnd h
      refine v_gA (ci := 10) hx hb hts iwX9 hown hK 3 ea10 rfl (by decide) (Or.inl (hts _ kw292)) (fun _ h9 => h9) dX9_unite_22 ?_
      refine w_iload_n hx hb dX9_unite_25 rfl (lv_at hl 1 rfl) ?_
      refine w_iload_n hx hb dX9_unite_26 rfl (lv_at hl 2 rfl) ?_
      obtain ⟨g7, h⟩ := v_ifs h
      refine v_tight hb0 ?_
      obtain ⟨g8, h⟩ := v_ifs h
      obtain ⟨z11, ez11, h⟩ := v_bnd h
      refine v_call1 (v := .int z11.1) (M1 := z11.2) (mc := 0) (ms := 0) (fun H locs hR hS => va_runV (As := [.int x1, .int x2]) (rest := []) ⟨hx, hb, hml, hown, hts⟩ (mX5_bringAll l hfl D a10 x1 x2 z9.2 z11 ez11) (cwV 2 hts (gdV kw1238 kw1239 kw1240 kw31 kw1241) rfl rfl rfl (by decide +kernel) ⟨Nat.le_of_ble_eq_true rfl, Nat.le_of_ble_eq_true rfl⟩) (v_preV (ci := 7) hSS hR hS g8 (by decide) rfl [.int x1, .int x2]) rfl rfl hl.1 rfl (lv_room (Nat.le_of_ble_eq_true rfl)) dX9_unite_27 ⟨by show _ + _ ≤ 50; omega, by show _ + _ ≤ 2001; omega⟩) ?_
      obtain ⟨g9, h⟩ := v_ifs h
      refine v_tight hb0 (vV.widen (n' := 50) (k' := 2001) (by omega) (by omega) ?_)
      obtain rfl := Option.some.inj h
      rw [hQ]
      refine v_xok ?_
      exact v_iret hx hb hr hlk dX9_unite_30
    · replace h := v_inr hz4 h
      obtain rfl := Option.some.inj h
      rw [hQ]
      exact v_callXth (mcz := 1) (msz := 6) (fun H locs hR hS => vx_runV (As := [.int x2]) (rest := []) ⟨hx, hb, hml, hown, hts⟩ (mX9_checkSet l hfl D x0 x2 z1.2 z4 ez4) (cwV 1 hts (gdV kw1043 kw1045 kw22 kw27 kw1046) rfl rfl rfl (by decide +kernel) ⟨Nat.le_of_ble_eq_true rfl, Nat.le_of_ble_eq_true rfl⟩) (v_preV (ci := 10) hSS hR hS g8 (by decide) rfl [.int x2]) rfl rfl hl.1 rfl (lv_room (Nat.le_of_ble_eq_true rfl)) dX9_unite_7 ⟨by show _ + _ ≤ 50; omega, by show _ + _ ≤ 2001; omega⟩) (by rw [hz4]; rfl) (by rw [hz4]; rfl) hnt hlk (by omega) (by omega)
  · replace h := v_inr hz1 h
    obtain rfl := Option.some.inj h
    rw [hQ]
    exact v_callXth (mcz := 1) (msz := 6) (fun H locs hR hS => vx_runV (As := [.int x1]) (rest := []) ⟨hx, hb, hml, hown, hts⟩ (mX9_checkSet l hfl D x0 x1 M z1 ez1) (cwV 1 hts (gdV kw1043 kw1045 kw22 kw27 kw1046) rfl rfl rfl (by decide +kernel) ⟨Nat.le_of_ble_eq_true rfl, Nat.le_of_ble_eq_true rfl⟩) (v_preV (ci := 10) hSS hR hS g8 (by decide) rfl [.int x1]) rfl rfl hl.1 rfl (lv_room (Nat.le_of_ble_eq_true rfl)) dX9_unite_2 ⟨by show _ + _ ≤ 50; omega, by show _ + _ ≤ 2001; omega⟩) (by rw [hz1]; rfl) (by rw [hz1]; rfl) hnt hlk (by omega) (by omega)
