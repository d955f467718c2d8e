def tX10_within (x0 : Int32) (x1 : Int32) (x2 : Int32) (M : vMe) : Option Int32 :=
  if x0 < x1 then
  (some 0)
else
  (if x2 < x0 then
  (some 0)
else
  (some 1))
def rmX10_within : Room := { frames := 1, cells := 0, slots := 0, locals := 0 }
set_option maxHeartbeats 4000000 in
set_option maxRecDepth 100000 in
theorem mX10_within (l : Launch) (hfl : l.stackTraces = false) (D : vD) (x0 : Int32) (x1 : Int32) (x2 : Int32) (M : vMe) (z : Int32) (h : tX10_within x0 x1 x2 M = some z) : Met l yX10_within (Cond.code yX10_within cX10_within 3 (some .boolean) :: TB) rmX10_within (va_Pc [.int x0, .int x1, .int x2] (vPre D M)) (qW D (some (.int z)) M) 0 0 (vA D) := by
  refine v_ofW (cc := cX10_within) (maxL := 3) (ret := (some .boolean)) (by decide) (Nat.le_of_ble_eq_true rfl) ?_
  intro p e s m args below meth c Q hx hb hr hml hown hts hlk hnm hSS hR0 hQ ls hl
  have hK := hSS.1
  have hl : lv_has ls 3 [(0, .int x0), (1, .int x1), (2, .int x2)] := hl
  unfold tX10_within at h
  refine w_iload_n hx hb dX10_within_0 rfl (lv_at hl 0 rfl) ?_
  refine w_iload_n hx hb dX10_within_1 rfl (lv_at hl 1 rfl) ?_
  refine w_icmp_lt (tgt := 14) hx hb dX10_within_2 (by decide) (fun c1 => ?_) (fun c1 => ?_)
  · rw [if_pos c1] at h
    refine w_iconst (v := 0) hx hb dX10_within_14 (by decide) ?_
    obtain rfl := Option.some.inj h
    rw [hQ]
    exact v_zret hx hb hr hlk rfl dX10_within_15
  · rw [if_neg c1] at h
    refine w_iload_n hx hb dX10_within_5 rfl (lv_at hl 0 rfl) ?_
    refine w_iload_n hx hb dX10_within_6 rfl (lv_at hl 2 rfl) ?_
    refine w_icmp_gt (tgt := 14) hx hb dX10_within_7 (by decide) (fun c2 => ?_) (fun c2 => ?_)
    · rw [if_pos c2] at h
      refine w_iconst (v := 0) hx hb dX10_within_14 (by decide) ?_
      obtain rfl := Option.some.inj h
      rw [hQ]
      exact v_zret hx hb hr hlk rfl dX10_within_15
    · rw [if_neg c2] at h
      refine w_iconst (v := 1) hx hb dX10_within_10 (by decide) ?_
      refine w_goto (tgt := 15) hx hb dX10_within_11 (by decide) ?_
      obtain rfl := Option.some.inj h
      rw [hQ]
      exact v_zret hx hb hr hlk rfl dX10_within_15

def tX10_of (x0 : Nat) (x1 : Int32) (x2 : Int32) (M : vMe) : Option Int32 :=
  (gA M x0 12 1).bind fun a1 =>
  (aI M a1 101 ((62 + (378 * x1)) + x2)).bind fun v2 =>
  some v2
def rmX10_of : Room := { frames := 1, cells := 0, slots := 0, locals := 0 }
set_option maxHeartbeats 4000000 in
set_option maxRecDepth 100000 in
theorem mX10_of (l : Launch) (hfl : l.stackTraces = false) (D : vD) (x0 : Nat) (x1 : Int32) (x2 : Int32) (M : vMe) (z : Int32) (h : tX10_of x0 x1 x2 M = some z) : Met l yX10_of (Cond.code yX10_of cX10_of 3 (some .int) :: TB) rmX10_of (va_Pc [.ref x0, .int x1, .int x2] (vPre D M)) (qW D (some (.int z)) M) 0 0 (vA D) := by
  refine v_ofW (cc := cX10_of) (maxL := 3) (ret := (some .int)) (by decide) (Nat.le_of_ble_eq_true rfl) ?_
  intro p e s m args below meth c Q hx hb hr hml hown hts hlk hnm hSS hR0 hQ ls hl
  have hK := hSS.1
  have hl : lv_has ls 3 [(0, .ref x0), (1, .int x1), (2, .int x2)] := hl
  unfold tX10_of at h
  refine w_aload_n hx hb dX10_of_0 rfl (lv_at hl 0 rfl) ?_
  obtain ⟨a1, ea1, h⟩ := v_bnd h
  refine v_gA (ci := 11) hx hb hts iwX10 hown hK 1 ea1 rfl (by decide) (Or.inl (hts _ kw1336)) (fun _ h9 => h9) dX10_of_1 ?_
  refine w_bipush (v := 62) hx hb dX10_of_4 (by decide) ?_
  refine w_sipush (v := 378) hx hb dX10_of_6 (by decide) ?_
  refine w_iload_n hx hb dX10_of_9 rfl (lv_at hl 1 rfl) ?_
  refine w_imul hx hb dX10_of_10 ?_
  refine w_iadd hx hb dX10_of_11 ?_
  refine w_iload_n hx hb dX10_of_12 rfl (lv_at hl 2 rfl) ?_
  refine w_iadd hx hb dX10_of_13 ?_
  obtain ⟨v2, ev2, h⟩ := v_bnd h
  refine v_iald hx hb hK ev2 dX10_of_14 ?_
  obtain rfl := Option.some.inj h
  rw [hQ]
  exact v_iret hx hb hr hlk dX10_of_15

def tX10_sets (x0 : Nat) (x1 : Int32) (x2 : Int32) (x3 : Int32) (M : vMe) : Option (Unit × vMe) :=
  (gA M x0 12 1).bind fun a1 =>
  (sA M a1 101 ((62 + (378 * x1)) + x2) (.int x3)).bind fun M2 =>
  some ((), M2)
def rmX10_sets : Room := { frames := 1, cells := 0, slots := 0, locals := 0 }
set_option maxHeartbeats 4000000 in
set_option maxRecDepth 100000 in
theorem mX10_sets (l : Launch) (hfl : l.stackTraces = false) (D : vD) (x0 : Nat) (x1 : Int32) (x2 : Int32) (x3 : Int32) (M : vMe) (z : (Unit × vMe)) (h : tX10_sets x0 x1 x2 x3 M = some z) : Met l yX10_sets (Cond.code yX10_sets cX10_sets 4 none :: TB) rmX10_sets (va_Pc [.ref x0, .int x1, .int x2, .int x3] (vPre D M)) (qW D none z.2) 0 0 (vA D) := by
  refine v_ofW (cc := cX10_sets) (maxL := 4) (ret := none) (by decide) (Nat.le_of_ble_eq_true rfl) ?_
  intro p e s m args below meth c Q hx hb hr hml hown hts hlk hnm hSS hR0 hQ ls hl
  have hK := hSS.1
  have hl : lv_has ls 4 [(0, .ref x0), (1, .int x1), (2, .int x2), (3, .int x3)] := hl
  unfold tX10_sets at h
  refine w_aload_n hx hb dX10_sets_0 rfl (lv_at hl 0 rfl) ?_
  obtain ⟨a1, ea1, h⟩ := v_bnd h
  refine v_gA (ci := 11) hx hb hts iwX10 hown hK 1 ea1 rfl (by decide) (Or.inl (hts _ kw1336)) (fun _ h9 => h9) dX10_sets_1 ?_
  refine w_bipush (v := 62) hx hb dX10_sets_4 (by decide) ?_
  refine w_sipush (v := 378) hx hb dX10_sets_6 (by decide) ?_
  refine w_iload_n hx hb dX10_sets_9 rfl (lv_at hl 1 rfl) ?_
  refine w_imul hx hb dX10_sets_10 ?_
  refine w_iadd hx hb dX10_sets_11 ?_
  refine w_iload_n hx hb dX10_sets_12 rfl (lv_at hl 2 rfl) ?_
  refine w_iadd hx hb dX10_sets_13 ?_
  refine w_iload_n hx hb dX10_sets_14 rfl (lv_at hl 3 rfl) ?_
  obtain ⟨M2, eM2, h⟩ := v_bnd h
  refine v_iast hx hb hK eM2 dX10_sets_15 ?_
  obtain rfl := Option.some.inj h
  rw [hQ]
  exact v_vret hx hb hr hlk dX10_sets_16

def tX10_isMember (x0 : Nat) (x1 : Int32) (x2 : Int32) (M : vMe) : Option Int32 :=
  if (M.1 x0).1 = 12 then
  ((tX10_of x0 x1 (70 + x2) M).bind fun z1 =>
  if (M.1 x0).1 = 12 then
  ((tX10_of x0 x1 0 M).bind fun z2 =>
  if z2 ≤ z1 then
  (some 0)
else
  (if (M.1 x0).1 = 12 then
  ((tX10_of x0 x1 (6 + z1) M).bind fun z4 =>
  if z4 = x2 then
  (some 1)
else
  (some 0))
else none))
else none)
else none
def rmX10_isMember : Room := { frames := 2, cells := 0, slots := 0, locals := 22 }
set_option maxHeartbeats 4000000 in
set_option maxRecDepth 100000 in
theorem mX10_isMember (l : Launch) (hfl : l.stackTraces = false) (D : vD) (x0 : Nat) (x1 : Int32) (x2 : Int32) (M : vMe) (z : Int32) (h : tX10_isMember x0 x1 x2 M = some z) : Met l yX10_isMember (Cond.code yX10_isMember cX10_isMember 4 (some .boolean) :: TB) rmX10_isMember (va_Pc [.ref x0, .int x1, .int x2] (vPre D M)) (qW D (some (.int z)) M) 0 0 (vA D) := by
  refine v_ofW (cc := cX10_isMember) (maxL := 4) (ret := (some .boolean)) (by decide) (Nat.le_of_ble_eq_true rfl) ?_
  intro p e s m args below meth c Q hx hb hr hml hown hts hlk hnm hSS hR0 hQ ls hl
  have hK := hSS.1
  have hl : lv_has ls 4 [(0, .ref x0), (1, .int x1), (2, .int x2)] := hl
  unfold tX10_isMember at h
  refine w_aload_n hx hb dX10_isMember_0 rfl (lv_at hl 0 rfl) ?_
  refine w_iload_n hx hb dX10_isMember_1 rfl (lv_at hl 1 rfl) ?_
  refine w_bipush (v := 70) hx hb dX10_isMember_2 (by decide) ?_
  refine w_iload_n hx hb dX10_isMember_4 rfl (lv_at hl 2 rfl) ?_
  refine w_iadd hx hb dX10_isMember_5 ?_
  obtain ⟨g8, h⟩ := v_ifs h
  obtain ⟨z1, ez1, h⟩ := v_bnd h
  refine v_call1 (v := .int z1) (M1 := M) (mc := 0) (ms := 0) (fun H locs hR hS => va_runV (As := [.int x1, .int (70 + x2)]) (rest := []) ⟨hx, hb, hml, hown, hts⟩ (mX10_of l hfl D x0 x1 (70 + x2) M z1 ez1) (cwV 2 hts (gdV kw1497 kw1499 kw44 kw85 kw1500) rfl rfl rfl (by decide +kernel) ⟨Nat.le_of_ble_eq_true rfl, Nat.le_of_ble_eq_true rfl⟩) (v_preV (ci := 11) hSS hR hS g8 (by decide) rfl [.int x1, .int (70 + x2)]) rfl rfl hl.1 rfl (lv_room (Nat.le_of_ble_eq_true rfl)) dX10_isMember_6 ⟨Nat.zero_le _, Nat.zero_le _⟩) ?_
  refine w_istore_n (lv' := [(3, .int z1), (0, .ref x0), (1, .int x1), (2, .int x2)]) hx hb dX10_isMember_9 rfl hl (by decide) rfl (fun ls hl => ?_)
  have hl : lv_has ls 4 [(0, .ref x0), (1, .int x1), (2, .int x2), (3, .int z1)] := lv_sub hl [1, 2, 3, 0] rfl
  refine w_iload_n hx hb dX10_isMember_10 rfl (lv_at hl 3 rfl) ?_
  refine w_aload_n hx hb dX10_isMember_11 rfl (lv_at hl 0 rfl) ?_
  refine w_iload_n hx hb dX10_isMember_12 rfl (lv_at hl 1 rfl) ?_
  refine w_iconst (v := 0) hx hb dX10_isMember_13 (by decide) ?_
  obtain ⟨g8, h⟩ := v_ifs h
  obtain ⟨z2, ez2, h⟩ := v_bnd h
  refine v_call1 (v := .int z2) (M1 := M) (mc := 0) (ms := 0) (fun H locs hR hS => va_runV (As := [.int x1, .int 0]) (rest := [.int z1]) ⟨hx, hb, hml, hown, hts⟩ (mX10_of l hfl D x0 x1 0 M z2 ez2) (cwV 2 hts (gdV kw1497 kw1499 kw44 kw85 kw1500) rfl rfl rfl (by decide +kernel) ⟨Nat.le_of_ble_eq_true rfl, Nat.le_of_ble_eq_true rfl⟩) (v_preV (ci := 11) hSS hR hS g8 (by decide) rfl [.int x1, .int 0]) rfl rfl hl.1 rfl (lv_room (Nat.le_of_ble_eq_true rfl)) dX10_isMember_14 ⟨Nat.zero_le _, Nat.zero_le _⟩) ?_
  refine w_icmp_ge (tgt := 37) hx hb dX10_isMember_17 (by decide) (fun c3 => ?_) (fun c3 => ?_)
  · rw [if_pos c3] at h
    refine w_iconst (v := 0) hx hb dX10_isMember_37 (by decide) ?_
    obtain rfl := Option.some.inj h
    rw [hQ]
    exact v_zret hx hb hr hlk rfl dX10_isMember_38
  · rw [if_neg c3] at h
    refine w_aload_n hx hb dX10_isMember_20 rfl (lv_at hl 0 rfl) ?_
    refine w_iload_n hx hb dX10_isMember_21 rfl (lv_at hl 1 rfl) ?_
    refine w_bipush (v := 6) hx hb dX10_isMember_22 (by decide) ?_
    refine w_iload_n hx hb dX10_isMember_24 rfl (lv_at hl 3 rfl) ?_
    refine w_iadd hx hb dX10_isMember_25 ?_
    obtain ⟨g8, h⟩ := v_ifs h
    obtain ⟨z4, ez4, h⟩ := v_bnd h
    refine v_call1 (v := .int z4) (M1 := M) (mc := 0) (ms := 0) (fun H locs hR hS => va_runV (As := [.int x1, .int (6 + z1)]) (rest := []) ⟨hx, hb, hml, hown, hts⟩ (mX10_of l hfl D x0 x1 (6 + z1) M z4 ez4) (cwV 2 hts (gdV kw1497 kw1499 kw44 kw85 kw1500) rfl rfl rfl (by decide +kernel) ⟨Nat.le_of_ble_eq_true rfl, Nat.le_of_ble_eq_true rfl⟩) (v_preV (ci := 11) hSS hR hS g8 (by decide) rfl [.int x1, .int (6 + z1)]) rfl rfl hl.1 rfl (lv_room (Nat.le_of_ble_eq_true rfl)) dX10_isMember_26 ⟨Nat.zero_le _, Nat.zero_le _⟩) ?_
    refine w_iload_n hx hb dX10_isMember_29 rfl (lv_at hl 2 rfl) ?_
    refine w_icmp_ne (tgt := 37) hx hb dX10_isMember_30 (by decide) (fun c5 => ?_) (fun c5 => ?_)
    · rw [if_pos c5] at h
      refine w_iconst (v := 1) hx hb dX10_isMember_33 (by decide) ?_
      refine w_goto (tgt := 38) hx hb dX10_isMember_34 (by decide) ?_
      obtain rfl := Option.some.inj h
      rw [hQ]
      exact v_zret hx hb hr hlk rfl dX10_isMember_38
    · rw [if_neg c5] at h
      refine w_iconst (v := 0) hx hb dX10_isMember_37 (by decide) ?_
      obtain rfl := Option.some.inj h
      rw [hQ]
      exact v_zret hx hb hr hlk rfl dX10_isMember_38

def tX10_ones_L4  (M : vMe) : Nat → Int32 → Int64 → Option Int32
  | 0, _, _ => none
  | f + 1, x2, x3 =>
  if (lg_cmp x3 0) = 0 then
  (some x2)
else
  (tX10_ones_L4 M f (x2 + 1) (x3 &&& (x3 - 1)))
def tX10_ones (x0 : Int64) (M : vMe) : Option Int32 :=
  (tX10_ones_L4 M vF 0 x0).bind fun z3 =>
  some z3
def rmX10_ones : Room := { frames := 1, cells := 0, slots := 0, locals := 0 }
set_option maxHeartbeats 4000000 in
set_option maxRecDepth 100000 in
theorem mX10_ones (l : Launch) (hfl : l.stackTraces = false) (D : vD) (x0 : Int64) (M : vMe) (z : Int32) (h : tX10_ones x0 M = some z) : Met l yX10_ones (Cond.code yX10_ones cX10_ones 5 (some .int) :: TB) rmX10_ones (va_Pc [.long x0] (vPre D M)) (qW D (some (.int z)) M) 0 0 (vA D) := by
  refine v_ofW (cc := cX10_ones) (maxL := 5) (ret := (some .int)) (by decide) (Nat.le_of_ble_eq_true rfl) ?_
  intro p e s m args below meth c Q hx hb hr hml hown hts hlk hnm hSS hR0 hQ ls hl
  have hK := hSS.1
  have hl : lv_has ls 5 [(0, .long x0)] := hl
  unfold tX10_ones at h
  have X10_ones_L4p : ∀ (f : Nat) (x2 : Int32) (x3 : Int64) (ls : Array Slot) (z : Int32), lv_has ls 5 [(2, .int x2), (3, .long x3)] → tX10_ones_L4 M f x2 x3 = some z → (∀ ls : Array Slot, lv_has ls 5 [(2, .int z)] → vV D p l e rmX10_ones s m args below meth c 0 0 Q M (F0 m 22 ls [])) → vV D p l e rmX10_ones s m args below meth c 0 0 Q M (F0 m 4 ls []) := by
    intro f
    induction f with
    | zero =>
      intro x2 x3 ls z hl h
      exact absurd h (by simp [tX10_ones_L4])
    | succ f ih =>
      intro x2 x3 ls z hl h KX
      rw [tX10_ones_L4] at h
      refine w_lload_n hx hb dX10_ones_4 rfl (lv_at hl 1 rfl) ?_
      refine w_lconst (v := 0) hx hb dX10_ones_5 (by decide) ?_
      refine w_lcmp hx hb dX10_ones_6 ?_
      refine w_if_eq (tgt := 22) hx hb dX10_ones_7 (by decide) (fun c2 => ?_) (fun c2 => ?_)
      · rw [if_pos c2] at h
        obtain rfl := Option.some.inj h
        exact KX ls (lv_sub hl [0] rfl)
      · rw [if_neg c2] at h
        refine w_iinc (v := x2 + 1) (lv' := [(2, .int (x2 + 1)), (3, .long x3)]) hx hb dX10_ones_10 hl (j := 0) rfl rfl (by decide) rfl (fun ls hl => ?_)
        have hl : lv_has ls 5 [(2, .int (x2 + 1)), (3, .long x3)] := lv_sub hl [0, 1] rfl
        refine w_lload_n hx hb dX10_ones_13 rfl (lv_at hl 1 rfl) ?_
        refine w_lload_n hx hb dX10_ones_14 rfl (lv_at hl 1 rfl) ?_
        refine w_lconst (v := 1) hx hb dX10_ones_15 (by decide) ?_
        refine w_lsub hx hb dX10_ones_16 ?_
        refine w_land hx hb dX10_ones_17 ?_
        refine w_lstore_n (lv' := [(3, .long (x3 &&& (x3 - 1))), (2, .int (x2 + 1))]) hx hb dX10_ones_18 rfl hl (by decide) rfl (fun ls hl => ?_)
        have hl : lv_has ls 5 [(2, .int (x2 + 1)), (3, .long (x3 &&& (x3 - 1)))] := lv_sub hl [1, 0] rfl
        refine w_goto (tgt := 4) hx hb dX10_ones_19 (by decide) ?_
        exact ih (x2 + 1) (x3 &&& (x3 - 1)) ls z (lv_sub hl [0, 1] rfl) h KX
  refine w_iconst (v := 0) hx hb dX10_ones_0 (by decide) ?_
  refine w_istore_n (lv' := [(2, .int 0), (0, .long x0)]) hx hb dX10_ones_1 rfl hl (by decide) rfl (fun ls hl => ?_)
  have hl : lv_has ls 5 [(0, .long x0), (2, .int 0)] := lv_sub hl [1, 0] rfl
  refine w_lload_n hx hb dX10_ones_2 rfl (lv_at hl 0 rfl) ?_
  refine w_lstore_n (lv' := [(3, .long x0), (0, .long x0), (2, .int 0)]) hx hb dX10_ones_3 rfl hl (by decide) rfl (fun ls hl => ?_)
  have hl : lv_has ls 5 [(0, .long x0), (2, .int 0), (3, .long x0)] := lv_sub hl [1, 2, 0] rfl
  obtain ⟨z3, ez3, h⟩ := v_bnd h
  refine X10_ones_L4p  vF 0 x0 ls z3 (lv_sub hl [1, 2] rfl) ez3 (fun ls hl => ?_)
  refine w_iload_n hx hb dX10_ones_22 rfl (lv_at hl 0 rfl) ?_
  obtain rfl := Option.some.inj h
  rw [hQ]
  exact v_iret hx hb hr hlk dX10_ones_23

def tX10_copies_L3 (x0 : Nat) (x1 : Int32) (x2 : Nat) (x3 : Int32) : Nat → Int32 → vMe → Option (Unit × vMe)
  | 0, _, _ => none
  | f + 1, x4, Mi =>
  if 1952 ≤ x4 then
  (some ((), Mi))
else
  ((aI Mi x0 101 (x1 + x4)).bind fun v5 =>
  (sA Mi x2 101 (x3 + x4) (.int v5)).bind fun M6 =>
  tX10_copies_L3 x0 x1 x2 x3 f (x4 + 1) M6)
def tX10_copies (x0 : Nat) (x1 : Int32) (x2 : Nat) (x3 : Int32) (M : vMe) : Option (Unit × vMe) :=
  (tX10_copies_L3 x0 x1 x2 x3 vF 0 M).bind fun z7 =>
  some ((), z7.2)
def rmX10_copies : Room := { frames := 1, cells := 0, slots := 0, locals := 0 }
set_option maxHeartbeats 4000000 in
set_option maxRecDepth 100000 in
theorem mX10_copies (l : Launch) (hfl : l.stackTraces = false) (D : vD) (x0 : Nat) (x1 : Int32) (x2 : Nat) (x3 : Int32) (M : vMe) (z : (Unit × vMe)) (h : tX10_copies x0 x1 x2 x3 M = some z) : Met l yX10_copies (Cond.code yX10_copies cX10_copies 5 none :: TB) rmX10_copies (va_Pc [.ref x0, .int x1, .ref x2, .int x3] (vPre D M)) (qW D none z.2) 0 0 (vA D) := by
  refine v_ofW (cc := cX10_copies) (maxL := 5) (ret := none) (by decide) (Nat.le_of_ble_eq_true rfl) ?_
  intro p e s m args below meth c Q hx hb hr hml hown hts hlk hnm hSS hR0 hQ ls hl
  have hK := hSS.1
  have hl : lv_has ls 5 [(0, .ref x0), (1, .int x1), (2, .ref x2), (3, .int x3)] := hl
  unfold tX10_copies at h
  have X10_copies_L3p : ∀ (x0 : Nat) (x1 : Int32) (x2 : Nat) (x3 : Int32), ∀ (f : Nat) (x4 : Int32) (Mi : vMe) (ls : Array Slot) (z : (Unit × vMe)), lv_has ls 5 [(0, .ref x0), (1, .int x1), (2, .ref x2), (3, .int x3), (4, .int x4)] → tX10_copies_L3 x0 x1 x2 x3 f x4 Mi = some z → (∀ ls : Array Slot, lv_has ls 5 [] → vV D p l e rmX10_copies s m args below meth c 0 0 Q z.2 (F0 m 29 ls [])) → vV D p l e rmX10_copies s m args below meth c 0 0 Q Mi (F0 m 3 ls []) := by
    intro x0 x1 x2 x3 f
    induction f with
    | zero =>
      intro x4 Mi ls z hl h
      exact absurd h (by simp [tX10_copies_L3])
    | succ f ih =>
      intro x4 Mi ls z hl h KX
      rw [tX10_copies_L3] at h
      refine w_iload hx hb dX10_copies_3 (lv_at hl 4 rfl) ?_
      refine w_sipush (v := 1952) hx hb dX10_copies_5 (by decide) ?_
      refine w_icmp_ge (tgt := 29) hx hb dX10_copies_8 (by decide) (fun c4 => ?_) (fun c4 => ?_)
      · rw [if_pos c4] at h
        obtain rfl := Option.some.inj h
        exact KX ls (lv_sub hl [] rfl)
      · rw [if_neg c4] at h
        refine w_aload_n hx hb dX10_copies_11 rfl (lv_at hl 2 rfl) ?_
        refine w_iload_n hx hb dX10_copies_12 rfl (lv_at hl 3 rfl) ?_
        refine w_iload hx hb dX10_copies_13 (lv_at hl 4 rfl) ?_
        refine w_iadd hx hb dX10_copies_15 ?_
        refine w_aload_n hx hb dX10_copies_16 rfl (lv_at hl 0 rfl) ?_
        refine w_iload_n hx hb dX10_copies_17 rfl (lv_at hl 1 rfl) ?_
        refine w_iload hx hb dX10_copies_18 (lv_at hl 4 rfl) ?_
        refine w_iadd hx hb dX10_copies_20 ?_
        obtain ⟨v5, ev5, h⟩ := v_bnd h
        refine v_iald hx hb hK ev5 dX10_copies_21 ?_
        obtain ⟨M6, eM6, h⟩ := v_bnd h
        refine v_iast hx hb hK eM6 dX10_copies_22 ?_
        refine w_iinc (v := x4 + 1) (lv' := [(4, .int (x4 + 1)), (0, .ref x0), (1, .int x1), (2, .ref x2), (3, .int x3)]) hx hb dX10_copies_23 hl (j := 4) rfl rfl (by decide) rfl (fun ls hl => ?_)
        have hl : lv_has ls 5 [(0, .ref x0), (1, .int x1), (2, .ref x2), (3, .int x3), (4, .int (x4 + 1))] := lv_sub hl [1, 2, 3, 4, 0] rfl
        refine w_goto (tgt := 3) hx hb dX10_copies_26 (by decide) ?_
        exact ih (x4 + 1) M6 ls z (lv_sub hl [0, 1, 2, 3, 4] rfl) h KX
  refine w_iconst (v := 0) hx hb dX10_copies_0 (by decide) ?_
  refine w_istore (lv' := [(4, .int 0), (0, .ref x0), (1, .int x1), (2, .ref x2), (3, .int x3)]) hx hb dX10_copies_1 hl (by decide) rfl (fun ls hl => ?_)
  have hl : lv_has ls 5 [(0, .ref x0), (1, .int x1), (2, .ref x2), (3, .int x3), (4, .int 0)] := lv_sub hl [1, 2, 3, 4, 0] rfl
  obtain ⟨z7, ez7, h⟩ := v_bnd h
  refine X10_copies_L3p x0 x1 x2 x3 vF 0 M ls z7 (lv_sub hl [0, 1, 2, 3, 4] rfl) ez7 (fun ls hl => ?_)
  obtain rfl := Option.some.inj h
  rw [hQ]
  exact v_vret hx hb hr hlk dX10_copies_29

def tX10_thrown (x0 : Nat) (M : vMe) : Option Int32 :=
  (gI M x0 12 0).bind fun v1 =>
  some v1
def rmX10_thrown : Room := { frames := 1, cells := 0, slots := 0, locals := 0 }
set_option maxHeartbeats 4000000 in
set_option maxRecDepth 100000 in
theorem mX10_thrown (l : Launch) (hfl : l.stackTraces = false) (D : vD) (x0 : Nat) (M : vMe) (z : Int32) (h : tX10_thrown x0 M = some z) : Met l yX10_thrown (Cond.code yX10_thrown cX10_thrown 1 (some .int) :: TB) rmX10_thrown (va_Pc [.ref x0] (vPre D M)) (qW D (some (.int z)) M) 0 0 (vA D) := by
  refine v_ofW (cc := cX10_thrown) (maxL := 1) (ret := (some .int)) (by decide) (Nat.le_of_ble_eq_true rfl) ?_
  intro p e s m args below meth c Q hx hb hr hml hown hts hlk hnm hSS hR0 hQ ls hl
  have hK := hSS.1
  have hl : lv_has ls 1 [(0, .ref x0)] := hl
  unfold tX10_thrown at h
  refine w_aload_n hx hb dX10_thrown_0 rfl (lv_at hl 0 rfl) ?_
  obtain ⟨v1, ev1, h⟩ := v_bnd h
  refine v_gI (ci := 11) hx hb hts iwX10 hown hK 0 ev1 rfl (by decide) (Or.inl (hts _ kw1335)) (fun _ h9 => h9) dX10_thrown_1 ?_
  obtain rfl := Option.some.inj h
  rw [hQ]
  exact v_iret hx hb hr hlk dX10_thrown_4

def tX10_lay (x0 : Nat) (x1 : Int32) (x2 : Int32) (x3 : Int32) (M : vMe) : Option (Unit × vMe) :=
  if (M.1 x0).1 = 12 then
  ((tX10_sets x0 x1 (6 + x3) x2 M).bind fun z1 =>
  if (z1.2.1 x0).1 = 12 then
  ((tX10_sets x0 x1 (70 + x2) x3 z1.2).bind fun z2 =>
  (gA z2.2 x0 12 1).bind fun a3 =>
  (aI z2.2 a3 101 5).bind fun v4 =>
  (sA z2.2 a3 101 5 (.int (v4 + 2))).bind fun M5 =>
  some ((), M5))
else none)
else none
def rmX10_lay : Room := { frames := 2, cells := 0, slots := 0, locals := 23 }
set_option maxHeartbeats 4000000 in
set_option maxRecDepth 100000 in
theorem mX10_lay (l : Launch) (hfl : l.stackTraces = false) (D : vD) (x0 : Nat) (x1 : Int32) (x2 : Int32) (x3 : Int32) (M : vMe) (z : (Unit × vMe)) (h : tX10_lay x0 x1 x2 x3 M = some z) : Met l yX10_lay (Cond.code yX10_lay cX10_lay 4 none :: TB) rmX10_lay (va_Pc [.ref x0, .int x1, .int x2, .int x3] (vPre D M)) (qW D none z.2) 0 0 (vA D) := by
  refine v_ofW (cc := cX10_lay) (maxL := 4) (ret := none) (by decide) (Nat.le_of_ble_eq_true rfl) ?_
  intro p e s m args below meth c Q hx hb hr hml hown hts hlk hnm hSS hR0 hQ ls hl
  have hK := hSS.1
  have hl : lv_has ls 4 [(0, .ref x0), (1, .int x1), (2, .int x2), (3, .int x3)] := hl
  unfold tX10_lay at h
  refine w_aload_n hx hb dX10_lay_0 rfl (lv_at hl 0 rfl) ?_
  refine w_iload_n hx hb dX10_lay_1 rfl (lv_at hl 1 rfl) ?_
  refine w_bipush (v := 6) hx hb dX10_lay_2 (by decide) ?_
  refine w_iload_n hx hb dX10_lay_4 rfl (lv_at hl 3 rfl) ?_
  refine w_iadd hx hb dX10_lay_5 ?_
  refine w_iload_n hx hb dX10_lay_6 rfl (lv_at hl 2 rfl) ?_
  obtain ⟨g8, h⟩ := v_ifs h
  obtain ⟨z1, ez1, h⟩ := v_bnd h
  refine v_call0 (M1 := z1.2) (mc := 0) (ms := 0) (fun H locs hR hS => va_runV (As := [.int x1, .int (6 + x3), .int x2]) (rest := []) ⟨hx, hb, hml, hown, hts⟩ (mX10_sets l hfl D x0 x1 (6 + x3) x2 M z1 ez1) (cwV 3 hts (gdV kw1505 kw1507 kw46 kw85 kw1508) rfl rfl rfl (by decide +kernel) ⟨Nat.le_of_ble_eq_true rfl, Nat.le_of_ble_eq_true rfl⟩) (v_preV (ci := 11) hSS hR hS g8 (by decide) rfl [.int x1, .int (6 + x3), .int x2]) rfl rfl hl.1 rfl (lv_room (Nat.le_of_ble_eq_true rfl)) dX10_lay_7 ⟨Nat.zero_le _, Nat.zero_le _⟩) ?_
  refine w_aload_n hx hb dX10_lay_10 rfl (lv_at hl 0 rfl) ?_
  refine w_iload_n hx hb dX10_lay_11 rfl (lv_at hl 1 rfl) ?_
  refine w_bipush (v := 70) hx hb dX10_lay_12 (by decide) ?_
  refine w_iload_n hx hb dX10_lay_14 rfl (lv_at hl 2 rfl) ?_
  refine w_iadd hx hb dX10_lay_15 ?_
  refine w_iload_n hx hb dX10_lay_16 rfl (lv_at hl 3 rfl) ?_
  obtain ⟨g8, h⟩ := v_ifs h
  obtain ⟨z2, ez2, h⟩ := v_bnd h
  refine v_call0 (M1 := z2.2) (mc := 0) (ms := 0) (fun H locs hR hS => va_runV (As := [.int x1, .int (70 + x2), .int x3]) (rest := []) ⟨hx, hb, hml, hown, hts⟩ (mX10_sets l hfl D x0 x1 (70 + x2) x3 z1.2 z2 ez2) (cwV 3 hts (gdV kw1505 kw1507 kw46 kw85 kw1508) rfl rfl rfl (by decide +kernel) ⟨Nat.le_of_ble_eq_true rfl, Nat.le_of_ble_eq_true rfl⟩) (v_preV (ci := 11) hSS hR hS g8 (by decide) rfl [.int x1, .int (70 + x2), .int x3]) rfl rfl hl.1 rfl (lv_room (Nat.le_of_ble_eq_true rfl)) dX10_lay_17 ⟨Nat.zero_le _, Nat.zero_le _⟩) ?_
  refine w_aload_n hx hb dX10_lay_20 rfl (lv_at hl 0 rfl) ?_
  obtain ⟨a3, ea3, h⟩ := v_bnd h
  refine v_gA (ci := 11) hx hb hts iwX10 hown hK 1 ea3 rfl (by decide) (Or.inl (hts _ kw1336)) (fun _ h9 => h9) dX10_lay_21 ?_
  refine w_iconst (v := 5) hx hb dX10_lay_24 (by decide) ?_
  refine w_dup2_11 hx hb dX10_lay_25 rfl rfl ?_
  obtain ⟨v4, ev4, h⟩ := v_bnd h
  refine v_iald hx hb hK ev4 dX10_lay_26 ?_
  refine w_iconst (v := 2) hx hb dX10_lay_27 (by decide) ?_
  refine w_iadd hx hb dX10_lay_28 ?_
  obtain ⟨M5, eM5, h⟩ := v_bnd h
  refine v_iast hx hb hK eM5 dX10_lay_29 ?_
  obtain rfl := Option.some.inj h
  rw [hQ]
  exact v_vret hx hb hr hlk dX10_lay_30
