section
variable {M : vMe} {b u hz s : Nat} {E F : Nat → Nat → Value}
/-! a number put in a place -/
def puL (E : Nat → Nat → Value) (s x p : Nat) : Nat → Nat → Value := pu (pu (pu E (2 + 8 * s + (0 + 1)) p (.int (Int32.ofNat x))) (2 + 8 * s + (1 + 1)) x (.int (Int32.ofNat p))) 0 4 (.int (gt E 0 4 + 2))
theorem puL_ok {x p : Nat} (h : eOk M b E) (hs : s < 5) : eOk M b (puL E s x p) := eOk_pu (eOk_pu (eOk_pu h (eFrR hs (by omega))) (eFrR hs (by omega))) (eFr0 (by omega))
theorem e_put {x p : Nat} (h : eOk M b E) (hs : s < 5) (hx : x < 64) (hp : p < 64) : tX12_put b (b + (2 + 8 * s)) (Int32.ofNat x) (Int32.ofNat p) (ew M b E) = some ((), ew M b (puL E s x p)) := by
  have o1 := eOk_pu (k := p) (v := .int (Int32.ofNat x)) h (eFrR (j := 0) hs (by omega))
  have o2 := eOk_pu (k := x) (v := .int (Int32.ofNat p)) o1 (eFrR (j := 1) hs (by omega))
  rw [tX12_put, e_bA h hs (by omega), Option.bind_some, e_mS h hs (by omega) hp, Option.bind_some, e_bA o1 hs (by omega), Option.bind_some, e_mS o1 hs (by omega) hx, Option.bind_some, e_I0, Option.bind_some, gt_ne (by omega), gt_ne (by omega), e_S0 o2, Option.bind_some]
  rfl
/-- the law's set before the event of a number that comes -/
def adB (E : Nat → Nat → Value) (s x m : Nat) : Nat → Nat → Value := pu (pu (pu (puL E s x m) (2 + 8 * s) 0 (.int (Int32.ofNat (m + 1)))) 0 3 (.int (gt E 0 3 + 1))) (2 + 8 * s + (2 + 1)) x (.int (gt E 0 3 + 1))
def adE (E : Nat → Nat → Value) (s x m N : Nat) : Nat → Nat → Value := ntE (adB E s x m) s N (gt E 0 3 + 1) (Int32.ofNat x) 0 (bvE (nt1 (adB E s x m) s N (gt E 0 3 + 1) (Int32.ofNat x) 0) s (m + 1))
theorem adB_ok {x m : Nat} (h : eOk M b E) (hs : s < 5) : eOk M b (adB E s x m) := eOk_pu (eOk_pu (eOk_pu (puL_ok h hs) (eFrB hs (by omega))) (eFr0 (by omega))) (eFrR hs (by omega))
theorem e_add {x m N : Nat} (h : eOk M b E) (hs : s < 5) (hF : F 1 = eR E) (hO : okS F u hz s) (hu : u ≤ 64) (hx : x < 64) (hm : oS F s 0 = Int32.ofNat m) (hm64 : m < 64) (hN : gt E (2 + 8 * s) 2 = Int32.ofNat N) (hN2 : N < 2000) (hM : ¬ isM F s x) :
    tX12_add b (b + (2 + 8 * s)) (Int32.ofNat x) (ew M b E) = some ((), ew M b (adE E s x m N)) := by
  have o1 : eOk M b (puL E s x m) := puL_ok h hs
  have o2 : eOk M b (pu (puL E s x m) (2 + 8 * s) 0 (.int (Int32.ofNat (m + 1)))) := eOk_pu o1 (eFrB hs (by omega))
  have o3 : eOk M b (pu (pu (puL E s x m) (2 + 8 * s) 0 (.int (Int32.ofNat (m + 1)))) 0 3 (.int (gt E 0 3 + 1))) := eOk_pu o2 (eFr0 (by omega))
  have o4 : eOk M b (adB E s x m) := adB_ok h hs
  have g0 : gt E (2 + 8 * s) 0 = Int32.ofNat m := (R_0 hF hs).symm.trans hm
  have g1 : gt (puL E s x m) (2 + 8 * s) 0 = Int32.ofNat m := by unfold puL; rw [gt_ne (by omega), gt_ne (by omega), gt_ne (by omega), g0]
  have g2 : gt (pu (puL E s x m) (2 + 8 * s) 0 (.int (Int32.ofNat (m + 1)))) 0 3 = gt E 0 3 := by unfold puL; rw [gt_ne (by omega), gt_ne (by omega), gt_ne (by omega), gt_ne (by omega)]
  have g3 : gt (pu (pu (puL E s x m) (2 + 8 * s) 0 (.int (Int32.ofNat (m + 1)))) 0 3 (.int (gt E 0 3 + 1))) 0 3 = gt E 0 3 + 1 := gt_eq _ _ _
  have g4 : gt (adB E s x m) 0 3 = gt E 0 3 + 1 := by unfold adB; rw [gt_ne (by omega)]; exact g3
  have g5 : gt (adB E s x m) (2 + 8 * s) 2 = Int32.ofNat N := by unfold adB puL; rw [gt_ne (by omega), gt_ne (by omega), gt_ne (by omega), gt_ne (by omega), gt_ne (by omega), gt_ne (by omega), hN]
  have g6 : gt (nt1 (adB E s x m) s N (gt E 0 3 + 1) (Int32.ofNat x) 0) (2 + 8 * s) 0 = Int32.ofNat (m + 1) := by
    unfold nt1 adB; rw [gt_ne (by omega), gt_ne (by omega), gt_ne (by omega), gt_ne (by omega), gt_ne (by omega), gt_ne (by omega), gt_eq]
  have hn := e_note (M := M) (b := b) (st := gt E 0 3 + 1) (x := Int32.ofNat x) (k := 0) o4 hs g5 hN2 (e_bits (nt1_ok o4 hs) hs g6 (by omega))
  rw [tX12_add, if_pos (e_tB hs), (e_has h hs hF hO hu hx).2 hM, Option.bind_some, if_pos rfl, e_bI hs, Option.bind_some, if_pos e_t0, g0, e_put h hs hx hm64, Option.bind_some, e_bI hs, Option.bind_some, g1, n_succ, e_bV o1 hs, Option.bind_some,
    e_I0, Option.bind_some, g2, e_S0 o2, Option.bind_some, e_bA o3 hs (by omega), Option.bind_some, e_I0, Option.bind_some, g3, e_mS o3 hs (by omega) hx, Option.bind_some]
  rw [show pu (pu (pu (puL E s x m) (2 + 8 * s) 0 (.int (Int32.ofNat (m + 1)))) 0 3 (.int (gt E 0 3 + 1))) (2 + 8 * s + (2 + 1)) x (.int (gt E 0 3 + 1)) = adB E s x m from rfl]
  rw [e_I0, Option.bind_some, if_pos (e_tB hs), g4, hn, Option.bind_some]
  rfl
theorem e_add_no {x : Nat} (h : eOk M b E) (hs : s < 5) (hF : F 1 = eR E) (hO : okS F u hz s) (hu : u ≤ 64) (hx : x < 64) (hM : isM F s x) : tX12_add b (b + (2 + 8 * s)) (Int32.ofNat x) (ew M b E) = some ((), ew M b E) := by
  rw [tX12_add, if_pos (e_tB hs), (e_has h hs hF hO hu hx).1 hM, Option.bind_some, if_neg n10]
end
