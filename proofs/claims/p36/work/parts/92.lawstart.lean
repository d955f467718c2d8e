/-! THE LAW'S START: what the tables and the start say, as the static world and the memory -/
abbrev z_T : Cond := Jvm.Cond.and given_1 narrow_1
/-- a part of what the start says, by the way to it -/
def z_sub (c : Cond) : List Bool → Cond
  | [] => c
  | d :: p => match c with
    | .and a b => z_sub (if d = true then b else a) p
    | _ => c
theorem z_subB {args : Array Value} {s : State} : ∀ (p : List Bool) (T : Cond), T.before args s = true → (z_sub T p).before args s = true := by
  intro p
  induction p with
  | nil => intro T h; exact h
  | cons d p ih =>
    intro T h
    cases T with
    | and a b =>
      rw [Cond.before_and, Bool.and_eq_true] at h
      cases d with
      | true => exact ih b h.2
      | false => exact ih a h.1
    | _ => exact h
def z_in (w : Cond) : Prop := ∃ p, z_sub z_T p = w
theorem z_px {L : List Cond} {P : List (List Bool)} (h : L = P.map (z_sub z_T)) : ∀ w ∈ L, z_in w := by
  intro w hw
  rw [h] at hw
  obtain ⟨p, -, e⟩ := List.mem_map.mp hw
  exact ⟨p, e⟩
theorem z_pm {α : Type} {f : α → Cond} {L : List α} {P : List (List Bool)} (h : L.map f = P.map (z_sub z_T)) : ∀ q ∈ L, z_in (f q) := fun q hq => z_px h _ (List.mem_map_of_mem hq)
theorem z_ix {α : Type} (f : α → Cond) (L : List α) (ix : List Nat) {big : List Cond} (h : (L.map f).map some = ix.map (fun i => big[i]?)) : ∀ q ∈ L, f q ∈ big := by
  intro q hq
  have h1 : some (f q) ∈ (L.map f).map some := List.mem_map_of_mem (List.mem_map_of_mem hq)
  rw [h] at h1
  obtain ⟨i, -, hi⟩ := List.mem_map.mp h1
  exact List.mem_of_getElem? hi
theorem z_nf : ∀ q ∈ vNF, Cond.fieldLinkNest q.1 q.2.1 q.2.2.1 q.2.2.2.1 q.2.2.2.2.1 q.2.2.2.2.2 ∈ lw_tbl := z_ix (fun q : String × Nat × String × String × String × String => Cond.fieldLinkNest q.1 q.2.1 q.2.2.1 q.2.2.2.1 q.2.2.2.2.1 q.2.2.2.2.2) vNF [75, 76, 95, 140, 142, 144, 146, 148, 166, 167, 169, 170, 172, 173, 175, 176, 178, 180, 181, 183, 184, 206, 207, 209, 210, 212, 214, 215, 217, 218, 220, 222, 223, 225, 226, 245, 246, 248, 250, 252, 253, 255, 257, 258, 260, 261, 263, 265, 325, 326, 327, 328, 330, 332, 333, 335, 336, 338, 339, 340, 342, 344, 346, 348, 373, 374, 375, 377, 379, 380, 382, 384, 386, 825, 828, 1124, 1125, 1126, 1127, 1128, 1130, 1131, 1132, 1134, 1135, 1137, 1138, 1140] (by decide +kernel)
theorem z_nm : ∀ q ∈ vNM, Cond.methodLinkNest q.1 q.2.1 q.2.2.1 q.2.2.2 ∈ lw_tbl := z_ix (fun q : String × Nat × MethodName × String => Cond.methodLinkNest q.1 q.2.1 q.2.2.1 q.2.2.2) vNM [70, 86, 105, 129, 135, 201, 313, 320, 1119] (by decide +kernel)
theorem z_st : ∀ q ∈ vStr, Cond.stringRef q.1 q.2.1 q.2.2 ∈ lw_tbl := z_ix (fun q : String × Nat × String => Cond.stringRef q.1 q.2.1 q.2.2) vStr [1269, 1274, 1287, 1105, 1166, 1210, 442, 1056, 1179, 1224, 1324, 588, 784, 884, 916, 949, 1001, 1002, 1011, 164, 589, 661, 684, 685, 710] (by decide +kernel)
theorem z_sx : ∀ q ∈ vStr, z_in (Cond.exactly (.string q.1 q.2.1) "java/lang/String") := z_pm (f := fun q : String × Nat × String => Cond.exactly (.string q.1 q.2.1) "java/lang/String") (P := [[true, true, true, false, true, false, true, false, false, false], [true, true, true, false, true, true, true, false, false, false], [true, true, true, true, false, false, true, false, false, true, true], [true, true, false, true, false, false, false, true, true, true, true], [true, true, false, true, false, true, false, true, true, false], [true, true, false, true, true, true, true, false, false, false], [true, false, true, true, false, true, true, true, false, true, false], [true, true, false, false, true, true, false, true, true, true, false], [true, true, false, true, true, false, false, true, true, false], [true, true, true, false, false, true, false, false, false, true], [true, true, true, true, false, true, true, false, true, false], [true, false, true, true, true, false, false, false, true, true, true], [true, true, false, false, false, false, false, false, true, true, false], [true, true, false, false, false, true, false, true, false, true, false], [true, true, false, false, false, true, true, false, true, false], [true, true, false, false, false, true, true, true, true, true, false], [true, true, false, false, true, false, false, true, false, false], [true, true, false, false, true, false, true, false, true, true, false], [true, true, false, false, true, true, false, false, false, true], [true, false, true, true, false, true, true, false, true, false], [true, false, true, true, true, false, false, true, true, true, false], [true, false, true, true, true, false, true, false, true, false], [true, false, true, true, true, false, true, true, true, true, true], [true, false, true, true, true, true, false, true, false, true, false], [true, false, true, true, true, true, true, true, false, false]]) (by decide +kernel)
theorem z_tl : ∀ q ∈ vTok, Cond.laysStatic RX6 q "LTwinSets$Token;" ∈ lw_tbl := by decide +kernel
theorem z_tx : ∀ q ∈ vTok, z_in (Cond.exactly (.static RX6 q "LTwinSets$Token;") RX6) := z_pm (f := fun q : String => Cond.exactly (.static RX6 q "LTwinSets$Token;") RX6) (P := [[true, false, true, false, false, true, true, false, false, false], [true, false, true, false, false, true, true, false, false, true, true], [true, false, true, false, false, true, true, false, true, true, false], [true, false, true, false, false, true, false, true, true, true, false], [true, false, true, false, false, true, false, true, false, true, true]]) (by decide +kernel)
theorem z_to : ∀ i ∈ [0, 1, 2, 3, 4], z_in (Cond.eq (.field (.static RX6 (vTok.getD i "") "LTwinSets$Token;") "java/lang/Enum" "ordinal" "I") (.int (Int32.ofNat i))) := z_pm (f := fun i : Nat => Cond.eq (.field (.static RX6 (vTok.getD i "") "LTwinSets$Token;") "java/lang/Enum" "ordinal" "I") (.int (Int32.ofNat i))) (P := [[true, false, true, false, false, true, true, false, false, true, false], [true, false, true, false, false, true, true, false, true, false], [true, false, true, false, false, true, true, false, true, true, true], [true, false, true, false, false, true, false, true, true, true, true], [true, false, true, false, false, true, false, true, true, false]]) (by decide +kernel)
theorem z_ca : ∀ i, i < 3 → Cond.castable (vE i) (vE i) ∈ lw_tbl := by decide +kernel
theorem z_ao : ∀ C ∈ vAO, Cond.arrayOver (.object C) ∈ lw_tbl := by decide +kernel
theorem z_dc : ∀ C ∈ vDc, Cond.declares (Bundle.initS C) ∈ lw_tbl := by decide +kernel
/-- what the start says of a String constant with text l -/
def z_ws (t : Term) (l : List Nat) : List Cond := [.exactly t "java/lang/String", .eq (.field t "java/lang/String" "coder" "B") (.int 0), .arrayOf (.field t "java/lang/String" "value" "[B") .byte, .eq (.length (.field t "java/lang/String" "value" "[B")) (.int (Int32.ofNat l.length)), .exactly (.field t "java/lang/String" "value" "[B") "[B"] ++ (List.range l.length).map fun j => .eq (.elem (.field t "java/lang/String" "value" "[B") (.int (Int32.ofNat j))) (.int (Int32.ofNat (l.getD j 0)))
def z_w : Nat → List Nat
  | 6 => [115, 101, 116, 115, 32]
  | 11 => [32]
  | 13 => [115, 101, 116, 115]
  | 14 => [115, 101, 116]
  | 15 => [97, 100, 100]
  | 16 => [114, 101, 109, 111, 118, 101]
  | 17 => [99, 108, 101, 97, 114]
  | 18 => [109, 97, 114, 107]
  | 20 => [59]
  | 21 => [115, 101, 116, 32]
  | 22 => [97, 100, 100, 32]
  | 23 => [114, 101, 109, 111, 118, 101, 32]
  | 24 => [109, 97, 114, 107, 59]
  | _ => []
def z_sx13 : List Nat := [6, 11, 13, 14, 15, 16, 17, 18, 20, 21, 22, 23, 24]
theorem z_sw6 : z_ws (.string RL 52) (z_w 6) = [[true, false, true, true, false, true, true, true, false, true, false], [true, false, true, true, false, true, true, true, false, true, true], [true, false, true, true, false, true, true, true, true, false], [true, false, true, true, false, true, true, true, true, true, false], [true, true, true, true, true, true, false, false, false, false], [true, false, true, true, false, true, true, true, true, true, true], [true, false, true, true, true, false, false, false, false, false], [true, false, true, true, true, false, false, false, false, true], [true, false, true, true, true, false, false, false, true, false], [true, false, true, true, true, false, false, false, true, true, false]].map (z_sub z_T) := by decide +kernel
theorem z_sw11 : z_ws (.string RL 60) (z_w 11) = [[true, false, true, true, true, false, false, false, true, true, true], [true, false, true, true, true, false, false, true, false, false], [true, false, true, true, true, false, false, true, false, true, false], [true, false, true, true, true, false, false, true, false, true, true], [true, true, true, true, true, true, false, false, false, true, false], [true, false, true, true, true, false, false, true, true, false]].map (z_sub z_T) := by decide +kernel
theorem z_sw13 : z_ws (.string RX3 38) (z_w 13) = [[true, true, false, false, false, true, false, true, false, true, false], [true, true, false, false, false, true, false, true, false, true, true], [true, true, false, false, false, true, false, true, true, false], [true, true, false, false, false, true, false, true, true, true, false], [true, true, true, true, true, true, false, true, false, true, true], [true, true, false, false, false, true, false, true, true, true, true], [true, true, false, false, false, true, true, false, false, false], [true, true, false, false, false, true, true, false, false, true, false], [true, true, false, false, false, true, true, false, false, true, true]].map (z_sub z_T) := by decide +kernel
theorem z_sw14 : z_ws (.string RX3 64) (z_w 14) = [[true, true, false, false, false, true, true, false, true, false], [true, true, false, false, false, true, true, false, true, true, false], [true, true, false, false, false, true, true, false, true, true, true], [true, true, false, false, false, true, true, true, false, false], [true, true, true, true, true, true, false, true, true, false], [true, true, false, false, false, true, true, true, false, true, false], [true, true, false, false, false, true, true, true, false, true, true], [true, true, false, false, false, true, true, true, true, false]].map (z_sub z_T) := by decide +kernel
theorem z_sw15 : z_ws (.string RX3 72) (z_w 15) = [[true, true, false, false, false, true, true, true, true, true, false], [true, true, false, false, false, true, true, true, true, true, true], [true, true, false, false, true, false, false, false, false, false], [true, true, false, false, true, false, false, false, false, true], [true, true, true, true, true, true, false, true, true, true, false], [true, true, false, false, true, false, false, false, true, false], [true, true, false, false, true, false, false, false, true, true, false], [true, true, false, false, true, false, false, false, true, true, true]].map (z_sub z_T) := by decide +kernel
theorem z_sw16 : z_ws (.string RX3 78) (z_w 16) = [[true, true, false, false, true, false, false, true, false, false], [true, true, false, false, true, false, false, true, false, true, false], [true, true, false, false, true, false, false, true, false, true, true], [true, true, false, false, true, false, false, true, true, false], [true, true, true, true, true, true, false, true, true, true, true], [true, true, false, false, true, false, false, true, true, true, false], [true, true, false, false, true, false, false, true, true, true, true], [true, true, false, false, true, false, true, false, false, false], [true, true, false, false, true, false, true, false, false, true, false], [true, true, false, false, true, false, true, false, false, true, true], [true, true, false, false, true, false, true, false, true, false]].map (z_sub z_T) := by decide +kernel
theorem z_sw17 : z_ws (.string RX3 80) (z_w 17) = [[true, true, false, false, true, false, true, false, true, true, false], [true, true, false, false, true, false, true, false, true, true, true], [true, true, false, false, true, false, true, true, false, false], [true, true, false, false, true, false, true, true, false, true, false], [true, true, true, true, true, true, true, false, false, false], [true, true, false, false, true, false, true, true, false, true, true], [true, true, false, false, true, false, true, true, true, false], [true, true, false, false, true, false, true, true, true, true, false], [true, true, false, false, true, false, true, true, true, true, true], [true, true, false, false, true, true, false, false, false, false]].map (z_sub z_T) := by decide +kernel
theorem z_sw18 : z_ws (.string RX3 85) (z_w 18) = [[true, true, false, false, true, true, false, false, false, true], [true, true, false, false, true, true, false, false, true, false], [true, true, false, false, true, true, false, false, true, true, false], [true, true, false, false, true, true, false, false, true, true, true], [true, true, true, true, true, true, true, false, false, true, false], [true, true, false, false, true, true, false, true, false, false], [true, true, false, false, true, true, false, true, false, true, false], [true, true, false, false, true, true, false, true, false, true, true], [true, true, false, false, true, true, false, true, true, false]].map (z_sub z_T) := by decide +kernel
theorem z_sw20 : z_ws (.string RL 62) (z_w 20) = [[true, false, true, true, true, false, false, true, true, true, false], [true, false, true, true, true, false, false, true, true, true, true], [true, false, true, true, true, false, true, false, false, false], [true, false, true, true, true, false, true, false, false, true, false], [true, true, true, true, true, true, false, false, false, true, true], [true, false, true, true, true, false, true, false, false, true, true]].map (z_sub z_T) := by decide +kernel
theorem z_sw21 : z_ws (.string RL 71) (z_w 21) = [[true, false, true, true, true, false, true, false, true, false], [true, false, true, true, true, false, true, false, true, true, false], [true, false, true, true, true, false, true, false, true, true, true], [true, false, true, true, true, false, true, true, false, false], [true, true, true, true, true, true, false, false, true, false], [true, false, true, true, true, false, true, true, false, true, false], [true, false, true, true, true, false, true, true, false, true, true], [true, false, true, true, true, false, true, true, true, false], [true, false, true, true, true, false, true, true, true, true, false]].map (z_sub z_T) := by decide +kernel
theorem z_sw22 : z_ws (.string RL 76) (z_w 22) = [[true, false, true, true, true, false, true, true, true, true, true], [true, false, true, true, true, true, false, false, false, false], [true, false, true, true, true, true, false, false, false, true, false], [true, false, true, true, true, true, false, false, false, true, true], [true, true, true, true, true, true, false, false, true, true, false], [true, false, true, true, true, true, false, false, true, false], [true, false, true, true, true, true, false, false, true, true, false], [true, false, true, true, true, true, false, false, true, true, true], [true, false, true, true, true, true, false, true, false, false]].map (z_sub z_T) := by decide +kernel
theorem z_sw23 : z_ws (.string RL 78) (z_w 23) = [[true, false, true, true, true, true, false, true, false, true, false], [true, false, true, true, true, true, false, true, false, true, true], [true, false, true, true, true, true, false, true, true, false], [true, false, true, true, true, true, false, true, true, true, false], [true, true, true, true, true, true, false, false, true, true, true], [true, false, true, true, true, true, false, true, true, true, true], [true, false, true, true, true, true, true, false, false, false], [true, false, true, true, true, true, true, false, false, true, false], [true, false, true, true, true, true, true, false, false, true, true], [true, false, true, true, true, true, true, false, true, false], [true, false, true, true, true, true, true, false, true, true, false], [true, false, true, true, true, true, true, false, true, true, true]].map (z_sub z_T) := by decide +kernel
theorem z_sw24 : z_ws (.string RL 102) (z_w 24) = [[true, false, true, true, true, true, true, true, false, false], [true, false, true, true, true, true, true, true, false, true, false], [true, false, true, true, true, true, true, true, false, true, true], [true, false, true, true, true, true, true, true, true, false], [true, true, true, true, true, true, false, true, false, false], [true, false, true, true, true, true, true, true, true, true, false], [true, false, true, true, true, true, true, true, true, true, true], [true, true, false, false, false, false, false, false, false, false], [true, true, false, false, false, false, false, false, false, true], [true, true, false, false, false, false, false, false, true, false]].map (z_sub z_T) := by decide +kernel
theorem z_sw : ∀ i ∈ z_sx13, ∀ w ∈ z_ws (.string ((vStr.getD i ("", 0, "")).1) ((vStr.getD i ("", 0, "")).2.1)) (z_w i), z_in w := by
  intro i hi
  simp only [z_sx13, List.mem_cons, List.not_mem_nil, or_false] at hi
  rcases hi with rfl | rfl | rfl | rfl | rfl | rfl | rfl | rfl | rfl | rfl | rfl | rfl | rfl
  · exact z_px z_sw6
  · exact z_px z_sw11
  · exact z_px z_sw13
  · exact z_px z_sw14
  · exact z_px z_sw15
  · exact z_px z_sw16
  · exact z_px z_sw17
  · exact z_px z_sw18
  · exact z_px z_sw20
  · exact z_px z_sw21
  · exact z_px z_sw22
  · exact z_px z_sw23
  · exact z_px z_sw24
theorem z_wl : ∀ i ∈ z_sx13, (z_w i).length < 65536 ∧ ∀ j, j < (z_w i).length → (z_w i).getD j 0 < 128 := by decide +kernel
theorem z_si : ∀ i ∈ z_sx13, vStr[i]? = some (vStr.getD i ("", 0, "")) := by decide +kernel
/-- what the start says of a row of bytes -/
def z_bs (t : Term) (l : List Nat) : List Cond := [.arrayOf t .byte, .eq (.length t) (.int (Int32.ofNat l.length)), .exactly t "[B"] ++ (List.range l.length).map fun j => .eq (.elem t (.int (Int32.ofNat j))) (.int (Int32.ofNat (l.getD j 0)))
def z_d1 : List Nat := [48, 49, 50, 51, 52, 53, 54, 55, 56, 57, 48, 49, 50, 51, 52, 53, 54, 55, 56, 57, 48, 49, 50, 51, 52, 53, 54, 55, 56, 57, 48, 49, 50, 51, 52, 53, 54, 55, 56, 57, 48, 49, 50, 51, 52, 53, 54, 55, 56, 57, 48, 49, 50, 51, 52, 53, 54, 55, 56, 57, 48, 49, 50, 51, 52, 53, 54, 55, 56, 57, 48, 49, 50, 51, 52, 53, 54, 55, 56, 57, 48, 49, 50, 51, 52, 53, 54, 55, 56, 57, 48, 49, 50, 51, 52, 53, 54, 55, 56, 57]
def z_d2 : List Nat := [48, 48, 48, 48, 48, 48, 48, 48, 48, 48, 49, 49, 49, 49, 49, 49, 49, 49, 49, 49, 50, 50, 50, 50, 50, 50, 50, 50, 50, 50, 51, 51, 51, 51, 51, 51, 51, 51, 51, 51, 52, 52, 52, 52, 52, 52, 52, 52, 52, 52, 53, 53, 53, 53, 53, 53, 53, 53, 53, 53, 54, 54, 54, 54, 54, 54, 54, 54, 54, 54, 55, 55, 55, 55, 55, 55, 55, 55, 55, 55, 56, 56, 56, 56, 56, 56, 56, 56, 56, 56, 57, 57, 57, 57, 57, 57, 57, 57, 57, 57]
theorem z_b1e : z_bs (.static RJ6 "DigitOnes" "[B") z_d1 = [[true, false, false, false, false, false, false, true, true, false], [true, false, false, false, false, false, false, true, true, true, false], [true, true, true, true, true, false, true, true, true, false], [true, false, false, false, false, false, false, true, true, true, true], [true, false, false, false, false, false, true, false, false, false], [true, false, false, false, false, false, true, false, false, true, false], [true, false, false, false, false, false, true, false, false, true, true], [true, false, false, false, false, false, true, false, true, false], [true, false, false, false, false, false, true, false, true, true, false], [true, false, false, false, false, false, true, false, true, true, true], [true, false, false, false, false, false, true, true, false, false], [true, false, false, false, false, false, true, true, false, true, false], [true, false, false, false, false, false, true, true, false, true, true], [true, false, false, false, false, false, true, true, true, false], [true, false, false, false, false, false, true, true, true, true, false], [true, false, false, false, false, false, true, true, true, true, true], [true, false, false, false, false, true, false, false, false, false], [true, false, false, false, false, true, false, false, false, true], [true, false, false, false, false, true, false, false, true, false], [true, false, false, false, false, true, false, false, true, true, false], [true, false, false, false, false, true, false, false, true, true, true], [true, false, false, false, false, true, false, true, false, false], [true, false, false, false, false, true, false, true, false, true, false], [true, false, false, false, false, true, false, true, false, true, true], [true, false, false, false, false, true, false, true, true, false], [true, false, false, false, false, true, false, true, true, true, false], [true, false, false, false, false, true, false, true, true, true, true], [true, false, false, false, false, true, true, false, false, false], [true, false, false, false, false, true, true, false, false, true, false], [true, false, false, false, false, true, true, false, false, true, true], [true, false, false, false, false, true, true, false, true, false], [true, false, false, false, false, true, true, false, true, true, false], [true, false, false, false, false, true, true, false, true, true, true], [true, false, false, false, false, true, true, true, false, false], [true, false, false, false, false, true, true, true, false, true, false], [true, false, false, false, false, true, true, true, false, true, true], [true, false, false, false, false, true, true, true, true, false], [true, false, false, false, false, true, true, true, true, true, false], [true, false, false, false, false, true, true, true, true, true, true], [true, false, false, false, true, false, false, false, false, false], [true, false, false, false, true, false, false, false, false, true], [true, false, false, false, true, false, false, false, true, false], [true, false, false, false, true, false, false, false, true, true, false], [true, false, false, false, true, false, false, false, true, true, true], [true, false, false, false, true, false, false, true, false, false], [true, false, false, false, true, false, false, true, false, true, false], [true, false, false, false, true, false, false, true, false, true, true], [true, false, false, false, true, false, false, true, true, false], [true, false, false, false, true, false, false, true, true, true, false], [true, false, false, false, true, false, false, true, true, true, true], [true, false, false, false, true, false, true, false, false, false], [true, false, false, false, true, false, true, false, false, true, false], [true, false, false, false, true, false, true, false, false, true, true], [true, false, false, false, true, false, true, false, true, false], [true, false, false, false, true, false, true, false, true, true, false], [true, false, false, false, true, false, true, false, true, true, true], [true, false, false, false, true, false, true, true, false, false], [true, false, false, false, true, false, true, true, false, true, false], [true, false, false, false, true, false, true, true, false, true, true], [true, false, false, false, true, false, true, true, true, false], [true, false, false, false, true, false, true, true, true, true, false], [true, false, false, false, true, false, true, true, true, true, true], [true, false, false, false, true, true, false, false, false, false], [true, false, false, false, true, true, false, false, false, true], [true, false, false, false, true, true, false, false, true, false], [true, false, false, false, true, true, false, false, true, true, false], [true, false, false, false, true, true, false, false, true, true, true], [true, false, false, false, true, true, false, true, false, false], [true, false, false, false, true, true, false, true, false, true, false], [true, false, false, false, true, true, false, true, false, true, true], [true, false, false, false, true, true, false, true, true, false], [true, false, false, false, true, true, false, true, true, true, false], [true, false, false, false, true, true, false, true, true, true, true], [true, false, false, false, true, true, true, false, false, false], [true, false, false, false, true, true, true, false, false, true, false], [true, false, false, false, true, true, true, false, false, true, true], [true, false, false, false, true, true, true, false, true, false], [true, false, false, false, true, true, true, false, true, true, false], [true, false, false, false, true, true, true, false, true, true, true], [true, false, false, false, true, true, true, true, false, false], [true, false, false, false, true, true, true, true, false, true, false], [true, false, false, false, true, true, true, true, false, true, true], [true, false, false, false, true, true, true, true, true, false], [true, false, false, false, true, true, true, true, true, true, false], [true, false, false, false, true, true, true, true, true, true, true], [true, false, false, true, false, false, false, false, false, false], [true, false, false, true, false, false, false, false, false, true], [true, false, false, true, false, false, false, false, true, false], [true, false, false, true, false, false, false, false, true, true, false], [true, false, false, true, false, false, false, false, true, true, true], [true, false, false, true, false, false, false, true, false, false], [true, false, false, true, false, false, false, true, false, true, false], [true, false, false, true, false, false, false, true, false, true, true], [true, false, false, true, false, false, false, true, true, false], [true, false, false, true, false, false, false, true, true, true, false], [true, false, false, true, false, false, false, true, true, true, true], [true, false, false, true, false, false, true, false, false, false], [true, false, false, true, false, false, true, false, false, true, false], [true, false, false, true, false, false, true, false, false, true, true], [true, false, false, true, false, false, true, false, true, false], [true, false, false, true, false, false, true, false, true, true, false], [true, false, false, true, false, false, true, false, true, true, true], [true, false, false, true, false, false, true, true, false, false]].map (z_sub z_T) := by decide +kernel
theorem z_b1 : ∀ w ∈ z_bs (.static RJ6 "DigitOnes" "[B") z_d1, z_in w := z_px z_b1e
theorem z_b2e : z_bs (.static RJ6 "DigitTens" "[B") z_d2 = [[true, false, false, true, false, false, true, true, false, true, true], [true, false, false, true, false, false, true, true, true, false], [true, true, true, true, true, false, true, true, true, true, false], [true, false, false, true, false, false, true, true, true, true, false], [true, false, false, true, false, false, true, true, true, true, true], [true, false, false, true, false, true, false, false, false, false], [true, false, false, true, false, true, false, false, false, true], [true, false, false, true, false, true, false, false, true, false], [true, false, false, true, false, true, false, false, true, true, false], [true, false, false, true, false, true, false, false, true, true, true], [true, false, false, true, false, true, false, true, false, false], [true, false, false, true, false, true, false, true, false, true, false], [true, false, false, true, false, true, false, true, false, true, true], [true, false, false, true, false, true, false, true, true, false], [true, false, false, true, false, true, false, true, true, true, false], [true, false, false, true, false, true, false, true, true, true, true], [true, false, false, true, false, true, true, false, false, false], [true, false, false, true, false, true, true, false, false, true, false], [true, false, false, true, false, true, true, false, false, true, true], [true, false, false, true, false, true, true, false, true, false], [true, false, false, true, false, true, true, false, true, true, false], [true, false, false, true, false, true, true, false, true, true, true], [true, false, false, true, false, true, true, true, false, false], [true, false, false, true, false, true, true, true, false, true, false], [true, false, false, true, false, true, true, true, false, true, true], [true, false, false, true, false, true, true, true, true, false], [true, false, false, true, false, true, true, true, true, true, false], [true, false, false, true, false, true, true, true, true, true, true], [true, false, false, true, true, false, false, false, false, false], [true, false, false, true, true, false, false, false, false, true], [true, false, false, true, true, false, false, false, true, false], [true, false, false, true, true, false, false, false, true, true, false], [true, false, false, true, true, false, false, false, true, true, true], [true, false, false, true, true, false, false, true, false, false], [true, false, false, true, true, false, false, true, false, true, false], [true, false, false, true, true, false, false, true, false, true, true], [true, false, false, true, true, false, false, true, true, false], [true, false, false, true, true, false, false, true, true, true, false], [true, false, false, true, true, false, false, true, true, true, true], [true, false, false, true, true, false, true, false, false, false], [true, false, false, true, true, false, true, false, false, true, false], [true, false, false, true, true, false, true, false, false, true, true], [true, false, false, true, true, false, true, false, true, false], [true, false, false, true, true, false, true, false, true, true, false], [true, false, false, true, true, false, true, false, true, true, true], [true, false, false, true, true, false, true, true, false, false], [true, false, false, true, true, false, true, true, false, true, false], [true, false, false, true, true, false, true, true, false, true, true], [true, false, false, true, true, false, true, true, true, false], [true, false, false, true, true, false, true, true, true, true, false], [true, false, false, true, true, false, true, true, true, true, true], [true, false, false, true, true, true, false, false, false, false], [true, false, false, true, true, true, false, false, false, true, false], [true, false, false, true, true, true, false, false, false, true, true], [true, false, false, true, true, true, false, false, true, false], [true, false, false, true, true, true, false, false, true, true, false], [true, false, false, true, true, true, false, false, true, true, true], [true, false, false, true, true, true, false, true, false, false], [true, false, false, true, true, true, false, true, false, true, false], [true, false, false, true, true, true, false, true, false, true, true], [true, false, false, true, true, true, false, true, true, false], [true, false, false, true, true, true, false, true, true, true, false], [true, false, false, true, true, true, false, true, true, true, true], [true, false, false, true, true, true, true, false, false, false], [true, false, false, true, true, true, true, false, false, true, false], [true, false, false, true, true, true, true, false, false, true, true], [true, false, false, true, true, true, true, false, true, false], [true, false, false, true, true, true, true, false, true, true, false], [true, false, false, true, true, true, true, false, true, true, true], [true, false, false, true, true, true, true, true, false, false], [true, false, false, true, true, true, true, true, false, true, false], [true, false, false, true, true, true, true, true, false, true, true], [true, false, false, true, true, true, true, true, true, false], [true, false, false, true, true, true, true, true, true, true, false], [true, false, false, true, true, true, true, true, true, true, true], [true, false, true, false, false, false, false, false, false, false], [true, false, true, false, false, false, false, false, false, true], [true, false, true, false, false, false, false, false, true, false], [true, false, true, false, false, false, false, false, true, true, false], [true, false, true, false, false, false, false, false, true, true, true], [true, false, true, false, false, false, false, true, false, false], [true, false, true, false, false, false, false, true, false, true, false], [true, false, true, false, false, false, false, true, false, true, true], [true, false, true, false, false, false, false, true, true, false], [true, false, true, false, false, false, false, true, true, true, false], [true, false, true, false, false, false, false, true, true, true, true], [true, false, true, false, false, false, true, false, false, false], [true, false, true, false, false, false, true, false, false, true, false], [true, false, true, false, false, false, true, false, false, true, true], [true, false, true, false, false, false, true, false, true, false], [true, false, true, false, false, false, true, false, true, true, false], [true, false, true, false, false, false, true, false, true, true, true], [true, false, true, false, false, false, true, true, false, false], [true, false, true, false, false, false, true, true, false, true, false], [true, false, true, false, false, false, true, true, false, true, true], [true, false, true, false, false, false, true, true, true, false], [true, false, true, false, false, false, true, true, true, true, false], [true, false, true, false, false, false, true, true, true, true, true], [true, false, true, false, false, true, false, false, false, false], [true, false, true, false, false, true, false, false, false, true], [true, false, true, false, false, true, false, false, true, false], [true, false, true, false, false, true, false, false, true, true, false], [true, false, true, false, false, true, false, false, true, true, true]].map (z_sub z_T) := by decide +kernel
theorem z_b2 : ∀ w ∈ z_bs (.static RJ6 "DigitTens" "[B") z_d2, z_in w := z_px z_b2e
theorem z_dl : (z_d1.length = 100 ∧ z_d2.length = 100) ∧ ∀ i, i < 100 → z_d1.getD i 0 = 48 + i % 10 ∧ z_d2.getD i 0 = 48 + i / 10 ∧ z_d1.getD i 0 < 128 ∧ z_d2.getD i 0 < 128 := by decide +kernel
section
variable {args : Array Value} {s : State}
theorem z_ens0 (h0 : ∀ w ∈ lw_tbl, w.before args s = true) : (Cond.selects RJ4 yJ5_ensureCapacityInternal_d00df yJ5_ensureCapacityInternal_d00df).before args s = true := by
  obtain ⟨c, r, m, h1, h2, h3, h4, mk, h5, h6⟩ := Cond.selects_spec (h0 (Cond.selects RJ4 yJ5_isLatin1_aae02 yJ5_isLatin1_aae02) (List.mem_of_getElem? (i := 492) (by decide +kernel)))
  obtain ⟨m2, meth, g1, g2, -, -⟩ := Cond.instanceMethod_spec (h0 (Cond.instanceMethod yJ5_ensureCapacityInternal_d00df) (List.mem_of_getElem? (i := 456) (by decide +kernel)))
  have g3 := Cond.privateMethod_at (h0 (Cond.privateMethod yJ5_ensureCapacityInternal_d00df) (List.mem_of_getElem? (i := 455) (by decide +kernel))) m2 meth g1 g2
  have hf : s.methodFound? yJ5_ensureCapacityInternal_d00df.cls yJ5_ensureCapacityInternal_d00df.name yJ5_ensureCapacityInternal_d00df.desc = some m2 := State.methodFound?_of_named g1 (by decide +kernel)
  have n1 : s.vm.findClass RJ5 = some m2.cls := findClass_of_methodNamed g1
  have n2 : s.vm.findClass RJ5 = some m.cls := findClass_of_methodNamed h3
  have hcls : m2.cls = m.cls := Option.some.inj (n1.symm.trans n2)
  have hsel : selectMethod {} s.vm c m2 = .method m2 := selectMethod_private g2 g3
  rw [← hcls] at h5
  simp only [Cond.before, Cond.holds, Cond.value, h1, hf, g1, hsel, h5]
  first | (simp; exact h6) | simp [h6]
theorem z_ens1 (h0 : ∀ w ∈ lw_tbl, w.before args s = true) : (Cond.selects RJ4 yJ5_newCapacity_0f7a4 yJ5_newCapacity_0f7a4).before args s = true := by
  obtain ⟨c, r, m, h1, h2, h3, h4, mk, h5, h6⟩ := Cond.selects_spec (h0 (Cond.selects RJ4 yJ5_isLatin1_aae02 yJ5_isLatin1_aae02) (List.mem_of_getElem? (i := 492) (by decide +kernel)))
  obtain ⟨m2, meth, g1, g2, -, -⟩ := Cond.instanceMethod_spec (h0 (Cond.instanceMethod yJ5_newCapacity_0f7a4) (List.mem_of_getElem? (i := 460) (by decide +kernel)))
  have g3 := Cond.privateMethod_at (h0 (Cond.privateMethod yJ5_newCapacity_0f7a4) (List.mem_of_getElem? (i := 459) (by decide +kernel))) m2 meth g1 g2
  have hf : s.methodFound? yJ5_newCapacity_0f7a4.cls yJ5_newCapacity_0f7a4.name yJ5_newCapacity_0f7a4.desc = some m2 := State.methodFound?_of_named g1 (by decide +kernel)
  have n1 : s.vm.findClass RJ5 = some m2.cls := findClass_of_methodNamed g1
  have n2 : s.vm.findClass RJ5 = some m.cls := findClass_of_methodNamed h3
  have hcls : m2.cls = m.cls := Option.some.inj (n1.symm.trans n2)
  have hsel : selectMethod {} s.vm c m2 = .method m2 := selectMethod_private g2 g3
  rw [← hcls] at h5
  simp only [Cond.before, Cond.holds, Cond.value, h1, hf, g1, hsel, h5]
  first | (simp; exact h6) | simp [h6]
theorem z_ens2 (h0 : ∀ w ∈ lw_tbl, w.before args s = true) : (Cond.selects RJ4 yJ5_putStringAt_47b60 yJ5_putStringAt_47b60).before args s = true := by
  obtain ⟨c, r, m, h1, h2, h3, h4, mk, h5, h6⟩ := Cond.selects_spec (h0 (Cond.selects RJ4 yJ5_isLatin1_aae02 yJ5_isLatin1_aae02) (List.mem_of_getElem? (i := 492) (by decide +kernel)))
  obtain ⟨m2, meth, g1, g2, -, -⟩ := Cond.instanceMethod_spec (h0 (Cond.instanceMethod yJ5_putStringAt_47b60) (List.mem_of_getElem? (i := 531) (by decide +kernel)))
  have g3 := Cond.privateMethod_at (h0 (Cond.privateMethod yJ5_putStringAt_47b60) (List.mem_of_getElem? (i := 530) (by decide +kernel))) m2 meth g1 g2
  have hf : s.methodFound? yJ5_putStringAt_47b60.cls yJ5_putStringAt_47b60.name yJ5_putStringAt_47b60.desc = some m2 := State.methodFound?_of_named g1 (by decide +kernel)
  have n1 : s.vm.findClass RJ5 = some m2.cls := findClass_of_methodNamed g1
  have n2 : s.vm.findClass RJ5 = some m.cls := findClass_of_methodNamed h3
  have hcls : m2.cls = m.cls := Option.some.inj (n1.symm.trans n2)
  have hsel : selectMethod {} s.vm c m2 = .method m2 := selectMethod_private g2 g3
  rw [← hcls] at h5
  simp only [Cond.before, Cond.holds, Cond.value, h1, hf, g1, hsel, h5]
  first | (simp; exact h6) | simp [h6]
theorem z_ens3 (h0 : ∀ w ∈ lw_tbl, w.before args s = true) : (Cond.selects RJ4 yJ5_inflateIfNeededFor_a7421 yJ5_inflateIfNeededFor_a7421).before args s = true := by
  obtain ⟨c, r, m, h1, h2, h3, h4, mk, h5, h6⟩ := Cond.selects_spec (h0 (Cond.selects RJ4 yJ5_isLatin1_aae02 yJ5_isLatin1_aae02) (List.mem_of_getElem? (i := 492) (by decide +kernel)))
  obtain ⟨m2, meth, g1, g2, -, -⟩ := Cond.instanceMethod_spec (h0 (Cond.instanceMethod yJ5_inflateIfNeededFor_a7421) (List.mem_of_getElem? (i := 535) (by decide +kernel)))
  have g3 := Cond.privateMethod_at (h0 (Cond.privateMethod yJ5_inflateIfNeededFor_a7421) (List.mem_of_getElem? (i := 534) (by decide +kernel))) m2 meth g1 g2
  have hf : s.methodFound? yJ5_inflateIfNeededFor_a7421.cls yJ5_inflateIfNeededFor_a7421.name yJ5_inflateIfNeededFor_a7421.desc = some m2 := State.methodFound?_of_named g1 (by decide +kernel)
  have n1 : s.vm.findClass RJ5 = some m2.cls := findClass_of_methodNamed g1
  have n2 : s.vm.findClass RJ5 = some m.cls := findClass_of_methodNamed h3
  have hcls : m2.cls = m.cls := Option.some.inj (n1.symm.trans n2)
  have hsel : selectMethod {} s.vm c m2 = .method m2 := selectMethod_private g2 g3
  rw [← hcls] at h5
  simp only [Cond.before, Cond.holds, Cond.value, h1, hf, g1, hsel, h5]
  first | (simp; exact h6) | simp [h6]
theorem z_eqR {t u : Term} {a b : Nat} (h : (Cond.eq t u).before args s = true) (ht : t.eval args s none [] s = some (.ref a)) (hu : u.eval args s none [] s = some (.ref b)) : a = b := by
  by_cases e : a = b
  · exact e
  · simp [Cond.before, Cond.holds, Cond.value, ht, hu, e] at h
theorem z_len {t : Term} {v : Value} {a : Nat} {cell : Cell} (hv : (Term.length t).eval args s none [] s = some v) (ht : t.eval args s none [] s = some (.ref a)) (hc : s.heap[a]? = some cell) : cell.slots.size < 2147483648 := by
  obtain ⟨b, c2, h1, h2, -⟩ := Term.length_spec hv
  cases h1.symm.trans ht
  obtain ⟨h3, -⟩ := State.arrayAt?_spec h2
  cases Option.some.inj (hc.symm.trans h3)
  simp only [Term.eval, ht, h2, Option.bind_eq_bind, Option.bind_some] at hv
  by_cases hlt : cell.slots.size < 2147483648
  · exact hlt
  · simp [hlt] at hv
end
/-- a row of bytes; a String constant and its bytes -/
def zKB (D : vD) (H : Heap) (p : Nat) (l : List Nat) : Prop := ∃ c2 : Cell, H[p]? = some c2 ∧ vArr (D.2.2.1 102) l.length (fun j => .int (Int32.ofNat (l.getD j 0))) c2 ∧ l.length < 65536 ∧ ∀ i, i < l.length → l.getD i 0 < 128
def zKH (D : vD) (H : Heap) (q p : Nat) (l : List Nat) : Prop := (∃ c1 : Cell, H[q]? = some c1 ∧ c1.cls = D.1 0 ∧ c1.vm.isStatics = false ∧ c1.vm ≠ .unknown ∧ c1.slots[D.2.1 0 0]? = some (.ref p) ∧ c1.slots[D.2.1 0 1]? = some (.int 0)) ∧ zKB D H p l
theorem z_fb : ∀ n, n < 128 → fits .byte (.int (Int32.ofNat n)) = true := by decide +kernel
section
variable {D : vD} {H : Heap} {args : Array Value} {s : State}
theorem zK_mem (hne : D.1 0 ≠ D.2.2.1 102) (hD : D.2.2.2.1 = H.size) (q : Nat) : ∃ o : vOb, vAt D q o H ∧ (H.size ≤ q → o.1 = 0) ∧ (∀ p l, zKH D H q p l → ∃ S, o = (1, 0, S) ∧ S 0 = .ref p ∧ vI (S 1) = 0) ∧ ∀ l, zKB D H q l → ∃ B, o = (102, l.length, B) ∧ ∀ i, i < l.length → vI (B i) = Int32.ofNat (l.getD i 0) := by
  by_cases h1 : ∃ p l, zKH D H q p l
  · obtain ⟨p, l, ⟨c1, g1, g2, g3, g4, g5, g6⟩, c2, g7, g8, g9, g10⟩ := h1
    have hq : q < H.size := (Array.getElem?_eq_some_iff.mp g1).1
    refine ⟨(1, 0, fun k => if k = 0 then .ref p else .int 0), ⟨fun _ _ => ⟨(RJ0, TJ0, 2), rfl, ⟨c1, g1, g2, ⟨g3, g4, fun h => absurd (show D.2.2.2.1 ≤ q from h) (by omega)⟩, fun k hk => ?_⟩, fun k hk => ?_⟩, fun h => absurd (show 100 < 1 from h) (by omega)⟩, fun h => absurd h (by omega), fun p' l' h' => ?_, fun l' h' => ?_⟩
    · rcases (show k = 0 ∨ k = 1 by have : k < 2 := hk; omega) with rfl | rfl
      · exact g5
      · exact g6
    · rcases (show k = 0 ∨ k = 1 by have : k < 2 := hk; omega) with rfl | rfl
      · rfl
      · first | rfl | exact z_fb 0 (by decide)
    · obtain ⟨⟨c1', k1, k2, k3, k4, k5, -⟩, -⟩ := h'
      cases Option.some.inj (g1.symm.trans k1)
      cases Option.some.inj (g5.symm.trans k5)
      exact ⟨_, rfl, rfl, rfl⟩
    · obtain ⟨c2', k7, k8, -⟩ := h'
      cases Option.some.inj (g1.symm.trans k7)
      exact absurd (g2.symm.trans k8.1) hne
  · by_cases h2 : ∃ l, zKB D H q l
    · obtain ⟨l, c2, g7, g8, g9, g10⟩ := h2
      have hq : q < H.size := (Array.getElem?_eq_some_iff.mp g7).1
      refine ⟨(102, l.length, fun j => .int (Int32.ofNat (l.getD j 0))), vAt_arr g7 g8 (by decide) (by decide) (by omega) (fun j hj => z_fb _ (g10 j hj)), fun h => absurd h (by omega), fun p' l' h' => absurd ⟨p', l', h'⟩ h1, fun l' h' => ?_⟩
      obtain ⟨c2', k7, k8, -, -⟩ := h'
      cases Option.some.inj (g7.symm.trans k7)
      have hlen : l'.length = l.length := k8.2.2.2.1.symm.trans g8.2.2.2.1
      refine ⟨fun j => .int (Int32.ofNat (l.getD j 0)), by rw [hlen], fun i hi => ?_⟩
      exact Value.int.inj (Option.some.inj ((g8.2.2.2.2 i (by omega)).symm.trans (k8.2.2.2.2 i hi)))
    · exact ⟨(0, 0, fun _ => .null), ⟨fun h => absurd h (Nat.lt_irrefl 0), fun h => absurd (show 100 < 0 from h) (by omega)⟩, fun _ => rfl, fun p l h => absurd ⟨p, l, h⟩ h1, fun l h => absurd ⟨l, h⟩ h2⟩
theorem zKB_of {t : Term} {l : List Nat} (hK : vK D s) (hw : ∀ w ∈ z_bs t l, w.before args s = true) (hl : l.length < 65536) (hl2 : ∀ i, i < l.length → l.getD i 0 < 128) : ∃ p, t.eval args s none [] s = some (.ref p) ∧ zKB D s.heap p l ∧ p < s.heap.size := by
  have har := hw (.arrayOf t .byte) (List.mem_append_left _ (List.mem_of_getElem? (i := 0) rfl))
  have hle := hw (.eq (.length t) (.int (Int32.ofNat l.length))) (List.mem_append_left _ (List.mem_of_getElem? (i := 1) rfl))
  have hexa := hw (.exactly t "[B") (List.mem_append_left _ (List.mem_of_getElem? (i := 2) rfl))
  have hel : ∀ j : Nat, j < l.length → (Cond.eq (.elem t (.int (Int32.ofNat j))) (.int (Int32.ofNat (l.getD j 0)))).before args s = true := fun j hj => hw _ (List.mem_append_right _ (List.mem_map.mpr ⟨j, List.mem_range.mpr hj, rfl⟩))
  obtain ⟨p, cB, cellB, kB, r1, r2, r3, r4, r5, r6, -⟩ := Cond.exactly_spec hexa
  obtain ⟨p', hp', cA, t1, t2, t3, t4, t5, t6, -⟩ := va_Tof (N := l.length) (f := fun j => .int (Int32.ofNat (l.getD j 0))) (A := fun _ => False) (by omega) har (va_eqt hle) (fun j hj => va_eqt (hel j hj)) (fun _ _ h => h)
  have hsz := z_len (va_eqt hle) r1 r3
  have ep : p' = p := Value.ref.inj (Option.some.inj (hp'.symm.trans r1))
  rw [ep] at t1
  have ec : cA = cellB := Option.some.inj (t1.symm.trans r3)
  rw [ec] at t2 t3 t4 t5 t6
  have hbyte : s.vm.findClass "[B" = some (D.2.2.1 102) := by
    have := (hK.2 102 (by decide) (by decide)).2
    have h2 : s.vm.findClass ("[" ++ (FieldType.byte).toString) = some (D.2.2.1 102) := this
    rw [show "[" ++ (FieldType.byte).toString = "[B" by first | rfl | decide | decide +kernel] at h2
    exact h2
  have hsz2 : cellB.slots.size = l.length := by
    have h9 : (Int32.ofNat cellB.slots.size).toNatClampNeg = (Int32.ofNat l.length).toNatClampNeg := congrArg _ t5
    rw [n_clamp (show cellB.slots.size < 2147483648 from hsz), n_clamp (show l.length < 2147483648 by omega)] at h9
    exact h9
  exact ⟨p, r1, ⟨cellB, r3, ⟨r6.trans (Option.some.inj (r2.symm.trans hbyte)), (fun z h => by rw [h] at r5; cases r5), t3, hsz2, fun j hj => t6 j hj⟩, hl, hl2⟩, (Array.getElem?_eq_some_iff.mp r3).1⟩
theorem zK_of {t : Term} {l : List Nat} (hK : vK D s) (hw : ∀ w ∈ z_ws t l, w.before args s = true) (hl : l.length < 65536) (hl2 : ∀ i, i < l.length → l.getD i 0 < 128) {q : Nat} (hq : t.eval args s none [] s = some (.ref q)) : ∃ p, zKH D s.heap q p l ∧ q < s.heap.size ∧ p < s.heap.size := by
  have hex := hw (.exactly t "java/lang/String") (List.mem_append_left _ (List.mem_of_getElem? (i := 0) rfl))
  have hco := hw (.eq (.field t "java/lang/String" "coder" "B") (.int 0)) (List.mem_append_left _ (List.mem_of_getElem? (i := 1) rfl))
  have har := hw (.arrayOf (.field t "java/lang/String" "value" "[B") .byte) (List.mem_append_left _ (List.mem_of_getElem? (i := 2) rfl))
  have hle := hw (.eq (.length (.field t "java/lang/String" "value" "[B")) (.int (Int32.ofNat l.length))) (List.mem_append_left _ (List.mem_of_getElem? (i := 3) rfl))
  have hexa := hw (.exactly (.field t "java/lang/String" "value" "[B") "[B") (List.mem_append_left _ (List.mem_of_getElem? (i := 4) rfl))
  have hel : ∀ j : Nat, j < l.length → (Cond.eq (.elem (.field t "java/lang/String" "value" "[B") (.int (Int32.ofNat j))) (.int (Int32.ofNat (l.getD j 0)))).before args s = true := fun j hj => hw _ (List.mem_append_right _ (List.mem_map.mpr ⟨j, List.mem_range.mpr hj, rfl⟩))
  obtain ⟨a, c, cell, k, q1, q2, q3, q4, q5, q6, -⟩ := Cond.exactly_spec hex
  have ea : a = q := Value.ref.inj (Option.some.inj (q1.symm.trans hq))
  rw [ea] at q1 q3
  obtain ⟨p, cB, cellB, kB, r1, r2, r3, r4, r5, r6, -⟩ := Cond.exactly_spec hexa
  obtain ⟨hSl, hcl, -⟩ := hK.1 0 (RJ0, TJ0, 2) rfl
  have hcl' : s.vm.findClass "java/lang/String" = some (D.1 0) := hcl
  obtain ⟨cf, kf, fi, f, cl1, e1, -, e2, e3, e4, -⟩ := vk_OFof (A := fun _ => False) q1 r1 (fun _ _ h => h)
  obtain ⟨cf', kf', fi', f', e1', e5⟩ := hSl 0 (by decide)
  have e1'' : s.fieldFound? "java/lang/String" "value" "[B" = some (cf', kf', fi', f') := e1'
  cases Option.some.inj (e1.symm.trans e1'')
  have ec1 : cl1 = cell := Option.some.inj (e2.symm.trans q3)
  rw [ec1] at e3 e4
  obtain ⟨df, dk, di, dg, cl2, d1, -, d2, d3, d4, -⟩ := vk_OFof (A := fun _ => False) q1 (va_eqt hco) (fun _ _ h => h)
  obtain ⟨df', dk', di', dg', d1', d5⟩ := hSl 1 (by decide)
  have d1'' : s.fieldFound? "java/lang/String" "coder" "B" = some (df', dk', di', dg') := d1'
  cases Option.some.inj (d1.symm.trans d1'')
  have ec2 : cl2 = cell := Option.some.inj (d2.symm.trans q3)
  rw [ec2] at d4
  obtain ⟨p', hp', cA, t1, t2, t3, t4, t5, t6, -⟩ := va_Tof (N := l.length) (f := fun j => .int (Int32.ofNat (l.getD j 0))) (A := fun _ => False) (by omega) har (va_eqt hle) (fun j hj => va_eqt (hel j hj)) (fun _ _ h => h)
  have hsz := z_len (va_eqt hle) r1 r3
  have ep : p' = p := Value.ref.inj (Option.some.inj (hp'.symm.trans r1))
  rw [ep] at t1
  have ec : cA = cellB := Option.some.inj (t1.symm.trans r3)
  rw [ec] at t2 t3 t4 t5 t6
  have hbyte : s.vm.findClass "[B" = some (D.2.2.1 102) := by
    have := (hK.2 102 (by decide) (by decide)).2
    have h2 : s.vm.findClass ("[" ++ (FieldType.byte).toString) = some (D.2.2.1 102) := this
    rw [show "[" ++ (FieldType.byte).toString = "[B" by first | rfl | decide | decide +kernel] at h2
    exact h2
  have hsz2 : cellB.slots.size = l.length := by
    have h9 : (Int32.ofNat cellB.slots.size).toNatClampNeg = (Int32.ofNat l.length).toNatClampNeg := congrArg _ t5
    rw [n_clamp (show cellB.slots.size < 2147483648 from hsz), n_clamp (show l.length < 2147483648 by omega)] at h9
    exact h9
  exact ⟨p, ⟨⟨cell, q3, q6.trans (Option.some.inj (q2.symm.trans hcl')), q5, e3, by rw [← e5]; exact e4, by rw [← d5]; exact d4⟩, cellB, r3, ⟨r6.trans (Option.some.inj (r2.symm.trans hbyte)), (fun z h => by rw [h] at r5; cases r5), t3, hsz2, fun j hj => t6 j hj⟩, hl, hl2⟩, (Array.getElem?_eq_some_iff.mp q3).1, (Array.getElem?_eq_some_iff.mp r3).1⟩
theorem zK_T {M0 : Nat → vOb} (hM : ∀ q, (∀ p l, zKH D H q p l → ∃ S, M0 q = (1, 0, S) ∧ S 0 = .ref p ∧ vI (S 1) = 0) ∧ ∀ l, zKB D H q l → ∃ B, M0 q = (102, l.length, B) ∧ ∀ i, i < l.length → vI (B i) = Int32.ofNat (l.getD i 0)) {q p : Nat} {l : List Nat} (h : zKH D H q p l) (hq : q < H.size) (hp : p < H.size) : sK M0 H.size q l := by
  obtain ⟨S, g1, g2, g3⟩ := (hM q).1 p l h
  obtain ⟨B, g4, g5⟩ := (hM p).2 l h.2
  obtain ⟨-, c2, -, -, g9, g10⟩ := h
  exact ⟨p, ⟨S, B, g1, g2, g3, g4, g9, fun i hi => ⟨g5 i hi, g10 i hi⟩⟩, hq, hp⟩
end
section
variable {args : Array Value} {s : State}
theorem z_cls (h0 : ∀ w ∈ lw_tbl, w.before args s = true) (hts : ∀ w ∈ TB, w.before args s = true) (c : Nat) : ∃ y : ClassId × (Nat → Nat), ∀ q : vw_C, vCl[c]? = some q → u_Kn s q.1 q.2.1 q.2.2 y.1 y.2 := by
  by_cases hc : 14 ≤ c
  · exact ⟨(0, fun _ => 0), fun q hq => by
      have := (List.getElem?_eq_some_iff.mp hq).1
      exact absurd this (Nat.not_lt.mpr hc)⟩
  rcases (show c = 0 ∨ c = 1 ∨ c = 2 ∨ c = 3 ∨ c = 4 ∨ c = 5 ∨ c = 6 ∨ c = 7 ∨ c = 8 ∨ c = 9 ∨ c = 10 ∨ c = 11 ∨ c = 12 ∨ c = 13 by omega) with rfl | rfl | rfl | rfl | rfl | rfl | rfl | rfl | rfl | rfl | rfl | rfl | rfl | rfl
  · obtain ⟨cC, iS, h⟩ := u_known (C := RJ0) (T := TJ0) (N := 2) (n := 4) hts iwJ0 (h0 (Cond.instantiable RJ0 4) (List.mem_of_getElem? (i := 595) (by decide +kernel)))
    exact ⟨(cC, iS), fun q hq => by cases Option.some.inj hq; exact h⟩
  · obtain ⟨cC, iS, h⟩ := u_known (C := RJ4) (T := TJ4) (N := 4) (n := 4) hts iwJ4 (h0 (Cond.instantiable RJ4 4) (List.mem_of_getElem? (i := 412) (by decide +kernel)))
    exact ⟨(cC, iS), fun q hq => by cases Option.some.inj hq; exact h⟩
  · obtain ⟨cC, iS, h⟩ := u_known (C := RX0) (T := TX0) (N := 8) (n := 8) hts iwX0 (h0 (Cond.instantiable RX0 8) (List.mem_of_getElem? (i := 200) (by decide +kernel)))
    exact ⟨(cC, iS), fun q hq => by cases Option.some.inj hq; exact h⟩
  · obtain ⟨cC, iS, h⟩ := u_known (C := RX1) (T := TX1) (N := 2) (n := 2) hts iwX1 (h0 (Cond.instantiable RX1 2) (List.mem_of_getElem? (i := 69) (by decide +kernel)))
    exact ⟨(cC, iS), fun q hq => by cases Option.some.inj hq; exact h⟩
  · obtain ⟨cC, iS, h⟩ := u_known (C := RX2) (T := TX2) (N := 6) (n := 6) hts iwX2 (h0 (Cond.instantiable RX2 6) (List.mem_of_getElem? (i := 134) (by decide +kernel)))
    exact ⟨(cC, iS), fun q hq => by cases Option.some.inj hq; exact h⟩
  · obtain ⟨cC, iS, h⟩ := u_known (C := RX3) (T := TX3) (N := 9) (n := 9) hts iwX3 (h0 (Cond.instantiable RX3 9) (List.mem_of_getElem? (i := 811) (by decide +kernel)))
    exact ⟨(cC, iS), fun q hq => by cases Option.some.inj hq; exact h⟩
  · obtain ⟨cC, iS, h⟩ := u_known (C := RX4) (T := TX4) (N := 2) (n := 2) hts iwX4 (h0 (Cond.instantiable RX4 2) (List.mem_of_getElem? (i := 104) (by decide +kernel)))
    exact ⟨(cC, iS), fun q hq => by cases Option.some.inj hq; exact h⟩
  · obtain ⟨cC, iS, h⟩ := u_known (C := RX5) (T := TX5) (N := 9) (n := 9) hts iwX5 (h0 (Cond.instantiable RX5 9) (List.mem_of_getElem? (i := 119) (by decide +kernel)))
    exact ⟨(cC, iS), fun q hq => by cases Option.some.inj hq; exact h⟩
  · obtain ⟨cC, iS, h⟩ := u_known (C := RX7) (T := TX7) (N := 7) (n := 7) hts iwX7 (h0 (Cond.instantiable RX7 7) (List.mem_of_getElem? (i := 128) (by decide +kernel)))
    exact ⟨(cC, iS), fun q hq => by cases Option.some.inj hq; exact h⟩
  · obtain ⟨cC, iS, h⟩ := u_known (C := RX8) (T := TX8) (N := 3) (n := 3) hts iwX8 (h0 (Cond.instantiable RX8 3) (List.mem_of_getElem? (i := 85) (by decide +kernel)))
    exact ⟨(cC, iS), fun q hq => by cases Option.some.inj hq; exact h⟩
  · obtain ⟨cC, iS, h⟩ := u_known (C := RX9) (T := TX9) (N := 6) (n := 6) hts iwX9 (h0 (Cond.instantiable RX9 6) (List.mem_of_getElem? (i := 61) (by decide +kernel)))
    exact ⟨(cC, iS), fun q hq => by cases Option.some.inj hq; exact h⟩
  · obtain ⟨cC, iS, h⟩ := u_known (C := RX10) (T := TX10) (N := 10) (n := 10) hts iwX10 (h0 (Cond.instantiable RX10 10) (List.mem_of_getElem? (i := 319) (by decide +kernel)))
    exact ⟨(cC, iS), fun q hq => by cases Option.some.inj hq; exact h⟩
  · obtain ⟨cC, iS, h⟩ := u_known (C := RX11) (T := TX11) (N := 8) (n := 8) hts iwX11 (h0 (Cond.instantiable RX11 8) (List.mem_of_getElem? (i := 1118) (by decide +kernel)))
    exact ⟨(cC, iS), fun q hq => by cases Option.some.inj hq; exact h⟩
  · obtain ⟨cC, iS, h⟩ := u_known (C := RX12) (T := TX12) (N := 9) (n := 9) hts iwX12 (h0 (Cond.instantiable RX12 9) (List.mem_of_getElem? (i := 312) (by decide +kernel)))
    exact ⟨(cC, iS), fun q hq => by cases Option.some.inj hq; exact h⟩
theorem z_arrP (ty : FieldType) (h : (Cond.arrayClass ty).before args s = true) : ∃ cA : ClassId, ArrOfT s cA ty ∧ s.vm.findClass ("[" ++ ty.toString) = some cA := by
  obtain ⟨c, k, comp, h1, h2, h3⟩ := Cond.arrayClass_spec h
  exact ⟨c, fun n z => ⟨(fun q e => by cases e), k, h2, comp, h3⟩, h1⟩
theorem z_arrO (C : String) (h : (Cond.arrayOver (.object C)).before args s = true) : ∃ cA : ClassId, ArrOfT s cA (.object C) ∧ va_RA s cA (.object C) := by
  obtain ⟨comp, c, k, h1, -, h2, h3, h4⟩ := Cond.arrayOver_spec h
  exact ⟨c, fun n z => ⟨(fun q e => by cases e), k, h2, comp, h3⟩, k, comp, h2, h3, h1, h4⟩
theorem z_arr (h0 : ∀ w ∈ lw_tbl, w.before args s = true) (t : Nat) : ∃ cA : ClassId, 100 < t → t < 111 → ArrOfT s cA (vAty t) ∧ va_RA s cA (vAty t) := by
  by_cases ht : 100 < t ∧ t < 111
  case neg => exact ⟨0, fun a b => absurd ⟨a, b⟩ ht⟩
  rcases (show t = 101 ∨ t = 102 ∨ t = 103 ∨ t = 104 ∨ t = 105 ∨ t = 106 ∨ t = 107 ∨ t = 108 ∨ t = 109 ∨ t = 110 by omega) with rfl | rfl | rfl | rfl | rfl | rfl | rfl | rfl | rfl | rfl
  · obtain ⟨cA, h1, h2⟩ := z_arrP .int (h0 (Cond.arrayClass .int) (List.mem_of_getElem? (i := 163) (by decide +kernel)))
    exact ⟨cA, fun _ _ => ⟨h1, h2⟩⟩
  · obtain ⟨cA, h1, h2⟩ := z_arrP .byte (h0 (Cond.arrayClass .byte) (List.mem_of_getElem? (i := 83) (by decide +kernel)))
    exact ⟨cA, fun _ _ => ⟨h1, h2⟩⟩
  · obtain ⟨cA, h1, h2⟩ := z_arrP .boolean (h0 (Cond.arrayClass .boolean) (List.mem_of_getElem? (i := 117) (by decide +kernel)))
    exact ⟨cA, fun _ _ => ⟨h1, h2⟩⟩
  · obtain ⟨cA, h1, h2⟩ := z_arrP .long (h0 (Cond.arrayClass .long) (List.mem_of_getElem? (i := 370) (by decide +kernel)))
    exact ⟨cA, fun _ _ => ⟨h1, h2⟩⟩
  · obtain ⟨cA, h1, h2⟩ := z_arrP .int (h0 (Cond.arrayClass .int) (List.mem_of_getElem? (i := 163) (by decide +kernel)))
    exact ⟨cA, fun _ _ => ⟨h1, h2⟩⟩
  · obtain ⟨cA, h1, h2⟩ := z_arrO RX5 (h0 (Cond.arrayOver (.object RX5)) (List.mem_of_getElem? (i := 91) (by decide +kernel)))
    exact ⟨cA, fun _ _ => ⟨h1, h2⟩⟩
  · obtain ⟨cA, h1, h2⟩ := z_arrO RX7 (h0 (Cond.arrayOver (.object RX7)) (List.mem_of_getElem? (i := 125) (by decide +kernel)))
    exact ⟨cA, fun _ _ => ⟨h1, h2⟩⟩
  · obtain ⟨cA, h1, h2⟩ := z_arrO RX0 (h0 (Cond.arrayOver (.object RX0)) (List.mem_of_getElem? (i := 127) (by decide +kernel)))
    exact ⟨cA, fun _ _ => ⟨h1, h2⟩⟩
  · obtain ⟨cA, h1, h2⟩ := z_arrO RX10 (h0 (Cond.arrayOver (.object RX10)) (List.mem_of_getElem? (i := 318) (by decide +kernel)))
    exact ⟨cA, fun _ _ => ⟨h1, h2⟩⟩
  · obtain ⟨cA, h1, h2⟩ := z_arrO RX11 (h0 (Cond.arrayOver (.object RX11)) (List.mem_of_getElem? (i := 372) (by decide +kernel)))
    exact ⟨cA, fun _ _ => ⟨h1, h2⟩⟩
theorem l_world (h0 : ∀ w ∈ lw_tbl, w.before args s = true) (hg : (Jvm.Cond.and given_1 narrow_1).before args s = true) : (∀ w ∈ TB, w.before args s = true) ∧ ∃ (D : vD) (M : vMe), D.2.2.2.1 = s.heap.size ∧ M.2.1 = s.heap.size ∧ M.2.2.2 = s.heap.size ∧ vS D s ∧ vRp D M s.heap ∧ stK M.1 s.heap.size D.2.2.2.2 := by
  have hts : ∀ w ∈ TB, w.before args s = true := fun w hw => (List.mem_cons.mp hw).elim (fun e => e ▸ z_ens0 h0) (fun h => (List.mem_cons.mp h).elim (fun e => e ▸ z_ens1 h0) (fun h => (List.mem_cons.mp h).elim (fun e => e ▸ z_ens2 h0) (fun h => (List.mem_cons.mp h).elim (fun e => e ▸ z_ens3 h0) (fun h => h0 w (List.mem_filter.mp h).1))))
  refine ⟨hts, ?_⟩
  have hs : ∀ w, z_in w → w.before args s = true := fun w ⟨p, e⟩ => e ▸ z_subB p _ hg
  obtain ⟨f, hf⟩ := Classical.axiomOfChoice (z_cls h0 hts)
  obtain ⟨g, hgA⟩ := Classical.axiomOfChoice (z_arr h0)
  have hstr : ∀ i : Nat, ∃ a : Nat, ∀ q, vStr[i]? = some q → (Term.string q.1 q.2.1).eval args s none [] s = some (.ref a) := fun i => by
    cases hi : vStr[i]? with
    | none => exact ⟨0, fun q hq => by cases hq⟩
    | some q =>
      obtain ⟨a, c, cell, k, q1, -⟩ := Cond.exactly_spec (hs _ (z_sx q (List.mem_of_getElem? hi)))
      exact ⟨a, fun q' hq => by cases Option.some.inj hq; exact q1⟩
  have htok : ∀ i : Nat, ∃ a : Nat, ∀ q, vTok[i]? = some q → (Term.static RX6 q "LTwinSets$Token;").eval args s none [] s = some (.ref a) := fun i => by
    cases hi : vTok[i]? with
    | none => exact ⟨0, fun q hq => by cases hq⟩
    | some q =>
      obtain ⟨a, c, cell, k, q1, -⟩ := Cond.exactly_spec (hs _ (z_tx q (List.mem_of_getElem? hi)))
      exact ⟨a, fun q' hq => by cases Option.some.inj hq; exact q1⟩
  obtain ⟨G1, hG1⟩ := Classical.axiomOfChoice hstr
  obtain ⟨G2, hG2⟩ := Classical.axiomOfChoice htok
  obtain ⟨e1, he1⟩ : ∃ a : Nat, (Term.static RJ6 "DigitOnes" "[B").eval args s none [] s = some (.ref a) := by
    obtain ⟨a, c, cell, k, q1, -⟩ := Cond.exactly_spec (hs (.exactly (.static RJ6 "DigitOnes" "[B") "[B") (z_b1 _ (List.mem_append_left _ (List.mem_of_getElem? (i := 2) rfl))))
    exact ⟨a, q1⟩
  obtain ⟨e2, he2⟩ : ∃ a : Nat, (Term.static RJ6 "DigitTens" "[B").eval args s none [] s = some (.ref a) := by
    obtain ⟨a, c, cell, k, q1, -⟩ := Cond.exactly_spec (hs (.exactly (.static RJ6 "DigitTens" "[B") "[B") (z_b2 _ (List.mem_append_left _ (List.mem_of_getElem? (i := 2) rfl))))
    exact ⟨a, q1⟩
  obtain ⟨G, gA, gB, gC, gD⟩ : ∃ G : Nat → Nat, (∀ i, i < 100 → G i = G1 i) ∧ (∀ i, i < 100 → G (100 + i) = G2 i) ∧ G 201 = e1 ∧ G 202 = e2 := ⟨fun i => if i < 100 then G1 i else if i < 200 then G2 (i - 100) else if i = 201 then e1 else e2, fun i hi => if_pos hi, fun i hi => by
    show (if 100 + i < 100 then _ else if 100 + i < 200 then G2 (100 + i - 100) else _) = _
    rw [if_neg (by omega), if_pos (by omega), Nat.add_sub_cancel_left], rfl, rfl⟩
  obtain ⟨D, dA, dB, dC, dD, dE⟩ : ∃ D : vD, D.1 = (fun c => (f c).1) ∧ D.2.1 = (fun c => (f c).2) ∧ D.2.2.1 = g ∧ D.2.2.2.1 = s.heap.size ∧ D.2.2.2.2 = G := ⟨(fun c => (f c).1, fun c => (f c).2, g, s.heap.size, G), rfl, rfl, rfl, rfl, rfl⟩
  have hK : vK D s := ⟨fun c q hq => by rw [dA, dB]; exact hf c q hq, fun t h1 h2 => by rw [dC]; exact hgA t h1 h2⟩
  have hA : ∀ a : Nat, a < s.heap.size → ¬ vA D a := fun a ha h => absurd (show D.2.2.2.1 ≤ a from h) (by omega)
  have sv : ∀ i q, vStr[i]? = some q → (Term.string q.1 q.2.1).eval args s none [] s = some (.ref (D.2.2.2.2 i)) := fun i q hq => by
    have hi : i < 25 := (List.getElem?_eq_some_iff.mp hq).1
    rw [dE, gA i (by omega)]
    exact hG1 i q hq
  have tv : ∀ i q, vTok[i]? = some q → (Term.static RX6 q "LTwinSets$Token;").eval args s none [] s = some (.ref (D.2.2.2.2 (100 + i))) := fun i q hq => by
    have hi : i < 5 := (List.getElem?_eq_some_iff.mp hq).1
    rw [dE, gB i (by omega)]
    exact hG2 i q hq
  have iT := h0 (Cond.initialized Bundle.tN) (List.mem_of_getElem? (i := 49) (by decide +kernel))
  have hSS : vS D s := by
    refine ⟨hK, ⟨vx_Zqof (h0 (Cond.laysStatic Bundle.tN "UNASSIGNED_STACK" Bundle.steD) (List.mem_of_getElem? (i := 770) (by decide +kernel))) iT (hs _ ⟨[true, false, true, false, false, true, false, true, false, false], by decide +kernel⟩) hA, vx_Zqof (h0 (Cond.laysStatic Bundle.tN "SUPPRESSED_SENTINEL" Bundle.listD) (List.mem_of_getElem? (i := 772) (by decide +kernel))) iT (hs _ ⟨[true, false, true, false, false, true, false, true, false, true, false], by decide +kernel⟩) hA⟩, fun i q hq => vk_R.of (h0 _ (z_st q (List.mem_of_getElem? hq))) (sv i q hq), fun i q hq => va_Zof (h0 _ (z_tl q (List.mem_of_getElem? hq))) (h0 (Cond.initialized RX6) (List.mem_of_getElem? (i := 55) (by decide +kernel))) (tv i q hq) hA, va_Zof (h0 (Cond.laysStatic RJ0 "COMPACT_STRINGS" "Z") (List.mem_of_getElem? (i := 421) (by decide +kernel))) (h0 (Cond.initialized RJ0) (List.mem_of_getElem? (i := 39) (by decide +kernel))) (va_eqt (hs _ ⟨[true, false, false, false, false, false, false, false, true, false], by decide +kernel⟩)) hA, fun i q hq => va_Nw.of rfl (h0 _ (z_nf q (List.mem_of_getElem? hq))), fun i q hq => va_Nw.of rfl (h0 _ (z_nm q (List.mem_of_getElem? hq))), va_Zqof (h0 (Cond.laysStatic RJ3 "SIOOBE_FORMATTER" "Ljava/util/function/BiFunction;") (List.mem_of_getElem? (i := 507) (by decide +kernel))) (h0 (Cond.initialized RJ3) (List.mem_of_getElem? (i := 45) (by decide +kernel))) (hs _ ⟨[true, false, false, false, false, false, false, false, true, true, false], by decide +kernel⟩) hA, fun i hi => va_Nw.of rfl (h0 _ (z_ca i hi)), trivial, fun i C hC => va_AO.of (h0 _ (z_ao C (List.mem_of_getElem? hC))), fun i C hC => va_Nw.of rfl (h0 _ (z_dc C (List.mem_of_getElem? hC))), va_Zof (h0 (Cond.laysStatic RJ6 "DigitOnes" "[B") (List.mem_of_getElem? (i := 577) (by decide +kernel))) (h0 (Cond.initialized RJ6) (List.mem_of_getElem? (i := 48) (by decide +kernel))) (by rw [dE, gC]; exact he1) hA, va_Zof (h0 (Cond.laysStatic RJ6 "DigitTens" "[B") (List.mem_of_getElem? (i := 579) (by decide +kernel))) (h0 (Cond.initialized RJ6) (List.mem_of_getElem? (i := 48) (by decide +kernel))) (by rw [dE, gD]; exact he2) hA, va_Nw.of rfl (h0 (Cond.castable "[B" "java/lang/Cloneable") (List.mem_of_getElem? (i := 481) (by decide +kernel)))⟩
  have hne : D.1 0 ≠ D.2.2.1 102 := by
    intro e
    obtain ⟨-, -, kC, k1, k2⟩ := hK.1 0 (RJ0, TJ0, 2) rfl
    obtain ⟨-, kA, k3, comp, k4⟩ := (hK.2 102 (by decide) (by decide)).1 0 (fun _ => .null)
    have k3' : s.vm.classes[D.2.2.1 102]? = some kA := k3
    rw [← e] at k3'
    cases Option.some.inj (k1.symm.trans k3')
    rw [k2] at k4
    cases k4
  obtain ⟨M0, hM0⟩ := Classical.axiomOfChoice (zK_mem (H := s.heap) hne dD)
  have hM2 : ∀ q, (∀ p l, zKH D s.heap q p l → ∃ S, M0 q = (1, 0, S) ∧ S 0 = .ref p ∧ vI (S 1) = 0) ∧ ∀ l, zKB D s.heap q l → ∃ B, M0 q = (102, l.length, B) ∧ ∀ i, i < l.length → vI (B i) = Int32.ofNat (l.getD i 0) := fun q => (hM0 q).2.2
  have b1 : ∀ i ∈ z_sx13, sK M0 s.heap.size (D.2.2.2.2 i) (z_w i) := fun i hi => by
    obtain ⟨p, h1, h2, h3⟩ := zK_of hK (fun w hw => hs w (z_sw i hi w hw)) (z_wl i hi).1 (z_wl i hi).2 (sv i _ (z_si i hi))
    exact zK_T hM2 h1 h2 h3
  refine ⟨D, (M0, s.heap.size, vSum s.heap.size s.heap, s.heap.size), dD, rfl, rfl, hSS, ⟨fun q => (hM0 q).1, rfl, by rw [dD], dD.symm, by omega, fun q hq => (hM0 q).2.1 hq⟩, ?_, ?_, ⟨b1 6 (by decide), b1 11 (by decide), b1 20 (by decide), b1 21 (by decide), b1 22 (by decide), b1 23 (by decide), b1 24 (by decide)⟩, b1 13 (by decide), b1 14 (by decide), b1 15 (by decide), b1 16 (by decide), b1 17 (by decide), b1 18 (by decide)⟩
  · intro i j hi hj e
    have ti := tv i (vTok.getD i "") (by rcases (show i = 0 ∨ i = 1 ∨ i = 2 ∨ i = 3 ∨ i = 4 by omega) with rfl | rfl | rfl | rfl | rfl <;> rfl)
    have tj := tv j (vTok.getD j "") (by rcases (show j = 0 ∨ j = 1 ∨ j = 2 ∨ j = 3 ∨ j = 4 by omega) with rfl | rfl | rfl | rfl | rfl <;> rfl)
    have oi := va_eqt (hs _ (z_to i (by simp only [List.mem_cons, List.not_mem_nil, or_false]; omega)))
    have oj := va_eqt (hs _ (z_to j (by simp only [List.mem_cons, List.not_mem_nil, or_false]; omega)))
    rw [← e] at tj
    have ee : (Term.field (.static RX6 (vTok.getD i "") "LTwinSets$Token;") "java/lang/Enum" "ordinal" "I").eval args s none [] s = (Term.field (.static RX6 (vTok.getD j "") "LTwinSets$Token;") "java/lang/Enum" "ordinal" "I").eval args s none [] s := by
      simp only [Term.eval] at ti tj ⊢
      rw [ti, tj]
    rw [oi, oj] at ee
    have e3 : Int32.ofNat i = Int32.ofNat j := by simpa using ee
    exact (n_eq (by omega) (by omega)).mp e3
  · obtain ⟨p1, g1, g2, g3⟩ := zKB_of hK (fun w hw => hs w (z_b1 w hw)) (by rw [z_dl.1.1]; omega) (fun i hi => (z_dl.2 i (by rw [z_dl.1.1] at hi; exact hi)).2.2.1)
    obtain ⟨p2, k1, k2, k3⟩ := zKB_of hK (fun w hw => hs w (z_b2 w hw)) (by rw [z_dl.1.2]; omega) (fun i hi => (z_dl.2 i (by rw [z_dl.1.2] at hi; exact hi)).2.2.2)
    have q1 : D.2.2.2.2 201 = p1 := by rw [dE, gC]; exact Value.ref.inj (Option.some.inj (he1.symm.trans g1))
    have q2 : D.2.2.2.2 202 = p2 := by rw [dE, gD]; exact Value.ref.inj (Option.some.inj (he2.symm.trans k1))
    obtain ⟨B1, m1, m2⟩ := (hM2 p1).2 _ g2
    obtain ⟨B2, n1, n2⟩ := (hM2 p2).2 _ k2
    rw [z_dl.1.1] at m1 m2
    rw [z_dl.1.2] at n1 n2
    exact ⟨⟨by rw [q1]; exact g3, by rw [q2]; exact k3⟩, B1, B2, by rw [q1]; exact m1, by rw [q2]; exact n1, fun i hi => ⟨by rw [m2 i hi, (z_dl.2 i hi).1], by rw [n2 i hi, (z_dl.2 i hi).2.1]⟩⟩
end
theorem kz0 : Cond.classLink RL 18 RX9 ∈ TB := mTB (List.mem_of_getElem? (i := 60) (by decide +kernel)) rfl
theorem kz1 : Cond.instantiable RX9 6 ∈ TB := mTB (List.mem_of_getElem? (i := 61) (by decide +kernel)) rfl
theorem kz2 : Cond.methodLink RL 25 yX9_init ∈ TB := mTB (List.mem_of_getElem? (i := 62) (by decide +kernel)) rfl
theorem kz3 : Cond.instanceMethod yX9_init ∈ TB := mTB (List.mem_of_getElem? (i := 63) (by decide +kernel)) rfl
theorem kz5 : Cond.methodLink RL 26 yL_plays ∈ TB := mTB (List.mem_of_getElem? (i := 308) (by decide +kernel)) rfl
theorem kz6 : Cond.static yL_plays ∈ TB := mTB (List.mem_of_getElem? (i := 309) (by decide +kernel)) rfl
theorem kz4 : Cond.code yX9_init cX9_init 1 none ∈ TB := mTB (List.mem_of_getElem? (i := 64) (by decide +kernel)) rfl
theorem kz7 : Cond.code yL_plays cL_plays 9 (some .boolean) ∈ TB := mTB (List.mem_of_getElem? (i := 310) (by decide +kernel)) rfl
theorem kz8 : Cond.arrayClass .int ∈ TB := mTB (List.mem_of_getElem? (i := 163) (by decide +kernel)) rfl
theorem kz9 : Cond.initialized RL ∈ TB := mTB (List.mem_of_getElem? (i := 26) (by decide +kernel)) rfl
theorem kz10 : Cond.initialized RX9 ∈ TB := mTB (List.mem_of_getElem? (i := 27) (by decide +kernel)) rfl
theorem dL_law_0 : decode cL_law 0 = .ok (.new 18, 3) := by decide +kernel
theorem dL_law_3 : decode cL_law 3 = .ok (.dup, 1) := by decide +kernel
theorem dL_law_4 : decode cL_law 4 = .ok (.invokespecial 25, 3) := by decide +kernel
theorem dL_law_7 : decode cL_law 7 = .ok (.astore_n 1, 1) := by decide +kernel
theorem dL_law_8 : decode cL_law 8 = .ok (.aload_n 0, 1) := by decide +kernel
theorem dL_law_9 : decode cL_law 9 = .ok (.arraylength, 1) := by decide +kernel
theorem dL_law_10 : decode cL_law 10 = .ok (.istore_n 2, 1) := by decide +kernel
theorem dL_law_11 : decode cL_law 11 = .ok (.iconst 0, 1) := by decide +kernel
theorem dL_law_12 : decode cL_law 12 = .ok (.istore_n 3, 1) := by decide +kernel
theorem dL_law_13 : decode cL_law 13 = .ok (.iload_n 3, 1) := by decide +kernel
theorem dL_law_14 : decode cL_law 14 = .ok (.iload_n 2, 1) := by decide +kernel
theorem dL_law_15 : decode cL_law 15 = .ok (.if_icmp .ge 32, 3) := by decide +kernel
theorem dL_law_18 : decode cL_law 18 = .ok (.iload_n 3, 1) := by decide +kernel
theorem dL_law_19 : decode cL_law 19 = .ok (.iconst 3, 1) := by decide +kernel
theorem dL_law_20 : decode cL_law 20 = .ok (.if_icmp .ge 27, 3) := by decide +kernel
theorem dL_law_23 : decode cL_law 23 = .ok (.aload_n 1, 1) := by decide +kernel
theorem dL_law_24 : decode cL_law 24 = .ok (.iconst 1, 1) := by decide +kernel
theorem dL_law_25 : decode cL_law 25 = .ok (.newarray .int, 2) := by decide +kernel
theorem dL_law_27 : decode cL_law 27 = .ok (.dup, 1) := by decide +kernel
theorem dL_law_28 : decode cL_law 28 = .ok (.iconst 0, 1) := by decide +kernel
theorem dL_law_29 : decode cL_law 29 = .ok (.aload_n 0, 1) := by decide +kernel
theorem dL_law_30 : decode cL_law 30 = .ok (.iload_n 3, 1) := by decide +kernel
theorem dL_law_31 : decode cL_law 31 = .ok (.iaload, 1) := by decide +kernel
theorem dL_law_32 : decode cL_law 32 = .ok (.iastore, 1) := by decide +kernel
theorem dL_law_33 : decode cL_law 33 = .ok (.invokestatic 26, 3) := by decide +kernel
theorem dL_law_36 : decode cL_law 36 = .ok (.ifCond .ne 5, 3) := by decide +kernel
theorem dL_law_39 : decode cL_law 39 = .ok (.iconst 0, 1) := by decide +kernel
theorem dL_law_40 : decode cL_law 40 = .ok (.ireturn, 1) := by decide +kernel
theorem dL_law_41 : decode cL_law 41 = .ok (.iinc 3 1, 3) := by decide +kernel
theorem dL_law_44 : decode cL_law 44 = .ok (.goto (-31), 3) := by decide +kernel
theorem dL_law_47 : decode cL_law 47 = .ok (.iconst 1, 1) := by decide +kernel
theorem dL_law_48 : decode cL_law 48 = .ok (.ireturn, 1) := by decide +kernel
