section
variable {M M' N : vMe} {x y r a d u hz n k : Nat} {G F C D : Nat → Nat → Value} {P : Nat → Value} {T : Nat → Nat} {len : Nat} {Gs : Nat → Nat}
theorem J143_e : tX10_parse_J143 Gs r (rv M' r F) = tX10_parse_J179 r 0 (rv M' r F) := by
  obtain ⟨f, hf⟩ : ∃ f, vF = f + 1 := ⟨vF - 1, by unfold vF; omega⟩
  rw [tX10_parse_J143, tX10_parse_J144, hf, tX10_parse_L145, if_pos rfl, Option.bind_some]
theorem L69_0 {n0 s0 f : Nat} {v : Int32} (S : pS x y d r len T G N M' P D F) (hf : 0 < f) : tX3_readText_L69 Gs n0 s0 y f 0 v N = some (0, N) := by
  obtain ⟨f, rfl⟩ : ∃ g, f = g + 1 := ⟨f - 1, by omega⟩
  have b1 := S.2.1.1
  have g1 : gI N y 6 1 = some (Int32.ofNat len) := by rw [← b1.eq, p_I, S.2.1.2.1.2]
  rw [tX3_readText_L69, g1, Option.bind_some]
  by_cases g : Int32.ofNat len ≤ v
  · rw [if_pos g]
  · rw [if_neg g, if_pos rfl]
/-- a number is asked for, read and laid, on the reference's side -/
theorem lays_ok {lo hi v z : Nat} {F2 : Nat → Nat → Value} (h : tX10_takes r (Int32.ofNat lo) (Int32.ofNat hi) (rv M' r F) = some (1, rv M' r F2)) (o : rOk M' r F2) (h13 : gt F2 0 13 = Int32.ofNat v) (hz' : z < 1952) : tX10_lays r (Int32.ofNat z) (Int32.ofNat lo) (Int32.ofNat hi) (rv M' r F) = some (1, rv M' r (pu F2 1 z (.int (Int32.ofNat v)))) := by
  rw [tX10_lays, if_pos r_tag, h, Option.bind_some, if_neg n10, rA1 o, Option.bind_some, r_gI, Option.bind_some, h13, r_nowS o hz', Option.bind_some]
theorem lays_no {lo hi z : Nat} {F2 : Nat → Nat → Value} (h : tX10_takes r (Int32.ofNat lo) (Int32.ofNat hi) (rv M' r F) = some (0, rv M' r F2)) : tX10_lays r (Int32.ofNat z) (Int32.ofNat lo) (Int32.ofNat hi) (rv M' r F) = some (0, rv M' r F2) := by
  rw [tX10_lays, if_pos r_tag, h, Option.bind_some, if_pos rfl]
/-- the first word of a text -/
theorem first_P {c p e w w' : Nat} {ws : List Nat} (S : pS x y d r len T G N M' P D F) (t : tk Gs T len P F c p e) (hd : tkD Gs) (h11 : gt F 0 11 = 0) (hc : ∃ o, tAt N w o ws) (hr : wS M' r w' ws) :
    (∃ P2 F2, tX3_passWord Gs y w N = some (0, pv N y P2) ∧ ((tX10_isWord Gs r w' (rv M' r F)).bind fun z23 => if (z23.2.1 r).1 = 12 then tX10_starts r 1 z23.1 z23.2 else none) = some (0, rv M' r F2) ∧ bad x y d r len T G N M' D F P2 F2) ∨
    (∃ P2 F2, tX3_passWord Gs y w N = some (1, pv N y P2) ∧ ((tX10_isWord Gs r w' (rv M' r F)).bind fun z23 => if (z23.2.1 r).1 = 12 then tX10_starts r 1 z23.1 z23.2 else none) = some (1, rv M' r F2) ∧ good x y d r len T G Gs N M' P D F e P2 F2) := by
  obtain ⟨o, ho⟩ := hc
  obtain ⟨a1, a2⟩ := c_isWord S t hd ho
  obtain ⟨b1, b2⟩ := r_isWord S t hr
  have tg := p_tg S
  by_cases g : c = 1 ∧ hN T p e ws
  · right
    obtain ⟨P2, F2, q1, q2, q3⟩ := next_G S t
    refine ⟨P2, F2, ?_, ?_, q3⟩
    · rw [tX3_passWord, if_pos tg, a1 g, Option.bind_some, if_neg n10, if_pos tg, q1, Option.bind_some]
    · rw [b1 g, Option.bind_some, if_pos r_tag, tX10_starts, if_neg n10, if_pos r_tag, q2, Option.bind_some]
  · left
    obtain ⟨P2, F2, q1, q2, q3⟩ := fail_B 1 S t h11
    refine ⟨P2, F2, ?_, ?_, q3⟩
    · rw [tX3_passWord, if_pos tg, a2 g, Option.bind_some, if_pos rfl, if_pos tg, q1, Option.bind_some, if_pos fz0]
    · rw [b2 g, Option.bind_some, if_pos r_tag, tX10_starts, if_pos rfl, if_pos r_tag, q2, Option.bind_some, if_pos fz0]
/-- a cell of the row now is written -/
theorem pS_now {z : Nat} {v : Value} (S : pS x y d r len T G N M' P D F) : pS x y d r len T G N M' P D (pu F 1 z v) :=
  ⟨S.1, S.2.1, S.2.2.1, ⟨pu_ok S.2.2.2.1.1 (.inl (by omega)), S.2.2.2.1.2.1.row (pu_o (by omega)), by rw [gt_ne (by omega)]; exact S.2.2.2.1.2.2⟩, S.2.2.2.2⟩
/-- a number laid, on both sides: the class goes on afterwards -/
theorem num_L {c p e lo hi z : Nat} (S : pS x y d r len T G N M' P D F) (t : tk Gs T len P F c p e) (hd : tkD Gs) (h11 : gt F 0 11 = 0) (hlo : lo < 1000) (hhi : hi < 1000) (hz' : z < 1952) :
    (∃ P2 F2, tX3_isNumber Gs y (Int32.ofNat lo) (Int32.ofNat hi) N = some (0, pv N y P2) ∧ tX10_lays r (Int32.ofNat z) (Int32.ofNat lo) (Int32.ofNat hi) (rv M' r F) = some (0, rv M' r F2) ∧ bad x y d r len T G N M' D F P2 F2) ∨
    (∃ v F2 c' p' e', lo ≤ v ∧ v ≤ hi ∧ gI N y 6 6 = some (Int32.ofNat v) ∧ tX3_isNumber Gs y (Int32.ofNat lo) (Int32.ofNat hi) N = some (1, N) ∧ tX10_lays r (Int32.ofNat z) (Int32.ofNat lo) (Int32.ofNat hi) (rv M' r F) = some (1, rv M' r F2) ∧
      pS x y d r len T G N M' P D F2 ∧ rk T len F2 e c' p' e' ∧ gt F2 0 11 = 0 ∧ (∀ l, gt F2 1 l = if l = z then Int32.ofNat v else gt F 1 l) ∧ (∀ i, i ≠ 0 → i ≠ 1 → F2 i = F i) ∧ ∀ l, l < 6 ∨ (10 < l ∧ l ≠ 13) → F2 0 l = F 0 l) := by
  rcases num_P S t hd h11 hlo hhi with ⟨P2, F2, q1, q2, q3⟩ | ⟨v, F2, c', p', e', h2, v0, v1, v2, q1, q2, q3, q4, q5, q6, q7⟩
  · exact .inl ⟨P2, F2, q1, lays_no q2, q3⟩
  · right
    refine ⟨v, pu F2 1 z (.int (Int32.ofNat v)), c', p', e', v0, v1, by rw [← S.2.1.1.eq, p_I, v2], q1, lays_ok q2 q3.2.2.2.1.1 q5 hz', pS_now q3, q4.row (fun l _ _ => by rw [pu_o (by omega)]), ?_, fun l => ?_, fun i i0 i1 => by rw [pu_o i1, q6 i i0], fun l hl => by rw [pu_ne (by omega), q7 l (by omega)]⟩
    · rw [gt_ne (by omega)]; unfold gt; rw [q7 11 (by omega)]; exact h11
    · by_cases e : l = z
      · rw [if_pos e, e, gt_eq]
      · rw [if_neg e, gt_ne (by omega), gt_row (q6 1 (by omega))]
end
