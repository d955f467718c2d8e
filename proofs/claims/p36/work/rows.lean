section
-- ===== PART A: goes FIRST, ahead of the names: the tables' words, and 'selects' of the private methods out of them =====
/-- a private method of a class that the tables say can be made, by its rows of tables_1 -/
def lw_okq (q : MethodName × Nat) : Prop := (q.1.cls ≠ "java/lang/invoke/MethodHandle" ∧ q.1.cls ≠ "java/lang/invoke/VarHandle") ∧ Cond.instantiable q.1.cls q.2 ∈ tables_1 ∧ Cond.privateMethod q.1 ∈ tables_1 ∧ Cond.instanceMethod q.1 ∈ tables_1
theorem lw_p0 : lw_okq (⟨"java/lang/Throwable", "fillInStackTrace", "(I)Ljava/lang/Throwable;"⟩, 6) := ⟨⟨by decide +kernel, by decide +kernel⟩, List.mem_of_getElem? (i := 756) (by decide +kernel), List.mem_of_getElem? (i := 754) (by decide +kernel), List.mem_of_getElem? (i := 755) (by decide +kernel)⟩
theorem lw_p1 : lw_okq (⟨"TwinSets$Parser", "toNextToken", "()V"⟩, 9) := ⟨⟨by decide +kernel, by decide +kernel⟩, List.mem_of_getElem? (i := 785) (by decide +kernel), List.mem_of_getElem? (i := 827) (by decide +kernel), List.mem_of_getElem? (i := 828) (by decide +kernel)⟩
theorem lw_p2 : lw_okq (⟨"TwinSets$Parser", "passLetters", "()V"⟩, 9) := ⟨⟨by decide +kernel, by decide +kernel⟩, List.mem_of_getElem? (i := 785) (by decide +kernel), List.mem_of_getElem? (i := 839) (by decide +kernel), List.mem_of_getElem? (i := 840) (by decide +kernel)⟩
theorem lw_p3 : lw_okq (⟨"TwinSets$Parser", "passDigits", "()V"⟩, 9) := ⟨⟨by decide +kernel, by decide +kernel⟩, List.mem_of_getElem? (i := 785) (by decide +kernel), List.mem_of_getElem? (i := 851) (by decide +kernel), List.mem_of_getElem? (i := 852) (by decide +kernel)⟩
theorem lw_p4 : lw_okq (⟨"TwinSets$Parser", "passWord", "(Ljava/lang/String;)Z"⟩, 9) := ⟨⟨by decide +kernel, by decide +kernel⟩, List.mem_of_getElem? (i := 785) (by decide +kernel), List.mem_of_getElem? (i := 860) (by decide +kernel), List.mem_of_getElem? (i := 861) (by decide +kernel)⟩
theorem lw_p5 : lw_okq (⟨"TwinSets$Parser", "isWord", "(Ljava/lang/String;)Z"⟩, 9) := ⟨⟨by decide +kernel, by decide +kernel⟩, List.mem_of_getElem? (i := 785) (by decide +kernel), List.mem_of_getElem? (i := 864) (by decide +kernel), List.mem_of_getElem? (i := 865) (by decide +kernel)⟩
theorem lw_p6 : lw_okq (⟨"TwinSets$Parser", "fail", "(I)Z"⟩, 9) := ⟨⟨by decide +kernel, by decide +kernel⟩, List.mem_of_getElem? (i := 785) (by decide +kernel), List.mem_of_getElem? (i := 874) (by decide +kernel), List.mem_of_getElem? (i := 875) (by decide +kernel)⟩
theorem lw_p7 : lw_okq (⟨"TwinSets$Parser", "isNumber", "(II)Z"⟩, 9) := ⟨⟨by decide +kernel, by decide +kernel⟩, List.mem_of_getElem? (i := 785) (by decide +kernel), List.mem_of_getElem? (i := 878) (by decide +kernel), List.mem_of_getElem? (i := 879) (by decide +kernel)⟩
theorem lw_p8 : lw_okq (⟨"TwinSets$Parser", "passSemicolon", "()Z"⟩, 9) := ⟨⟨by decide +kernel, by decide +kernel⟩, List.mem_of_getElem? (i := 785) (by decide +kernel), List.mem_of_getElem? (i := 883) (by decide +kernel), List.mem_of_getElem? (i := 884) (by decide +kernel)⟩
theorem lw_p9 : lw_okq (⟨"TwinSets$Parser", "readStatement", "()Z"⟩, 9) := ⟨⟨by decide +kernel, by decide +kernel⟩, List.mem_of_getElem? (i := 785) (by decide +kernel), List.mem_of_getElem? (i := 887) (by decide +kernel), List.mem_of_getElem? (i := 888) (by decide +kernel)⟩
theorem lw_p10 : lw_okq (⟨"TwinSets$Parser", "readSet", "()Z"⟩, 9) := ⟨⟨by decide +kernel, by decide +kernel⟩, List.mem_of_getElem? (i := 785) (by decide +kernel), List.mem_of_getElem? (i := 892) (by decide +kernel), List.mem_of_getElem? (i := 893) (by decide +kernel)⟩
theorem lw_p11 : lw_okq (⟨"TwinSets$Parser", "wordText", "()Ljava/lang/String;"⟩, 9) := ⟨⟨by decide +kernel, by decide +kernel⟩, List.mem_of_getElem? (i := 785) (by decide +kernel), List.mem_of_getElem? (i := 901) (by decide +kernel), List.mem_of_getElem? (i := 902) (by decide +kernel)⟩
theorem lw_p12 : lw_okq (⟨"TwinSets$Parser", "readMembers", "(Z)Z"⟩, 9) := ⟨⟨by decide +kernel, by decide +kernel⟩, List.mem_of_getElem? (i := 785) (by decide +kernel), List.mem_of_getElem? (i := 925) (by decide +kernel), List.mem_of_getElem? (i := 926) (by decide +kernel)⟩
theorem lw_p13 : lw_okq (⟨"TwinSets$Parser", "readEarlierSet", "()I"⟩, 9) := ⟨⟨by decide +kernel, by decide +kernel⟩, List.mem_of_getElem? (i := 785) (by decide +kernel), List.mem_of_getElem? (i := 929) (by decide +kernel), List.mem_of_getElem? (i := 930) (by decide +kernel)⟩
theorem lw_p14 : lw_okq (⟨"TwinSets$State", "writeMember", "(LTwinSets$TwinRows;II)V"⟩, 9) := ⟨⟨by decide +kernel, by decide +kernel⟩, List.mem_of_getElem? (i := 93) (by decide +kernel), List.mem_of_getElem? (i := 945) (by decide +kernel), List.mem_of_getElem? (i := 946) (by decide +kernel)⟩
theorem lw_p15 : lw_okq (⟨"TwinSets$Log", "bitsBehind", "(JI)J"⟩, 6) := ⟨⟨by decide +kernel, by decide +kernel⟩, List.mem_of_getElem? (i := 108) (by decide +kernel), List.mem_of_getElem? (i := 953) (by decide +kernel), List.mem_of_getElem? (i := 954) (by decide +kernel)⟩
def lw_privs_1 : List (MethodName × Nat) := [(⟨"java/lang/Throwable", "fillInStackTrace", "(I)Ljava/lang/Throwable;"⟩, 6), (⟨"TwinSets$Parser", "toNextToken", "()V"⟩, 9), (⟨"TwinSets$Parser", "passLetters", "()V"⟩, 9), (⟨"TwinSets$Parser", "passDigits", "()V"⟩, 9), (⟨"TwinSets$Parser", "passWord", "(Ljava/lang/String;)Z"⟩, 9), (⟨"TwinSets$Parser", "isWord", "(Ljava/lang/String;)Z"⟩, 9), (⟨"TwinSets$Parser", "fail", "(I)Z"⟩, 9), (⟨"TwinSets$Parser", "isNumber", "(II)Z"⟩, 9), (⟨"TwinSets$Parser", "passSemicolon", "()Z"⟩, 9), (⟨"TwinSets$Parser", "readStatement", "()Z"⟩, 9), (⟨"TwinSets$Parser", "readSet", "()Z"⟩, 9), (⟨"TwinSets$Parser", "wordText", "()Ljava/lang/String;"⟩, 9), (⟨"TwinSets$Parser", "readMembers", "(Z)Z"⟩, 9), (⟨"TwinSets$Parser", "readEarlierSet", "()I"⟩, 9), (⟨"TwinSets$State", "writeMember", "(LTwinSets$TwinRows;II)V"⟩, 9), (⟨"TwinSets$Log", "bitsBehind", "(JI)J"⟩, 6)]
theorem lw_r1 : ∀ q ∈ lw_privs_1, lw_okq q := List.forall_mem_cons.mpr ⟨lw_p0, List.forall_mem_cons.mpr ⟨lw_p1, List.forall_mem_cons.mpr ⟨lw_p2, List.forall_mem_cons.mpr ⟨lw_p3, List.forall_mem_cons.mpr ⟨lw_p4, List.forall_mem_cons.mpr ⟨lw_p5, List.forall_mem_cons.mpr ⟨lw_p6, List.forall_mem_cons.mpr ⟨lw_p7, List.forall_mem_cons.mpr ⟨lw_p8, List.forall_mem_cons.mpr ⟨lw_p9, List.forall_mem_cons.mpr ⟨lw_p10, List.forall_mem_cons.mpr ⟨lw_p11, List.forall_mem_cons.mpr ⟨lw_p12, List.forall_mem_cons.mpr ⟨lw_p13, List.forall_mem_cons.mpr ⟨lw_p14, List.forall_mem_cons.mpr ⟨lw_p15, fun _ h => absurd h List.not_mem_nil⟩⟩⟩⟩⟩⟩⟩⟩⟩⟩⟩⟩⟩⟩⟩⟩
theorem lw_p16 : lw_okq (⟨"TwinSets$State", "pullCursorsBack", "(II)Z"⟩, 9) := ⟨⟨by decide +kernel, by decide +kernel⟩, List.mem_of_getElem? (i := 93) (by decide +kernel), List.mem_of_getElem? (i := 964) (by decide +kernel), List.mem_of_getElem? (i := 965) (by decide +kernel)⟩
theorem lw_p17 : lw_okq (⟨"TwinSets$State", "moveMember", "(LTwinSets$TwinRows;II)V"⟩, 9) := ⟨⟨by decide +kernel, by decide +kernel⟩, List.mem_of_getElem? (i := 93) (by decide +kernel), List.mem_of_getElem? (i := 972) (by decide +kernel), List.mem_of_getElem? (i := 973) (by decide +kernel)⟩
theorem lw_p18 : lw_okq (⟨"TwinSets$Parser", "readClear", "()Z"⟩, 9) := ⟨⟨by decide +kernel, by decide +kernel⟩, List.mem_of_getElem? (i := 785) (by decide +kernel), List.mem_of_getElem? (i := 978) (by decide +kernel), List.mem_of_getElem? (i := 979) (by decide +kernel)⟩
theorem lw_p19 : lw_okq (⟨"TwinSets$Parser", "readMark", "()Z"⟩, 9) := ⟨⟨by decide +kernel, by decide +kernel⟩, List.mem_of_getElem? (i := 785) (by decide +kernel), List.mem_of_getElem? (i := 987) (by decide +kernel), List.mem_of_getElem? (i := 988) (by decide +kernel)⟩
theorem lw_p20 : lw_okq (⟨"TwinSets", "beginWithDraft", "()V"⟩, 6) := ⟨⟨by decide +kernel, by decide +kernel⟩, List.mem_of_getElem? (i := 35) (by decide +kernel), List.mem_of_getElem? (i := 995) (by decide +kernel), List.mem_of_getElem? (i := 996) (by decide +kernel)⟩
theorem lw_p21 : lw_okq (⟨"TwinSets", "rowsOf", "(I)LTwinSets$TwinRows;"⟩, 6) := ⟨⟨by decide +kernel, by decide +kernel⟩, List.mem_of_getElem? (i := 35) (by decide +kernel), List.mem_of_getElem? (i := 1014) (by decide +kernel), List.mem_of_getElem? (i := 1015) (by decide +kernel)⟩
theorem lw_p22 : lw_okq (⟨"TwinSets", "checkSet", "(I)V"⟩, 6) := ⟨⟨by decide +kernel, by decide +kernel⟩, List.mem_of_getElem? (i := 35) (by decide +kernel), List.mem_of_getElem? (i := 1018) (by decide +kernel), List.mem_of_getElem? (i := 1019) (by decide +kernel)⟩
theorem lw_p23 : lw_okq (⟨"TwinSets", "cursorOf", "(I)LTwinSets$Cursor;"⟩, 6) := ⟨⟨by decide +kernel, by decide +kernel⟩, List.mem_of_getElem? (i := 35) (by decide +kernel), List.mem_of_getElem? (i := 1150) (by decide +kernel), List.mem_of_getElem? (i := 1151) (by decide +kernel)⟩
theorem lw_p24 : lw_okq (⟨"TwinSets", "checkNumber", "(I)V"⟩, 6) := ⟨⟨by decide +kernel, by decide +kernel⟩, List.mem_of_getElem? (i := 35) (by decide +kernel), List.mem_of_getElem? (i := 1191) (by decide +kernel), List.mem_of_getElem? (i := 1192) (by decide +kernel)⟩
theorem lw_p25 : lw_okq (⟨"TwinSets", "checkStamp", "(LTwinSets$Log;I)V"⟩, 6) := ⟨⟨by decide +kernel, by decide +kernel⟩, List.mem_of_getElem? (i := 35) (by decide +kernel), List.mem_of_getElem? (i := 1295) (by decide +kernel), List.mem_of_getElem? (i := 1296) (by decide +kernel)⟩
def lw_privs_2 : List (MethodName × Nat) := [(⟨"TwinSets$State", "pullCursorsBack", "(II)Z"⟩, 9), (⟨"TwinSets$State", "moveMember", "(LTwinSets$TwinRows;II)V"⟩, 9), (⟨"TwinSets$Parser", "readClear", "()Z"⟩, 9), (⟨"TwinSets$Parser", "readMark", "()Z"⟩, 9), (⟨"TwinSets", "beginWithDraft", "()V"⟩, 6), (⟨"TwinSets", "rowsOf", "(I)LTwinSets$TwinRows;"⟩, 6), (⟨"TwinSets", "checkSet", "(I)V"⟩, 6), (⟨"TwinSets", "cursorOf", "(I)LTwinSets$Cursor;"⟩, 6), (⟨"TwinSets", "checkNumber", "(I)V"⟩, 6), (⟨"TwinSets", "checkStamp", "(LTwinSets$Log;I)V"⟩, 6)]
theorem lw_r2 : ∀ q ∈ lw_privs_2, lw_okq q := List.forall_mem_cons.mpr ⟨lw_p16, List.forall_mem_cons.mpr ⟨lw_p17, List.forall_mem_cons.mpr ⟨lw_p18, List.forall_mem_cons.mpr ⟨lw_p19, List.forall_mem_cons.mpr ⟨lw_p20, List.forall_mem_cons.mpr ⟨lw_p21, List.forall_mem_cons.mpr ⟨lw_p22, List.forall_mem_cons.mpr ⟨lw_p23, List.forall_mem_cons.mpr ⟨lw_p24, List.forall_mem_cons.mpr ⟨lw_p25, fun _ h => absurd h List.not_mem_nil⟩⟩⟩⟩⟩⟩⟩⟩⟩⟩
def lw_privs : List (MethodName × Nat) := lw_privs_1 ++ (lw_privs_2)
def lw_tbl : List Cond := k2_sels lw_privs ++ tables_1
theorem lw_privs_ok : ∀ q ∈ lw_privs, lw_okq q := by
  show ∀ q ∈ lw_privs_1 ++ (lw_privs_2), lw_okq q
  exact List.forall_mem_append.mpr ⟨lw_r1, lw_r2⟩
/-- the streams that the claim lets the run draw from -/
abbrev lw_cs : List Choice := [Jvm.Choice.named "NaN.bits"]
theorem lw_bits : nanBits ∈ lw_cs := by first | decide | exact List.mem_cons_self | simp [lw_cs, nanBits]
end
section
/-! ===== BEGIN words of one list among another's, by their places ===== -/
theorem goodIn_r {big : List Cond} (ws : List Cond) (ps : List Nat) (hp : ws = ps.filterMap (fun i => big[i]?)) (h : ws.all goodWord = true) : GoodIn big ws := by
  intro w hw
  have h1 := List.all_eq_true.mp h w hw
  rw [hp] at hw
  obtain ⟨i, -, hi⟩ := List.mem_filterMap.mp hw
  have hm : w ∈ big := by first | exact List.mem_of_getElem? hi | exact List.getElem?_mem hi
  exact ⟨hm, good_of_word h1⟩
theorem goodIn_app {big a b : List Cond} (ha : GoodIn big a) (hb : GoodIn big b) : GoodIn big (a ++ b) := fun w h => (List.mem_append.mp h).elim (ha w) (hb w)
theorem goodIn_ca {big a b : List Cond} {c : Cond} (ha : GoodIn big (c :: a)) (hb : GoodIn big b) : GoodIn big (c :: (a ++ b)) := fun w h => (List.mem_cons.mp h).elim (fun e => ha w (List.mem_cons.mpr (Or.inl e))) (fun h => (List.mem_append.mp h).elim (fun h => ha w (List.mem_cons.mpr (Or.inr h))) (hb w))
theorem goodIn_sub {big ws : List Cond} (hm : ∀ w ∈ ws, w ∈ big) (h : ws.all goodWord = true) : GoodIn big ws := fun w hw => ⟨hm w hw, good_of_word (List.all_eq_true.mp h w hw)⟩
/-! ===== END ===== -/

/-! ===== BEGIN exceptions that leave a method, and their catching by the caller (launches without stack traces) ===== -/
section VXA
/-! The laws vx_back, vx_callV, vx_callS, vx_callSW, vx_throw0, vx_throwS follow proofs of the library, with one case more: JvmDerived/Free/Laws.lean (Back.of_free), Shelf42/LK1.lean (callV, callS), Shelf/KitTraced.lean (throwNew0V, throwNewS). -/
/-- where a method has thrown q: the class by its name, the cell, what was written, the world -/
def vx_T (XC : String → State → State → Prop) (st : State) (q : Addr) (t : State) (mc ms : Nat) (free : Addr → Prop) : Prop :=
  ∃ (E : String) (ce : Cell) (L : List Loc), XC E st t ∧ t.heap[q]? = some ce ∧ ce.vm = .none ∧ st.vm.findClass E = some ce.cls ∧ st.WarmedH t.vm ∧ st.sameButNew ({ t with vm := st.vm } : State) L mc ms ∧ ∀ z ∈ L, free z.base
def vx_Q (Qc : Array Value → State → Outcome → State → Prop) (XC : String → State → State → Prop) (mc ms : Nat) (free : Addr → Prop) : Array Value → State → Outcome → State → Prop := fun a st o t =>
  (Qc a st o t ∧ ∃ L, FrameEnd st o t L mc ms ∧ ∀ q ∈ L, free q.base) ∨ ∃ q, o = .threw q ∧ vx_T XC st q t mc ms free
/-- a callee that returns or throws -/
def vx_Met (l : Launch) (y : MethodName) (ws : List Cond) (rm : Room) (Pc : Array Value → State → Prop) (Qc : Array Value → State → Outcome → State → Prop) (XC : String → State → State → Prop) (mc ms : Nat) (free : Addr → Prop) : Prop :=
  MetFree l y (headSpec ws rm) Pc (fun _ _ _ _ _ => True) (vx_Q Qc XC mc ms free)
def vx_Post (XC : String → State → State → Prop) (mc ms : Nat) (free : Addr → Prop) : Pt → Array Value → Addr → Pt → Prop := fun A a q B =>
  ∃ (g : JFrame) (mk : MethodId) (t : State) (L : List Loc) (E : String) (ce : Cell), B.U.heap = t.heap ∧ B.U.vm = t.vm ∧ XC E (A.U.calling g mk a) t ∧ t.heap[q]? = some ce ∧ ce.vm = .none ∧ A.U.vm.findClass E = some ce.cls ∧ B.locs = A.locs ++ L ∧ (∀ z ∈ L, free z.base) ∧ B.cells = A.cells + mc ∧ B.slots = A.slots + ms
def vx_Back (l : Launch) (R : Room) (p : Program) (e : Env) (below : List Frame) (s : State) (sargs : Array Value) (y : MethodName) (len W9 : Nat)
    (Pre : Pt → Array Value → Prop) (Post : Pt → Array Value → Option Value → Pt → Prop) (PostX : Pt → Array Value → Addr → Pt → Prop) : Prop :=
  ∀ (m : MethodId) (meth : Method) (c : Code) (A : Pt) (g : JFrame) (ig : Instr) (mk : MethodId) (a : Array Value),
    Stand p l e R s m sargs below meth c A.U A.locs A.cells A.slots → g.method = m → g.locals.size = c.maxLocals → decode c.code g.pc = .ok (ig, len) →
    2 * g.monitorRoom + (g.stack.map fun v => v.category).sum ≤ W9 → A.U.methodNamed? y = some mk → Pre A a →
    (∃ (v : Option Value) (B : Pt), Stand p l e R s m sargs below meth c B.U B.locs B.cells B.slots ∧ Post A a v B ∧
      Steps p.tables e below (doInvoke e (A.U.setTop g) [] mk a).1 (B.U.setTop { g with pc := g.pc + len, stack := v.toList ++ g.stack })) ∨
    (∃ (q : Addr) (B : Pt), Stand p l e R s m sargs below meth c B.U B.locs B.cells B.slots ∧ PostX A a q B ∧
      Steps p.tables e below (doInvoke e (A.U.setTop g) [] mk a).1 ((B.U.setTop g).pushFrame (.throwing q)))
section Payer
variable {l : Launch} {R : Room} {p : Program} {e : Env} {below : List Frame} {s : State} {sargs : Array Value} {y : MethodName} {len W9 : Nat}
theorem vx_back {ws : List Cond} {rm : Room} {Pc : Array Value → State → Prop} {Qc : Array Value → State → Outcome → State → Prop} {XC : String → State → State → Prop} {mc ms : Nat} {free : Addr → Prop} {bytes : ByteArray} {maxL : Nat} {ret : Option FieldType}
    (hM : vx_Met l y ws rm Pc Qc XC mc ms free) (hblind : FrameBlind Pc) (hrc : rm.cells = mc) (hrs : rm.slots = ms)
    (hframes : rm.frames + 1 ≤ R.frames) (hlocals : W9 + (maxL + 11) + rm.locals ≤ R.locals)
    (hws : ∀ w ∈ ws, ∀ a' U, s.WarmedH U.vm → w.before a' U = true) (hcode : Cond.code y bytes maxL ret ∈ ws) (hinit : ∀ a' U, s.WarmedH U.vm → (Cond.initialized y.cls).before a' U = true) :
    vx_Back l R p e below s sargs y len W9 (PreOf R mc ms Pc) (PostOf Qc mc ms free) (vx_Post XC mc ms free) := by
  intro m meth c A g ig mk a X hg hsize hdg hW hn hp
  have h1 : (headSpec ws rm).pre.before a A.U = true := atoms_intro fun w hw => hws w hw _ _ X.warmed
  have h2 : (Cond.code y bytes maxL ret).before a A.U = true := hws _ hcode _ _ X.warmed
  have h3 : (Cond.initialized y.cls).before a A.U = true := hinit _ _ X.warmed
  have h4 : A.cells + (headSpec ws rm).room.cells ≤ R.cells := by rw [show (headSpec ws rm).room.cells = mc from hrc]; exact hp.1
  have h5 : A.slots + (headSpec ws rm).room.slots ≤ R.slots := by rw [show (headSpec ws rm).room.slots = ms from hrs]; exact hp.2.1
  have hPc : Pc a (A.U.calling g mk a) := hblind _ _ _ _ hp.2.2
  obtain ⟨U, Ls, c0, s0⟩ := A
  dsimp only [Pt.U, Pt.locs, Pt.cells, Pt.slots] at h1 h2 h3 h4 h5 X hn hPc ⊢
  obtain ⟨methY, cY, hmY, hcY, -, hlY, -, -, -, -⟩ := Cond.code_spec hn h2
  obtain ⟨kY, hkY, -⟩ := className_of_methodNamed hn
  have hinitY : kY.init = .initialized := Cond.initialized_spec (findClass_of_methodNamed hn) hkY h3
  have h : At U g.method c below := by rw [hg]; exact X.here
  have hlocals9 : W9 + (maxL + 11) + (headSpec ws rm).room.locals ≤ R.locals := hlocals
  have happ : (headSpec ws rm).appliesLoose y e.platform (U.calling g mk a) = true :=
    Spec.appliesLoose_calling (g := g) h hdg hn hkY hinitY
      (X.room_calling (g := g) (R' := (headSpec ws rm).room) hsize hmY hcY hframes (by rw [hlY]; omega) h4 h5) h1
  obtain ⟨mid, hmid⟩ := h.above
  have hfr : (U.setTop g).frames = (.java g :: mid) ++ below := by rw [State.frames_setTop' g h.top, hmid]; rfl
  obtain ⟨o, s₂, hsteps, -, hend, hq⟩ := Steps.callFree hM p X.admits X.cas X.clock (acts := []) hfr happ hPc trivial
  have hq' : vx_Q Qc XC mc ms free a (U.calling g mk a) o s₂ := hq
  rw [State.frames_setTop' g h.top] at hend
  obtain ⟨g₀, hg0⟩ := Option.isSome_iff_exists.mp h.top
  obtain ⟨r, hr⟩ := State.topJava?_eq_some.mp hg0
  have hr' : (({ U with heap := s₂.heap, slotsUsed := s₂.slotsUsed } : State).setVm s₂.vm).frames = .java g₀ :: r := hr
  rcases hq' with ⟨hqc, L, hfe, hL⟩ | ⟨q, rfl, E, ce, L, hx, hce, hcv, hcl, hW₂, hsm, hL⟩
  · obtain ⟨⟨v, rfl⟩, hW₂, e2, q2, q3, q4, q5, q6⟩ := id hfe
    have e3 : s₂ = ({ (U.calling g mk a).setFrames s₂.frames with heap := s₂.heap, slotsUsed := s₂.slotsUsed } : State).setVm s₂.vm := by
      have : s₂ = ({ s₂ with vm := (U.calling g mk a).vm } : State).setVm s₂.vm := rfl
      rw [e2] at this
      exact this
    obtain ⟨c₂, i₂, len₂, hc₂, hd₂, hf₂⟩ := hend
    have hW' : U.WarmedH s₂.vm := hW₂
    have hcc : c₂ = c := by
      have h1 : s₂.code? g.method = U.code? g.method := by
        rw [State.code?_eq, State.code?_eq, hW'.alike.method?]
      exact Option.some.inj (hc₂.symm.trans (h1.trans h.code))
    subst hcc
    have hlen : len₂ = len := by rw [hdg] at hd₂; cases hd₂; rfl
    subst hlen
    have hs₂ : s₂ = (({ U with heap := s₂.heap, slotsUsed := s₂.slotsUsed } : State).setVm s₂.vm).setTop { g with pc := g.pc + len₂, stack := v.toList ++ g.stack } := by
      refine e3.trans ?_
      rw [hf₂, State.calling_eq h.top, State.setFrames_setFrames, State.setTop_of_frames _ hr', hr]
      rfl
    have hsame : U.sameButNew ({ U with heap := s₂.heap, slotsUsed := s₂.slotsUsed } : State) L mc ms := by
      refine ⟨?_, q2, q3, q4, q5, q6⟩
      obtain ⟨t, ht, -⟩ := State.frames_cons hr
      show ({ U with heap := s₂.heap, slotsUsed := s₂.slotsUsed } : State) = { U.setFrames U.frames with heap := s₂.heap, slotsUsed := s₂.slotsUsed }
      rw [State.setFrames_self ht]
    subst hg
    refine Or.inl ⟨v, ⟨(({ U with heap := s₂.heap, slotsUsed := s₂.slotsUsed } : State).setVm s₂.vm), Ls ++ L, c0 + mc, s0 + ms⟩,
      ⟨X.admits, X.cas, X.clock, X.frames, X.room, X.hears, X.method, X.code, (X.here.setHeapUsed s₂.heap s₂.slotsUsed).setVm hW'.alike, X.tail, State.WarmedH.trans X.warmed hW', X.limits, X.bytes, X.same.trans (hsame.setVm s.vm)⟩,
      ⟨g, mk, s₂, L, rfl, rfl, hqc, rfl, hL, rfl, rfl⟩, ?_⟩
    show Steps p.tables e below _ ((({ U with heap := s₂.heap, slotsUsed := s₂.slotsUsed } : State).setVm s₂.vm).setTop { g with pc := g.pc + len₂, stack := v.toList ++ g.stack })
    rw [← hs₂]
    exact hsteps
  · obtain ⟨e2, q2, q3, q4, q5, q6⟩ := id hsm
    have e3 : s₂ = ({ (U.calling g mk a).setFrames s₂.frames with heap := s₂.heap, slotsUsed := s₂.slotsUsed } : State).setVm s₂.vm := by
      have : s₂ = ({ s₂ with vm := (U.calling g mk a).vm } : State).setVm s₂.vm := rfl
      rw [e2] at this
      exact this
    have hf₂ : s₂.frames = .throwing q :: .java g :: U.frames.tail := hend
    have hW' : U.WarmedH s₂.vm := hW₂
    have hs₂ : s₂ = ((({ U with heap := s₂.heap, slotsUsed := s₂.slotsUsed } : State).setVm s₂.vm).setTop g).pushFrame (.throwing q) := by
      refine e3.trans ?_
      rw [hf₂, State.calling_eq h.top, State.setFrames_setFrames, State.pushFrame, State.frames_setTop _ hr', State.setTop_of_frames _ hr', State.setFrames_setFrames, hr]
      rfl
    have hsame : U.sameButNew ({ U with heap := s₂.heap, slotsUsed := s₂.slotsUsed } : State) L mc ms := by
      refine ⟨?_, q2, q3, q4, q5, q6⟩
      obtain ⟨t, ht, -⟩ := State.frames_cons hr
      show ({ U with heap := s₂.heap, slotsUsed := s₂.slotsUsed } : State) = { U.setFrames U.frames with heap := s₂.heap, slotsUsed := s₂.slotsUsed }
      rw [State.setFrames_self ht]
    subst hg
    refine Or.inr ⟨q, ⟨(({ U with heap := s₂.heap, slotsUsed := s₂.slotsUsed } : State).setVm s₂.vm), Ls ++ L, c0 + mc, s0 + ms⟩,
      ⟨X.admits, X.cas, X.clock, X.frames, X.room, X.hears, X.method, X.code, (X.here.setHeapUsed s₂.heap s₂.slotsUsed).setVm hW'.alike, X.tail, State.WarmedH.trans X.warmed hW', X.limits, X.bytes, X.same.trans (hsame.setVm s.vm)⟩,
      ⟨g, mk, s₂, L, E, ce, rfl, rfl, hx, hce, hcv, hcl, rfl, hL, rfl, rfl⟩, ?_⟩
    show Steps p.tables e below _ (((({ U with heap := s₂.heap, slotsUsed := s₂.slotsUsed } : State).setVm s₂.vm).setTop g).pushFrame (.throwing q))
    rw [← hs₂]
    exact hsteps
end Payer
section Calls
variable {p : Program} {l : Launch} {e : Env} {R : Room} {s : State} {m : MethodId} {args : Array Value} {below : List Frame} {meth : Method} {c : Code} {T : State} {locs : List Loc} {cells slots : Nat}
theorem vx_callV (X : Stand p l e R s m args below meth c T locs cells slots) (hexec : p.tables.exec = Jvm.exec) {own C : String} {index : Nat} {y : MethodName} {bytes : ByteArray} {maxL : Nat} {ret : Option FieldType}
    (hown : s.vm.findClass own = some m.cls) (hlink : (Cond.methodLink own index y).before args s = true) (hinst : (Cond.instanceMethod y).before args s = true) (hsel : (Cond.selects C y y).before args s = true)
    (hcode : (Cond.code y bytes maxL ret).before args s = true) (hy : y.cls ≠ "java/lang/invoke/MethodHandle" ∧ y.cls ≠ "java/lang/invoke/VarHandle")
    {W9 : Nat} {Pre : Pt → Array Value → Prop} {Post : Pt → Array Value → Option Value → Pt → Prop} {PostX : Pt → Array Value → Addr → Pt → Prop} (hK : vx_Back l R p e below s args y 3 W9 Pre Post PostX)
    {b : Addr} {cellB : Cell} (hcell : T.heap[b]? = some cellB) (hobj : cellB.vm.isStatics = false) (hcls : s.vm.findClass C = some cellB.cls)
    {g : JFrame} (hg : g.method = m) (hsize : g.locals.size = c.maxLocals) {argsL rest : List Value} (hlen : ∀ sig, parseMethodDescriptor y.desc = some sig → argsL.length = sig.parameters.length)
    (hstack : g.stack = argsL.reverse ++ .ref b :: rest) (hW : 2 * g.monitorRoom + (rest.map fun v => v.category).sum ≤ W9) (hdg : decode c.code g.pc = .ok (.invokevirtual index, 3))
    (hpre : ∀ vm₁, s.WarmedH vm₁ → Pre ⟨T.setVm vm₁, locs, cells, slots⟩ (Value.ref b :: argsL).toArray) :
    (∃ (v : Option Value) (vm₁ : Vm) (B : Pt), s.WarmedH vm₁ ∧ Stand p l e R s m args below meth c B.U B.locs B.cells B.slots ∧ Post ⟨T.setVm vm₁, locs, cells, slots⟩ (Value.ref b :: argsL).toArray v B ∧
      ∀ target, Steps p.tables e below (B.U.setTop { g with pc := g.pc + 3, stack := v.toList ++ rest }) target → Steps p.tables e below (T.setTop g) target) ∨
    (∃ (q : Addr) (vm₁ : Vm) (B : Pt), s.WarmedH vm₁ ∧ Stand p l e R s m args below meth c B.U B.locs B.cells B.slots ∧ PostX ⟨T.setVm vm₁, locs, cells, slots⟩ (Value.ref b :: argsL).toArray q B ∧
      Steps p.tables e below (T.setTop g) ((B.U.setTop { g with stack := rest }).pushFrame (.throwing q))) := by
  obtain ⟨mk, methM, hnamed, hmethM, hstM, habM⟩ := Cond.instanceMethod_spec hinst
  obtain ⟨methM', cM, hmethM', -, -, -, -, -, -, hsigM⟩ := Cond.code_spec hnamed hcode
  cases hmethM.symm.trans hmethM'
  obtain ⟨c2, r2, m2, q1, q2, q3, q4, kP, hkP, hkPi⟩ := Cond.selects_spec hsel
  cases hcls.symm.trans q1
  cases (State.methodFound?_of_named hnamed hy).symm.trans q2
  cases hnamed.symm.trans q3
  have hselP : selectMethod e.platform s.vm cellB.cls mk = .method mk := by rw [Launch.admits_selectMethod X.admits]; exact q4
  obtain ⟨vm₁, X₁, hstep₁⟩ := X.invokevirtual hexec hown hlink hnamed hmethM hstM hkP hkPi hy (a := b) (cell := cellB) hcell
    (fun z h => by rw [h] at hobj; cases hobj) hselP hmethM habM hkP hkPi (g := g) hg (argsL := argsL) (rest := rest) (hlen _ hsigM) hstack hdg
  rcases hK m meth c ⟨T.setVm vm₁, locs, cells, slots⟩ { g with stack := rest } (.invokevirtual index) mk (Value.ref b :: argsL).toArray X₁ hg hsize hdg hW (X₁.named hnamed) (hpre vm₁ X₁.warmed) with ⟨v, B, X', hpost, hsteps⟩ | ⟨q, B, X', hpost, hsteps⟩
  · exact Or.inl ⟨v, vm₁, B, X₁.warmed, X', hpost, fun target h => hstep₁ _ fun acts => by rw [doInvoke_state]; exact hsteps.trans h⟩
  · exact Or.inr ⟨q, vm₁, B, X₁.warmed, X', hpost, hstep₁ _ fun acts => by rw [doInvoke_state]; exact hsteps⟩
theorem vx_callS (X : Stand p l e R s m args below meth c T locs cells slots) (hexec : p.tables.exec = Jvm.exec) {own : String} {index : Nat} {y : MethodName} {bytes : ByteArray} {maxL : Nat} {ret : Option FieldType}
    (hown : s.vm.findClass own = some m.cls) (hlink : (Cond.methodLink own index y).before args s = true) (hstat : (Cond.static y).before args s = true) (hinit : (Cond.initialized y.cls).before args s = true)
    (hcode : (Cond.code y bytes maxL ret).before args s = true) (hy : y.cls ≠ "java/lang/invoke/MethodHandle" ∧ y.cls ≠ "java/lang/invoke/VarHandle")
    {W9 : Nat} {Pre : Pt → Array Value → Prop} {Post : Pt → Array Value → Option Value → Pt → Prop} {PostX : Pt → Array Value → Addr → Pt → Prop} (hK : vx_Back l R p e below s args y 3 W9 Pre Post PostX)
    {g : JFrame} (hg : g.method = m) (hsize : g.locals.size = c.maxLocals) {argsL rest : List Value} (hlen : ∀ sig, parseMethodDescriptor y.desc = some sig → argsL.length = sig.parameters.length)
    (hstack : g.stack = argsL.reverse ++ rest) (hW : 2 * g.monitorRoom + (rest.map fun v => v.category).sum ≤ W9) (hdg : decode c.code g.pc = .ok (.invokestatic index, 3))
    (hpre : ∀ vm₁, s.WarmedH vm₁ → Pre ⟨T.setVm vm₁, locs, cells, slots⟩ argsL.toArray) :
    (∃ (v : Option Value) (vm₁ : Vm) (B : Pt), s.WarmedH vm₁ ∧ Stand p l e R s m args below meth c B.U B.locs B.cells B.slots ∧ Post ⟨T.setVm vm₁, locs, cells, slots⟩ argsL.toArray v B ∧
      ∀ target, Steps p.tables e below (B.U.setTop { g with pc := g.pc + 3, stack := v.toList ++ rest }) target → Steps p.tables e below (T.setTop g) target) ∨
    (∃ (q : Addr) (vm₁ : Vm) (B : Pt), s.WarmedH vm₁ ∧ Stand p l e R s m args below meth c B.U B.locs B.cells B.slots ∧ PostX ⟨T.setVm vm₁, locs, cells, slots⟩ argsL.toArray q B ∧
      Steps p.tables e below (T.setTop g) ((B.U.setTop { g with stack := rest }).pushFrame (.throwing q))) := by
  obtain ⟨mk, hnamed⟩ := Cond.code_named hcode
  obtain ⟨methM, cM, hmethM, -, -, -, -, -, -, hsigM⟩ := Cond.code_spec hnamed hcode
  have hstatic : methM.isStatic = true := Cond.static_spec hnamed hmethM hstat
  obtain ⟨kP, hkP, -⟩ := className_of_methodNamed hnamed
  have hinitP : kP.init = .initialized := Cond.initialized_spec (findClass_of_methodNamed hnamed) hkP hinit
  obtain ⟨vm₁, X₁, hstep₁⟩ := X.invokestatic hexec hown hlink hnamed hmethM hstatic hkP hinitP hy (g := g) hg (argsL := argsL) (rest := rest) (hlen _ hsigM) hstack hdg
  rcases hK m meth c ⟨T.setVm vm₁, locs, cells, slots⟩ { g with stack := rest } (.invokestatic index) mk argsL.toArray X₁ hg hsize hdg hW (X₁.named hnamed) (hpre vm₁ X₁.warmed) with ⟨v, B, X', hpost, hsteps⟩ | ⟨q, B, X', hpost, hsteps⟩
  · exact Or.inl ⟨v, vm₁, B, X₁.warmed, X', hpost, fun target h => hstep₁ _ fun acts => by rw [doInvoke_state]; exact hsteps.trans h⟩
  · exact Or.inr ⟨q, vm₁, B, X₁.warmed, X', hpost, hstep₁ _ fun acts => by rw [doInvoke_state]; exact hsteps⟩
end Calls
theorem vx_cls {s : State} {T : State} {vm₁ : Vm} {E : String} {k : ClassId} (hW : s.WarmedH vm₁) (h : (T.setVm vm₁).vm.findClass E = some k) : s.vm.findClass E = some k := by
  have h1 : vm₁.findClass E = some k := h
  rw [hW.alike.findClass] at h1
  exact h1
/-- the method's frame g, with q thrown over it -/
def vx_W (p : Program) (l : Launch) (e : Env) (R : Room) (s : State) (m : MethodId) (args : Array Value) (below : List Frame) (meth : Method) (c : Code) (H : Heap) (locs : List Loc) (cells slots : Nat) (Q : State → Prop) (g : JFrame) (q : Addr) : Prop :=
  ∀ T : State, T.heap = H → Stand p l e R s m args below meth c T locs cells slots → ∃ t, Steps p.tables e below ((T.setTop g).pushFrame (.throwing q)) t ∧ Q t
def vx_Run (p : Program) (l : Launch) (e : Env) (R : Room) (s : State) (m : MethodId) (args : Array Value) (below : List Frame) (meth : Method) (c : Code) (H : Heap) (locs : List Loc) (cells slots mc ms : Nat) (g : JFrame) (rest : List Value) (Qa : State → Outcome → State → Prop) (XC : String → State → State → Prop) (free : Addr → Prop) : Prop :=
  ∀ T : State, T.heap = H → Stand p l e R s m args below meth c T locs cells slots →
    (∃ (v : Option Value) (st₀ t T' : State) (L : List Loc), st₀.heap = H ∧ Stand p l e R s m args below meth c T' (locs ++ L) (cells + mc) (slots + ms) ∧ (∀ q ∈ L, free q.base) ∧ T'.heap = t.heap ∧ T'.vm = t.vm ∧ Qa st₀ (.returned v) t ∧
      Goes p e below T g T' { g with pc := g.pc + 3, stack := v.toList ++ rest }) ∨
    (∃ (q : Addr) (st₀ t T' : State) (L : List Loc) (E : String) (ce : Cell), st₀.heap = H ∧ Stand p l e R s m args below meth c T' (locs ++ L) (cells + mc) (slots + ms) ∧ (∀ z ∈ L, free z.base) ∧ T'.heap = t.heap ∧ T'.vm = t.vm ∧ XC E st₀ t ∧ t.heap[q]? = some ce ∧ ce.vm = .none ∧ s.vm.findClass E = some ce.cls ∧
      Steps p.tables e below (T.setTop g) ((T'.setTop { g with stack := rest }).pushFrame (.throwing q)))
def vx_X {S : Type} (px : S → Prop) (B : String → S → State → Prop) (A : Nat → Prop) : String → State → State → Prop := fun E st t => ∃ u : S, px u ∧ B E u t ∧ va_F A st t
section Runs
variable {p : Program} {l : Launch} {e : Env} {R : Room} {s : State} {m : MethodId} {args : Array Value} {below : List Frame} {meth : Method} {c : Code} {H : Heap} {locs : List Loc} {cells slots : Nat}
variable {y : MethodName} {bytes cc : ByteArray} {maxL nL mc ms n index : Nat} {ret : Option FieldType} {ws : List Cond} {rm : Room} {Pc : Array Value → State → Prop} {Qc : Array Value → State → Outcome → State → Prop} {XC : String → State → State → Prop} {free : Addr → Prop} {Ts : List Cond} {own C : String} {b : Addr} {As rest : List Value} {g : JFrame}
theorem vx_callBack (cb : CallB R s args own index y bytes maxL ret ws rm mc ms n) (hM : vx_Met l y ws rm Pc Qc XC mc ms free) (hbl : FrameBlind Pc) : vx_Back l R p e below s args y 3 8 (PreOf R mc ms Pc) (PostOf Qc mc ms free) (vx_Post XC mc ms free) := by
  obtain ⟨hrc, hrs, hfr, hlo, hws, hcw, -, hini, -⟩ := cb
  exact vx_back (bytes := bytes) (maxL := maxL) (ret := ret) hM hbl hrc hrs hfr hlo hws hcw (fun a' U hW => word_at hW (Or.inl (by first | rfl | simp [Cond.onTables, Cond.keeps, Cond.steady])) hini)
theorem vx_runV (S : CallFix p m c cc nL s args Ts own) (hM : vx_Met l y ws rm Pc Qc XC mc ms free) (cw : CallW R s args own C index y bytes maxL ret ws rm mc ms n) (hp : PreV s H C b Pc As)
    (hg : g.method = m) (hn : As.length = n) (hsize : g.locals.size = nL) (hstack : g.stack = As.reverse ++ .ref b :: rest) (hW : 2 * g.monitorRoom + (rest.map fun v => v.category).sum ≤ 8) (hdg : decode cc g.pc = .ok (.invokevirtual index, 3)) (hf : cells + mc ≤ R.cells ∧ slots + ms ≤ R.slots) :
    vx_Run p l e R s m args below meth c H locs cells slots mc ms g rest (Qc (Value.ref b :: As).toArray) XC free := by
  have hK : vx_Back l R p e below s args y 3 8 (PreOf R mc ms Pc) (PostOf Qc mc ms free) (vx_Post XC mc ms free) := vx_callBack cw.1 hM hp.1
  obtain ⟨⟨-, -, -, -, -, -, hcode, -, hy, hlen, hl⟩, hin, hse⟩ := cw
  obtain ⟨hx, hb, hml, ho, -⟩ := S
  obtain ⟨-, ⟨cellB, hcB, hoB, hclB⟩, hPc⟩ := hp
  intro T hT X
  rcases vx_callV X hx (C := C) (bytes := bytes) (maxL := maxL) (ret := ret) ho hl hin hse hcode hy hK (by rw [hT]; exact hcB) hoB hclB hg (hsize.trans hml.symm) (argsL := As) (rest := rest) (fun sig h => hn.trans (hlen sig h)) hstack hW (by rw [hb]; exact hdg)
    (fun vm₁ hW₁ => ⟨hf.1, hf.2, hPc (T.setVm vm₁) hT hW₁⟩) with ⟨v, vm₁, ⟨U', l2, c2, s2⟩, hW₁, X', ⟨g', mk, t, L, e1, e2, hq, h1, hL, h2, h3⟩, st⟩ | ⟨q, vm₁, ⟨U', l2, c2, s2⟩, hW₁, X', ⟨g', mk, t, L, E, ce, e1, e2, hq, hce, hcv, hcl, h1, hL, h2, h3⟩, st⟩
  · dsimp only [Pt.U, Pt.locs, Pt.cells, Pt.slots] at X' e1 e2 h1 h2 h3 st
    subst h1; subst h2; subst h3
    exact Or.inl ⟨v, (T.setVm vm₁).calling g' mk (Value.ref b :: As).toArray, t, U', L, hT, X', hL, e1, e2, hq, st⟩
  · dsimp only [Pt.U, Pt.locs, Pt.cells, Pt.slots] at X' e1 e2 h1 h2 h3 st hcl
    subst h1; subst h2; subst h3
    exact Or.inr ⟨q, (T.setVm vm₁).calling g' mk (Value.ref b :: As).toArray, t, U', L, E, ce, hT, X', hL, e1, e2, hq, hce, hcv, vx_cls hW₁ hcl, st⟩
theorem vx_runS (S : CallFix p m c cc nL s args Ts own) (hM : vx_Met l y ws rm Pc Qc XC mc ms free) (cw : CallB R s args own index y bytes maxL ret ws rm mc ms n ∧ (Cond.static y).before args s = true) (hp : PreS s H Pc As)
    (hg : g.method = m) (hn : As.length = n) (hsize : g.locals.size = nL) (hstack : g.stack = As.reverse ++ rest) (hW : 2 * g.monitorRoom + (rest.map fun v => v.category).sum ≤ 8) (hdg : decode cc g.pc = .ok (.invokestatic index, 3)) (hf : cells + mc ≤ R.cells ∧ slots + ms ≤ R.slots) :
    vx_Run p l e R s m args below meth c H locs cells slots mc ms g rest (Qc As.toArray) XC free := by
  have hK : vx_Back l R p e below s args y 3 8 (PreOf R mc ms Pc) (PostOf Qc mc ms free) (vx_Post XC mc ms free) := vx_callBack cw.1 hM hp.1
  obtain ⟨⟨-, -, -, -, -, -, hcode, hini, hy, hlen, hl⟩, hstt⟩ := cw
  obtain ⟨hx, hb, hml, ho, -⟩ := S
  intro T hT X
  rcases vx_callS X hx (bytes := bytes) (maxL := maxL) (ret := ret) ho hl hstt hini hcode hy hK hg (hsize.trans hml.symm) (argsL := As) (rest := rest) (fun sig h => hn.trans (hlen sig h)) hstack hW (by rw [hb]; exact hdg)
    (fun vm₁ hW₁ => ⟨hf.1, hf.2, hp.2 (T.setVm vm₁) hT hW₁⟩) with ⟨v, vm₁, ⟨U', l2, c2, s2⟩, hW₁, X', ⟨g', mk, t, L, e1, e2, hq, h1, hL, h2, h3⟩, st⟩ | ⟨q, vm₁, ⟨U', l2, c2, s2⟩, hW₁, X', ⟨g', mk, t, L, E, ce, e1, e2, hq, hce, hcv, hcl, h1, hL, h2, h3⟩, st⟩
  · dsimp only [Pt.U, Pt.locs, Pt.cells, Pt.slots] at X' e1 e2 h1 h2 h3 st
    subst h1; subst h2; subst h3
    exact Or.inl ⟨v, (T.setVm vm₁).calling g' mk As.toArray, t, U', L, hT, X', hL, e1, e2, hq, st⟩
  · dsimp only [Pt.U, Pt.locs, Pt.cells, Pt.slots] at X' e1 e2 h1 h2 h3 st hcl
    subst h1; subst h2; subst h3
    exact Or.inr ⟨q, (T.setVm vm₁).calling g' mk As.toArray, t, U', L, E, ce, hT, X', hL, e1, e2, hq, hce, hcv, vx_cls hW₁ hcl, st⟩
end Runs
section Rows
variable {p : Program} {l : Launch} {e : Env} {R : Room} {s : State} {m : MethodId} {args : Array Value} {below : List Frame} {meth : Method} {c : Code} {H : Heap} {locs : List Loc} {cells slots : Nat} {Q : State → Prop}
variable {mc ms : Nat} {free : Addr → Prop} {A0 A1 : Nat → Prop} {H0 : Heap} {a : Array Value} {pc : Nat} {ls : Array Slot} {st0 rest : List Value}
theorem vx_keep {st₀ t T' : State} {L : List Loc} (h0 : st₀.heap = H) (e1 : T'.heap = t.heap) (hS : va_S A0 H0 H locs) (hA : ∀ q, q < H.size → A1 q → A0 q) (hf : ∀ q, free q → A0 q) (hL : ∀ q ∈ L, free q.base) (hF : va_F A1 st₀ t) :
    H.size ≤ T'.heap.size ∧ (∀ q : Nat, q < H.size → ¬ A1 q → T'.heap[q]? = H[q]?) ∧ va_S A0 H0 T'.heap (locs ++ L) := by
  obtain ⟨hz, hk⟩ := hF
  rw [h0] at hz hk
  exact ⟨by rw [e1]; exact hz, fun q h1 h2 => by rw [e1]; exact hk q h1 h2,
    ⟨Nat.le_trans hS.1 (by rw [e1]; exact hz), fun q h1 h2 => by rw [e1, hk q (Nat.lt_of_lt_of_le h1 hS.1) (fun z => h2 (hA q (Nat.lt_of_lt_of_le h1 hS.1) z))]; exact hS.2.1 q h1 h2, fun q hq => by
      rcases List.mem_append.mp hq with h | h
      · exact hS.2.2 q h
      · exact hf _ (hL q h)⟩⟩
theorem vx_calli {S SX : Type} {post : Int32 → S → Prop} {px : SX → Prop} {B : S → State → Prop} {BX : String → SX → State → Prop} {AX : Nat → Prop} (hr : vx_Run p l e R s m args below meth c H locs cells slots mc ms (F0 m pc ls st0) rest (va_Qi post B A1 a) (vx_X px BX AX) free) (hS : va_S A0 H0 H locs) (hA : ∀ q, q < H.size → A1 q → A0 q) (hf : ∀ q, free q → A0 q) (hAX : ∀ q, q < H.size → AX q → A0 q)
    (kx : ∀ (E : String) (ce : Cell) (q9 : Addr) (u : SX) (t : State) (H1 : Heap) (locs1 : List Loc), t.heap = H1 → s.vm.Alike t.vm → px u → BX E u t → H.size ≤ H1.size → (∀ q : Nat, q < H.size → ¬ AX q → H1[q]? = H[q]?) → va_S A0 H0 H1 locs1 → H1[q9]? = some ce → ce.vm = .none → s.vm.findClass E = some ce.cls → vx_W p l e R s m args below meth c H1 locs1 (cells + mc) (slots + ms) Q (F0 m pc ls rest) q9)
    (kk : ∀ (r : Int32) (u : S) (t : State) (H1 : Heap) (locs1 : List Loc), t.heap = H1 → s.vm.Alike t.vm → post r u → B u t → H.size ≤ H1.size → (∀ q : Nat, q < H.size → ¬ A1 q → H1[q]? = H[q]?) → va_S A0 H0 H1 locs1 → W p l e R s m args below meth c H1 locs1 (cells + mc) (slots + ms) Q (F0 m (pc + 3) ls (.int r :: rest))) : W p l e R s m args below meth c H locs cells slots Q (F0 m pc ls st0) := by
  intro T hT X
  rcases hr T hT X with ⟨v, st₀, t, T', L, h0, X', hL, e1, e2, ⟨⟨r, u, hv, hp, hb⟩, hF⟩, st⟩ | ⟨q, st₀, t, T', L, E, ce, h0, X', hL, e1, e2, ⟨u, hp, hb, hF⟩, hce, hcv, hcl, st⟩
  · cases hv
    obtain ⟨k1, k2, k3⟩ := vx_keep h0 e1 hS hA hf hL hF
    obtain ⟨t2, a1, b1⟩ := kk r u t T'.heap (locs ++ L) e1.symm (by rw [← e2]; exact X'.warmed.alike) hp hb k1 k2 k3 T' rfl X'
    exact ⟨t2, st t2 a1, b1⟩
  · obtain ⟨k1, k2, k3⟩ := vx_keep h0 e1 hS hAX hf hL hF
    obtain ⟨t2, a1, b1⟩ := kx E ce q u t T'.heap (locs ++ L) e1.symm (by rw [← e2]; exact X'.warmed.alike) hp hb k1 k2 k3 (by rw [e1]; exact hce) hcv hcl T' rfl X'
    exact ⟨t2, st.trans a1, b1⟩
theorem vx_calll {S SX : Type} {post : Int64 → S → Prop} {px : SX → Prop} {B : S → State → Prop} {BX : String → SX → State → Prop} {AX : Nat → Prop} (hr : vx_Run p l e R s m args below meth c H locs cells slots mc ms (F0 m pc ls st0) rest (va_Ql post B A1 a) (vx_X px BX AX) free) (hS : va_S A0 H0 H locs) (hA : ∀ q, q < H.size → A1 q → A0 q) (hf : ∀ q, free q → A0 q) (hAX : ∀ q, q < H.size → AX q → A0 q)
    (kx : ∀ (E : String) (ce : Cell) (q9 : Addr) (u : SX) (t : State) (H1 : Heap) (locs1 : List Loc), t.heap = H1 → s.vm.Alike t.vm → px u → BX E u t → H.size ≤ H1.size → (∀ q : Nat, q < H.size → ¬ AX q → H1[q]? = H[q]?) → va_S A0 H0 H1 locs1 → H1[q9]? = some ce → ce.vm = .none → s.vm.findClass E = some ce.cls → vx_W p l e R s m args below meth c H1 locs1 (cells + mc) (slots + ms) Q (F0 m pc ls rest) q9)
    (kk : ∀ (r : Int64) (u : S) (t : State) (H1 : Heap) (locs1 : List Loc), t.heap = H1 → s.vm.Alike t.vm → post r u → B u t → H.size ≤ H1.size → (∀ q : Nat, q < H.size → ¬ A1 q → H1[q]? = H[q]?) → va_S A0 H0 H1 locs1 → W p l e R s m args below meth c H1 locs1 (cells + mc) (slots + ms) Q (F0 m (pc + 3) ls (.long r :: rest))) : W p l e R s m args below meth c H locs cells slots Q (F0 m pc ls st0) := by
  intro T hT X
  rcases hr T hT X with ⟨v, st₀, t, T', L, h0, X', hL, e1, e2, ⟨⟨r, u, hv, hp, hb⟩, hF⟩, st⟩ | ⟨q, st₀, t, T', L, E, ce, h0, X', hL, e1, e2, ⟨u, hp, hb, hF⟩, hce, hcv, hcl, st⟩
  · cases hv
    obtain ⟨k1, k2, k3⟩ := vx_keep h0 e1 hS hA hf hL hF
    obtain ⟨t2, a1, b1⟩ := kk r u t T'.heap (locs ++ L) e1.symm (by rw [← e2]; exact X'.warmed.alike) hp hb k1 k2 k3 T' rfl X'
    exact ⟨t2, st t2 a1, b1⟩
  · obtain ⟨k1, k2, k3⟩ := vx_keep h0 e1 hS hAX hf hL hF
    obtain ⟨t2, a1, b1⟩ := kx E ce q u t T'.heap (locs ++ L) e1.symm (by rw [← e2]; exact X'.warmed.alike) hp hb k1 k2 k3 (by rw [e1]; exact hce) hcv hcl T' rfl X'
    exact ⟨t2, st.trans a1, b1⟩
theorem vx_callf {S SX : Type} {post : UInt32 → S → Prop} {px : SX → Prop} {B : S → State → Prop} {BX : String → SX → State → Prop} {AX : Nat → Prop} (hr : vx_Run p l e R s m args below meth c H locs cells slots mc ms (F0 m pc ls st0) rest (va_Qf post B A1 a) (vx_X px BX AX) free) (hS : va_S A0 H0 H locs) (hA : ∀ q, q < H.size → A1 q → A0 q) (hf : ∀ q, free q → A0 q) (hAX : ∀ q, q < H.size → AX q → A0 q)
    (kx : ∀ (E : String) (ce : Cell) (q9 : Addr) (u : SX) (t : State) (H1 : Heap) (locs1 : List Loc), t.heap = H1 → s.vm.Alike t.vm → px u → BX E u t → H.size ≤ H1.size → (∀ q : Nat, q < H.size → ¬ AX q → H1[q]? = H[q]?) → va_S A0 H0 H1 locs1 → H1[q9]? = some ce → ce.vm = .none → s.vm.findClass E = some ce.cls → vx_W p l e R s m args below meth c H1 locs1 (cells + mc) (slots + ms) Q (F0 m pc ls rest) q9)
    (kk : ∀ (r : UInt32) (u : S) (t : State) (H1 : Heap) (locs1 : List Loc), t.heap = H1 → s.vm.Alike t.vm → post r u → B u t → H.size ≤ H1.size → (∀ q : Nat, q < H.size → ¬ A1 q → H1[q]? = H[q]?) → va_S A0 H0 H1 locs1 → W p l e R s m args below meth c H1 locs1 (cells + mc) (slots + ms) Q (F0 m (pc + 3) ls (.float r :: rest))) : W p l e R s m args below meth c H locs cells slots Q (F0 m pc ls st0) := by
  intro T hT X
  rcases hr T hT X with ⟨v, st₀, t, T', L, h0, X', hL, e1, e2, ⟨⟨r, u, hv, hp, hb⟩, hF⟩, st⟩ | ⟨q, st₀, t, T', L, E, ce, h0, X', hL, e1, e2, ⟨u, hp, hb, hF⟩, hce, hcv, hcl, st⟩
  · cases hv
    obtain ⟨k1, k2, k3⟩ := vx_keep h0 e1 hS hA hf hL hF
    obtain ⟨t2, a1, b1⟩ := kk r u t T'.heap (locs ++ L) e1.symm (by rw [← e2]; exact X'.warmed.alike) hp hb k1 k2 k3 T' rfl X'
    exact ⟨t2, st t2 a1, b1⟩
  · obtain ⟨k1, k2, k3⟩ := vx_keep h0 e1 hS hAX hf hL hF
    obtain ⟨t2, a1, b1⟩ := kx E ce q u t T'.heap (locs ++ L) e1.symm (by rw [← e2]; exact X'.warmed.alike) hp hb k1 k2 k3 (by rw [e1]; exact hce) hcv hcl T' rfl X'
    exact ⟨t2, st.trans a1, b1⟩
theorem vx_calld {S SX : Type} {post : UInt64 → S → Prop} {px : SX → Prop} {B : S → State → Prop} {BX : String → SX → State → Prop} {AX : Nat → Prop} (hr : vx_Run p l e R s m args below meth c H locs cells slots mc ms (F0 m pc ls st0) rest (va_Qd post B A1 a) (vx_X px BX AX) free) (hS : va_S A0 H0 H locs) (hA : ∀ q, q < H.size → A1 q → A0 q) (hf : ∀ q, free q → A0 q) (hAX : ∀ q, q < H.size → AX q → A0 q)
    (kx : ∀ (E : String) (ce : Cell) (q9 : Addr) (u : SX) (t : State) (H1 : Heap) (locs1 : List Loc), t.heap = H1 → s.vm.Alike t.vm → px u → BX E u t → H.size ≤ H1.size → (∀ q : Nat, q < H.size → ¬ AX q → H1[q]? = H[q]?) → va_S A0 H0 H1 locs1 → H1[q9]? = some ce → ce.vm = .none → s.vm.findClass E = some ce.cls → vx_W p l e R s m args below meth c H1 locs1 (cells + mc) (slots + ms) Q (F0 m pc ls rest) q9)
    (kk : ∀ (r : UInt64) (u : S) (t : State) (H1 : Heap) (locs1 : List Loc), t.heap = H1 → s.vm.Alike t.vm → post r u → B u t → H.size ≤ H1.size → (∀ q : Nat, q < H.size → ¬ A1 q → H1[q]? = H[q]?) → va_S A0 H0 H1 locs1 → W p l e R s m args below meth c H1 locs1 (cells + mc) (slots + ms) Q (F0 m (pc + 3) ls (.double r :: rest))) : W p l e R s m args below meth c H locs cells slots Q (F0 m pc ls st0) := by
  intro T hT X
  rcases hr T hT X with ⟨v, st₀, t, T', L, h0, X', hL, e1, e2, ⟨⟨r, u, hv, hp, hb⟩, hF⟩, st⟩ | ⟨q, st₀, t, T', L, E, ce, h0, X', hL, e1, e2, ⟨u, hp, hb, hF⟩, hce, hcv, hcl, st⟩
  · cases hv
    obtain ⟨k1, k2, k3⟩ := vx_keep h0 e1 hS hA hf hL hF
    obtain ⟨t2, a1, b1⟩ := kk r u t T'.heap (locs ++ L) e1.symm (by rw [← e2]; exact X'.warmed.alike) hp hb k1 k2 k3 T' rfl X'
    exact ⟨t2, st t2 a1, b1⟩
  · obtain ⟨k1, k2, k3⟩ := vx_keep h0 e1 hS hAX hf hL hF
    obtain ⟨t2, a1, b1⟩ := kx E ce q u t T'.heap (locs ++ L) e1.symm (by rw [← e2]; exact X'.warmed.alike) hp hb k1 k2 k3 (by rw [e1]; exact hce) hcv hcl T' rfl X'
    exact ⟨t2, st.trans a1, b1⟩
theorem vx_callv {S SX : Type} {post : S → Prop} {px : SX → Prop} {B : S → State → Prop} {BX : String → SX → State → Prop} {AX : Nat → Prop} (hr : vx_Run p l e R s m args below meth c H locs cells slots mc ms (F0 m pc ls st0) rest (va_Qv post B A1 a) (vx_X px BX AX) free) (hS : va_S A0 H0 H locs) (hA : ∀ q, q < H.size → A1 q → A0 q) (hf : ∀ q, free q → A0 q) (hAX : ∀ q, q < H.size → AX q → A0 q)
    (kx : ∀ (E : String) (ce : Cell) (q9 : Addr) (u : SX) (t : State) (H1 : Heap) (locs1 : List Loc), t.heap = H1 → s.vm.Alike t.vm → px u → BX E u t → H.size ≤ H1.size → (∀ q : Nat, q < H.size → ¬ AX q → H1[q]? = H[q]?) → va_S A0 H0 H1 locs1 → H1[q9]? = some ce → ce.vm = .none → s.vm.findClass E = some ce.cls → vx_W p l e R s m args below meth c H1 locs1 (cells + mc) (slots + ms) Q (F0 m pc ls rest) q9)
    (kk : ∀ (u : S) (t : State) (H1 : Heap) (locs1 : List Loc), t.heap = H1 → s.vm.Alike t.vm → post u → B u t → H.size ≤ H1.size → (∀ q : Nat, q < H.size → ¬ A1 q → H1[q]? = H[q]?) → va_S A0 H0 H1 locs1 → W p l e R s m args below meth c H1 locs1 (cells + mc) (slots + ms) Q (F0 m (pc + 3) ls (rest))) : W p l e R s m args below meth c H locs cells slots Q (F0 m pc ls st0) := by
  intro T hT X
  rcases hr T hT X with ⟨v, st₀, t, T', L, h0, X', hL, e1, e2, ⟨⟨u, hv, hp, hb⟩, hF⟩, st⟩ | ⟨q, st₀, t, T', L, E, ce, h0, X', hL, e1, e2, ⟨u, hp, hb, hF⟩, hce, hcv, hcl, st⟩
  · cases hv
    obtain ⟨k1, k2, k3⟩ := vx_keep h0 e1 hS hA hf hL hF
    obtain ⟨t2, a1, b1⟩ := kk u t T'.heap (locs ++ L) e1.symm (by rw [← e2]; exact X'.warmed.alike) hp hb k1 k2 k3 T' rfl X'
    exact ⟨t2, st t2 a1, b1⟩
  · obtain ⟨k1, k2, k3⟩ := vx_keep h0 e1 hS hAX hf hL hF
    obtain ⟨t2, a1, b1⟩ := kx E ce q u t T'.heap (locs ++ L) e1.symm (by rw [← e2]; exact X'.warmed.alike) hp hb k1 k2 k3 (by rw [e1]; exact hce) hcv hcl T' rfl X'
    exact ⟨t2, st.trans a1, b1⟩
/-- caught by the row x of this method's table; the rows ahead don't take it -/
theorem vx_catch {own name : String} {E : String} {ce : Cell} {q : Addr} (hown : s.vm.findClass own = some m.cls) (pre : List ExceptionTableEntry) (x : ExceptionTableEntry) (suf : List ExceptionTableEntry) (hsplit : c.exceptionTable.toList = pre ++ x :: suf)
    (hpass : ∀ z ∈ pre, covers z pc = false ∨ (z.catchType ≠ 0 ∧ ∃ nm : String, (Cond.classLink own z.catchType nm).before args s = true ∧ va_Nc E nm s)) (hx : covers x pc = true) (h0 : x.catchType ≠ 0)
    (hlink : (Cond.classLink own x.catchType name).before args s = true) (hcast : (Cond.castable E name).before args s = true) (hcell : H[q]? = some ce) (hv : ce.vm = .none) (hcl : s.vm.findClass E = some ce.cls)
    (kk : W p l e R s m args below meth c H locs cells slots Q (F0 m x.handlerPc ls [.ref q])) : vx_W p l e R s m args below meth c H locs cells slots Q (F0 m pc ls rest) q := by
  intro T hT X
  have hpl : e.platform.magicAccessors = ({} : Platform).magicAccessors := by rw [X.admits.platform]
  obtain ⟨c3, c4, hc3, hc4, hasg⟩ := Cond.castable_spec hcast
  cases Option.some.inj (hc3.symm.trans hcl)
  obtain ⟨c5, hc5, hcl5⟩ := Cond.classLink_spec hown hlink e.platform hpl
  cases Option.some.inj (hc4.symm.trans hc5)
  obtain ⟨vm', X', st⟩ := X.thenCaughtThrough q (g := F0 m pc ls rest) rfl (Steps.refl _) (by rw [hT]; exact hcell) (by rw [hv]; rfl) (by obtain ⟨k9, h9, -⟩ := Vm.findClass_spec hcl; exact ⟨k9, h9⟩) pre x suf hsplit
    (fun z hz => by
      rcases hpass z hz with h | ⟨hz0, nm, hl1, hn1⟩
      · exact Or.inl h
      · obtain ⟨c6, hc6, hcl6⟩ := Cond.classLink_spec hown hl1 e.platform hpl
        obtain ⟨a8, b8, h1, h2, h3⟩ := hn1
        cases Option.some.inj (h1.symm.trans hcl)
        cases Option.some.inj (h2.symm.trans hc6)
        exact Or.inr ⟨hz0, _, hcl6, h3⟩) hx (Or.inr ⟨h0, c4, hcl5, hasg⟩)
  obtain ⟨t, a1, b1⟩ := kk (T.setVm vm') hT X'
  exact ⟨t, st.trans a1, b1⟩
end Rows
section Ends
variable {p : Program} {l : Launch} {e : Env} {R : Room} {s : State} {m : MethodId} {args : Array Value} {below : List Frame} {meth : Method} {c : Code} {H : Heap} {locs : List Loc} {cells slots : Nat} {Q : State → Prop}
variable {mc ms : Nat} {free : Addr → Prop} {A0 A1 : Nat → Prop} {H0 : Heap} {a : Array Value} {ls : Array Slot} {st0 rest : List Value}
variable {Qc : Array Value → State → Outcome → State → Prop} {XC : String → State → State → Prop}
/-- what a body that may throw owes at its end -/
def vx_MQ (below : List Frame) (Qc : Array Value → State → Outcome → State → Prop) (XC : String → State → State → Prop) (a : Array Value) (s : State) (mc ms : Nat) (free : Addr → Prop) : State → Prop := fun t =>
  ∃ o, t.status = .running ∧ Ended t below o ∧ vx_Q Qc XC mc ms free a s o t
theorem vx_ret {g : JFrame} {mc ms : Nat} (k : W p l e R s m args below meth c H locs cells slots (MQ below Qc args s mc ms free) g) : W p l e R s m args below meth c H locs cells slots (vx_MQ below Qc XC args s mc ms free) g := by
  intro T hT X
  obtain ⟨t, a1, o, b1, b2, b3, b4⟩ := k T hT X
  exact ⟨t, a1, o, b1, b2, Or.inl ⟨b3, b4⟩⟩
/-- not caught here: it goes on to the caller -/
theorem vx_widen {g : JFrame} {q : Addr} {k n : Nat} (h1 : cells ≤ k) (h2 : slots ≤ n) (kk : vx_W p l e R s m args below meth c H locs k n Q g q) : vx_W p l e R s m args below meth c H locs cells slots Q g q := fun T hT X => kk T hT (stand_widen X h1 h2)
theorem vx_out {pc : Nat} {E : String} {ce : Cell} {q : Addr} {mc ms : Nat} (hout : ∀ x ∈ c.exceptionTable.toList, covers x pc = false) (hlocks : meth.locks = false) (hcell : H[q]? = some ce) (hv : ce.vm = .none) (hcl : s.vm.findClass E = some ce.cls)
    (hx : ∀ t : State, t.heap = H → s.vm.Alike t.vm → XC E s t) (hf : ∀ z ∈ locs, free z.base) (hc : cells ≤ mc) (hs : slots ≤ ms) :
    vx_W p l e R s m args below meth c H locs cells slots (vx_MQ below Qc XC args s mc ms free) (F0 m pc ls rest) q := by
  intro T hT X
  obtain ⟨st1, hrun, hend, hW, hsm⟩ := X.leaveThrown q (g := F0 m pc ls rest) rfl rfl rfl hout hlocks
  have hcell9 : (T.setFrames (.throwing q :: below)).heap[q]? = some ce := by
    show T.heap[q]? = some ce
    rw [hT]; exact hcell
  exact ⟨_, st1, .threw q, hrun, hend, Or.inr ⟨q, rfl, E, ce, locs, hx _ hT hW.alike, hcell9, hv, hcl, hW, hsm.mono hc hs, hf⟩⟩
theorem vx_frame {U : State} {k n : Nat} (h : s.sameButNew ({ U with vm := s.vm } : State) locs k n) : s.heap.size ≤ U.heap.size ∧ ∀ q : Nat, q < s.heap.size → (∀ z ∈ locs, z.base ≠ q) → U.heap[q]? = s.heap[q]? := by
  obtain ⟨-, h2, -, -, -, h6⟩ := h
  refine ⟨h2, fun q hq hz => ?_⟩
  obtain ⟨c9, e1, e2, e3, e4⟩ := h6 q _ (Array.getElem?_eq_getElem hq)
  have hs : c9.slots = (s.heap[q]).slots := Array.ext_getElem? fun i => e4 i fun hm => hz _ hm rfl
  have h9 : c9 = s.heap[q] := by
    rw [hs] at e2
    exact e2
  have e5 : U.heap[q]? = some c9 := e1
  rw [e5, h9, Array.getElem?_eq_getElem hq]
/-- the words of a throw but the four that speak of the heap -/
def vx_no (w : Cond) : Bool := decide (w ≠ .isRef (.static Bundle.tN "UNASSIGNED_STACK" Bundle.steD)) && decide (w ≠ .isRef (.static Bundle.tN "SUPPRESSED_SENTINEL" Bundle.listD)) && decide (w ≠ .laysStatic Bundle.tN "UNASSIGNED_STACK" Bundle.steD) && decide (w ≠ .laysStatic Bundle.tN "SUPPRESSED_SENTINEL" Bundle.listD)
def vx_at0 (own : String) (ic : Nat) (X : String) (names : List String) : List Cond := (Bundle.ownAtoms0 own ic X names).filter vx_no
def vx_atS (own : String) (ic : Nat) (X : String) (names : List String) : List Cond := (Bundle.ownAtoms own ic X names).filter vx_no
/-- a word that the tables alone decide, or a good one -/
def vx_ot (w : Cond) : Bool := w.onTables || goodWord w
theorem vx_ot_at {args a' : Array Value} {s U : State} {w : Cond} (hW : s.WarmedH U.vm) (hvm : s.vm = U.vm) (hg : vx_ot w = true) (h : w.before args s = true) : w.before a' U = true := by
  simp only [vx_ot, Bool.or_eq_true] at hg
  rcases hg with hg | hg
  · exact va_tabs hg hvm h
  · exact word_at hW (good_of_word hg) h
/-- a list's words: the good ones out of the method's own list, the others by premises of their own -/
theorem vx_hat {args : Array Value} {s : State} {L B : List Cond} (h1 : ∀ w ∈ L.filter goodWord, w.before args s = true) (h2 : ∀ w ∈ L.filter (fun w => !goodWord w), w ∈ B) (h3 : ∀ w ∈ B, w.before args s = true) : ∀ w ∈ L, w.before args s = true := by
  intro w hw
  by_cases g : goodWord w = true
  · exact h1 w (List.mem_filter.mpr ⟨hw, g⟩)
  · refine h3 w (h2 w (List.mem_filter.mpr ⟨hw, ?_⟩))
    show (!goodWord w) = true
    cases hgw : goodWord w
    · rfl
    · exact absurd hgw g
theorem vx_c {args : Array Value} {s : State} {w : Cond} {B : List Cond} (h : w.before args s = true) (t : ∀ w ∈ B, w.before args s = true) : ∀ w' ∈ w :: B, w'.before args s = true := fun w' h' => (List.mem_cons.mp h').elim (fun e => by rw [e]; exact h) (t w')
theorem vx_n {args : Array Value} {s : State} : ∀ w ∈ ([] : List Cond), w.before args s = true := fun _ h => nomatch h
theorem vx_own {args : Array Value} {s : State} {L : List Cond} (h1 : ∀ w ∈ L.filter vx_no, w.before args s = true)
    (hU : (Cond.isRef (.static Bundle.tN "UNASSIGNED_STACK" Bundle.steD)).before args s = true) (hN : (Cond.isRef (.static Bundle.tN "SUPPRESSED_SENTINEL" Bundle.listD)).before args s = true)
    (lU : (Cond.laysStatic Bundle.tN "UNASSIGNED_STACK" Bundle.steD).before args s = true) (lN : (Cond.laysStatic Bundle.tN "SUPPRESSED_SENTINEL" Bundle.listD).before args s = true) : ∀ w ∈ L, w.before args s = true := by
  intro w hw
  by_cases e1 : w = .isRef (.static Bundle.tN "UNASSIGNED_STACK" Bundle.steD)
  · rw [e1]; exact hU
  · by_cases e2 : w = .isRef (.static Bundle.tN "SUPPRESSED_SENTINEL" Bundle.listD)
    · rw [e2]; exact hN
    · by_cases e3 : w = .laysStatic Bundle.tN "UNASSIGNED_STACK" Bundle.steD
      · rw [e3]; exact lU
      · by_cases e4 : w = .laysStatic Bundle.tN "SUPPRESSED_SENTINEL" Bundle.listD
        · rw [e4]; exact lN
        · exact h1 w (List.mem_filter.mpr ⟨hw, by unfold vx_no; rw [decide_eq_true e1, decide_eq_true e2, decide_eq_true e3, decide_eq_true e4]; rfl⟩)
/-- where a static field lies, its class's statics cell in H -/
def vx_L (C n d : String) (A : Nat → Prop) (U : State) (H : Heap) : Prop := ∃ (c : ClassId) (k : Class) (i : Nat) (f : Field) (a : Nat) (cell : Cell), U.vm.findClass C = some c ∧ U.fieldFound? C n d = some (c, k, i, f) ∧ f.isStatic = true ∧ k.statics = some a ∧ H[a]? = some cell ∧ cell.vm.isStatics = true ∧ cell.cls = c ∧ f.slot < cell.slots.size ∧ k.staticTypes[f.slot]? = some f.type ∧ ¬ A a
theorem vx_L.moved {C n d : String} {A : Nat → Prop} {u U : State} {H : Heap} (hvm : u.vm.Alike U.vm) (h : vx_L C n d A u H) : vx_L C n d A U H := by
  obtain ⟨c, k, i, f, a, cell, h1, h2, h3, h4, h5, h6, h7, h8, h9, h10⟩ := h
  obtain ⟨k', hi', he⟩ := State.fieldFound?_setVm hvm h2
  exact ⟨c, k', i, f, a, cell, by rw [hvm.findClass]; exact h1, hi', h3, by rw [he]; exact h4, h5, h6, h7, h8, by rw [he]; exact h9, h10⟩
theorem vx_L.kept {C n d : String} {A : Nat → Prop} {U : State} {H H1 : Heap} (h : vx_L C n d A U H) (hq : ∀ a : Nat, a < H.size → ¬ A a → H1[a]? = H[a]?) : vx_L C n d A U H1 := by
  obtain ⟨c, k, i, f, a, cell, h1, h2, h3, h4, h5, h6, h7, h8, h9, h10⟩ := h
  exact ⟨c, k, i, f, a, cell, h1, h2, h3, h4, by rw [hq a (Array.getElem?_eq_some_iff.mp h5).1 h10]; exact h5, h6, h7, h8, h9, h10⟩
theorem vx_L.narrow {C n d : String} {A B : Nat → Prop} {U : State} {H : Heap} (h : vx_L C n d A U H) (hAB : ∀ q, B q → A q) : vx_L C n d B U H := by
  obtain ⟨c, k, i, f, a, cell, h1, h2, h3, h4, h5, h6, h7, h8, h9, h10⟩ := h
  exact ⟨c, k, i, f, a, cell, h1, h2, h3, h4, h5, h6, h7, h8, h9, fun z => h10 (hAB _ z)⟩
theorem vx_L.word {C n d : String} {A : Nat → Prop} {s : State} {args : Array Value} (h : vx_L C n d A s s.heap) : (Cond.laysStatic C n d).before args s = true := by
  obtain ⟨c, k, i, f, a, cell, h1, h2, h3, h4, h5, h6, h7, h8, h9, -⟩ := h
  show (Cond.laysStatic C n d).holds args s none s [] = true
  exact Cond.laysStatic_of h1 h2 h3 h4 h5 h6 h7 h8 h9
/-- .. and what it holds: null or some reference -/
def vx_Zq (C n d : String) (A : Nat → Prop) (U : State) (H : Heap) : Prop := va_Zq C n d A U H ∧ vx_L C n d A U H
theorem vx_Zq.moved {C n d : String} {A : Nat → Prop} {u U : State} {H : Heap} (hvm : u.vm.Alike U.vm) (h : vx_Zq C n d A u H) : vx_Zq C n d A U H := ⟨va_Zq.moved hvm h.1, vx_L.moved hvm h.2⟩
theorem vx_Zq.kept {C n d : String} {A : Nat → Prop} {U : State} {H H1 : Heap} (h : vx_Zq C n d A U H) (hq : ∀ a : Nat, a < H.size → ¬ A a → H1[a]? = H[a]?) : vx_Zq C n d A U H1 := ⟨va_Zq.kept h.1 hq, vx_L.kept h.2 hq⟩
theorem vx_Zq.narrow {C n d : String} {A B : Nat → Prop} {U : State} {H : Heap} (h : vx_Zq C n d A U H) (hAB : ∀ q, B q → A q) : vx_Zq C n d B U H := ⟨va_Zq.narrow h.1 hAB, vx_L.narrow h.2 hAB⟩
theorem vx_Zqof {args : Array Value} {s : State} {C n d : String} {A : Nat → Prop} (hl : (Cond.laysStatic C n d).before args s = true) (hini : (Cond.initialized C).before args s = true) (h : (Cond.isRef (.static C n d)).before args s = true) (hA : ∀ a : Nat, a < s.heap.size → ¬ A a) : vx_Zq C n d A s s.heap := by
  refine ⟨va_Zqof hl hini h hA, ?_⟩
  obtain ⟨c, k, i, f, a, cell, h1, h2, h3, h4, h5, h6, h7, h8, h9⟩ := Cond.laysStatic_spec hl
  exact ⟨c, k, i, f, a, cell, h1, h2, h3, h4, h5, h6, h7, h8, h9, hA a (Array.getElem?_eq_some_iff.mp h5).1⟩
theorem vx_isRef {C n d : String} {v : Value} {A : Nat → Prop} {s : State} {args : Array Value} (h : va_Z C n d v A s s.heap) (hv : v.isRef = true) : (Cond.isRef (.static C n d)).before args s = true := by
  obtain ⟨cf, kf, fi, f, a, cell, h1, h2, h3, h4, h5, h6, h7, -⟩ := h
  have he : (Term.static C n d).eval args s none [] s = some v := by
    simp [Term.eval, State.fieldNamed?, h1, h2, h4, h5, h6, h7]
  simp only [Cond.before, Cond.holds, Cond.value, he]
  cases v <;> simp_all [Value.isRef]
theorem vx_isRefq {C n d : String} {A : Nat → Prop} {s : State} {args : Array Value} (h : va_Zq C n d A s s.heap) : (Cond.isRef (.static C n d)).before args s = true := by
  rcases h with h | ⟨t, h⟩
  · exact vx_isRef h rfl
  · exact vx_isRef h rfl
/-- the same frame, seen from here: as if the method were called anew in this heap -/
theorem vx_rebase {T : State} (X : Stand p l e R s m args below meth c T locs cells slots) {R' : Room} (hf : R'.frames ≤ R.frames) (hl : R'.locals ≤ R.locals) (hc : cells + R'.cells ≤ R.cells) (hs : slots + R'.slots ≤ R.slots) :
    Stand p l e R' ((T.setVm s.vm).setFrames (.invoking m args :: below)) m args below meth c T [] 0 0 := by
  have htop : (T.setVm s.vm).topJava?.isSome := X.here.top
  have hF : ((T.setVm s.vm).setFrames (.invoking m args :: below)).frames = .invoking m args :: below := State.frames_setFrames _ (State.cur_lt_of_top htop)
  obtain ⟨g₀, hg0⟩ := Option.isSome_iff_exists.mp htop
  obtain ⟨r, hr⟩ := State.topJava?_eq_some.mp hg0
  have hl9 : e.platform.stackLimits (T.setVm s.vm).me = e.platform.stackLimits s.me := X.limits
  have hb9 : (T.setVm s.vm).me.stackBytes = s.me.stackBytes := X.bytes
  refine ⟨X.admits, X.cas, X.clock, hF, ?_, X.hears, X.method, X.code, X.here, X.tail, X.warmed, ?_, ?_, ?_⟩
  · have h := X.room
    have hU : ((T.setVm s.vm).setFrames (.invoking m args :: below)).localsInUse = s.localsInUse := by
      rw [State.localsInUse_invoking hF (meth := meth) (c := c) X.method X.code, State.localsInUse_invoking X.frames X.method X.code]
    simp only [State.hasRoom, Bool.and_eq_true, decide_eq_true_eq] at h ⊢
    obtain ⟨⟨⟨⟨h1, h2, h3, h4, h5, h6⟩, h7⟩, h8⟩, h9⟩ := h
    rw [X.frames, List.length_cons] at h2 h3
    have q1 := X.heapSize
    have q2 := X.used
    simp only [hF, hU, List.length_cons, State.stackLimits_setFrames, State.stackBytes_setFrames, hl9, hb9]
    refine ⟨⟨⟨⟨by omega, by omega, by omega, by omega, by omega, h6⟩, ?_⟩, ?_⟩, X.book⟩
    · show T.heap.size + R'.cells ≤ e.platform.maxCells
      omega
    · show T.slotsUsed + R'.slots ≤ e.platform.maxSlots
      omega
  · rw [State.stackLimits_setFrames]; rfl
  · rw [State.stackBytes_setFrames]; rfl
  · refine ⟨?_, Nat.le_refl _, Nat.le_refl _, ?_, ?_, fun a c9 h9 => ⟨c9, h9, rfl, rfl, fun _ _ => rfl⟩⟩
    · obtain ⟨t, ht, -⟩ := State.frames_cons hr
      show T.setVm s.vm = { ((T.setVm s.vm).setFrames (.invoking m args :: below)).setFrames (T.setVm s.vm).frames with heap := T.heap, slotsUsed := T.slotsUsed }
      rw [State.setFrames_setFrames, State.setFrames_self ht]
      rfl
    · show T.slotsUsed = T.slotsUsed + ((T.heap.toList.drop T.heap.size).map (·.slots.size)).sum
      rw [List.drop_eq_nil_of_le (Nat.le_of_eq Array.length_toList)]
      rfl
    · show ((T.heap.toList.drop T.heap.size).map (·.slots.size)).sum ≤ 0
      rw [List.drop_eq_nil_of_le (Nat.le_of_eq Array.length_toList)]
      exact Nat.le_refl _
/-- 'throw new E()': new; dup; invokespecial; athrow -/
theorem vx_throw0 {cc : ByteArray} {pc : Nat} (hexec : p.tables.exec = Jvm.exec) (hb : c.code = cc) (hl : l.stackTraces = false) {own cls : String} {names : List String} {ik ic mc ms : Nat} {A : Nat → Prop}
    (hown : s.vm.findClass own = some m.cls) (hcls : Bundle.fit cls = true) (hnames : ∀ n ∈ names, Bundle.fit n = true)
    (hk : (Cond.classLink own ik cls).before args s = true) (hini : (Cond.initialized cls).before args s = true) (hat : ∀ w ∈ vx_at0 own ic cls names, w.before args s = true)
    (hgood : ∀ w ∈ Cond.classLink own ik cls :: Cond.initialized cls :: vx_at0 own ic cls names, vx_ot w = true)
    (hU : vx_Zq Bundle.tN "UNASSIGNED_STACK" Bundle.steD A s s.heap) (hN : vx_Zq Bundle.tN "SUPPRESSED_SENTINEL" Bundle.listD A s s.heap) (hS : va_S A s.heap H locs) (hsize : ls.size = c.maxLocals)
    (d0 : decode cc pc = .ok (.new ik, 3)) (d3 : decode cc (pc + 3) = .ok (.dup, 1)) (d4 : decode cc (pc + 4) = .ok (.invokespecial ic, 3)) (d7 : decode cc (pc + 7) = .ok (.athrow, 1))
    (hout : ∀ x ∈ c.exceptionTable.toList, covers x (pc + 7) = false)
    (hRframes : names.length + 3 < R.frames) (hRlocals : (rest.map fun v => v.category).sum + (13 * (names.length + 1) + 42) ≤ R.locals) (hRcells : cells + 1 ≤ R.cells) (hRslots : slots + 6 ≤ R.slots) (hlocks : meth.locks = false)
    (hx : ∀ t : State, s.vm.Alike t.vm → H.size ≤ t.heap.size → (∀ q : Nat, q < H.size → t.heap[q]? = H[q]?) → XC cls s t)
    (hf : ∀ z ∈ locs, free z.base) (hc : cells + 1 ≤ mc) (hs : slots + 6 ≤ ms) :
    W p l e R s m args below meth c H locs cells slots (vx_MQ below Qc XC args s mc ms free) (F0 m pc ls rest) := by
  intro T hT X
  have htr : e.platform.stackTraces = false := (show e.platform.stackTraces = l.stackTraces by rw [X.admits.platform]).trans hl
  have Y := vx_rebase X (R' := { frames := R.frames, locals := R.locals, cells := 1, slots := 6 }) (Nat.le_refl _) (Nat.le_refl _) hRcells hRslots
  obtain ⟨s', hA⟩ : ∃ z, z = (T.setVm s.vm).setFrames (.invoking m args :: below) := ⟨_, rfl⟩
  rw [← hA] at Y
  have hvm : s'.vm = s.vm := by rw [hA]; rfl
  have hhp : s'.heap = H := by rw [hA]; exact hT
  have hW0 : s.WarmedH s'.vm := by rw [hvm]; exact State.WarmedH.refl s
  have hat' : ∀ w ∈ vx_at0 own ic cls names, w.before args s' = true := fun w hw => vx_ot_at hW0 hvm.symm (hgood w (List.mem_cons_of_mem _ (List.mem_cons_of_mem _ hw))) (hat w hw)
  have hk' : (Cond.classLink own ik cls).before args s' = true := vx_ot_at hW0 hvm.symm (hgood _ List.mem_cons_self) hk
  have hini' : (Cond.initialized cls).before args s' = true := vx_ot_at hW0 hvm.symm (hgood _ (List.mem_cons_of_mem _ List.mem_cons_self)) hini
  have hU' : vx_Zq Bundle.tN "UNASSIGNED_STACK" Bundle.steD A s' s'.heap := by rw [hhp]; exact vx_Zq.moved hW0.alike (hU.kept hS.2.1)
  have hN' : vx_Zq Bundle.tN "SUPPRESSED_SENTINEL" Bundle.listD A s' s'.heap := by rw [hhp]; exact vx_Zq.moved hW0.alike (hN.kept hS.2.1)
  have h : ∀ w ∈ Bundle.ownAtoms0 own ic cls names, w.before args s' = true := vx_own hat' (vx_isRefq hU'.1) (vx_isRefq hN'.1) hU'.2.word hN'.2.word
  have hown' : s'.vm.findClass own = some m.cls := by rw [hvm]; exact hown
  have hins : (Cond.instantiable cls 6).before args s' = true := h _ (by simp [Bundle.ownAtoms0])
  obtain ⟨vm₁, cX, kX, hfX, hkX, -, -, X₁, st1⟩ := Y.newCold hexec (own := own) (C := cls) (index := ik) (n := 6) hown' hk' hins hini'
    (g := F0 m pc ls rest) rfl (by rw [hb]; exact d0) (Nat.le_refl _) (Nat.le_refl _)
  generalize hT1 : (T.setVm vm₁).pushCell { cls := cX, slots := kX.instanceTypes.map defaultValue, vm := .none } = T1 at X₁ st1
  have hcat : (Value.ref T.heap.size).category = 1 := rfl
  have hcellA : T1.heap[T.heap.size]? = some (freshCell cX kX) := by rw [← hT1]; exact State.heap_pushCell_size _ _
  have d3' : decode c.code (pc + 3) = .ok (.dup, 1) := by rw [hb]; exact d3
  obtain ⟨U, hsteps, hrun, hend, hW, hsame, ce, hce, hO⟩ := X₁.ctorThrow0 hexec htr (own := own) (cls := cls) (names := names) (ic := ic) hown' hcls hnames h (fun x hx => nomatch hx) hfX hkX hcellA (by rw [hhp, hT]; exact Nat.le_refl _)
    (g := { method := m, pc := pc + 4, locals := ls, stack := .ref T.heap.size :: .ref T.heap.size :: rest, locked := none }) rfl hsize rfl rfl (rest := rest) rfl
    (by rw [hb]; exact d4) (by rw [hb]; exact d7) hout hRframes (by simp only [List.map_cons, List.sum_cons, hcat]; omega) hlocks
  obtain ⟨f1, f2⟩ := vx_frame hsame
  rw [hhp] at f1 f2
  have hWs : s.WarmedH U.vm := State.WarmedH.trans hW0 hW
  have hcl : s.vm.findClass cls = some ce.cls := by
    have h9 := hO.cls
    rw [hvm] at h9
    exact h9
  have hall : s.sameButNew ({ U with vm := s.vm } : State) locs mc ms := by
    subst hA
    obtain ⟨e1, e2⟩ := hsame
    rw [State.setFrames_setFrames] at e1
    have h2 : (T.setVm s.vm).sameButNew ({ U with vm := s.vm } : State) [] (0 + 1) (0 + 6) := ⟨e1, e2⟩
    have h3 := X.same.trans h2
    rw [List.append_nil] at h3
    exact h3.mono hc hs
  refine ⟨U, ?_, .threw T.heap.size, hrun, hend, Or.inr ⟨T.heap.size, rfl, cls, ce, locs, hx U hWs.alike f1 (fun q hq => f2 q hq (fun z hz => nomatch hz)), hce, hO.vm, hcl, hWs, hall, hf⟩⟩
  refine st1 _ ?_
  show Steps p.tables e below (T1.setTop { method := m, pc := pc + 3, locals := ls, stack := .ref T.heap.size :: rest, locked := none }) _
  jvm_step X₁.here [X₁.here.top, hexec, d3', Value.category]
  exact hsteps
/-- 'throw new E("text")': new; dup; ldc; invokespecial; athrow -/
theorem vx_throwS {cc : ByteArray} {pc : Nat} (hexec : p.tables.exec = Jvm.exec) (hb : c.code = cc) (hl : l.stackTraces = false) {own cls text : String} {names : List String} {ik is ic mc ms sa : Nat} {A : Nat → Prop}
    (hown : s.vm.findClass own = some m.cls) (hcls : Bundle.fit cls = true) (hnames : ∀ n ∈ names, Bundle.fit n = true)
    (hk : (Cond.classLink own ik cls).before args s = true) (hini : (Cond.initialized cls).before args s = true) (hstr : vk_R own is text sa s) (hat : ∀ w ∈ vx_atS own ic cls names, w.before args s = true)
    (hgood : ∀ w ∈ Cond.classLink own ik cls :: Cond.initialized cls :: vx_atS own ic cls names, vx_ot w = true)
    (hU : vx_Zq Bundle.tN "UNASSIGNED_STACK" Bundle.steD A s s.heap) (hN : vx_Zq Bundle.tN "SUPPRESSED_SENTINEL" Bundle.listD A s s.heap) (hS : va_S A s.heap H locs) (hsize : ls.size = c.maxLocals)
    (d0 : decode cc pc = .ok (.new ik, 3)) (d3 : decode cc (pc + 3) = .ok (.dup, 1)) (d4 : decode cc (pc + 4) = .ok (.ldc is, 2)) (d6 : decode cc (pc + 6) = .ok (.invokespecial ic, 3)) (d9 : decode cc (pc + 9) = .ok (.athrow, 1))
    (hout : ∀ x ∈ c.exceptionTable.toList, covers x (pc + 9) = false)
    (hRframes : names.length + 3 < R.frames) (hRlocals : (rest.map fun v => v.category).sum + (13 * (names.length + 1) + 43) ≤ R.locals) (hRcells : cells + 1 ≤ R.cells) (hRslots : slots + 6 ≤ R.slots) (hlocks : meth.locks = false)
    (hx : ∀ t : State, s.vm.Alike t.vm → H.size ≤ t.heap.size → (∀ q : Nat, q < H.size → t.heap[q]? = H[q]?) → XC cls s t)
    (hf : ∀ z ∈ locs, free z.base) (hc : cells + 1 ≤ mc) (hs : slots + 6 ≤ ms) :
    W p l e R s m args below meth c H locs cells slots (vx_MQ below Qc XC args s mc ms free) (F0 m pc ls rest) := by
  intro T hT X
  have htr : e.platform.stackTraces = false := (show e.platform.stackTraces = l.stackTraces by rw [X.admits.platform]).trans hl
  have Y := vx_rebase X (R' := { frames := R.frames, locals := R.locals, cells := 1, slots := 6 }) (Nat.le_refl _) (Nat.le_refl _) hRcells hRslots
  obtain ⟨s', hA⟩ : ∃ z, z = (T.setVm s.vm).setFrames (.invoking m args :: below) := ⟨_, rfl⟩
  rw [← hA] at Y
  have hvm : s'.vm = s.vm := by rw [hA]; rfl
  have hhp : s'.heap = H := by rw [hA]; exact hT
  have hW0 : s.WarmedH s'.vm := by rw [hvm]; exact State.WarmedH.refl s
  have hat' : ∀ w ∈ vx_atS own ic cls names, w.before args s' = true := fun w hw => vx_ot_at hW0 hvm.symm (hgood w (List.mem_cons_of_mem _ (List.mem_cons_of_mem _ hw))) (hat w hw)
  have hk' : (Cond.classLink own ik cls).before args s' = true := vx_ot_at hW0 hvm.symm (hgood _ List.mem_cons_self) hk
  have hini' : (Cond.initialized cls).before args s' = true := vx_ot_at hW0 hvm.symm (hgood _ (List.mem_cons_of_mem _ List.mem_cons_self)) hini
  have hU' : vx_Zq Bundle.tN "UNASSIGNED_STACK" Bundle.steD A s' s'.heap := by rw [hhp]; exact vx_Zq.moved hW0.alike (hU.kept hS.2.1)
  have hN' : vx_Zq Bundle.tN "SUPPRESSED_SENTINEL" Bundle.listD A s' s'.heap := by rw [hhp]; exact vx_Zq.moved hW0.alike (hN.kept hS.2.1)
  have h : ∀ w ∈ Bundle.ownAtoms own ic cls names, w.before args s' = true := vx_own hat' (vx_isRefq hU'.1) (vx_isRefq hN'.1) hU'.2.word hN'.2.word
  have hown' : s'.vm.findClass own = some m.cls := by rw [hvm]; exact hown
  have hins : (Cond.instantiable cls 6).before args s' = true := h _ (by simp [Bundle.ownAtoms])
  obtain ⟨vm₁, cX, kX, hfX, hkX, -, -, X₁, st1⟩ := Y.newCold hexec (own := own) (C := cls) (index := ik) (n := 6) hown' hk' hins hini'
    (g := F0 m pc ls rest) rfl (by rw [hb]; exact d0) (Nat.le_refl _) (Nat.le_refl _)
  generalize hT1 : (T.setVm vm₁).pushCell { cls := cX, slots := kX.instanceTypes.map defaultValue, vm := .none } = T1 at X₁ st1
  have hcat : (Value.ref T.heap.size).category = 1 := rfl
  have hcellA : T1.heap[T.heap.size]? = some (freshCell cX kX) := by rw [← hT1]; exact State.heap_pushCell_size _ _
  have d3' : decode c.code (pc + 3) = .ok (.dup, 1) := by rw [hb]; exact d3
  have d4' : decode c.code (pc + 4) = .ok (.ldc is, 2) := by rw [hb]; exact d4
  have hstr' : vk_R own is text sa s' := vk_R.warm hW0 hstr
  obtain ⟨U, hsteps, hrun, hend, hW, hsame, ce, hce, hO⟩ := X₁.ctorThrowS hexec htr (own := own) (cls := cls) (names := names) (ic := ic) hown' hcls hnames h (fun x hx => nomatch hx) hfX hkX hcellA (by rw [hhp, hT]; exact Nat.le_refl _) (msg := .ref sa) rfl
    (g := { method := m, pc := pc + 6, locals := ls, stack := .ref sa :: .ref T.heap.size :: .ref T.heap.size :: rest, locked := none }) rfl hsize rfl rfl (rest := rest) rfl
    (by rw [hb]; exact d6) (by rw [hb]; exact d9) hout hRframes (by simp only [List.map_cons, List.sum_cons, hcat]; omega) hlocks
  obtain ⟨f1, f2⟩ := vx_frame hsame
  rw [hhp] at f1 f2
  have hWs : s.WarmedH U.vm := State.WarmedH.trans hW0 hW
  have hcl : s.vm.findClass cls = some ce.cls := by
    have h9 := hO.cls
    rw [hvm] at h9
    exact h9
  have hall : s.sameButNew ({ U with vm := s.vm } : State) locs mc ms := by
    subst hA
    obtain ⟨e1, e2⟩ := hsame
    rw [State.setFrames_setFrames] at e1
    have h2 : (T.setVm s.vm).sameButNew ({ U with vm := s.vm } : State) [] (0 + 1) (0 + 6) := ⟨e1, e2⟩
    have h3 := X.same.trans h2
    rw [List.append_nil] at h3
    exact h3.mono hc hs
  refine ⟨U, ?_, .threw T.heap.size, hrun, hend, Or.inr ⟨T.heap.size, rfl, cls, ce, locs, hx U hWs.alike f1 (fun q hq => f2 q hq (fun z hz => nomatch hz)), hce, hO.vm, hcl, hWs, hall, hf⟩⟩
  refine st1 _ ?_
  show Steps p.tables e below (T1.setTop { method := m, pc := pc + 3, locals := ls, stack := .ref T.heap.size :: rest, locked := none }) _
  jvm_step X₁.here [X₁.here.top, hexec, d3', Value.category]
  exact X₁.ldcString hexec (own := own) (text := text) (index := is) (a := sa) hown' hstr'.1 hstr'.2
    (g := { method := m, pc := pc + 4, locals := ls, stack := .ref T.heap.size :: .ref T.heap.size :: rest, locked := none }) rfl d4' _ hsteps
/-- 'throw new E("text")', the text by a wide index -/
theorem vx_throwSW {cc : ByteArray} {pc : Nat} (hexec : p.tables.exec = Jvm.exec) (hb : c.code = cc) (hl : l.stackTraces = false) {own cls text : String} {names : List String} {ik is ic mc ms sa : Nat} {A : Nat → Prop}
    (hown : s.vm.findClass own = some m.cls) (hcls : Bundle.fit cls = true) (hnames : ∀ n ∈ names, Bundle.fit n = true)
    (hk : (Cond.classLink own ik cls).before args s = true) (hini : (Cond.initialized cls).before args s = true) (hstr : vk_R own is text sa s) (hat : ∀ w ∈ vx_atS own ic cls names, w.before args s = true)
    (hgood : ∀ w ∈ Cond.classLink own ik cls :: Cond.initialized cls :: vx_atS own ic cls names, vx_ot w = true)
    (hU : vx_Zq Bundle.tN "UNASSIGNED_STACK" Bundle.steD A s s.heap) (hN : vx_Zq Bundle.tN "SUPPRESSED_SENTINEL" Bundle.listD A s s.heap) (hS : va_S A s.heap H locs) (hsize : ls.size = c.maxLocals)
    (d0 : decode cc pc = .ok (.new ik, 3)) (d3 : decode cc (pc + 3) = .ok (.dup, 1)) (d4 : decode cc (pc + 4) = .ok (.ldc_w is, 3)) (d7 : decode cc (pc + 7) = .ok (.invokespecial ic, 3)) (d10 : decode cc (pc + 10) = .ok (.athrow, 1))
    (hout : ∀ x ∈ c.exceptionTable.toList, covers x (pc + 10) = false)
    (hRframes : names.length + 3 < R.frames) (hRlocals : (rest.map fun v => v.category).sum + (13 * (names.length + 1) + 43) ≤ R.locals) (hRcells : cells + 1 ≤ R.cells) (hRslots : slots + 6 ≤ R.slots) (hlocks : meth.locks = false)
    (hx : ∀ t : State, s.vm.Alike t.vm → H.size ≤ t.heap.size → (∀ q : Nat, q < H.size → t.heap[q]? = H[q]?) → XC cls s t)
    (hf : ∀ z ∈ locs, free z.base) (hc : cells + 1 ≤ mc) (hs : slots + 6 ≤ ms) :
    W p l e R s m args below meth c H locs cells slots (vx_MQ below Qc XC args s mc ms free) (F0 m pc ls rest) := by
  intro T hT X
  have htr : e.platform.stackTraces = false := (show e.platform.stackTraces = l.stackTraces by rw [X.admits.platform]).trans hl
  have Y := vx_rebase X (R' := { frames := R.frames, locals := R.locals, cells := 1, slots := 6 }) (Nat.le_refl _) (Nat.le_refl _) hRcells hRslots
  obtain ⟨s', hA⟩ : ∃ z, z = (T.setVm s.vm).setFrames (.invoking m args :: below) := ⟨_, rfl⟩
  rw [← hA] at Y
  have hvm : s'.vm = s.vm := by rw [hA]; rfl
  have hhp : s'.heap = H := by rw [hA]; exact hT
  have hW0 : s.WarmedH s'.vm := by rw [hvm]; exact State.WarmedH.refl s
  have hat' : ∀ w ∈ vx_atS own ic cls names, w.before args s' = true := fun w hw => vx_ot_at hW0 hvm.symm (hgood w (List.mem_cons_of_mem _ (List.mem_cons_of_mem _ hw))) (hat w hw)
  have hk' : (Cond.classLink own ik cls).before args s' = true := vx_ot_at hW0 hvm.symm (hgood _ List.mem_cons_self) hk
  have hini' : (Cond.initialized cls).before args s' = true := vx_ot_at hW0 hvm.symm (hgood _ (List.mem_cons_of_mem _ List.mem_cons_self)) hini
  have hU' : vx_Zq Bundle.tN "UNASSIGNED_STACK" Bundle.steD A s' s'.heap := by rw [hhp]; exact vx_Zq.moved hW0.alike (hU.kept hS.2.1)
  have hN' : vx_Zq Bundle.tN "SUPPRESSED_SENTINEL" Bundle.listD A s' s'.heap := by rw [hhp]; exact vx_Zq.moved hW0.alike (hN.kept hS.2.1)
  have h : ∀ w ∈ Bundle.ownAtoms own ic cls names, w.before args s' = true := vx_own hat' (vx_isRefq hU'.1) (vx_isRefq hN'.1) hU'.2.word hN'.2.word
  have hown' : s'.vm.findClass own = some m.cls := by rw [hvm]; exact hown
  have hins : (Cond.instantiable cls 6).before args s' = true := h _ (by simp [Bundle.ownAtoms])
  obtain ⟨vm₁, cX, kX, hfX, hkX, -, -, X₁, st1⟩ := Y.newCold hexec (own := own) (C := cls) (index := ik) (n := 6) hown' hk' hins hini'
    (g := F0 m pc ls rest) rfl (by rw [hb]; exact d0) (Nat.le_refl _) (Nat.le_refl _)
  generalize hT1 : (T.setVm vm₁).pushCell { cls := cX, slots := kX.instanceTypes.map defaultValue, vm := .none } = T1 at X₁ st1
  have hcat : (Value.ref T.heap.size).category = 1 := rfl
  have hcellA : T1.heap[T.heap.size]? = some (freshCell cX kX) := by rw [← hT1]; exact State.heap_pushCell_size _ _
  have d3' : decode c.code (pc + 3) = .ok (.dup, 1) := by rw [hb]; exact d3
  have d4' : decode c.code (pc + 4) = .ok (.ldc_w is, 3) := by rw [hb]; exact d4
  have hstr' : vk_R own is text sa s' := vk_R.warm hW0 hstr
  obtain ⟨U, hsteps, hrun, hend, hW, hsame, ce, hce, hO⟩ := X₁.ctorThrowS hexec htr (own := own) (cls := cls) (names := names) (ic := ic) hown' hcls hnames h (fun x hx => nomatch hx) hfX hkX hcellA (by rw [hhp, hT]; exact Nat.le_refl _) (msg := .ref sa) rfl
    (g := { method := m, pc := pc + 7, locals := ls, stack := .ref sa :: .ref T.heap.size :: .ref T.heap.size :: rest, locked := none }) rfl hsize rfl rfl (rest := rest) rfl
    (by rw [hb]; exact d7) (by rw [hb]; exact d10) hout hRframes (by simp only [List.map_cons, List.sum_cons, hcat]; omega) hlocks
  obtain ⟨f1, f2⟩ := vx_frame hsame
  rw [hhp] at f1 f2
  have hWs : s.WarmedH U.vm := State.WarmedH.trans hW0 hW
  have hcl : s.vm.findClass cls = some ce.cls := by
    have h9 := hO.cls
    rw [hvm] at h9
    exact h9
  have hall : s.sameButNew ({ U with vm := s.vm } : State) locs mc ms := by
    subst hA
    obtain ⟨e1, e2⟩ := hsame
    rw [State.setFrames_setFrames] at e1
    have h2 : (T.setVm s.vm).sameButNew ({ U with vm := s.vm } : State) [] (0 + 1) (0 + 6) := ⟨e1, e2⟩
    have h3 := X.same.trans h2
    rw [List.append_nil] at h3
    exact h3.mono hc hs
  refine ⟨U, ?_, .threw T.heap.size, hrun, hend, Or.inr ⟨T.heap.size, rfl, cls, ce, locs, hx U hWs.alike f1 (fun q hq => f2 q hq (fun z hz => nomatch hz)), hce, hO.vm, hcl, hWs, hall, hf⟩⟩
  refine st1 _ ?_
  show Steps p.tables e below (T1.setTop { method := m, pc := pc + 3, locals := ls, stack := .ref T.heap.size :: rest, locked := none }) _
  jvm_step X₁.here [X₁.here.top, hexec, d3', Value.category]
  exact X₁.ldcStringW hexec (own := own) (text := text) (index := is) (a := sa) hown' hstr'.1 hstr'.2
    (g := { method := m, pc := pc + 4, locals := ls, stack := .ref T.heap.size :: .ref T.heap.size :: rest, locked := none }) rfl d4' _ hsteps
end Ends
section Bodies
variable {l : Launch}
theorem vx_ofW {y : MethodName} {ws ws' : List Cond} {rm : Room} {Pc : Array Value → State → Prop} {Qc : Array Value → State → Outcome → State → Prop} {XC : String → State → State → Prop} {mc ms : Nat} {free : Addr → Prop} {cc : ByteArray} {maxL : Nat} {ret : Option FieldType}
    (hy : plainName y.cls = true) (hw : ws = Cond.code y cc maxL ret :: ws')
    (body : ∀ p e s m args below meth c s₁, BodyLoose p l y (headSpec ws rm) cc maxL ret e s m args below meth c s₁ → c.maxLocals = maxL → (∀ x ∈ c.exceptionTable.toList, False) → Pc args s →
      W p l e (headSpec ws rm).room s m args below meth c s.heap [] 0 0 (vx_MQ below Qc XC args s mc ms free) (entryFrame m args maxL)) : vx_Met l y ws rm Pc Qc XC mc ms free := by
  refine MetFree.of_bodyS (code := cc) (maxLocals := maxL) (ret := ret) hy ?_ ?_
  · intro args s m h hn
    obtain ⟨meth, c, h1, h2, h3, h4, h5, h6, -, -⟩ := Cond.code_spec hn (atoms_spec (ws := ws) h _ (by rw [hw]; exact List.mem_cons_self))
    exact ⟨meth, c, h1, h2, h3, h4, h5, h6⟩
  · intro p e s m args below meth c s₁ B hml hP _
    have hh0 : s₁.heap = s.heap := by rw [B.state]; rfl
    have ht : ∀ x ∈ c.exceptionTable.toList, False := by
      obtain ⟨meth9, c9, h1, h2, -, -, -, -, h7, -⟩ := Cond.code_spec B.named (atoms_spec (ws := ws) B.pre _ (by rw [hw]; exact List.mem_cons_self))
      cases Option.some.inj (h1.symm.trans B.method)
      cases Option.some.inj (h2.symm.trans (Stand.of_body B).code)
      intro x hx
      rw [Array.isEmpty_iff.mp h7] at hx
      cases hx
    obtain ⟨t, a1, o, b1, b2, b3⟩ := body p e s m args below meth c s₁ B hml ht hP s₁ hh0 (Stand.of_body B)
    exact ⟨t, o, a1, b1, b2, b3⟩
/-- the table of a body with handlers -/
theorem vx_table {p : Program} {x y : MethodName} {S : Spec} {cc bytes : ByteArray} {maxL maxL' : Nat} {ret ret' : Option FieldType} {e : Env} {s s₁ : State} {m : MethodId} {args : Array Value} {below : List Frame} {meth : Method} {c : Code} {hh : List (Nat × Nat × Nat × Nat)}
    (B : BodyLoose p l y S cc maxL ret e s m args below meth c s₁) (h : (Cond.codeWith y bytes maxL' ret' hh).before args s = true) : c.exceptionTable.toList = tableOf hh := by
  obtain ⟨m9, meth9, c9, hn9, h1, h2, -, -, h6, -⟩ := Cond.codeWith_spec h
  cases Option.some.inj (hn9.symm.trans B.named)
  cases Option.some.inj (h1.symm.trans B.method)
  cases Option.some.inj (h2.symm.trans (Stand.of_body B).code)
  rw [← h6, table_eq]
end Bodies
end VXA
/-! ===== END ===== -/
/-! ===== BEGIN a static call of a method with an exception table ===== -/
section VXS
variable {p : Program} {l : Launch} {e : Env} {R : Room} {s : State} {m : MethodId} {args : Array Value} {below : List Frame} {meth : Method} {c : Code} {T : State} {H : Heap} {locs : List Loc} {cells slots : Nat}
abbrev vx_CSW (R : Room) (s : State) (args : Array Value) (own : String) (index : Nat) (y : MethodName) (bytes : ByteArray) (maxL : Nat) (ret : Option FieldType) (hh : List (Nat × Nat × Nat × Nat)) (ws : List Cond) (rm : Room) (mc ms n : Nat) : Prop :=
  (rm.cells = mc ∧ rm.slots = ms ∧ rm.frames + 1 ≤ R.frames ∧ 8 + (maxL + 11) + rm.locals ≤ R.locals ∧ (∀ w ∈ ws, ∀ (a' : Array Value) (U : State), s.WarmedH U.vm → w.before a' U = true) ∧ Cond.codeWith y bytes maxL ret hh ∈ ws) ∧
  (Cond.codeWith y bytes maxL ret hh).before args s = true ∧ (Cond.initialized y.cls).before args s = true ∧ (y.cls ≠ "java/lang/invoke/MethodHandle" ∧ y.cls ≠ "java/lang/invoke/VarHandle") ∧
  (∀ sig, parseMethodDescriptor y.desc = some sig → n = sig.parameters.length) ∧ (Cond.methodLink own index y).before args s = true ∧ (Cond.static y).before args s = true
theorem vx_cwSW {own : String} {index maxL mc ms : Nat} {y : MethodName} {bytes : ByteArray} {ret : Option FieldType} {hh : List (Nat × Nat × Nat × Nat)} {Ts ws ws' : List Cond} {rm : Room} (n : Nat) (ht : ∀ w ∈ Ts, w.before args s = true) (hT : GoodIn Ts (va_wsS own index y ws)) (hw : ws = Cond.codeWith y bytes maxL ret hh :: ws') (hrc : rm.cells = mc) (hrs : rm.slots = ms)
    (hd : y.cls ≠ "java/lang/invoke/MethodHandle" ∧ y.cls ≠ "java/lang/invoke/VarHandle" ∧ (parseMethodDescriptor y.desc).map (fun d => d.parameters.length) = some n) (hR : rm.frames + 1 ≤ R.frames ∧ 8 + (maxL + 11) + rm.locals ≤ R.locals) :
    vx_CSW R s args own index y bytes maxL ret hh ws rm mc ms n := by
  have ok : ∀ w ∈ va_wsS own index y ws, w.before args s = true := fun w h => ht w (hT w h).1
  have hG : GoodIn Ts ws := fun w h => hT w (by unfold va_wsS; exact List.mem_append_right _ h)
  have hc : Cond.codeWith y bytes maxL ret hh ∈ ws := by rw [hw]; exact List.mem_cons_self
  refine ⟨⟨hrc, hrs, hR.1, hR.2, pay_in ht hG, hc⟩, ht _ (hG _ hc).1, ok _ (by simp [va_wsS]), ⟨hd.1, hd.2.1⟩, fun sig h => ?_, ok _ (by simp [va_wsS]), ok _ (by simp [va_wsS])⟩
  have h2 := hd.2.2
  rw [h] at h2
  exact (Option.some.inj h2).symm
theorem vx_callSW (X : Stand p l e R s m args below meth c T locs cells slots) (hexec : p.tables.exec = Jvm.exec) {own : String} {index : Nat} {y : MethodName} {bytes : ByteArray} {maxL : Nat} {ret : Option FieldType} {hh : List (Nat × Nat × Nat × Nat)}
    (hown : s.vm.findClass own = some m.cls) (hlink : (Cond.methodLink own index y).before args s = true) (hstat : (Cond.static y).before args s = true) (hinit : (Cond.initialized y.cls).before args s = true)
    (hcode : (Cond.codeWith y bytes maxL ret hh).before args s = true) (hy : y.cls ≠ "java/lang/invoke/MethodHandle" ∧ y.cls ≠ "java/lang/invoke/VarHandle")
    {W9 : Nat} {Pre : Pt → Array Value → Prop} {Post : Pt → Array Value → Option Value → Pt → Prop} (hK : Back l R p e below s args y 3 W9 Pre Post)
    {g : JFrame} (hg : g.method = m) (hsize : g.locals.size = c.maxLocals) {argsL rest : List Value} (hlen : ∀ sig, parseMethodDescriptor y.desc = some sig → argsL.length = sig.parameters.length)
    (hstack : g.stack = argsL.reverse ++ rest) (hW : 2 * g.monitorRoom + (rest.map fun v => v.category).sum ≤ W9) (hdg : decode c.code g.pc = .ok (.invokestatic index, 3))
    (hpre : ∀ vm₁, s.WarmedH vm₁ → Pre ⟨T.setVm vm₁, locs, cells, slots⟩ argsL.toArray) :
    ∃ (v : Option Value) (vm₁ : Vm) (B : Pt), s.WarmedH vm₁ ∧ Stand p l e R s m args below meth c B.U B.locs B.cells B.slots ∧ Post ⟨T.setVm vm₁, locs, cells, slots⟩ argsL.toArray v B ∧
      ∀ target, Steps p.tables e below (B.U.setTop { g with pc := g.pc + 3, stack := v.toList ++ rest }) target → Steps p.tables e below (T.setTop g) target := by
  obtain ⟨mk, methM, cM, hnamed, hmethM, -, -, -, -, -, -, hsigM⟩ := Cond.codeWith_spec hcode
  have hstatic : methM.isStatic = true := Cond.static_spec hnamed hmethM hstat
  obtain ⟨kP, hkP, -⟩ := className_of_methodNamed hnamed
  have hinitP : kP.init = .initialized := Cond.initialized_spec (findClass_of_methodNamed hnamed) hkP hinit
  obtain ⟨vm₁, X₁, hstep₁⟩ := X.invokestatic hexec hown hlink hnamed hmethM hstatic hkP hinitP hy (g := g) hg (argsL := argsL) (rest := rest) (hlen _ hsigM) hstack hdg
  obtain ⟨v, B, X', hpost, hsteps⟩ := hK m meth c ⟨T.setVm vm₁, locs, cells, slots⟩ { g with stack := rest } (.invokestatic index) mk argsL.toArray X₁ hg hsize hdg hW (X₁.named hnamed) (hpre vm₁ X₁.warmed)
  exact ⟨v, vm₁, B, X₁.warmed, X', hpost, fun target h => hstep₁ _ fun acts => by rw [doInvoke_state]; exact hsteps.trans h⟩
theorem vx_runSW {y : MethodName} {bytes cc : ByteArray} {maxL nL mc ms n index : Nat} {ret : Option FieldType} {hh : List (Nat × Nat × Nat × Nat)} {ws : List Cond} {rm : Room} {Pc : Array Value → State → Prop} {Qc : Array Value → State → Outcome → State → Prop} {free : Addr → Prop} {Ts : List Cond} {own : String} {As rest : List Value} {g : JFrame}
    (S : CallFix p m c cc nL s args Ts own) (hM : Met l y ws rm Pc Qc mc ms free) (cw : vx_CSW R s args own index y bytes maxL ret hh ws rm mc ms n) (hp : PreS s H Pc As)
    (hg : g.method = m) (hn : As.length = n) (hsize : g.locals.size = nL) (hstack : g.stack = As.reverse ++ rest) (hW : 2 * g.monitorRoom + (rest.map fun v => v.category).sum ≤ 8) (hdg : decode cc g.pc = .ok (.invokestatic index, 3)) (hf : cells + mc ≤ R.cells ∧ slots + ms ≤ R.slots) :
    va_Run p l e R s m args below meth c H locs cells slots mc ms g rest (Qc As.toArray) (free) := by
  obtain ⟨⟨hrc, hrs, hfr, hlo, hws, hcw⟩, hcode, hini, hy, hlen, hl, hstt⟩ := cw
  have hK : Back l R p e below s args y 3 8 (PreOf R mc ms Pc) (PostOf Qc mc ms free) := va_backW (hh := hh) (bytes := bytes) (maxL := maxL) (ret := ret) hM hp.1 hrc hrs hfr hlo hws hcw (fun a' U hW => word_at hW (Or.inl (by first | rfl | simp [Cond.onTables, Cond.keeps, Cond.steady])) hini)
  obtain ⟨hx, hb, hml, ho, -⟩ := S
  intro T hT X
  obtain ⟨v, vm₁, ⟨U', l2, c2, s2⟩, hW₁, X', ⟨g', mk, t, L, e1, e2, hq, h1, hL, h2, h3⟩, st⟩ := vx_callSW X hx (hh := hh) (bytes := bytes) (maxL := maxL) (ret := ret) ho hl hstt hini hcode hy hK hg (hsize.trans hml.symm) (argsL := As) (rest := rest) (fun sig h => hn.trans (hlen sig h)) hstack hW (by rw [hb]; exact hdg)
    (fun vm₁ hW₁ => ⟨hf.1, hf.2, hp.2 (T.setVm vm₁) hT hW₁⟩)
  dsimp only [Pt.U, Pt.locs, Pt.cells, Pt.slots] at X' e1 e2 h1 h2 h3 st
  subst h1; subst h2; subst h3
  exact ⟨v, (T.setVm vm₁).calling g' mk As.toArray, t, U', L, hT, X', hL, e1, e2, hq, st⟩
/-- not caught here, past rows that name other classes: it goes on to the caller -/
theorem vx_outP {p : Program} {l : Launch} {e : Env} {R : Room} {s : State} {m : MethodId} {args : Array Value} {below : List Frame} {meth : Method} {c : Code} {H : Heap} {locs : List Loc} {cells slots : Nat} {free : Addr → Prop} {ls : Array Slot} {rest : List Value} {Qc : Array Value → State → Outcome → State → Prop} {XC : String → State → State → Prop}
    {pc : Nat} {own E : String} {ce : Cell} {q : Addr} {mc ms : Nat} (hown : s.vm.findClass own = some m.cls) (hlocks : meth.locks = false)
    (hpass : ∀ z ∈ c.exceptionTable.toList, covers z pc = false ∨ (z.catchType ≠ 0 ∧ ∃ nm : String, (Cond.classLink own z.catchType nm).before args s = true ∧ va_Nc E nm s)) (hcell : H[q]? = some ce) (hv : ce.vm = .none) (hcl : s.vm.findClass E = some ce.cls)
    (hx : ∀ t : State, t.heap = H → s.vm.Alike t.vm → XC E s t) (hf : ∀ z ∈ locs, free z.base) (hc : cells ≤ mc) (hs : slots ≤ ms) :
    vx_W p l e R s m args below meth c H locs cells slots (vx_MQ below Qc XC args s mc ms free) (F0 m pc ls rest) q := by
  intro T hT X
  have hpl : e.platform.magicAccessors = ({} : Platform).magicAccessors := by rw [X.admits.platform]
  obtain ⟨vm', hW', X', st⟩ := X.outThrough hlocks q (g := F0 m pc ls rest) rfl rfl rfl (cell := ce) (by rw [hT]; exact hcell) (by rw [hv]; rfl)
    (by obtain ⟨k9, h9, -⟩ := Vm.findClass_spec hcl; exact ⟨k9, h9⟩) (fun z hz => by
      rcases hpass z hz with h | ⟨hz0, nm, hl1, hn1⟩
      · exact Or.inl h
      · obtain ⟨c6, hc6, hcl6⟩ := Cond.classLink_spec hown hl1 e.platform hpl
        obtain ⟨a8, b8, h1, h2, h3⟩ := hn1
        cases Option.some.inj (h1.symm.trans hcl)
        cases Option.some.inj (h2.symm.trans hc6)
        exact Or.inr ⟨hz0, _, hcl6, h3⟩)
  obtain ⟨g₀, hfr⟩ := X'.frames_eq
  have hcell9 : ((T.setVm vm').setFrames (.throwing q :: below)).heap[q]? = some ce := by
    show T.heap[q]? = some ce
    rw [hT]; exact hcell
  have hend : Ended ((T.setVm vm').setFrames (.throwing q :: below)) below (.threw q) := State.frames_setFrames _ (State.cur_lt_of_frames hfr)
  refine ⟨(T.setVm vm').setFrames (.throwing q :: below), ?_, .threw q, X'.here.running, hend, Or.inr ⟨q, rfl, E, ce, locs, hx _ hT (X'.ends _).1.alike, hcell9, hv, hcl, (X'.ends _).1, (X'.ends _).2.mono hc hs, hf⟩⟩
  rw [X.pushThrowing_eq]
  exact st
/-- a thing of a world lies in the heap -/
theorem vx_lt {D : va_G} {cl : List vw_C} {ws : va_W} {H1 : Heap} (h : va_P D cl ws H1) {k : Nat} {q : Nat × va_E} (hk : ws[k]? = some q) : q.1 < H1.size := (h k q hk).lt
end VXS
/-! ===== END ===== -/
/-! ===== BEGIN methods with a table of their own: called by a name, returning or throwing ===== -/
section VXH
/-! vx_backW, vx_callVX, vx_callSX, vx_callVW, vx_runVW, vx_runVX, vx_runSX, vx_ofWH follow the same proofs as their sisters above (Free/Laws.lean, Shelf42/LK1.lean); vx_outP calls Shelf42/NT130.lean (outThrough). -/
section
variable {l : Launch} {R : Room} {p : Program} {e : Env} {below : List Frame} {s : State} {sargs : Array Value} {y : MethodName} {len W9 : Nat}
theorem vx_backW {ws : List Cond} {rm : Room} {Pc : Array Value → State → Prop} {Qc : Array Value → State → Outcome → State → Prop} {XC : String → State → State → Prop} {mc ms : Nat} {free : Addr → Prop} {bytes : ByteArray} {maxL : Nat} {ret : Option FieldType} {hh : List (Nat × Nat × Nat × Nat)}
    (hM : vx_Met l y ws rm Pc Qc XC mc ms free) (hblind : FrameBlind Pc) (hrc : rm.cells = mc) (hrs : rm.slots = ms)
    (hframes : rm.frames + 1 ≤ R.frames) (hlocals : W9 + (maxL + 11) + rm.locals ≤ R.locals)
    (hws : ∀ w ∈ ws, ∀ a' U, s.WarmedH U.vm → w.before a' U = true) (hcode : Cond.codeWith y bytes maxL ret hh ∈ ws) (hinit : ∀ a' U, s.WarmedH U.vm → (Cond.initialized y.cls).before a' U = true) :
    vx_Back l R p e below s sargs y len W9 (PreOf R mc ms Pc) (PostOf Qc mc ms free) (vx_Post XC mc ms free) := by
  intro m meth c A g ig mk a X hg hsize hdg hW hn hp
  have h1 : (headSpec ws rm).pre.before a A.U = true := atoms_intro fun w hw => hws w hw _ _ X.warmed
  have h2 : (Cond.codeWith y bytes maxL ret hh).before a A.U = true := hws _ hcode _ _ X.warmed
  have h3 : (Cond.initialized y.cls).before a A.U = true := hinit _ _ X.warmed
  have h4 : A.cells + (headSpec ws rm).room.cells ≤ R.cells := by rw [show (headSpec ws rm).room.cells = mc from hrc]; exact hp.1
  have h5 : A.slots + (headSpec ws rm).room.slots ≤ R.slots := by rw [show (headSpec ws rm).room.slots = ms from hrs]; exact hp.2.1
  have hPc : Pc a (A.U.calling g mk a) := hblind _ _ _ _ hp.2.2
  obtain ⟨U, Ls, c0, s0⟩ := A
  dsimp only [Pt.U, Pt.locs, Pt.cells, Pt.slots] at h1 h2 h3 h4 h5 X hn hPc ⊢
  obtain ⟨m9, methY, cY, hn9, hmY, hcY, -, hlY, -⟩ := Cond.codeWith_spec h2
  cases Option.some.inj (hn9.symm.trans hn)
  obtain ⟨kY, hkY, -⟩ := className_of_methodNamed hn
  have hinitY : kY.init = .initialized := Cond.initialized_spec (findClass_of_methodNamed hn) hkY h3
  have h : At U g.method c below := by rw [hg]; exact X.here
  have hlocals9 : W9 + (maxL + 11) + (headSpec ws rm).room.locals ≤ R.locals := hlocals
  have happ : (headSpec ws rm).appliesLoose y e.platform (U.calling g mk a) = true :=
    Spec.appliesLoose_calling (g := g) h hdg hn hkY hinitY
      (X.room_calling (g := g) (R' := (headSpec ws rm).room) hsize hmY hcY hframes (by rw [hlY]; omega) h4 h5) h1
  obtain ⟨mid, hmid⟩ := h.above
  have hfr : (U.setTop g).frames = (.java g :: mid) ++ below := by rw [State.frames_setTop' g h.top, hmid]; rfl
  obtain ⟨o, s₂, hsteps, -, hend, hq⟩ := Steps.callFree hM p X.admits X.cas X.clock (acts := []) hfr happ hPc trivial
  have hq' : vx_Q Qc XC mc ms free a (U.calling g mk a) o s₂ := hq
  rw [State.frames_setTop' g h.top] at hend
  obtain ⟨g₀, hg0⟩ := Option.isSome_iff_exists.mp h.top
  obtain ⟨r, hr⟩ := State.topJava?_eq_some.mp hg0
  have hr' : (({ U with heap := s₂.heap, slotsUsed := s₂.slotsUsed } : State).setVm s₂.vm).frames = .java g₀ :: r := hr
  rcases hq' with ⟨hqc, L, hfe, hL⟩ | ⟨q, rfl, E, ce, L, hx, hce, hcv, hcl, hW₂, hsm, hL⟩
  · obtain ⟨⟨v, rfl⟩, hW₂, e2, q2, q3, q4, q5, q6⟩ := id hfe
    have e3 : s₂ = ({ (U.calling g mk a).setFrames s₂.frames with heap := s₂.heap, slotsUsed := s₂.slotsUsed } : State).setVm s₂.vm := by
      have : s₂ = ({ s₂ with vm := (U.calling g mk a).vm } : State).setVm s₂.vm := rfl
      rw [e2] at this
      exact this
    obtain ⟨c₂, i₂, len₂, hc₂, hd₂, hf₂⟩ := hend
    have hW' : U.WarmedH s₂.vm := hW₂
    have hcc : c₂ = c := by
      have h1 : s₂.code? g.method = U.code? g.method := by
        rw [State.code?_eq, State.code?_eq, hW'.alike.method?]
      exact Option.some.inj (hc₂.symm.trans (h1.trans h.code))
    subst hcc
    have hlen : len₂ = len := by rw [hdg] at hd₂; cases hd₂; rfl
    subst hlen
    have hs₂ : s₂ = (({ U with heap := s₂.heap, slotsUsed := s₂.slotsUsed } : State).setVm s₂.vm).setTop { g with pc := g.pc + len₂, stack := v.toList ++ g.stack } := by
      refine e3.trans ?_
      rw [hf₂, State.calling_eq h.top, State.setFrames_setFrames, State.setTop_of_frames _ hr', hr]
      rfl
    have hsame : U.sameButNew ({ U with heap := s₂.heap, slotsUsed := s₂.slotsUsed } : State) L mc ms := by
      refine ⟨?_, q2, q3, q4, q5, q6⟩
      obtain ⟨t, ht, -⟩ := State.frames_cons hr
      show ({ U with heap := s₂.heap, slotsUsed := s₂.slotsUsed } : State) = { U.setFrames U.frames with heap := s₂.heap, slotsUsed := s₂.slotsUsed }
      rw [State.setFrames_self ht]
    subst hg
    refine Or.inl ⟨v, ⟨(({ U with heap := s₂.heap, slotsUsed := s₂.slotsUsed } : State).setVm s₂.vm), Ls ++ L, c0 + mc, s0 + ms⟩,
      ⟨X.admits, X.cas, X.clock, X.frames, X.room, X.hears, X.method, X.code, (X.here.setHeapUsed s₂.heap s₂.slotsUsed).setVm hW'.alike, X.tail, State.WarmedH.trans X.warmed hW', X.limits, X.bytes, X.same.trans (hsame.setVm s.vm)⟩,
      ⟨g, mk, s₂, L, rfl, rfl, hqc, rfl, hL, rfl, rfl⟩, ?_⟩
    show Steps p.tables e below _ ((({ U with heap := s₂.heap, slotsUsed := s₂.slotsUsed } : State).setVm s₂.vm).setTop { g with pc := g.pc + len₂, stack := v.toList ++ g.stack })
    rw [← hs₂]
    exact hsteps
  · obtain ⟨e2, q2, q3, q4, q5, q6⟩ := id hsm
    have e3 : s₂ = ({ (U.calling g mk a).setFrames s₂.frames with heap := s₂.heap, slotsUsed := s₂.slotsUsed } : State).setVm s₂.vm := by
      have : s₂ = ({ s₂ with vm := (U.calling g mk a).vm } : State).setVm s₂.vm := rfl
      rw [e2] at this
      exact this
    have hf₂ : s₂.frames = .throwing q :: .java g :: U.frames.tail := hend
    have hW' : U.WarmedH s₂.vm := hW₂
    have hs₂ : s₂ = ((({ U with heap := s₂.heap, slotsUsed := s₂.slotsUsed } : State).setVm s₂.vm).setTop g).pushFrame (.throwing q) := by
      refine e3.trans ?_
      rw [hf₂, State.calling_eq h.top, State.setFrames_setFrames, State.pushFrame, State.frames_setTop _ hr', State.setTop_of_frames _ hr', State.setFrames_setFrames, hr]
      rfl
    have hsame : U.sameButNew ({ U with heap := s₂.heap, slotsUsed := s₂.slotsUsed } : State) L mc ms := by
      refine ⟨?_, q2, q3, q4, q5, q6⟩
      obtain ⟨t, ht, -⟩ := State.frames_cons hr
      show ({ U with heap := s₂.heap, slotsUsed := s₂.slotsUsed } : State) = { U.setFrames U.frames with heap := s₂.heap, slotsUsed := s₂.slotsUsed }
      rw [State.setFrames_self ht]
    subst hg
    refine Or.inr ⟨q, ⟨(({ U with heap := s₂.heap, slotsUsed := s₂.slotsUsed } : State).setVm s₂.vm), Ls ++ L, c0 + mc, s0 + ms⟩,
      ⟨X.admits, X.cas, X.clock, X.frames, X.room, X.hears, X.method, X.code, (X.here.setHeapUsed s₂.heap s₂.slotsUsed).setVm hW'.alike, X.tail, State.WarmedH.trans X.warmed hW', X.limits, X.bytes, X.same.trans (hsame.setVm s.vm)⟩,
      ⟨g, mk, s₂, L, E, ce, rfl, rfl, hx, hce, hcv, hcl, rfl, hL, rfl, rfl⟩, ?_⟩
    show Steps p.tables e below _ (((({ U with heap := s₂.heap, slotsUsed := s₂.slotsUsed } : State).setVm s₂.vm).setTop g).pushFrame (.throwing q))
    rw [← hs₂]
    exact hsteps
end
variable {p : Program} {l : Launch} {e : Env} {R : Room} {s : State} {m : MethodId} {args : Array Value} {below : List Frame} {meth : Method} {c : Code} {T : State} {H : Heap} {locs : List Loc} {cells slots : Nat}
theorem vx_callVX (X : Stand p l e R s m args below meth c T locs cells slots) (hexec : p.tables.exec = Jvm.exec) {own C : String} {index : Nat} {y : MethodName} {bytes : ByteArray} {maxL : Nat} {ret : Option FieldType} {hh : List (Nat × Nat × Nat × Nat)}
    (hown : s.vm.findClass own = some m.cls) (hlink : (Cond.methodLink own index y).before args s = true) (hinst : (Cond.instanceMethod y).before args s = true) (hsel : (Cond.selects C y y).before args s = true)
    (hcode : (Cond.codeWith y bytes maxL ret hh).before args s = true) (hy : y.cls ≠ "java/lang/invoke/MethodHandle" ∧ y.cls ≠ "java/lang/invoke/VarHandle")
    {W9 : Nat} {Pre : Pt → Array Value → Prop} {Post : Pt → Array Value → Option Value → Pt → Prop} {PostX : Pt → Array Value → Addr → Pt → Prop} (hK : vx_Back l R p e below s args y 3 W9 Pre Post PostX)
    {b : Addr} {cellB : Cell} (hcell : T.heap[b]? = some cellB) (hobj : cellB.vm.isStatics = false) (hcls : s.vm.findClass C = some cellB.cls)
    {g : JFrame} (hg : g.method = m) (hsize : g.locals.size = c.maxLocals) {argsL rest : List Value} (hlen : ∀ sig, parseMethodDescriptor y.desc = some sig → argsL.length = sig.parameters.length)
    (hstack : g.stack = argsL.reverse ++ .ref b :: rest) (hW : 2 * g.monitorRoom + (rest.map fun v => v.category).sum ≤ W9) (hdg : decode c.code g.pc = .ok (.invokevirtual index, 3))
    (hpre : ∀ vm₁, s.WarmedH vm₁ → Pre ⟨T.setVm vm₁, locs, cells, slots⟩ (Value.ref b :: argsL).toArray) :
    (∃ (v : Option Value) (vm₁ : Vm) (B : Pt), s.WarmedH vm₁ ∧ Stand p l e R s m args below meth c B.U B.locs B.cells B.slots ∧ Post ⟨T.setVm vm₁, locs, cells, slots⟩ (Value.ref b :: argsL).toArray v B ∧
      ∀ target, Steps p.tables e below (B.U.setTop { g with pc := g.pc + 3, stack := v.toList ++ rest }) target → Steps p.tables e below (T.setTop g) target) ∨
    (∃ (q : Addr) (vm₁ : Vm) (B : Pt), s.WarmedH vm₁ ∧ Stand p l e R s m args below meth c B.U B.locs B.cells B.slots ∧ PostX ⟨T.setVm vm₁, locs, cells, slots⟩ (Value.ref b :: argsL).toArray q B ∧
      Steps p.tables e below (T.setTop g) ((B.U.setTop { g with stack := rest }).pushFrame (.throwing q))) := by
  obtain ⟨mk, methM, hnamed, hmethM, hstM, habM⟩ := Cond.instanceMethod_spec hinst
  obtain ⟨m8, methM', cM, hn8, hmethM', -, -, -, -, -, -, hsigM⟩ := Cond.codeWith_spec hcode
  cases Option.some.inj (hn8.symm.trans hnamed)
  cases hmethM.symm.trans hmethM'
  obtain ⟨c2, r2, m2, q1, q2, q3, q4, kP, hkP, hkPi⟩ := Cond.selects_spec hsel
  cases hcls.symm.trans q1
  cases (State.methodFound?_of_named hnamed hy).symm.trans q2
  cases hnamed.symm.trans q3
  have hselP : selectMethod e.platform s.vm cellB.cls mk = .method mk := by rw [Launch.admits_selectMethod X.admits]; exact q4
  obtain ⟨vm₁, X₁, hstep₁⟩ := X.invokevirtual hexec hown hlink hnamed hmethM hstM hkP hkPi hy (a := b) (cell := cellB) hcell
    (fun z h => by rw [h] at hobj; cases hobj) hselP hmethM habM hkP hkPi (g := g) hg (argsL := argsL) (rest := rest) (hlen _ hsigM) hstack hdg
  rcases hK m meth c ⟨T.setVm vm₁, locs, cells, slots⟩ { g with stack := rest } (.invokevirtual index) mk (Value.ref b :: argsL).toArray X₁ hg hsize hdg hW (X₁.named hnamed) (hpre vm₁ X₁.warmed) with ⟨v, B, X', hpost, hsteps⟩ | ⟨q, B, X', hpost, hsteps⟩
  · exact Or.inl ⟨v, vm₁, B, X₁.warmed, X', hpost, fun target h => hstep₁ _ fun acts => by rw [doInvoke_state]; exact hsteps.trans h⟩
  · exact Or.inr ⟨q, vm₁, B, X₁.warmed, X', hpost, hstep₁ _ fun acts => by rw [doInvoke_state]; exact hsteps⟩
theorem vx_callSX (X : Stand p l e R s m args below meth c T locs cells slots) (hexec : p.tables.exec = Jvm.exec) {own : String} {index : Nat} {y : MethodName} {bytes : ByteArray} {maxL : Nat} {ret : Option FieldType} {hh : List (Nat × Nat × Nat × Nat)}
    (hown : s.vm.findClass own = some m.cls) (hlink : (Cond.methodLink own index y).before args s = true) (hstat : (Cond.static y).before args s = true) (hinit : (Cond.initialized y.cls).before args s = true)
    (hcode : (Cond.codeWith y bytes maxL ret hh).before args s = true) (hy : y.cls ≠ "java/lang/invoke/MethodHandle" ∧ y.cls ≠ "java/lang/invoke/VarHandle")
    {W9 : Nat} {Pre : Pt → Array Value → Prop} {Post : Pt → Array Value → Option Value → Pt → Prop} {PostX : Pt → Array Value → Addr → Pt → Prop} (hK : vx_Back l R p e below s args y 3 W9 Pre Post PostX)
    {g : JFrame} (hg : g.method = m) (hsize : g.locals.size = c.maxLocals) {argsL rest : List Value} (hlen : ∀ sig, parseMethodDescriptor y.desc = some sig → argsL.length = sig.parameters.length)
    (hstack : g.stack = argsL.reverse ++ rest) (hW : 2 * g.monitorRoom + (rest.map fun v => v.category).sum ≤ W9) (hdg : decode c.code g.pc = .ok (.invokestatic index, 3))
    (hpre : ∀ vm₁, s.WarmedH vm₁ → Pre ⟨T.setVm vm₁, locs, cells, slots⟩ argsL.toArray) :
    (∃ (v : Option Value) (vm₁ : Vm) (B : Pt), s.WarmedH vm₁ ∧ Stand p l e R s m args below meth c B.U B.locs B.cells B.slots ∧ Post ⟨T.setVm vm₁, locs, cells, slots⟩ argsL.toArray v B ∧
      ∀ target, Steps p.tables e below (B.U.setTop { g with pc := g.pc + 3, stack := v.toList ++ rest }) target → Steps p.tables e below (T.setTop g) target) ∨
    (∃ (q : Addr) (vm₁ : Vm) (B : Pt), s.WarmedH vm₁ ∧ Stand p l e R s m args below meth c B.U B.locs B.cells B.slots ∧ PostX ⟨T.setVm vm₁, locs, cells, slots⟩ argsL.toArray q B ∧
      Steps p.tables e below (T.setTop g) ((B.U.setTop { g with stack := rest }).pushFrame (.throwing q))) := by
  obtain ⟨mk, methM, cM, hnamed, hmethM, -, -, -, -, -, -, hsigM⟩ := Cond.codeWith_spec hcode
  have hstatic : methM.isStatic = true := Cond.static_spec hnamed hmethM hstat
  obtain ⟨kP, hkP, -⟩ := className_of_methodNamed hnamed
  have hinitP : kP.init = .initialized := Cond.initialized_spec (findClass_of_methodNamed hnamed) hkP hinit
  obtain ⟨vm₁, X₁, hstep₁⟩ := X.invokestatic hexec hown hlink hnamed hmethM hstatic hkP hinitP hy (g := g) hg (argsL := argsL) (rest := rest) (hlen _ hsigM) hstack hdg
  rcases hK m meth c ⟨T.setVm vm₁, locs, cells, slots⟩ { g with stack := rest } (.invokestatic index) mk argsL.toArray X₁ hg hsize hdg hW (X₁.named hnamed) (hpre vm₁ X₁.warmed) with ⟨v, B, X', hpost, hsteps⟩ | ⟨q, B, X', hpost, hsteps⟩
  · exact Or.inl ⟨v, vm₁, B, X₁.warmed, X', hpost, fun target h => hstep₁ _ fun acts => by rw [doInvoke_state]; exact hsteps.trans h⟩
  · exact Or.inr ⟨q, vm₁, B, X₁.warmed, X', hpost, hstep₁ _ fun acts => by rw [doInvoke_state]; exact hsteps⟩
theorem vx_callVW (X : Stand p l e R s m args below meth c T locs cells slots) (hexec : p.tables.exec = Jvm.exec) {own C : String} {index : Nat} {y : MethodName} {bytes : ByteArray} {maxL : Nat} {ret : Option FieldType} {hh : List (Nat × Nat × Nat × Nat)}
    (hown : s.vm.findClass own = some m.cls) (hlink : (Cond.methodLink own index y).before args s = true) (hinst : (Cond.instanceMethod y).before args s = true) (hsel : (Cond.selects C y y).before args s = true)
    (hcode : (Cond.codeWith y bytes maxL ret hh).before args s = true) (hy : y.cls ≠ "java/lang/invoke/MethodHandle" ∧ y.cls ≠ "java/lang/invoke/VarHandle")
    {W9 : Nat} {Pre : Pt → Array Value → Prop} {Post : Pt → Array Value → Option Value → Pt → Prop} (hK : Back l R p e below s args y 3 W9 Pre Post)
    {b : Addr} {cellB : Cell} (hcell : T.heap[b]? = some cellB) (hobj : cellB.vm.isStatics = false) (hcls : s.vm.findClass C = some cellB.cls)
    {g : JFrame} (hg : g.method = m) (hsize : g.locals.size = c.maxLocals) {argsL rest : List Value} (hlen : ∀ sig, parseMethodDescriptor y.desc = some sig → argsL.length = sig.parameters.length)
    (hstack : g.stack = argsL.reverse ++ .ref b :: rest) (hW : 2 * g.monitorRoom + (rest.map fun v => v.category).sum ≤ W9) (hdg : decode c.code g.pc = .ok (.invokevirtual index, 3))
    (hpre : ∀ vm₁, s.WarmedH vm₁ → Pre ⟨T.setVm vm₁, locs, cells, slots⟩ (Value.ref b :: argsL).toArray) :
    ∃ (v : Option Value) (vm₁ : Vm) (B : Pt), s.WarmedH vm₁ ∧ Stand p l e R s m args below meth c B.U B.locs B.cells B.slots ∧ Post ⟨T.setVm vm₁, locs, cells, slots⟩ (Value.ref b :: argsL).toArray v B ∧
      ∀ target, Steps p.tables e below (B.U.setTop { g with pc := g.pc + 3, stack := v.toList ++ rest }) target → Steps p.tables e below (T.setTop g) target := by
  obtain ⟨mk, methM, hnamed, hmethM, hstM, habM⟩ := Cond.instanceMethod_spec hinst
  obtain ⟨m8, methM', cM, hn8, hmethM', -, -, -, -, -, -, hsigM⟩ := Cond.codeWith_spec hcode
  cases Option.some.inj (hn8.symm.trans hnamed)
  cases hmethM.symm.trans hmethM'
  obtain ⟨c2, r2, m2, q1, q2, q3, q4, kP, hkP, hkPi⟩ := Cond.selects_spec hsel
  cases hcls.symm.trans q1
  cases (State.methodFound?_of_named hnamed hy).symm.trans q2
  cases hnamed.symm.trans q3
  have hselP : selectMethod e.platform s.vm cellB.cls mk = .method mk := by rw [Launch.admits_selectMethod X.admits]; exact q4
  obtain ⟨vm₁, X₁, hstep₁⟩ := X.invokevirtual hexec hown hlink hnamed hmethM hstM hkP hkPi hy (a := b) (cell := cellB) hcell
    (fun z h => by rw [h] at hobj; cases hobj) hselP hmethM habM hkP hkPi (g := g) hg (argsL := argsL) (rest := rest) (hlen _ hsigM) hstack hdg
  obtain ⟨v, B, X', hpost, hsteps⟩ := hK m meth c ⟨T.setVm vm₁, locs, cells, slots⟩ { g with stack := rest } (.invokevirtual index) mk (Value.ref b :: argsL).toArray X₁ hg hsize hdg hW (X₁.named hnamed) (hpre vm₁ X₁.warmed)
  exact ⟨v, vm₁, B, X₁.warmed, X', hpost, fun target h => hstep₁ _ fun acts => by rw [doInvoke_state]; exact hsteps.trans h⟩
abbrev vx_CVW (R : Room) (s : State) (args : Array Value) (own C : String) (index : Nat) (y : MethodName) (bytes : ByteArray) (maxL : Nat) (ret : Option FieldType) (hh : List (Nat × Nat × Nat × Nat)) (ws : List Cond) (rm : Room) (mc ms n : Nat) : Prop :=
  (rm.cells = mc ∧ rm.slots = ms ∧ rm.frames + 1 ≤ R.frames ∧ 8 + (maxL + 11) + rm.locals ≤ R.locals ∧ (∀ w ∈ ws, ∀ (a' : Array Value) (U : State), s.WarmedH U.vm → w.before a' U = true) ∧ Cond.codeWith y bytes maxL ret hh ∈ ws) ∧
  (Cond.codeWith y bytes maxL ret hh).before args s = true ∧ (Cond.initialized y.cls).before args s = true ∧ (y.cls ≠ "java/lang/invoke/MethodHandle" ∧ y.cls ≠ "java/lang/invoke/VarHandle") ∧
  (∀ sig, parseMethodDescriptor y.desc = some sig → n = sig.parameters.length) ∧ (Cond.methodLink own index y).before args s = true ∧ (Cond.instanceMethod y).before args s = true ∧ (Cond.selects C y y).before args s = true
theorem vx_cwVW {own C : String} {index maxL mc ms : Nat} {y : MethodName} {bytes : ByteArray} {ret : Option FieldType} {hh : List (Nat × Nat × Nat × Nat)} {Ts ws ws' : List Cond} {rm : Room} (n : Nat) (ht : ∀ w ∈ Ts, w.before args s = true) (hT : GoodIn Ts (wsV own index C y ws)) (hw : ws = Cond.codeWith y bytes maxL ret hh :: ws') (hrc : rm.cells = mc) (hrs : rm.slots = ms)
    (hd : y.cls = C ∧ y.cls ≠ "java/lang/invoke/MethodHandle" ∧ y.cls ≠ "java/lang/invoke/VarHandle" ∧ (parseMethodDescriptor y.desc).map (fun d => d.parameters.length) = some n) (hR : rm.frames + 1 ≤ R.frames ∧ 8 + (maxL + 11) + rm.locals ≤ R.locals) :
    vx_CVW R s args own C index y bytes maxL ret hh ws rm mc ms n := by
  obtain ⟨hC, hd⟩ := hd
  subst hC
  have ok : ∀ w ∈ wsV own index y.cls y ws, w.before args s = true := fun w h => ht w (hT w h).1
  have hG : GoodIn Ts ws := fun w h => hT w (by unfold wsV; exact List.mem_append_right _ h)
  have hc : Cond.codeWith y bytes maxL ret hh ∈ ws := by rw [hw]; exact List.mem_cons_self
  refine ⟨⟨hrc, hrs, hR.1, hR.2, pay_in ht hG, hc⟩, ht _ (hG _ hc).1, ok _ (by simp [wsV]), ⟨hd.1, hd.2.1⟩, fun sig h => ?_, ok _ (by simp [wsV]), ok _ (by simp [wsV]), ok _ (by simp [wsV])⟩
  have h2 := hd.2.2
  rw [h] at h2
  exact (Option.some.inj h2).symm
theorem vx_runVW {y : MethodName} {bytes cc : ByteArray} {maxL nL mc ms n index : Nat} {ret : Option FieldType} {hh : List (Nat × Nat × Nat × Nat)} {ws : List Cond} {rm : Room} {Pc : Array Value → State → Prop} {Qc : Array Value → State → Outcome → State → Prop} {free : Addr → Prop} {Ts : List Cond} {own C : String} {b : Addr} {As rest : List Value} {g : JFrame}
    (S : CallFix p m c cc nL s args Ts own) (hM : Met l y ws rm Pc Qc mc ms free) (cw : vx_CVW R s args own C index y bytes maxL ret hh ws rm mc ms n) (hp : PreV s H C b Pc As)
    (hg : g.method = m) (hn : As.length = n) (hsize : g.locals.size = nL) (hstack : g.stack = As.reverse ++ .ref b :: rest) (hW : 2 * g.monitorRoom + (rest.map fun v => v.category).sum ≤ 8) (hdg : decode cc g.pc = .ok (.invokevirtual index, 3)) (hf : cells + mc ≤ R.cells ∧ slots + ms ≤ R.slots) :
    va_Run p l e R s m args below meth c H locs cells slots mc ms g rest (Qc (Value.ref b :: As).toArray) free := by
  obtain ⟨⟨hrc, hrs, hfr, hlo, hws, hcw⟩, hcode, hini, hy, hlen, hl, hin, hse⟩ := cw
  have hK : Back l R p e below s args y 3 8 (PreOf R mc ms Pc) (PostOf Qc mc ms free) := va_backW (hh := hh) (bytes := bytes) (maxL := maxL) (ret := ret) hM hp.1 hrc hrs hfr hlo hws hcw (fun a' U hW => word_at hW (Or.inl (by first | rfl | simp [Cond.onTables, Cond.keeps, Cond.steady])) hini)
  obtain ⟨hx, hb, hml, ho, -⟩ := S
  obtain ⟨-, ⟨cellB, hcB, hoB, hclB⟩, hPc⟩ := hp
  intro T hT X
  obtain ⟨v, vm₁, ⟨U', l2, c2, s2⟩, hW₁, X', ⟨g', mk, t, L, e1, e2, hq, h1, hL, h2, h3⟩, st⟩ := vx_callVW X hx (C := C) (hh := hh) (bytes := bytes) (maxL := maxL) (ret := ret) ho hl hin hse hcode hy hK (by rw [hT]; exact hcB) hoB hclB hg (hsize.trans hml.symm) (argsL := As) (rest := rest) (fun sig h => hn.trans (hlen sig h)) hstack hW (by rw [hb]; exact hdg)
    (fun vm₁ hW₁ => ⟨hf.1, hf.2, hPc (T.setVm vm₁) hT hW₁⟩)
  dsimp only [Pt.U, Pt.locs, Pt.cells, Pt.slots] at X' e1 e2 h1 h2 h3 st
  subst h1; subst h2; subst h3
  exact ⟨v, (T.setVm vm₁).calling g' mk (Value.ref b :: As).toArray, t, U', L, hT, X', hL, e1, e2, hq, st⟩
section
variable {y : MethodName} {bytes cc : ByteArray} {maxL nL mc ms n index : Nat} {ret : Option FieldType} {ws : List Cond} {rm : Room} {Pc : Array Value → State → Prop} {Qc : Array Value → State → Outcome → State → Prop} {XC : String → State → State → Prop} {free : Addr → Prop} {Ts : List Cond} {own C : String} {b : Addr} {As rest : List Value} {g : JFrame}
theorem vx_runVX {hh : List (Nat × Nat × Nat × Nat)} (S : CallFix p m c cc nL s args Ts own) (hM : vx_Met l y ws rm Pc Qc XC mc ms free) (cw : vx_CVW R s args own C index y bytes maxL ret hh ws rm mc ms n) (hp : PreV s H C b Pc As)
    (hg : g.method = m) (hn : As.length = n) (hsize : g.locals.size = nL) (hstack : g.stack = As.reverse ++ .ref b :: rest) (hW : 2 * g.monitorRoom + (rest.map fun v => v.category).sum ≤ 8) (hdg : decode cc g.pc = .ok (.invokevirtual index, 3)) (hf : cells + mc ≤ R.cells ∧ slots + ms ≤ R.slots) :
    vx_Run p l e R s m args below meth c H locs cells slots mc ms g rest (Qc (Value.ref b :: As).toArray) XC free := by
  obtain ⟨⟨hrc, hrs, hfr, hlo, hws, hcw⟩, hcode, hini, hy, hlen, hl, hin, hse⟩ := cw
  have hK : vx_Back l R p e below s args y 3 8 (PreOf R mc ms Pc) (PostOf Qc mc ms free) (vx_Post XC mc ms free) := vx_backW (hh := hh) (bytes := bytes) (maxL := maxL) (ret := ret) hM hp.1 hrc hrs hfr hlo hws hcw (fun a' U hW => word_at hW (Or.inl (by first | rfl | simp [Cond.onTables, Cond.keeps, Cond.steady])) hini)
  obtain ⟨hx, hb, hml, ho, -⟩ := S
  obtain ⟨-, ⟨cellB, hcB, hoB, hclB⟩, hPc⟩ := hp
  intro T hT X
  rcases vx_callVX X hx (C := C) (hh := hh) (bytes := bytes) (maxL := maxL) (ret := ret) ho hl hin hse hcode hy hK (by rw [hT]; exact hcB) hoB hclB hg (hsize.trans hml.symm) (argsL := As) (rest := rest) (fun sig h => hn.trans (hlen sig h)) hstack hW (by rw [hb]; exact hdg)
    (fun vm₁ hW₁ => ⟨hf.1, hf.2, hPc (T.setVm vm₁) hT hW₁⟩) with ⟨v, vm₁, ⟨U', l2, c2, s2⟩, hW₁, X', ⟨g', mk, t, L, e1, e2, hq, h1, hL, h2, h3⟩, st⟩ | ⟨q, vm₁, ⟨U', l2, c2, s2⟩, hW₁, X', ⟨g', mk, t, L, E, ce, e1, e2, hq, hce, hcv, hcl, h1, hL, h2, h3⟩, st⟩
  · dsimp only [Pt.U, Pt.locs, Pt.cells, Pt.slots] at X' e1 e2 h1 h2 h3 st
    subst h1; subst h2; subst h3
    exact Or.inl ⟨v, (T.setVm vm₁).calling g' mk (Value.ref b :: As).toArray, t, U', L, hT, X', hL, e1, e2, hq, st⟩
  · dsimp only [Pt.U, Pt.locs, Pt.cells, Pt.slots] at X' e1 e2 h1 h2 h3 st hcl
    subst h1; subst h2; subst h3
    exact Or.inr ⟨q, (T.setVm vm₁).calling g' mk (Value.ref b :: As).toArray, t, U', L, E, ce, hT, X', hL, e1, e2, hq, hce, hcv, vx_cls hW₁ hcl, st⟩
theorem vx_runSX {hh : List (Nat × Nat × Nat × Nat)} (S : CallFix p m c cc nL s args Ts own) (hM : vx_Met l y ws rm Pc Qc XC mc ms free) (cw : vx_CSW R s args own index y bytes maxL ret hh ws rm mc ms n) (hp : PreS s H Pc As)
    (hg : g.method = m) (hn : As.length = n) (hsize : g.locals.size = nL) (hstack : g.stack = As.reverse ++ rest) (hW : 2 * g.monitorRoom + (rest.map fun v => v.category).sum ≤ 8) (hdg : decode cc g.pc = .ok (.invokestatic index, 3)) (hf : cells + mc ≤ R.cells ∧ slots + ms ≤ R.slots) :
    vx_Run p l e R s m args below meth c H locs cells slots mc ms g rest (Qc As.toArray) XC free := by
  obtain ⟨⟨hrc, hrs, hfr, hlo, hws, hcw⟩, hcode, hini, hy, hlen, hl, hstt⟩ := cw
  have hK : vx_Back l R p e below s args y 3 8 (PreOf R mc ms Pc) (PostOf Qc mc ms free) (vx_Post XC mc ms free) := vx_backW (hh := hh) (bytes := bytes) (maxL := maxL) (ret := ret) hM hp.1 hrc hrs hfr hlo hws hcw (fun a' U hW => word_at hW (Or.inl (by first | rfl | simp [Cond.onTables, Cond.keeps, Cond.steady])) hini)
  obtain ⟨hx, hb, hml, ho, -⟩ := S
  intro T hT X
  rcases vx_callSX X hx (hh := hh) (bytes := bytes) (maxL := maxL) (ret := ret) ho hl hstt hini hcode hy hK hg (hsize.trans hml.symm) (argsL := As) (rest := rest) (fun sig h => hn.trans (hlen sig h)) hstack hW (by rw [hb]; exact hdg)
    (fun vm₁ hW₁ => ⟨hf.1, hf.2, hp.2 (T.setVm vm₁) hT hW₁⟩) with ⟨v, vm₁, ⟨U', l2, c2, s2⟩, hW₁, X', ⟨g', mk, t, L, e1, e2, hq, h1, hL, h2, h3⟩, st⟩ | ⟨q, vm₁, ⟨U', l2, c2, s2⟩, hW₁, X', ⟨g', mk, t, L, E, ce, e1, e2, hq, hce, hcv, hcl, h1, hL, h2, h3⟩, st⟩
  · dsimp only [Pt.U, Pt.locs, Pt.cells, Pt.slots] at X' e1 e2 h1 h2 h3 st
    subst h1; subst h2; subst h3
    exact Or.inl ⟨v, (T.setVm vm₁).calling g' mk As.toArray, t, U', L, hT, X', hL, e1, e2, hq, st⟩
  · dsimp only [Pt.U, Pt.locs, Pt.cells, Pt.slots] at X' e1 e2 h1 h2 h3 st hcl
    subst h1; subst h2; subst h3
    exact Or.inr ⟨q, (T.setVm vm₁).calling g' mk As.toArray, t, U', L, E, ce, hT, X', hL, e1, e2, hq, hce, hcv, vx_cls hW₁ hcl, st⟩
end
end VXH
theorem vx_ofWH {l : Launch} {y : MethodName} {ws ws' : List Cond} {rm : Room} {Pc : Array Value → State → Prop} {Qc : Array Value → State → Outcome → State → Prop} {XC : String → State → State → Prop} {mc ms : Nat} {free : Addr → Prop} {cc : ByteArray} {maxL : Nat} {ret : Option FieldType} {hh : List (Nat × Nat × Nat × Nat)}
    (hy : plainName y.cls = true) (hw : ws = Cond.codeWith y cc maxL ret hh :: ws')
    (body : ∀ p e s m args below meth c s₁, BodyLoose p l y (headSpec ws rm) cc maxL ret e s m args below meth c s₁ → c.maxLocals = maxL → Pc args s →
      W p l e (headSpec ws rm).room s m args below meth c s.heap [] 0 0 (vx_MQ below Qc XC args s mc ms free) (entryFrame m args maxL)) : vx_Met l y ws rm Pc Qc XC mc ms free := by
  refine MetFree.of_bodyS (code := cc) (maxLocals := maxL) (ret := ret) hy ?_ ?_
  · intro args s m h hn
    obtain ⟨m9, meth, c, hn9, h1, h2, h3, h4, -, h5, h6, -⟩ := Cond.codeWith_spec (atoms_spec (ws := ws) h _ (by rw [hw]; exact List.mem_cons_self))
    cases hn.symm.trans hn9
    exact ⟨meth, c, h1, h2, h3, h4, h5, h6⟩
  · intro p e s m args below meth c s₁ B hml hP _
    have hh0 : s₁.heap = s.heap := by rw [B.state]; rfl
    obtain ⟨t, a1, o, b1, b2, b3⟩ := body p e s m args below meth c s₁ B hml hP s₁ hh0 (Stand.of_body B)
    exact ⟨t, o, a1, b1, b2, b3⟩
/-! ===== END ===== -/
end
section
/-! ===== BEGIN printed: names, fields, word lists, decode rows ===== -/
def RX0 : String := "TwinSets$Cursor"
def TX0 : u_T := fun k => match k with
  | 0 => ("TwinSets$Cursor", "isInUse", "Z", false)
  | 1 => ("TwinSets$Cursor", "isOpen", "Z", false)
  | 2 => ("TwinSets$Cursor", "isStrict", "Z", false)
  | 3 => ("TwinSets$Cursor", "set", "I", false)
  | 4 => ("TwinSets$Cursor", "position", "I", false)
  | 5 => ("TwinSets$Cursor", "madeAt", "I", false)
  | 6 => ("TwinSets$Cursor", "metCount", "I", false)
  | _ => ("TwinSets$Cursor", "lastMet", "I", false)
def tyX0 : Nat → FieldType := fun k => match k with
  | 0 => .boolean
  | 1 => .boolean
  | 2 => .boolean
  | 3 => .int
  | 4 => .int
  | 5 => .int
  | 6 => .int
  | _ => .int
theorem nmX0 : ∀ a, a < 8 → ∀ b, b < 8 → a ≠ b → (TX0 a).2.1 ≠ (TX0 b).2.1 := by decide +kernel
theorem tyX0_ok : ∀ k, k < 8 → parseFieldDescriptor (TX0 k).2.2.1 = some (tyX0 k) := by decide +kernel
abbrev cX0_init : ByteArray := prog_2_method_1_code
def yX0_init : MethodName := ⟨RX0, "<init>", "()V"⟩
abbrev cX0_begin : ByteArray := prog_2_method_2_code
def yX0_begin : MethodName := ⟨RX0, "begin", "(IZI)V"⟩
abbrev cX0_copyFrom : ByteArray := prog_2_method_3_code
def yX0_copyFrom : MethodName := ⟨RX0, "copyFrom", "(LTwinSets$Cursor;)V"⟩
abbrev cX0_isOpenOn : ByteArray := prog_2_method_4_code
def yX0_isOpenOn : MethodName := ⟨RX0, "isOpenOn", "(I)Z"⟩
abbrev cX0_meets : ByteArray := prog_2_method_5_code
def yX0_meets : MethodName := ⟨RX0, "meets", "(I)Z"⟩
def RX1 : String := "TwinSets$Input"
def TX1 : u_T := fun k => match k with
  | 0 => ("TwinSets$Input", "bytes", "[B", true)
  | _ => ("TwinSets$Input", "length", "I", false)
def tyX1 : Nat → FieldType := fun k => match k with
  | 0 => .array .byte
  | _ => .int
theorem nmX1 : ∀ a, a < 2 → ∀ b, b < 2 → a ≠ b → (TX1 a).2.1 ≠ (TX1 b).2.1 := by decide +kernel
theorem tyX1_ok : ∀ k, k < 2 → parseFieldDescriptor (TX1 k).2.2.1 = some (tyX1 k) := by decide +kernel
abbrev cX1_init : ByteArray := prog_3_method_1_code
def yX1_init : MethodName := ⟨RX1, "<init>", "()V"⟩
abbrev cX1_takeFourBytes : ByteArray := prog_3_method_2_code
def yX1_takeFourBytes : MethodName := ⟨RX1, "takeFourBytes", "(I)V"⟩
abbrev cX1_holds : ByteArray := prog_3_method_4_code
def yX1_holds : MethodName := ⟨RX1, "holds", "(IILjava/lang/String;)Z"⟩
abbrev cX1_isBlank : ByteArray := prog_3_method_5_code
def yX1_isBlank : MethodName := ⟨RX1, "isBlank", "(I)Z"⟩
abbrev cX1_isLetter : ByteArray := prog_3_method_6_code
def yX1_isLetter : MethodName := ⟨RX1, "isLetter", "(I)Z"⟩
abbrev cX1_isDigit : ByteArray := prog_3_method_7_code
def yX1_isDigit : MethodName := ⟨RX1, "isDigit", "(I)Z"⟩
def RX2 : String := "TwinSets$Log"
def TX2 : u_T := fun k => match k with
  | 0 => ("TwinSets$Log", "stamps", "[I", true)
  | 1 => ("TwinSets$Log", "numbers", "[I", true)
  | 2 => ("TwinSets$Log", "kinds", "[I", true)
  | 3 => ("TwinSets$Log", "count", "I", false)
  | 4 => ("TwinSets$Log", "firstStamp", "I", false)
  | _ => ("TwinSets$Log", "bitsAtFirst", "J", false)
def tyX2 : Nat → FieldType := fun k => match k with
  | 0 => .array .int
  | 1 => .array .int
  | 2 => .array .int
  | 3 => .int
  | 4 => .int
  | _ => .long
theorem nmX2 : ∀ a, a < 6 → ∀ b, b < 6 → a ≠ b → (TX2 a).2.1 ≠ (TX2 b).2.1 := by decide +kernel
theorem tyX2_ok : ∀ k, k < 6 → parseFieldDescriptor (TX2 k).2.2.1 = some (tyX2 k) := by decide +kernel
abbrev cX2_init : ByteArray := prog_4_method_1_code
def yX2_init : MethodName := ⟨RX2, "<init>", "()V"⟩
abbrev cX2_begin : ByteArray := prog_4_method_2_code
def yX2_begin : MethodName := ⟨RX2, "begin", "()V"⟩
abbrev cX2_copyFrom : ByteArray := prog_4_method_3_code
def yX2_copyFrom : MethodName := ⟨RX2, "copyFrom", "(LTwinSets$Log;)V"⟩
abbrev cX2_note : ByteArray := prog_4_method_4_code
def yX2_note : MethodName := ⟨RX2, "note", "(IIII)V"⟩
abbrev cX2_bitsBehind : ByteArray := prog_4_method_5_code
def yX2_bitsBehind : MethodName := ⟨RX2, "bitsBehind", "(JI)J"⟩
abbrev cX2_bitsAt : ByteArray := prog_4_method_6_code
def yX2_bitsAt : MethodName := ⟨RX2, "bitsAt", "(I)J"⟩
abbrev cX2_latestChangeOf : ByteArray := prog_4_method_7_code
def yX2_latestChangeOf : MethodName := ⟨RX2, "latestChangeOf", "(I)I"⟩
abbrev cX2_stampOfMostMembers : ByteArray := prog_4_method_8_code
def yX2_stampOfMostMembers : MethodName := ⟨RX2, "stampOfMostMembers", "()I"⟩
def RX3 : String := "TwinSets$Parser"
def TX3 : u_T := fun k => match k with
  | 0 => ("TwinSets$Parser", "input", "LTwinSets$Input;", true)
  | 1 => ("TwinSets$Parser", "length", "I", true)
  | 2 => ("TwinSets$Parser", "state", "LTwinSets$State;", true)
  | 3 => ("TwinSets$Parser", "token", "LTwinSets$Token;", false)
  | 4 => ("TwinSets$Parser", "start", "I", false)
  | 5 => ("TwinSets$Parser", "end", "I", false)
  | 6 => ("TwinSets$Parser", "number", "I", false)
  | 7 => ("TwinSets$Parser", "errorCode", "I", false)
  | _ => ("TwinSets$Parser", "errorAt", "I", false)
def tyX3 : Nat → FieldType := fun k => match k with
  | 0 => .object "TwinSets$Input"
  | 1 => .int
  | 2 => .object "TwinSets$State"
  | 3 => .object "TwinSets$Token"
  | 4 => .int
  | 5 => .int
  | 6 => .int
  | 7 => .int
  | _ => .int
theorem nmX3 : ∀ a, a < 9 → ∀ b, b < 9 → a ≠ b → (TX3 a).2.1 ≠ (TX3 b).2.1 := by decide +kernel
theorem tyX3_ok : ∀ k, k < 9 → parseFieldDescriptor (TX3 k).2.2.1 = some (tyX3 k) := by decide +kernel
abbrev cX3_init : ByteArray := prog_5_method_1_code
def yX3_init : MethodName := ⟨RX3, "<init>", "(LTwinSets$Input;ILTwinSets$State;)V"⟩
abbrev cX3_readText : ByteArray := prog_5_method_2_code
def yX3_readText : MethodName := ⟨RX3, "readText", "()Z"⟩
abbrev cX3_readStatement : ByteArray := prog_5_method_3_code
def yX3_readStatement : MethodName := ⟨RX3, "readStatement", "()Z"⟩
abbrev cX3_readSet : ByteArray := prog_5_method_4_code
def yX3_readSet : MethodName := ⟨RX3, "readSet", "()Z"⟩
abbrev cX3_readMembers : ByteArray := prog_5_method_5_code
def yX3_readMembers : MethodName := ⟨RX3, "readMembers", "(Z)Z"⟩
abbrev cX3_readClear : ByteArray := prog_5_method_6_code
def yX3_readClear : MethodName := ⟨RX3, "readClear", "()Z"⟩
abbrev cX3_readMark : ByteArray := prog_5_method_7_code
def yX3_readMark : MethodName := ⟨RX3, "readMark", "()Z"⟩
abbrev cX3_readEarlierSet : ByteArray := prog_5_method_8_code
def yX3_readEarlierSet : MethodName := ⟨RX3, "readEarlierSet", "()I"⟩
abbrev cX3_isNumber : ByteArray := prog_5_method_9_code
def yX3_isNumber : MethodName := ⟨RX3, "isNumber", "(II)Z"⟩
abbrev cX3_passWord : ByteArray := prog_5_method_10_code
def yX3_passWord : MethodName := ⟨RX3, "passWord", "(Ljava/lang/String;)Z"⟩
abbrev cX3_passSemicolon : ByteArray := prog_5_method_11_code
def yX3_passSemicolon : MethodName := ⟨RX3, "passSemicolon", "()Z"⟩
abbrev cX3_fail : ByteArray := prog_5_method_12_code
def yX3_fail : MethodName := ⟨RX3, "fail", "(I)Z"⟩
abbrev cX3_isWord : ByteArray := prog_5_method_13_code
def yX3_isWord : MethodName := ⟨RX3, "isWord", "(Ljava/lang/String;)Z"⟩
abbrev cX3_wordText : ByteArray := prog_5_method_14_code
def yX3_wordText : MethodName := ⟨RX3, "wordText", "()Ljava/lang/String;"⟩
abbrev cX3_toNextToken : ByteArray := prog_5_method_15_code
def yX3_toNextToken : MethodName := ⟨RX3, "toNextToken", "()V"⟩
abbrev cX3_passLetters : ByteArray := prog_5_method_16_code
def yX3_passLetters : MethodName := ⟨RX3, "passLetters", "()V"⟩
abbrev cX3_passDigits : ByteArray := prog_5_method_17_code
def yX3_passDigits : MethodName := ⟨RX3, "passDigits", "()V"⟩
def RX4 : String := "TwinSets$SnapshotSlots"
def TX4 : u_T := fun k => match k with
  | 0 => ("TwinSets$SnapshotSlots", "states", "[LTwinSets$State;", true)
  | _ => ("TwinSets$SnapshotSlots", "isFull", "[Z", true)
def tyX4 : Nat → FieldType := fun k => match k with
  | 0 => .array (.object "TwinSets$State")
  | _ => .array .boolean
theorem nmX4 : ∀ a, a < 2 → ∀ b, b < 2 → a ≠ b → (TX4 a).2.1 ≠ (TX4 b).2.1 := by decide +kernel
theorem tyX4_ok : ∀ k, k < 2 → parseFieldDescriptor (TX4 k).2.2.1 = some (tyX4 k) := by decide +kernel
abbrev cX4_init : ByteArray := prog_6_method_1_code
def yX4_init : MethodName := ⟨RX4, "<init>", "()V"⟩
abbrev cX4_emptyAll : ByteArray := prog_6_method_4_code
def yX4_emptyAll : MethodName := ⟨RX4, "emptyAll", "()V"⟩
def RX5 : String := "TwinSets$State"
def TX5 : u_T := fun k => match k with
  | 0 => ("TwinSets$State", "sets", "[LTwinSets$TwinRows;", true)
  | 1 => ("TwinSets$State", "cursors", "[LTwinSets$Cursor;", true)
  | 2 => ("TwinSets$State", "marks", "[I", true)
  | 3 => ("TwinSets$State", "universe", "I", false)
  | 4 => ("TwinSets$State", "horizon", "I", false)
  | 5 => ("TwinSets$State", "setCount", "I", false)
  | 6 => ("TwinSets$State", "markCount", "I", false)
  | 7 => ("TwinSets$State", "clock", "I", false)
  | _ => ("TwinSets$State", "cost", "I", false)
def tyX5 : Nat → FieldType := fun k => match k with
  | 0 => .array (.object "TwinSets$TwinRows")
  | 1 => .array (.object "TwinSets$Cursor")
  | 2 => .array .int
  | 3 => .int
  | 4 => .int
  | 5 => .int
  | 6 => .int
  | 7 => .int
  | _ => .int
theorem nmX5 : ∀ a, a < 9 → ∀ b, b < 9 → a ≠ b → (TX5 a).2.1 ≠ (TX5 b).2.1 := by decide +kernel
theorem tyX5_ok : ∀ k, k < 9 → parseFieldDescriptor (TX5 k).2.2.1 = some (tyX5 k) := by decide +kernel
abbrev cX5_init : ByteArray := prog_7_method_1_code
def yX5_init : MethodName := ⟨RX5, "<init>", "()V"⟩
abbrev cX5_begin : ByteArray := prog_7_method_2_code
def yX5_begin : MethodName := ⟨RX5, "begin", "(II)V"⟩
abbrev cX5_beginSet : ByteArray := prog_7_method_3_code
def yX5_beginSet : MethodName := ⟨RX5, "beginSet", "(Ljava/lang/String;)V"⟩
abbrev cX5_copyFrom : ByteArray := prog_7_method_4_code
def yX5_copyFrom : MethodName := ⟨RX5, "copyFrom", "(LTwinSets$State;)V"⟩
abbrev cX5_hasNumber : ByteArray := prog_7_method_5_code
def yX5_hasNumber : MethodName := ⟨RX5, "hasNumber", "(I)Z"⟩
abbrev cX5_setNamed : ByteArray := prog_7_method_6_code
def yX5_setNamed : MethodName := ⟨RX5, "setNamed", "(LTwinSets$Input;II)I"⟩
abbrev cX5_bringIn : ByteArray := prog_7_method_7_code
def yX5_bringIn : MethodName := ⟨RX5, "bringIn", "(LTwinSets$TwinRows;I)Z"⟩
abbrev cX5_takeOut : ByteArray := prog_7_method_8_code
def yX5_takeOut : MethodName := ⟨RX5, "takeOut", "(II)Z"⟩
abbrev cX5_pullCursorsBack : ByteArray := prog_7_method_9_code
def yX5_pullCursorsBack : MethodName := ⟨RX5, "pullCursorsBack", "(II)Z"⟩
abbrev cX5_moveMember : ByteArray := prog_7_method_10_code
def yX5_moveMember : MethodName := ⟨RX5, "moveMember", "(LTwinSets$TwinRows;II)V"⟩
abbrev cX5_writeMember : ByteArray := prog_7_method_11_code
def yX5_writeMember : MethodName := ⟨RX5, "writeMember", "(LTwinSets$TwinRows;II)V"⟩
abbrev cX5_emptySet : ByteArray := prog_7_method_12_code
def yX5_emptySet : MethodName := ⟨RX5, "emptySet", "(I)V"⟩
abbrev cX5_makeMark : ByteArray := prog_7_method_13_code
def yX5_makeMark : MethodName := ⟨RX5, "makeMark", "()V"⟩
abbrev cX5_keepCommon : ByteArray := prog_7_method_14_code
def yX5_keepCommon : MethodName := ⟨RX5, "keepCommon", "(II)I"⟩
abbrev cX5_bringAll : ByteArray := prog_7_method_15_code
def yX5_bringAll : MethodName := ⟨RX5, "bringAll", "(II)I"⟩
abbrev cX5_freeCursor : ByteArray := prog_7_method_16_code
def yX5_freeCursor : MethodName := ⟨RX5, "freeCursor", "()I"⟩
abbrev cX5_countCursors : ByteArray := prog_7_method_17_code
def yX5_countCursors : MethodName := ⟨RX5, "countCursors", "()I"⟩
abbrev cX5_countOpenCursors : ByteArray := prog_7_method_18_code
def yX5_countOpenCursors : MethodName := ⟨RX5, "countOpenCursors", "(I)I"⟩
abbrev cX5_countAhead : ByteArray := prog_7_method_19_code
def yX5_countAhead : MethodName := ⟨RX5, "countAhead", "(LTwinSets$Cursor;)I"⟩
abbrev cX5_meetNext : ByteArray := prog_7_method_20_code
def yX5_meetNext : MethodName := ⟨RX5, "meetNext", "(LTwinSets$Cursor;)I"⟩
def RX6 : String := "TwinSets$Token"
def TX6 : u_T := fun k => match k with
  | _ => ("", "", "", false)
def tyX6 : Nat → FieldType := fun k => match k with
  | _ => .int
theorem nmX6 : ∀ a, a < 0 → ∀ b, b < 0 → a ≠ b → (TX6 a).2.1 ≠ (TX6 b).2.1 := by decide +kernel
theorem tyX6_ok : ∀ k, k < 0 → parseFieldDescriptor (TX6 k).2.2.1 = some (tyX6 k) := by decide +kernel
def RX7 : String := "TwinSets$TwinRows"
def TX7 : u_T := fun k => match k with
  | 0 => ("TwinSets$TwinRows", "members", "[I", true)
  | 1 => ("TwinSets$TwinRows", "places", "[I", true)
  | 2 => ("TwinSets$TwinRows", "stamps", "[I", true)
  | 3 => ("TwinSets$TwinRows", "log", "LTwinSets$Log;", true)
  | 4 => ("TwinSets$TwinRows", "name", "Ljava/lang/String;", false)
  | 5 => ("TwinSets$TwinRows", "size", "I", false)
  | _ => ("TwinSets$TwinRows", "generation", "I", false)
def tyX7 : Nat → FieldType := fun k => match k with
  | 0 => .array .int
  | 1 => .array .int
  | 2 => .array .int
  | 3 => .object "TwinSets$Log"
  | 4 => .object "java/lang/String"
  | 5 => .int
  | _ => .int
theorem nmX7 : ∀ a, a < 7 → ∀ b, b < 7 → a ≠ b → (TX7 a).2.1 ≠ (TX7 b).2.1 := by decide +kernel
theorem tyX7_ok : ∀ k, k < 7 → parseFieldDescriptor (TX7 k).2.2.1 = some (tyX7 k) := by decide +kernel
abbrev cX7_init : ByteArray := prog_9_method_1_code
def yX7_init : MethodName := ⟨RX7, "<init>", "()V"⟩
abbrev cX7_begin : ByteArray := prog_9_method_2_code
def yX7_begin : MethodName := ⟨RX7, "begin", "(Ljava/lang/String;)V"⟩
abbrev cX7_copyFrom : ByteArray := prog_9_method_3_code
def yX7_copyFrom : MethodName := ⟨RX7, "copyFrom", "(LTwinSets$TwinRows;)V"⟩
abbrev cX7_placeOf : ByteArray := prog_9_method_4_code
def yX7_placeOf : MethodName := ⟨RX7, "placeOf", "(I)I"⟩
abbrev cX7_has : ByteArray := prog_9_method_5_code
def yX7_has : MethodName := ⟨RX7, "has", "(I)Z"⟩
abbrev cX7_stampAt : ByteArray := prog_9_method_6_code
def yX7_stampAt : MethodName := ⟨RX7, "stampAt", "(I)I"⟩
abbrev cX7_bits : ByteArray := prog_9_method_7_code
def yX7_bits : MethodName := ⟨RX7, "bits", "()J"⟩
def RX8 : String := "TwinSets$UndoHistory"
def TX8 : u_T := fun k => match k with
  | 0 => ("TwinSets$UndoHistory", "states", "[LTwinSets$State;", true)
  | 1 => ("TwinSets$UndoHistory", "next", "I", false)
  | _ => ("TwinSets$UndoHistory", "count", "I", false)
def tyX8 : Nat → FieldType := fun k => match k with
  | 0 => .array (.object "TwinSets$State")
  | 1 => .int
  | _ => .int
theorem nmX8 : ∀ a, a < 3 → ∀ b, b < 3 → a ≠ b → (TX8 a).2.1 ≠ (TX8 b).2.1 := by decide +kernel
theorem tyX8_ok : ∀ k, k < 3 → parseFieldDescriptor (TX8 k).2.2.1 = some (tyX8 k) := by decide +kernel
abbrev cX8_init : ByteArray := prog_10_method_1_code
def yX8_init : MethodName := ⟨RX8, "<init>", "()V"⟩
abbrev cX8_remember : ByteArray := prog_10_method_2_code
def yX8_remember : MethodName := ⟨RX8, "remember", "(LTwinSets$State;)V"⟩
abbrev cX8_forgetAll : ByteArray := prog_10_method_4_code
def yX8_forgetAll : MethodName := ⟨RX8, "forgetAll", "()V"⟩
def RX9 : String := "TwinSets"
def TX9 : u_T := fun k => match k with
  | 0 => ("TwinSets", "input", "LTwinSets$Input;", true)
  | 1 => ("TwinSets", "history", "LTwinSets$UndoHistory;", true)
  | 2 => ("TwinSets", "slots", "LTwinSets$SnapshotSlots;", true)
  | 3 => ("TwinSets", "now", "LTwinSets$State;", false)
  | 4 => ("TwinSets", "draft", "LTwinSets$State;", false)
  | _ => ("TwinSets", "errorAt", "I", false)
def tyX9 : Nat → FieldType := fun k => match k with
  | 0 => .object "TwinSets$Input"
  | 1 => .object "TwinSets$UndoHistory"
  | 2 => .object "TwinSets$SnapshotSlots"
  | 3 => .object "TwinSets$State"
  | 4 => .object "TwinSets$State"
  | _ => .int
theorem nmX9 : ∀ a, a < 6 → ∀ b, b < 6 → a ≠ b → (TX9 a).2.1 ≠ (TX9 b).2.1 := by decide +kernel
theorem tyX9_ok : ∀ k, k < 6 → parseFieldDescriptor (TX9 k).2.2.1 = some (tyX9 k) := by decide +kernel
abbrev cX9_init : ByteArray := prog_1_method_1_code
def yX9_init : MethodName := ⟨RX9, "<init>", "()V"⟩
abbrev cX9_append : ByteArray := prog_1_method_2_code
def yX9_append : MethodName := ⟨RX9, "append", "(IIIII)I"⟩
abbrev cX9_parse : ByteArray := prog_1_method_3_code
def yX9_parse : MethodName := ⟨RX9, "parse", "(I)I"⟩
abbrev cX9_beginWithDraft : ByteArray := prog_1_method_4_code
def yX9_beginWithDraft : MethodName := ⟨RX9, "beginWithDraft", "()V"⟩
abbrev cX9_size : ByteArray := prog_1_method_6_code
def yX9_size : MethodName := ⟨RX9, "size", "(I)I"⟩
abbrev cX9_marked : ByteArray := prog_1_method_8_code
def yX9_marked : MethodName := ⟨RX9, "marked", "(I)I"⟩
abbrev cX9_set : ByteArray := prog_1_method_9_code
def yX9_set : MethodName := ⟨RX9, "set", "(II)I"⟩
abbrev cX9_cell : ByteArray := prog_1_method_10_code
def yX9_cell : MethodName := ⟨RX9, "cell", "(IIZ)I"⟩
abbrev cX9_place : ByteArray := prog_1_method_11_code
def yX9_place : MethodName := ⟨RX9, "place", "(II)I"⟩
abbrev cX9_stampOf : ByteArray := prog_1_method_12_code
def yX9_stampOf : MethodName := ⟨RX9, "stampOf", "(II)I"⟩
abbrev cX9_event : ByteArray := prog_1_method_13_code
def yX9_event : MethodName := ⟨RX9, "event", "(III)I"⟩
abbrev cX9_at : ByteArray := prog_1_method_14_code
def yX9_at : MethodName := ⟨RX9, "at", "(II)J"⟩
abbrev cX9_differs : ByteArray := prog_1_method_15_code
def yX9_differs : MethodName := ⟨RX9, "differs", "(IIIZ)I"⟩
abbrev cX9_since : ByteArray := prog_1_method_16_code
def yX9_since : MethodName := ⟨RX9, "since", "(II)I"⟩
abbrev cX9_fullest : ByteArray := prog_1_method_17_code
def yX9_fullest : MethodName := ⟨RX9, "fullest", "(I)I"⟩
abbrev cX9_cursor : ByteArray := prog_1_method_18_code
def yX9_cursor : MethodName := ⟨RX9, "cursor", "(II)I"⟩
abbrev cX9_ahead : ByteArray := prog_1_method_19_code
def yX9_ahead : MethodName := ⟨RX9, "ahead", "(I)I"⟩
abbrev cX9_common : ByteArray := prog_1_method_20_code
def yX9_common : MethodName := ⟨RX9, "common", "(II)I"⟩
abbrev cX9_isWithin : ByteArray := prog_1_method_21_code
def yX9_isWithin : MethodName := ⟨RX9, "isWithin", "(II)Z"⟩
abbrev cX9_likeness : ByteArray := prog_1_method_22_code
def yX9_likeness : MethodName := ⟨RX9, "likeness", "(II)D"⟩
abbrev cX9_add : ByteArray := prog_1_method_23_code
def yX9_add : MethodName := ⟨RX9, "add", "(II)I"⟩
abbrev cX9_remove : ByteArray := prog_1_method_24_code
def yX9_remove : MethodName := ⟨RX9, "remove", "(II)Z"⟩
abbrev cX9_clear : ByteArray := prog_1_method_25_code
def yX9_clear : MethodName := ⟨RX9, "clear", "(I)I"⟩
abbrev cX9_mark : ByteArray := prog_1_method_26_code
def yX9_mark : MethodName := ⟨RX9, "mark", "()I"⟩
abbrev cX9_open : ByteArray := prog_1_method_27_code
def yX9_open : MethodName := ⟨RX9, "open", "(IZ)I"⟩
abbrev cX9_close : ByteArray := prog_1_method_28_code
def yX9_close : MethodName := ⟨RX9, "close", "(I)I"⟩
abbrev cX9_step : ByteArray := prog_1_method_29_code
def yX9_step : MethodName := ⟨RX9, "step", "(I)I"⟩
abbrev cX9_removeMet : ByteArray := prog_1_method_30_code
def yX9_removeMet : MethodName := ⟨RX9, "removeMet", "(I)I"⟩
abbrev cX9_keep : ByteArray := prog_1_method_31_code
def yX9_keep : MethodName := ⟨RX9, "keep", "(II)I"⟩
abbrev cX9_unite : ByteArray := prog_1_method_32_code
def yX9_unite : MethodName := ⟨RX9, "unite", "(II)I"⟩
abbrev cX9_checkSet : ByteArray := prog_1_method_36_code
def yX9_checkSet : MethodName := ⟨RX9, "checkSet", "(I)V"⟩
abbrev cX9_rowsOf : ByteArray := prog_1_method_37_code
def yX9_rowsOf : MethodName := ⟨RX9, "rowsOf", "(I)LTwinSets$TwinRows;"⟩
abbrev cX9_cursorOf : ByteArray := prog_1_method_38_code
def yX9_cursorOf : MethodName := ⟨RX9, "cursorOf", "(I)LTwinSets$Cursor;"⟩
abbrev cX9_checkNumber : ByteArray := prog_1_method_39_code
def yX9_checkNumber : MethodName := ⟨RX9, "checkNumber", "(I)V"⟩
abbrev cX9_checkStamp : ByteArray := prog_1_method_40_code
def yX9_checkStamp : MethodName := ⟨RX9, "checkStamp", "(LTwinSets$Log;I)V"⟩
def RX10 : String := "TwinSetsLaw$Box"
def TX10 : u_T := fun k => match k with
  | 0 => ("TwinSetsLaw$Box", "size", "I", false)
  | 1 => ("TwinSetsLaw$Box", "generation", "I", false)
  | 2 => ("TwinSetsLaw$Box", "events", "I", false)
  | 3 => ("TwinSetsLaw$Box", "members", "[I", true)
  | 4 => ("TwinSetsLaw$Box", "places", "[I", true)
  | 5 => ("TwinSetsLaw$Box", "stamps", "[I", true)
  | 6 => ("TwinSetsLaw$Box", "stamp", "[I", true)
  | 7 => ("TwinSetsLaw$Box", "number", "[I", true)
  | 8 => ("TwinSetsLaw$Box", "kind", "[I", true)
  | _ => ("TwinSetsLaw$Box", "then", "[J", true)
def tyX10 : Nat → FieldType := fun k => match k with
  | 0 => .int
  | 1 => .int
  | 2 => .int
  | 3 => .array .int
  | 4 => .array .int
  | 5 => .array .int
  | 6 => .array .int
  | 7 => .array .int
  | 8 => .array .int
  | _ => .array .long
theorem nmX10 : ∀ a, a < 10 → ∀ b, b < 10 → a ≠ b → (TX10 a).2.1 ≠ (TX10 b).2.1 := by decide +kernel
theorem tyX10_ok : ∀ k, k < 10 → parseFieldDescriptor (TX10 k).2.2.1 = some (tyX10 k) := by decide +kernel
abbrev cX10_init : ByteArray := prog_12_method_1_code
def yX10_init : MethodName := ⟨RX10, "<init>", "()V"⟩
abbrev cX10_has : ByteArray := prog_12_method_2_code
def yX10_has : MethodName := ⟨RX10, "has", "(I)Z"⟩
abbrev cX10_bits : ByteArray := prog_12_method_3_code
def yX10_bits : MethodName := ⟨RX10, "bits", "()J"⟩
abbrev cX10_note : ByteArray := prog_12_method_4_code
def yX10_note : MethodName := ⟨RX10, "note", "(III)V"⟩
abbrev cX10_kept : ByteArray := prog_12_method_5_code
def yX10_kept : MethodName := ⟨RX10, "kept", "(I)I"⟩
abbrev cX10_first : ByteArray := prog_12_method_6_code
def yX10_first : MethodName := ⟨RX10, "first", "(I)I"⟩
abbrev cX10_at : ByteArray := prog_12_method_7_code
def yX10_at : MethodName := ⟨RX10, "at", "(I)J"⟩
def RX11 : String := "TwinSetsLaw$Cursor"
def TX11 : u_T := fun k => match k with
  | 0 => ("TwinSetsLaw$Cursor", "of", "LTwinSetsLaw$Box;", false)
  | 1 => ("TwinSetsLaw$Cursor", "set", "I", false)
  | 2 => ("TwinSetsLaw$Cursor", "position", "I", false)
  | 3 => ("TwinSetsLaw$Cursor", "made", "I", false)
  | 4 => ("TwinSetsLaw$Cursor", "met", "I", false)
  | 5 => ("TwinSetsLaw$Cursor", "last", "I", false)
  | 6 => ("TwinSetsLaw$Cursor", "open", "Z", false)
  | _ => ("TwinSetsLaw$Cursor", "strict", "Z", false)
def tyX11 : Nat → FieldType := fun k => match k with
  | 0 => .object "TwinSetsLaw$Box"
  | 1 => .int
  | 2 => .int
  | 3 => .int
  | 4 => .int
  | 5 => .int
  | 6 => .boolean
  | _ => .boolean
theorem nmX11 : ∀ a, a < 8 → ∀ b, b < 8 → a ≠ b → (TX11 a).2.1 ≠ (TX11 b).2.1 := by decide +kernel
theorem tyX11_ok : ∀ k, k < 8 → parseFieldDescriptor (TX11 k).2.2.1 = some (tyX11 k) := by decide +kernel
abbrev cX11_init : ByteArray := prog_13_method_1_code
def yX11_init : MethodName := ⟨RX11, "<init>", "()V"⟩
abbrev cX11_meets : ByteArray := prog_13_method_2_code
def yX11_meets : MethodName := ⟨RX11, "meets", "(I)Z"⟩
def RX12 : String := "TwinSetsLaw$Sets"
def TX12 : u_T := fun k => match k with
  | 0 => ("TwinSetsLaw$Sets", "many", "I", false)
  | 1 => ("TwinSetsLaw$Sets", "universe", "I", false)
  | 2 => ("TwinSetsLaw$Sets", "horizon", "I", false)
  | 3 => ("TwinSetsLaw$Sets", "clock", "I", false)
  | 4 => ("TwinSetsLaw$Sets", "cost", "I", false)
  | 5 => ("TwinSetsLaw$Sets", "marks", "I", false)
  | 6 => ("TwinSetsLaw$Sets", "box", "[LTwinSetsLaw$Box;", true)
  | 7 => ("TwinSetsLaw$Sets", "cursor", "[LTwinSetsLaw$Cursor;", true)
  | _ => ("TwinSetsLaw$Sets", "mark", "[I", true)
def tyX12 : Nat → FieldType := fun k => match k with
  | 0 => .int
  | 1 => .int
  | 2 => .int
  | 3 => .int
  | 4 => .int
  | 5 => .int
  | 6 => .array (.object "TwinSetsLaw$Box")
  | 7 => .array (.object "TwinSetsLaw$Cursor")
  | _ => .array .int
theorem nmX12 : ∀ a, a < 9 → ∀ b, b < 9 → a ≠ b → (TX12 a).2.1 ≠ (TX12 b).2.1 := by decide +kernel
theorem tyX12_ok : ∀ k, k < 9 → parseFieldDescriptor (TX12 k).2.2.1 = some (tyX12 k) := by decide +kernel
abbrev cX12_init : ByteArray := prog_14_method_1_code
def yX12_init : MethodName := ⟨RX12, "<init>", "()V"⟩
abbrev cX12_put : ByteArray := prog_14_method_2_code
def yX12_put : MethodName := ⟨RX12, "put", "(LTwinSetsLaw$Box;II)V"⟩
abbrev cX12_add : ByteArray := prog_14_method_3_code
def yX12_add : MethodName := ⟨RX12, "add", "(LTwinSetsLaw$Box;I)V"⟩
abbrev cX12_remove : ByteArray := prog_14_method_4_code
def yX12_remove : MethodName := ⟨RX12, "remove", "(LTwinSetsLaw$Box;I)Z"⟩
abbrev cX12_clear : ByteArray := prog_14_method_5_code
def yX12_clear : MethodName := ⟨RX12, "clear", "(LTwinSetsLaw$Box;)I"⟩
abbrev cX12_step : ByteArray := prog_14_method_6_code
def yX12_step : MethodName := ⟨RX12, "step", "(LTwinSetsLaw$Cursor;)I"⟩
abbrev cX12_cursors : ByteArray := prog_14_method_7_code
def yX12_cursors : MethodName := ⟨RX12, "cursors", "()I"⟩
def RX13 : String := "TwinSetsModel"
def TX13 : u_T := fun k => match k with
  | _ => ("", "", "", false)
def tyX13 : Nat → FieldType := fun k => match k with
  | _ => .int
theorem nmX13 : ∀ a, a < 0 → ∀ b, b < 0 → a ≠ b → (TX13 a).2.1 ≠ (TX13 b).2.1 := by decide +kernel
theorem tyX13_ok : ∀ k, k < 0 → parseFieldDescriptor (TX13 k).2.2.1 = some (tyX13 k) := by decide +kernel
def RJx145de : String := "java/io/Serializable"
def TJx145de : u_T := fun k => match k with
  | _ => ("", "", "", false)
def tyJx145de : Nat → FieldType := fun k => match k with
  | _ => .int
theorem nmJx145de : ∀ a, a < 0 → ∀ b, b < 0 → a ≠ b → (TJx145de a).2.1 ≠ (TJx145de b).2.1 := by decide +kernel
theorem tyJx145de_ok : ∀ k, k < 0 → parseFieldDescriptor (TJx145de k).2.2.1 = some (tyJx145de k) := by decide +kernel
def RJ5 : String := "java/lang/AbstractStringBuilder"
def TJ5 : u_T := fun k => match k with
  | _ => ("", "", "", false)
def tyJ5 : Nat → FieldType := fun k => match k with
  | _ => .int
theorem nmJ5 : ∀ a, a < 0 → ∀ b, b < 0 → a ≠ b → (TJ5 a).2.1 ≠ (TJ5 b).2.1 := by decide +kernel
theorem tyJ5_ok : ∀ k, k < 0 → parseFieldDescriptor (TJ5 k).2.2.1 = some (tyJ5 k) := by decide +kernel
abbrev cJ5_init_d00df : ByteArray := prog_16_method_2_code
def yJ5_init_d00df : MethodName := ⟨RJ5, "<init>", "(I)V"⟩
abbrev cJ5_init_a7421 : ByteArray := prog_16_method_3_code
def yJ5_init_a7421 : MethodName := ⟨RJ5, "<init>", "(Ljava/lang/String;)V"⟩
abbrev cJ5_length_8abf5 : ByteArray := prog_16_method_6_code
def yJ5_length_8abf5 : MethodName := ⟨RJ5, "length", "()I"⟩
abbrev cJ5_ensureCapacityInternal_d00df : ByteArray := prog_16_method_9_code
def yJ5_ensureCapacityInternal_d00df : MethodName := ⟨RJ5, "ensureCapacityInternal", "(I)V"⟩
abbrev cJ5_newCapacity_0f7a4 : ByteArray := prog_16_method_10_code
def yJ5_newCapacity_0f7a4 : MethodName := ⟨RJ5, "newCapacity", "(I)I"⟩
abbrev cJ5_inflate_da8c8 : ByteArray := prog_16_method_11_code
def yJ5_inflate_da8c8 : MethodName := ⟨RJ5, "inflate", "()V"⟩
abbrev cJ5_append_cf1ce : ByteArray := prog_16_method_22_code
def yJ5_append_cf1ce : MethodName := ⟨RJ5, "append", "(Ljava/lang/String;)Ljava/lang/AbstractStringBuilder;"⟩
abbrev cJ5_appendNull_278bc : ByteArray := prog_16_method_26_code
def yJ5_appendNull_278bc : MethodName := ⟨RJ5, "appendNull", "()Ljava/lang/AbstractStringBuilder;"⟩
abbrev cJ5_append_3fe6f : ByteArray := prog_16_method_31_code
def yJ5_append_3fe6f : MethodName := ⟨RJ5, "append", "(C)Ljava/lang/AbstractStringBuilder;"⟩
abbrev cJ5_append_c97b9 : ByteArray := prog_16_method_32_code
def yJ5_append_c97b9 : MethodName := ⟨RJ5, "append", "(I)Ljava/lang/AbstractStringBuilder;"⟩
abbrev cJ5_getValue_6d5f1 : ByteArray := prog_16_method_64_code
def yJ5_getValue_6d5f1 : MethodName := ⟨RJ5, "getValue", "()[B"⟩
abbrev cJ5_isLatin1_aae02 : ByteArray := prog_16_method_68_code
def yJ5_isLatin1_aae02 : MethodName := ⟨RJ5, "isLatin1", "()Z"⟩
abbrev cJ5_inflateIfNeededFor_a7421 : ByteArray := prog_16_method_71_code
def yJ5_inflateIfNeededFor_a7421 : MethodName := ⟨RJ5, "inflateIfNeededFor", "(Ljava/lang/String;)V"⟩
abbrev cJ5_putStringAt_47b60 : ByteArray := prog_16_method_73_code
def yJ5_putStringAt_47b60 : MethodName := ⟨RJ5, "putStringAt", "(ILjava/lang/String;)V"⟩
def RJx2cfe8 : String := "java/lang/Appendable"
def TJx2cfe8 : u_T := fun k => match k with
  | _ => ("", "", "", false)
def tyJx2cfe8 : Nat → FieldType := fun k => match k with
  | _ => .int
theorem nmJx2cfe8 : ∀ a, a < 0 → ∀ b, b < 0 → a ≠ b → (TJx2cfe8 a).2.1 ≠ (TJx2cfe8 b).2.1 := by decide +kernel
theorem tyJx2cfe8_ok : ∀ k, k < 0 → parseFieldDescriptor (TJx2cfe8 k).2.2.1 = some (tyJx2cfe8 k) := by decide +kernel
def RJx9f9b0 : String := "java/lang/CharSequence"
def TJx9f9b0 : u_T := fun k => match k with
  | _ => ("", "", "", false)
def tyJx9f9b0 : Nat → FieldType := fun k => match k with
  | _ => .int
theorem nmJx9f9b0 : ∀ a, a < 0 → ∀ b, b < 0 → a ≠ b → (TJx9f9b0 a).2.1 ≠ (TJx9f9b0 b).2.1 := by decide +kernel
theorem tyJx9f9b0_ok : ∀ k, k < 0 → parseFieldDescriptor (TJx9f9b0 k).2.2.1 = some (tyJx9f9b0 k) := by decide +kernel
def RJx8e188 : String := "java/lang/Cloneable"
def TJx8e188 : u_T := fun k => match k with
  | _ => ("", "", "", false)
def tyJx8e188 : Nat → FieldType := fun k => match k with
  | _ => .int
theorem nmJx8e188 : ∀ a, a < 0 → ∀ b, b < 0 → a ≠ b → (TJx8e188 a).2.1 ≠ (TJx8e188 b).2.1 := by decide +kernel
theorem tyJx8e188_ok : ∀ k, k < 0 → parseFieldDescriptor (TJx8e188 k).2.2.1 = some (tyJx8e188 k) := by decide +kernel
def RJxb160c : String := "java/lang/Comparable"
def TJxb160c : u_T := fun k => match k with
  | _ => ("", "", "", false)
def tyJxb160c : Nat → FieldType := fun k => match k with
  | _ => .int
theorem nmJxb160c : ∀ a, a < 0 → ∀ b, b < 0 → a ≠ b → (TJxb160c a).2.1 ≠ (TJxb160c b).2.1 := by decide +kernel
theorem tyJxb160c_ok : ∀ k, k < 0 → parseFieldDescriptor (TJxb160c k).2.2.1 = some (tyJxb160c k) := by decide +kernel
def RJx29ce0 : String := "java/lang/Enum"
def TJx29ce0 : u_T := fun k => match k with
  | _ => ("", "", "", false)
def tyJx29ce0 : Nat → FieldType := fun k => match k with
  | _ => .int
theorem nmJx29ce0 : ∀ a, a < 0 → ∀ b, b < 0 → a ≠ b → (TJx29ce0 a).2.1 ≠ (TJx29ce0 b).2.1 := by decide +kernel
theorem tyJx29ce0_ok : ∀ k, k < 0 → parseFieldDescriptor (TJx29ce0 k).2.2.1 = some (tyJx29ce0 k) := by decide +kernel
def RJ6 : String := "java/lang/Integer"
def TJ6 : u_T := fun k => match k with
  | _ => ("", "", "", false)
def tyJ6 : Nat → FieldType := fun k => match k with
  | _ => .int
theorem nmJ6 : ∀ a, a < 0 → ∀ b, b < 0 → a ≠ b → (TJ6 a).2.1 ≠ (TJ6 b).2.1 := by decide +kernel
theorem tyJ6_ok : ∀ k, k < 0 → parseFieldDescriptor (TJ6 k).2.2.1 = some (tyJ6 k) := by decide +kernel
abbrev cJ6_getChars_ba4f3 : ByteArray := prog_23_method_12_code
def yJ6_getChars_ba4f3 : MethodName := ⟨RJ6, "getChars", "(II[B)I"⟩
abbrev cJ6_stringSize_0f7a4 : ByteArray := prog_23_method_13_code
def yJ6_stringSize_0f7a4 : MethodName := ⟨RJ6, "stringSize", "(I)I"⟩
def RJ13 : String := "java/lang/Long"
def TJ13 : u_T := fun k => match k with
  | _ => ("", "", "", false)
def tyJ13 : Nat → FieldType := fun k => match k with
  | _ => .int
theorem nmJ13 : ∀ a, a < 0 → ∀ b, b < 0 → a ≠ b → (TJ13 a).2.1 ≠ (TJ13 b).2.1 := by decide +kernel
theorem tyJ13_ok : ∀ k, k < 0 → parseFieldDescriptor (TJ13 k).2.2.1 = some (tyJ13 k) := by decide +kernel
abbrev cJ13_bitCount_95d88 : ByteArray := prog_24_method_50_code
def yJ13_bitCount_95d88 : MethodName := ⟨RJ13, "bitCount", "(J)I"⟩
def RJ9 : String := "java/lang/Math"
def TJ9 : u_T := fun k => match k with
  | _ => ("", "", "", false)
def tyJ9 : Nat → FieldType := fun k => match k with
  | _ => .int
theorem nmJ9 : ∀ a, a < 0 → ∀ b, b < 0 → a ≠ b → (TJ9 a).2.1 ≠ (TJ9 b).2.1 := by decide +kernel
theorem tyJ9_ok : ∀ k, k < 0 → parseFieldDescriptor (TJ9 k).2.2.1 = some (tyJ9 k) := by decide +kernel
abbrev cJ9_max_7cf53 : ByteArray := prog_25_method_65_code
def yJ9_max_7cf53 : MethodName := ⟨RJ9, "max", "(II)I"⟩
abbrev cJ9_min_7cf53 : ByteArray := prog_25_method_69_code
def yJ9_min_7cf53 : MethodName := ⟨RJ9, "min", "(II)I"⟩
def RJxd2413 : String := "java/lang/Number"
def TJxd2413 : u_T := fun k => match k with
  | _ => ("", "", "", false)
def tyJxd2413 : Nat → FieldType := fun k => match k with
  | _ => .int
theorem nmJxd2413 : ∀ a, a < 0 → ∀ b, b < 0 → a ≠ b → (TJxd2413 a).2.1 ≠ (TJxd2413 b).2.1 := by decide +kernel
theorem tyJxd2413_ok : ∀ k, k < 0 → parseFieldDescriptor (TJxd2413 k).2.2.1 = some (tyJxd2413 k) := by decide +kernel
def RJ0 : String := "java/lang/String"
def TJ0 : u_T := fun k => match k with
  | 0 => ("java/lang/String", "value", "[B", true)
  | 1 => ("java/lang/String", "coder", "B", true)
  | 2 => ("java/lang/String", "hash", "I", false)
  | _ => ("java/lang/String", "hashIsZero", "Z", false)
def tyJ0 : Nat → FieldType := fun k => match k with
  | 0 => .array .byte
  | 1 => .byte
  | 2 => .int
  | _ => .boolean
theorem nmJ0 : ∀ a, a < 4 → ∀ b, b < 4 → a ≠ b → (TJ0 a).2.1 ≠ (TJ0 b).2.1 := by decide +kernel
theorem tyJ0_ok : ∀ k, k < 4 → parseFieldDescriptor (TJ0 k).2.2.1 = some (tyJ0 k) := by decide +kernel
abbrev cJ0_init_81219 : ByteArray := prog_28_method_53_code
def yJ0_init_81219 : MethodName := ⟨RJ0, "<init>", "(Ljava/lang/StringBuilder;)V"⟩
abbrev cJ0_length_8abf5 : ByteArray := prog_28_method_54_code
def yJ0_length_8abf5 : MethodName := ⟨RJ0, "length", "()I"⟩
abbrev cJ0_charAt_5068e : ByteArray := prog_28_method_56_code
def yJ0_charAt_5068e : MethodName := ⟨RJ0, "charAt", "(I)C"⟩
abbrev cJ0_getBytes_840e7 : ByteArray := prog_28_method_147_code
def yJ0_getBytes_840e7 : MethodName := ⟨RJ0, "getBytes", "([BIB)V"⟩
abbrev cJ0_init_db425 : ByteArray := prog_28_method_150_code
def yJ0_init_db425 : MethodName := ⟨RJ0, "<init>", "(Ljava/lang/AbstractStringBuilder;Ljava/lang/Void;)V"⟩
abbrev cJ0_coder_7d493 : ByteArray := prog_28_method_152_code
def yJ0_coder_7d493 : MethodName := ⟨RJ0, "coder", "()B"⟩
abbrev cJ0_isLatin1_aae02 : ByteArray := prog_28_method_154_code
def yJ0_isLatin1_aae02 : MethodName := ⟨RJ0, "isLatin1", "()Z"⟩
abbrev cJ0_checkIndex_df160 : ByteArray := prog_28_method_155_code
def yJ0_checkIndex_df160 : MethodName := ⟨RJ0, "checkIndex", "(II)V"⟩
abbrev cJ0_checkBoundsOffCount_cabcc : ByteArray := prog_28_method_157_code
def yJ0_checkBoundsOffCount_cabcc : MethodName := ⟨RJ0, "checkBoundsOffCount", "(III)I"⟩
abbrev cJ0_checkBoundsBeginEnd_23922 : ByteArray := prog_28_method_158_code
def yJ0_checkBoundsBeginEnd_23922 : MethodName := ⟨RJ0, "checkBoundsBeginEnd", "(III)V"⟩
def RJ4 : String := "java/lang/StringBuilder"
def TJ4 : u_T := fun k => match k with
  | 0 => ("java/lang/AbstractStringBuilder", "value", "[B", false)
  | 1 => ("java/lang/AbstractStringBuilder", "coder", "B", false)
  | 2 => ("java/lang/AbstractStringBuilder", "maybeLatin1", "Z", false)
  | _ => ("java/lang/AbstractStringBuilder", "count", "I", false)
def tyJ4 : Nat → FieldType := fun k => match k with
  | 0 => .array .byte
  | 1 => .byte
  | 2 => .boolean
  | _ => .int
theorem nmJ4 : ∀ a, a < 4 → ∀ b, b < 4 → a ≠ b → (TJ4 a).2.1 ≠ (TJ4 b).2.1 := by decide +kernel
theorem tyJ4_ok : ∀ k, k < 4 → parseFieldDescriptor (TJ4 k).2.2.1 = some (tyJ4 k) := by decide +kernel
abbrev cJ4_init_da8c8 : ByteArray := prog_29_method_1_code
def yJ4_init_da8c8 : MethodName := ⟨RJ4, "<init>", "()V"⟩
abbrev cJ4_init_a7421 : ByteArray := prog_29_method_3_code
def yJ4_init_a7421 : MethodName := ⟨RJ4, "<init>", "(Ljava/lang/String;)V"⟩
abbrev cJ4_append_15ec4 : ByteArray := prog_29_method_7_code
def yJ4_append_15ec4 : MethodName := ⟨RJ4, "append", "(Ljava/lang/String;)Ljava/lang/StringBuilder;"⟩
abbrev cJ4_append_cf468 : ByteArray := prog_29_method_14_code
def yJ4_append_cf468 : MethodName := ⟨RJ4, "append", "(C)Ljava/lang/StringBuilder;"⟩
abbrev cJ4_append_bf812 : ByteArray := prog_29_method_15_code
def yJ4_append_bf812 : MethodName := ⟨RJ4, "append", "(I)Ljava/lang/StringBuilder;"⟩
abbrev cJ4_toString_0e30d : ByteArray := prog_29_method_42_code
def yJ4_toString_0e30d : MethodName := ⟨RJ4, "toString", "()Ljava/lang/String;"⟩
abbrev cJ4_append_cf1ce : ByteArray := prog_29_method_80_code
def yJ4_append_cf1ce : MethodName := ⟨RJ4, "append", "(Ljava/lang/String;)Ljava/lang/AbstractStringBuilder;"⟩
abbrev cJ4_length_8abf5 : ByteArray := prog_29_method_93_code
def yJ4_length_8abf5 : MethodName := ⟨RJ4, "length", "()I"⟩
def RJ1 : String := "java/lang/StringLatin1"
def TJ1 : u_T := fun k => match k with
  | _ => ("", "", "", false)
def tyJ1 : Nat → FieldType := fun k => match k with
  | _ => .int
theorem nmJ1 : ∀ a, a < 0 → ∀ b, b < 0 → a ≠ b → (TJ1 a).2.1 ≠ (TJ1 b).2.1 := by decide +kernel
theorem tyJ1_ok : ∀ k, k < 0 → parseFieldDescriptor (TJ1 k).2.2.1 = some (tyJ1 k) := by decide +kernel
abbrev cJ1_charAt_3b067 : ByteArray := prog_30_method_2_code
def yJ1_charAt_3b067 : MethodName := ⟨RJ1, "charAt", "([BI)C"⟩
abbrev cJ1_canEncode_fc78d : ByteArray := prog_30_method_3_code
def yJ1_canEncode_fc78d : MethodName := ⟨RJ1, "canEncode", "(C)Z"⟩
abbrev cJ1_inflate_0e8fd : ByteArray := prog_30_method_50_code
def yJ1_inflate_0e8fd : MethodName := ⟨RJ1, "inflate", "([BI[BII)V"⟩
def RJ2 : String := "java/lang/StringUTF16"
def TJ2 : u_T := fun k => match k with
  | _ => ("", "", "", false)
def tyJ2 : Nat → FieldType := fun k => match k with
  | _ => .int
theorem nmJ2 : ∀ a, a < 0 → ∀ b, b < 0 → a ≠ b → (TJ2 a).2.1 ≠ (TJ2 b).2.1 := by decide +kernel
theorem tyJ2_ok : ∀ k, k < 0 → parseFieldDescriptor (TJ2 k).2.2.1 = some (tyJ2 k) := by decide +kernel
abbrev cJ2_newBytesFor_77867 : ByteArray := prog_31_method_2_code
def yJ2_newBytesFor_77867 : MethodName := ⟨RJ2, "newBytesFor", "(I)[B"⟩
abbrev cJ2_newBytesLength_0f7a4 : ByteArray := prog_31_method_3_code
def yJ2_newBytesLength_0f7a4 : MethodName := ⟨RJ2, "newBytesLength", "(I)I"⟩
abbrev cJ2_putChar_b72d1 : ByteArray := prog_31_method_4_code
def yJ2_putChar_b72d1 : MethodName := ⟨RJ2, "putChar", "([BII)V"⟩
abbrev cJ2_getChar_3b067 : ByteArray := prog_31_method_5_code
def yJ2_getChar_3b067 : MethodName := ⟨RJ2, "getChar", "([BI)C"⟩
abbrev cJ2_length_9d52b : ByteArray := prog_31_method_6_code
def yJ2_length_9d52b : MethodName := ⟨RJ2, "length", "([B)I"⟩
abbrev cJ2_coderFromArrayLen_85cad : ByteArray := prog_31_method_15_code
def yJ2_coderFromArrayLen_85cad : MethodName := ⟨RJ2, "coderFromArrayLen", "([BI)B"⟩
abbrev cJ2_compress_39247 : ByteArray := prog_31_method_17_code
def yJ2_compress_39247 : MethodName := ⟨RJ2, "compress", "([BII)[B"⟩
abbrev cJ2_compress_5af95 : ByteArray := prog_31_method_22_code
def yJ2_compress_5af95 : MethodName := ⟨RJ2, "compress", "([BI[BII)I"⟩
abbrev cJ2_putCharSB_b72d1 : ByteArray := prog_31_method_71_code
def yJ2_putCharSB_b72d1 : MethodName := ⟨RJ2, "putCharSB", "([BII)V"⟩
abbrev cJ2_getChars_46870 : ByteArray := prog_31_method_77_code
def yJ2_getChars_46870 : MethodName := ⟨RJ2, "getChars", "(III[B)I"⟩
abbrev cJ2_putCharsAt_cd4e5 : ByteArray := prog_31_method_81_code
def yJ2_putCharsAt_cd4e5 : MethodName := ⟨RJ2, "putCharsAt", "([BICCCC)I"⟩
abbrev cJ2_charAt_3b067 : ByteArray := prog_31_method_83_code
def yJ2_charAt_3b067 : MethodName := ⟨RJ2, "charAt", "([BI)C"⟩
abbrev cJ2_inflate_0e8fd : ByteArray := prog_31_method_86_code
def yJ2_inflate_0e8fd : MethodName := ⟨RJ2, "inflate", "([BI[BII)V"⟩
abbrev cJ2_getChars_ba4f3 : ByteArray := prog_31_method_89_code
def yJ2_getChars_ba4f3 : MethodName := ⟨RJ2, "getChars", "(II[B)I"⟩
abbrev cJ2_checkIndex_2214a : ByteArray := prog_31_method_91_code
def yJ2_checkIndex_2214a : MethodName := ⟨RJ2, "checkIndex", "(I[B)V"⟩
abbrev cJ2_checkBoundsBeginEnd_d044e : ByteArray := prog_31_method_93_code
def yJ2_checkBoundsBeginEnd_d044e : MethodName := ⟨RJ2, "checkBoundsBeginEnd", "(II[B)V"⟩
abbrev cJ2_checkBoundsOffCount_d044e : ByteArray := prog_31_method_94_code
def yJ2_checkBoundsOffCount_d044e : MethodName := ⟨RJ2, "checkBoundsOffCount", "(II[B)V"⟩
def RJ10 : String := "java/lang/System"
def TJ10 : u_T := fun k => match k with
  | _ => ("", "", "", false)
def tyJ10 : Nat → FieldType := fun k => match k with
  | _ => .int
theorem nmJ10 : ∀ a, a < 0 → ∀ b, b < 0 → a ≠ b → (TJ10 a).2.1 ≠ (TJ10 b).2.1 := by decide +kernel
theorem tyJ10_ok : ∀ k, k < 0 → parseFieldDescriptor (TJ10 k).2.2.1 = some (tyJ10 k) := by decide +kernel
def RJxfd54e : String := "java/lang/constant/Constable"
def TJxfd54e : u_T := fun k => match k with
  | _ => ("", "", "", false)
def tyJxfd54e : Nat → FieldType := fun k => match k with
  | _ => .int
theorem nmJxfd54e : ∀ a, a < 0 → ∀ b, b < 0 → a ≠ b → (TJxfd54e a).2.1 ≠ (TJxfd54e b).2.1 := by decide +kernel
theorem tyJxfd54e_ok : ∀ k, k < 0 → parseFieldDescriptor (TJxfd54e k).2.2.1 = some (tyJxfd54e k) := by decide +kernel
def RJx3cf43 : String := "java/lang/constant/ConstantDesc"
def TJx3cf43 : u_T := fun k => match k with
  | _ => ("", "", "", false)
def tyJx3cf43 : Nat → FieldType := fun k => match k with
  | _ => .int
theorem nmJx3cf43 : ∀ a, a < 0 → ∀ b, b < 0 → a ≠ b → (TJx3cf43 a).2.1 ≠ (TJx3cf43 b).2.1 := by decide +kernel
theorem tyJx3cf43_ok : ∀ k, k < 0 → parseFieldDescriptor (TJx3cf43 k).2.2.1 = some (tyJx3cf43 k) := by decide +kernel
def RJ7 : String := "java/util/Arrays"
def TJ7 : u_T := fun k => match k with
  | _ => ("", "", "", false)
def tyJ7 : Nat → FieldType := fun k => match k with
  | _ => .int
theorem nmJ7 : ∀ a, a < 0 → ∀ b, b < 0 → a ≠ b → (TJ7 a).2.1 ≠ (TJ7 b).2.1 := by decide +kernel
theorem tyJ7_ok : ∀ k, k < 0 → parseFieldDescriptor (TJ7 k).2.2.1 = some (tyJ7 k) := by decide +kernel
abbrev cJ7_fill_53178 : ByteArray := prog_34_method_103_code
def yJ7_fill_53178 : MethodName := ⟨RJ7, "fill", "([II)V"⟩
abbrev cJ7_copyOf_9075b : ByteArray := prog_34_method_121_code
def yJ7_copyOf_9075b : MethodName := ⟨RJ7, "copyOf", "([BI)[B"⟩
abbrev cJ7_checkLength_df160 : ByteArray := prog_34_method_131_code
def yJ7_checkLength_df160 : MethodName := ⟨RJ7, "checkLength", "(II)V"⟩
abbrev cJ7_copyOfRange_39247 : ByteArray := prog_34_method_132_code
def yJ7_copyOfRange_39247 : MethodName := ⟨RJ7, "copyOfRange", "([BII)[B"⟩
abbrev cJ7_copyOfRangeByte_39247 : ByteArray := prog_34_method_133_code
def yJ7_copyOfRangeByte_39247 : MethodName := ⟨RJ7, "copyOfRangeByte", "([BII)[B"⟩
def RJ8 : String := "jdk/internal/util/ArraysSupport"
def TJ8 : u_T := fun k => match k with
  | _ => ("", "", "", false)
def tyJ8 : Nat → FieldType := fun k => match k with
  | _ => .int
theorem nmJ8 : ∀ a, a < 0 → ∀ b, b < 0 → a ≠ b → (TJ8 a).2.1 ≠ (TJ8 b).2.1 := by decide +kernel
theorem tyJ8_ok : ∀ k, k < 0 → parseFieldDescriptor (TJ8 k).2.2.1 = some (tyJ8 k) := by decide +kernel
abbrev cJ8_newLength_cabcc : ByteArray := prog_35_method_27_code
def yJ8_newLength_cabcc : MethodName := ⟨RJ8, "newLength", "(III)I"⟩
abbrev cJ8_hugeLength_7cf53 : ByteArray := prog_35_method_28_code
def yJ8_hugeLength_7cf53 : MethodName := ⟨RJ8, "hugeLength", "(II)I"⟩
def RJ3 : String := "jdk/internal/util/Preconditions"
def TJ3 : u_T := fun k => match k with
  | _ => ("", "", "", false)
def tyJ3 : Nat → FieldType := fun k => match k with
  | _ => .int
theorem nmJ3 : ∀ a, a < 0 → ∀ b, b < 0 → a ≠ b → (TJ3 a).2.1 ≠ (TJ3 b).2.1 := by decide +kernel
theorem tyJ3_ok : ∀ k, k < 0 → parseFieldDescriptor (TJ3 k).2.2.1 = some (tyJ3 k) := by decide +kernel
abbrev cJ3_checkIndex_8e157 : ByteArray := prog_36_method_11_code
def yJ3_checkIndex_8e157 : MethodName := ⟨RJ3, "checkIndex", "(IILjava/util/function/BiFunction;)I"⟩
abbrev cJ3_checkFromToIndex_8c36e : ByteArray := prog_36_method_12_code
def yJ3_checkFromToIndex_8c36e : MethodName := ⟨RJ3, "checkFromToIndex", "(IIILjava/util/function/BiFunction;)I"⟩
abbrev cJ3_checkFromIndexSize_8c36e : ByteArray := prog_36_method_13_code
def yJ3_checkFromIndexSize_8c36e : MethodName := ⟨RJ3, "checkFromIndexSize", "(IIILjava/util/function/BiFunction;)I"⟩
def RL : String := "TwinSetsLaw"
abbrev cL_feeds : ByteArray := method_2_code
def yL_feeds : MethodName := ⟨RL, "feeds", "(LTwinSets;Ljava/lang/String;)Z"⟩
abbrev cL_draw : ByteArray := method_3_code
def yL_draw : MethodName := ⟨RL, "draw", "([II)I"⟩
abbrev cL_law : ByteArray := code
def yL_law : MethodName := ⟨RL, "law", "([I)Z"⟩
abbrev cL_plays : ByteArray := method_5_code
def yL_plays : MethodName := ⟨RL, "plays", "(LTwinSets;[I)Z"⟩
abbrev cL_state : ByteArray := method_6_code
def yL_state : MethodName := ⟨RL, "state", "(LTwinSets;LTwinSetsLaw$Sets;)Z"⟩
abbrev cL_asks : ByteArray := method_7_code
def yL_asks : MethodName := ⟨RL, "asks", "(LTwinSets;LTwinSetsLaw$Sets;[I)Z"⟩
abbrev cL_changes : ByteArray := method_8_code
def yL_changes : MethodName := ⟨RL, "changes", "(LTwinSets;LTwinSetsLaw$Sets;[I)Z"⟩
end
section
/-! the tables' words that every walk may use, each by its place -/
def TB : List Cond := Cond.selects RJ4 yJ5_ensureCapacityInternal_d00df yJ5_ensureCapacityInternal_d00df :: Cond.selects RJ4 yJ5_newCapacity_0f7a4 yJ5_newCapacity_0f7a4 :: Cond.selects RJ4 yJ5_putStringAt_47b60 yJ5_putStringAt_47b60 :: Cond.selects RJ4 yJ5_inflateIfNeededFor_a7421 yJ5_inflateIfNeededFor_a7421 :: lw_tbl.filter goodWord
theorem mTB {w : Cond} (h : w ∈ lw_tbl) (g : goodWord w = true) : w ∈ TB := List.mem_cons_of_mem _ (List.mem_cons_of_mem _ (List.mem_cons_of_mem _ (List.mem_cons_of_mem _ (List.mem_filter.mpr ⟨h, g⟩))))
theorem kwE0 : Cond.selects RJ4 yJ5_ensureCapacityInternal_d00df yJ5_ensureCapacityInternal_d00df ∈ TB := List.mem_cons_self
theorem kwE1 : Cond.selects RJ4 yJ5_newCapacity_0f7a4 yJ5_newCapacity_0f7a4 ∈ TB := List.mem_cons_of_mem _ (List.mem_cons_self)
theorem kwE2 : Cond.selects RJ4 yJ5_putStringAt_47b60 yJ5_putStringAt_47b60 ∈ TB := List.mem_cons_of_mem _ (List.mem_cons_of_mem _ (List.mem_cons_self))
theorem kwE3 : Cond.selects RJ4 yJ5_inflateIfNeededFor_a7421 yJ5_inflateIfNeededFor_a7421 ∈ TB := List.mem_cons_of_mem _ (List.mem_cons_of_mem _ (List.mem_cons_of_mem _ (List.mem_cons_self)))
theorem TB_good {w : Cond} (h : w ∈ TB) : goodWord w = true := (List.mem_cons.mp h).elim (fun e => e ▸ rfl) (fun h => (List.mem_cons.mp h).elim (fun e => e ▸ rfl) (fun h => (List.mem_cons.mp h).elim (fun e => e ▸ rfl) (fun h => (List.mem_cons.mp h).elim (fun e => e ▸ rfl) (fun h => (List.mem_filter.mp h).2))))
theorem TB_goodIn : GoodIn TB TB := fun w h => ⟨h, good_of_word (TB_good h)⟩
theorem TB1 {w : Cond} (h : w ∈ TB) : w ∈ TB ∧ ((w.onTables && w.keeps) = true ∨ ∃ ty, w = .arrayClass ty) := TB_goodIn w h
theorem gdI {w : Cond} (h5 : w ∈ TB) : GoodIn TB (w :: TB) := fun v hv => (List.mem_cons.mp hv).elim (fun e => e ▸ TB1 h5) (fun h => TB1 h)
theorem gdA {ws : List Cond} {w : Cond} (h : ∀ v ∈ ws, v ∈ TB) (h5 : w ∈ TB) : GoodIn TB (ws ++ (w :: TB)) := fun v hv => (List.mem_append.mp hv).elim (fun q => TB1 (h v q)) (fun q => gdI h5 v q)
theorem gdV {own C : String} {idx : Nat} {y : MethodName} {w : Cond} (h1 : Cond.methodLink own idx y ∈ TB) (h2 : Cond.instanceMethod y ∈ TB) (h3 : Cond.selects C y y ∈ TB) (h4 : Cond.initialized C ∈ TB) (h5 : w ∈ TB) : GoodIn TB (wsV own idx C y (w :: TB)) := gdA (by simp only [List.forall_mem_cons]; exact ⟨h1, h2, h3, h4, fun _ h => nomatch h⟩) h5
theorem gdS {own : String} {idx : Nat} {y : MethodName} {w : Cond} (h1 : Cond.methodLink own idx y ∈ TB) (h2 : Cond.static y ∈ TB) (h4 : Cond.initialized y.cls ∈ TB) (h5 : w ∈ TB) : GoodIn TB (va_wsS own idx y (w :: TB)) := gdA (by simp only [List.forall_mem_cons]; exact ⟨h1, h2, h4, fun _ h => nomatch h⟩) h5
theorem gdU {own C owner : String} {idx : Nat} {x y : MethodName} {w : Cond} (h1 : Cond.methodLink own idx x ∈ TB) (h2 : Cond.sameMethod x.cls owner x.name x.desc ∈ TB) (h3 : Cond.selects C x y ∈ TB) (h4 : Cond.instanceMethod y ∈ TB) (h6 : Cond.initialized y.cls ∈ TB) (h5 : w ∈ TB) : GoodIn TB (va_wsU own idx C owner x y (w :: TB)) := gdA (by simp only [List.forall_mem_cons]; exact ⟨h1, h2, h3, h4, h6, fun _ h => nomatch h⟩) h5
theorem gdO {own C owner : String} {idx : Nat} {x y : MethodName} {w : Cond} (h1 : Cond.methodLink own idx x ∈ TB) (h2 : Cond.sameMethod x.cls owner x.name x.desc ∈ TB) (h7 : Cond.instanceMethod ⟨owner, x.name, x.desc⟩ ∈ TB) (h3 : Cond.selects C x y ∈ TB) (h4 : Cond.instanceMethod y ∈ TB) (h6 : Cond.initialized y.cls ∈ TB) (h5 : w ∈ TB) : GoodIn TB (va_wsO own idx C owner x y (w :: TB)) := gdA (by simp only [List.forall_mem_cons]; exact ⟨h1, h2, h7, h3, h4, h6, fun _ h => nomatch h⟩) h5
theorem gdSU {own : String} {idx : Nat} {y : MethodName} {w : Cond} (h1 : Cond.methodLink own idx y ∈ TB) (h2 : Cond.sameMethod y.cls y.cls y.name y.desc ∈ TB) (h3 : Cond.superclass own y.cls ∈ TB) (h4 : Cond.instanceMethod y ∈ TB) (h6 : Cond.initialized y.cls ∈ TB) (h5 : w ∈ TB) : GoodIn TB (va_wsSU own idx y (w :: TB)) := gdA (by simp only [List.forall_mem_cons]; exact ⟨h1, h2, h3, h4, h6, fun _ h => nomatch h⟩) h5
theorem kw1 : Cond.selects RX3 yX3_toNextToken yX3_toNextToken ∈ TB := mTB (List.mem_of_getElem? (i := 1) (by decide +kernel)) rfl
theorem kw2 : Cond.selects RX3 yX3_passLetters yX3_passLetters ∈ TB := mTB (List.mem_of_getElem? (i := 2) (by decide +kernel)) rfl
theorem kw3 : Cond.selects RX3 yX3_passDigits yX3_passDigits ∈ TB := mTB (List.mem_of_getElem? (i := 3) (by decide +kernel)) rfl
theorem kw4 : Cond.selects RX3 yX3_passWord yX3_passWord ∈ TB := mTB (List.mem_of_getElem? (i := 4) (by decide +kernel)) rfl
theorem kw5 : Cond.selects RX3 yX3_isWord yX3_isWord ∈ TB := mTB (List.mem_of_getElem? (i := 5) (by decide +kernel)) rfl
theorem kw6 : Cond.selects RX3 yX3_fail yX3_fail ∈ TB := mTB (List.mem_of_getElem? (i := 6) (by decide +kernel)) rfl
theorem kw7 : Cond.selects RX3 yX3_isNumber yX3_isNumber ∈ TB := mTB (List.mem_of_getElem? (i := 7) (by decide +kernel)) rfl
theorem kw8 : Cond.selects RX3 yX3_passSemicolon yX3_passSemicolon ∈ TB := mTB (List.mem_of_getElem? (i := 8) (by decide +kernel)) rfl
theorem kw9 : Cond.selects RX3 yX3_readStatement yX3_readStatement ∈ TB := mTB (List.mem_of_getElem? (i := 9) (by decide +kernel)) rfl
theorem kw10 : Cond.selects RX3 yX3_readSet yX3_readSet ∈ TB := mTB (List.mem_of_getElem? (i := 10) (by decide +kernel)) rfl
theorem kw11 : Cond.selects RX3 yX3_wordText yX3_wordText ∈ TB := mTB (List.mem_of_getElem? (i := 11) (by decide +kernel)) rfl
theorem kw12 : Cond.selects RX3 yX3_readMembers yX3_readMembers ∈ TB := mTB (List.mem_of_getElem? (i := 12) (by decide +kernel)) rfl
theorem kw13 : Cond.selects RX3 yX3_readEarlierSet yX3_readEarlierSet ∈ TB := mTB (List.mem_of_getElem? (i := 13) (by decide +kernel)) rfl
theorem kw14 : Cond.selects RX5 yX5_writeMember yX5_writeMember ∈ TB := mTB (List.mem_of_getElem? (i := 14) (by decide +kernel)) rfl
theorem kw15 : Cond.selects RX2 yX2_bitsBehind yX2_bitsBehind ∈ TB := mTB (List.mem_of_getElem? (i := 15) (by decide +kernel)) rfl
theorem kw16 : Cond.selects RX5 yX5_pullCursorsBack yX5_pullCursorsBack ∈ TB := mTB (List.mem_of_getElem? (i := 16) (by decide +kernel)) rfl
theorem kw17 : Cond.selects RX5 yX5_moveMember yX5_moveMember ∈ TB := mTB (List.mem_of_getElem? (i := 17) (by decide +kernel)) rfl
theorem kw18 : Cond.selects RX3 yX3_readClear yX3_readClear ∈ TB := mTB (List.mem_of_getElem? (i := 18) (by decide +kernel)) rfl
theorem kw19 : Cond.selects RX3 yX3_readMark yX3_readMark ∈ TB := mTB (List.mem_of_getElem? (i := 19) (by decide +kernel)) rfl
theorem kw20 : Cond.selects RX9 yX9_beginWithDraft yX9_beginWithDraft ∈ TB := mTB (List.mem_of_getElem? (i := 20) (by decide +kernel)) rfl
theorem kw21 : Cond.selects RX9 yX9_rowsOf yX9_rowsOf ∈ TB := mTB (List.mem_of_getElem? (i := 21) (by decide +kernel)) rfl
theorem kw22 : Cond.selects RX9 yX9_checkSet yX9_checkSet ∈ TB := mTB (List.mem_of_getElem? (i := 22) (by decide +kernel)) rfl
theorem kw23 : Cond.selects RX9 yX9_cursorOf yX9_cursorOf ∈ TB := mTB (List.mem_of_getElem? (i := 23) (by decide +kernel)) rfl
theorem kw24 : Cond.selects RX9 yX9_checkNumber yX9_checkNumber ∈ TB := mTB (List.mem_of_getElem? (i := 24) (by decide +kernel)) rfl
theorem kw25 : Cond.selects RX9 yX9_checkStamp yX9_checkStamp ∈ TB := mTB (List.mem_of_getElem? (i := 25) (by decide +kernel)) rfl
theorem kw26 : Cond.initialized RL ∈ TB := mTB (List.mem_of_getElem? (i := 26) (by decide +kernel)) rfl
theorem kw27 : Cond.initialized RX9 ∈ TB := mTB (List.mem_of_getElem? (i := 27) (by decide +kernel)) rfl
theorem kw28 : Cond.initialized RX1 ∈ TB := mTB (List.mem_of_getElem? (i := 28) (by decide +kernel)) rfl
theorem kw29 : Cond.initialized RX8 ∈ TB := mTB (List.mem_of_getElem? (i := 29) (by decide +kernel)) rfl
theorem kw30 : Cond.initialized RX4 ∈ TB := mTB (List.mem_of_getElem? (i := 30) (by decide +kernel)) rfl
theorem kw31 : Cond.initialized RX5 ∈ TB := mTB (List.mem_of_getElem? (i := 31) (by decide +kernel)) rfl
theorem kw32 : Cond.initialized RX7 ∈ TB := mTB (List.mem_of_getElem? (i := 32) (by decide +kernel)) rfl
theorem kw33 : Cond.initialized RX2 ∈ TB := mTB (List.mem_of_getElem? (i := 33) (by decide +kernel)) rfl
theorem kw34 : Cond.initialized RX0 ∈ TB := mTB (List.mem_of_getElem? (i := 34) (by decide +kernel)) rfl
theorem kw35 : Cond.initialized RX12 ∈ TB := mTB (List.mem_of_getElem? (i := 35) (by decide +kernel)) rfl
theorem kw36 : Cond.initialized RX10 ∈ TB := mTB (List.mem_of_getElem? (i := 36) (by decide +kernel)) rfl
theorem kw37 : Cond.initialized RJ5 ∈ TB := mTB (List.mem_of_getElem? (i := 37) (by decide +kernel)) rfl
theorem kw38 : Cond.initialized RJ4 ∈ TB := mTB (List.mem_of_getElem? (i := 38) (by decide +kernel)) rfl
theorem kw39 : Cond.initialized RJ0 ∈ TB := mTB (List.mem_of_getElem? (i := 39) (by decide +kernel)) rfl
theorem kw41 : Cond.initialized RJ8 ∈ TB := mTB (List.mem_of_getElem? (i := 41) (by decide +kernel)) rfl
theorem kw42 : Cond.initialized RJ9 ∈ TB := mTB (List.mem_of_getElem? (i := 42) (by decide +kernel)) rfl
theorem kw43 : Cond.initialized RJ7 ∈ TB := mTB (List.mem_of_getElem? (i := 43) (by decide +kernel)) rfl
theorem kw44 : Cond.initialized RJ10 ∈ TB := mTB (List.mem_of_getElem? (i := 44) (by decide +kernel)) rfl
theorem kw45 : Cond.initialized RJ3 ∈ TB := mTB (List.mem_of_getElem? (i := 45) (by decide +kernel)) rfl
theorem kw46 : Cond.initialized RJ1 ∈ TB := mTB (List.mem_of_getElem? (i := 46) (by decide +kernel)) rfl
theorem kw48 : Cond.initialized RJ6 ∈ TB := mTB (List.mem_of_getElem? (i := 48) (by decide +kernel)) rfl
theorem kw52 : Cond.initialized "java/lang/IllegalArgumentException" ∈ TB := mTB (List.mem_of_getElem? (i := 52) (by decide +kernel)) rfl
theorem kw53 : Cond.initialized RX3 ∈ TB := mTB (List.mem_of_getElem? (i := 53) (by decide +kernel)) rfl
theorem kw56 : Cond.initialized "java/lang/IndexOutOfBoundsException" ∈ TB := mTB (List.mem_of_getElem? (i := 56) (by decide +kernel)) rfl
theorem kw57 : Cond.initialized "java/lang/IllegalStateException" ∈ TB := mTB (List.mem_of_getElem? (i := 57) (by decide +kernel)) rfl
theorem kw58 : Cond.initialized RX11 ∈ TB := mTB (List.mem_of_getElem? (i := 58) (by decide +kernel)) rfl
theorem kw59 : Cond.initialized RJ13 ∈ TB := mTB (List.mem_of_getElem? (i := 59) (by decide +kernel)) rfl
theorem kw65 : Cond.methodLink RX9 1 objectInit ∈ TB := mTB (List.mem_of_getElem? (i := 65) (by decide +kernel)) rfl
theorem kw66 : Cond.instanceMethod objectInit ∈ TB := mTB (List.mem_of_getElem? (i := 66) (by decide +kernel)) rfl
theorem kw67 : Cond.code objectInit ⟨#[0xb1]⟩ 1 none ∈ TB := mTB (List.mem_of_getElem? (i := 67) (by decide +kernel)) rfl
theorem kw68 : Cond.classLink RX9 7 RX1 ∈ TB := mTB (List.mem_of_getElem? (i := 68) (by decide +kernel)) rfl
theorem kw69 : Cond.instantiable RX1 2 ∈ TB := mTB (List.mem_of_getElem? (i := 69) (by decide +kernel)) rfl
theorem kw71 : Cond.instanceMethod yX1_init ∈ TB := mTB (List.mem_of_getElem? (i := 71) (by decide +kernel)) rfl
theorem kw72 : Cond.code yX1_init cX1_init 1 none ∈ TB := mTB (List.mem_of_getElem? (i := 72) (by decide +kernel)) rfl
theorem kw73 : Cond.methodLink RX1 3 objectInit ∈ TB := mTB (List.mem_of_getElem? (i := 73) (by decide +kernel)) rfl
theorem kw74 : Cond.fieldLink RX1 9 "TwinSets$Input" "bytes" "[B" ∈ TB := mTB (List.mem_of_getElem? (i := 74) (by decide +kernel)) rfl
theorem kw77 : Cond.fieldLink RX1 15 "TwinSets$Input" "length" "I" ∈ TB := mTB (List.mem_of_getElem? (i := 77) (by decide +kernel)) rfl
theorem kw83 : Cond.arrayClass .byte ∈ TB := mTB (List.mem_of_getElem? (i := 83) (by decide +kernel)) rfl
theorem kw84 : Cond.classLink RX9 16 RX8 ∈ TB := mTB (List.mem_of_getElem? (i := 84) (by decide +kernel)) rfl
theorem kw85 : Cond.instantiable RX8 3 ∈ TB := mTB (List.mem_of_getElem? (i := 85) (by decide +kernel)) rfl
theorem kw87 : Cond.instanceMethod yX8_init ∈ TB := mTB (List.mem_of_getElem? (i := 87) (by decide +kernel)) rfl
theorem kw88 : Cond.code yX8_init cX8_init 1 none ∈ TB := mTB (List.mem_of_getElem? (i := 88) (by decide +kernel)) rfl
theorem kw89 : Cond.methodLink RX8 3 objectInit ∈ TB := mTB (List.mem_of_getElem? (i := 89) (by decide +kernel)) rfl
theorem kw90 : Cond.classLink RX8 9 RX5 ∈ TB := mTB (List.mem_of_getElem? (i := 90) (by decide +kernel)) rfl
theorem kw92 : Cond.fieldLink RX8 11 "TwinSets$UndoHistory" "states" "[LTwinSets$State;" ∈ TB := mTB (List.mem_of_getElem? (i := 92) (by decide +kernel)) rfl
theorem kw93 : Cond.fieldLink RX8 17 "TwinSets$UndoHistory" "next" "I" ∈ TB := mTB (List.mem_of_getElem? (i := 93) (by decide +kernel)) rfl
theorem kw94 : Cond.fieldLink RX8 26 "TwinSets$UndoHistory" "count" "I" ∈ TB := mTB (List.mem_of_getElem? (i := 94) (by decide +kernel)) rfl
theorem kw103 : Cond.classLink RX9 23 RX4 ∈ TB := mTB (List.mem_of_getElem? (i := 103) (by decide +kernel)) rfl
theorem kw104 : Cond.instantiable RX4 2 ∈ TB := mTB (List.mem_of_getElem? (i := 104) (by decide +kernel)) rfl
theorem kw106 : Cond.instanceMethod yX4_init ∈ TB := mTB (List.mem_of_getElem? (i := 106) (by decide +kernel)) rfl
theorem kw107 : Cond.code yX4_init cX4_init 1 none ∈ TB := mTB (List.mem_of_getElem? (i := 107) (by decide +kernel)) rfl
theorem kw108 : Cond.methodLink RX4 3 objectInit ∈ TB := mTB (List.mem_of_getElem? (i := 108) (by decide +kernel)) rfl
theorem kw109 : Cond.classLink RX4 9 RX5 ∈ TB := mTB (List.mem_of_getElem? (i := 109) (by decide +kernel)) rfl
theorem kw110 : Cond.fieldLink RX4 11 "TwinSets$SnapshotSlots" "states" "[LTwinSets$State;" ∈ TB := mTB (List.mem_of_getElem? (i := 110) (by decide +kernel)) rfl
theorem kw111 : Cond.fieldLink RX4 17 "TwinSets$SnapshotSlots" "isFull" "[Z" ∈ TB := mTB (List.mem_of_getElem? (i := 111) (by decide +kernel)) rfl
theorem kw117 : Cond.arrayClass .boolean ∈ TB := mTB (List.mem_of_getElem? (i := 117) (by decide +kernel)) rfl
theorem kw118 : Cond.classLink RX9 30 RX5 ∈ TB := mTB (List.mem_of_getElem? (i := 118) (by decide +kernel)) rfl
theorem kw119 : Cond.instantiable RX5 9 ∈ TB := mTB (List.mem_of_getElem? (i := 119) (by decide +kernel)) rfl
theorem kw120 : Cond.methodLink RX9 32 yX5_init ∈ TB := mTB (List.mem_of_getElem? (i := 120) (by decide +kernel)) rfl
theorem kw121 : Cond.instanceMethod yX5_init ∈ TB := mTB (List.mem_of_getElem? (i := 121) (by decide +kernel)) rfl
theorem kw122 : Cond.code yX5_init cX5_init 2 none ∈ TB := mTB (List.mem_of_getElem? (i := 122) (by decide +kernel)) rfl
theorem kw123 : Cond.methodLink RX5 3 objectInit ∈ TB := mTB (List.mem_of_getElem? (i := 123) (by decide +kernel)) rfl
theorem kw124 : Cond.classLink RX5 9 RX7 ∈ TB := mTB (List.mem_of_getElem? (i := 124) (by decide +kernel)) rfl
theorem kw126 : Cond.classLink RX5 17 RX0 ∈ TB := mTB (List.mem_of_getElem? (i := 126) (by decide +kernel)) rfl
theorem kw128 : Cond.instantiable RX7 7 ∈ TB := mTB (List.mem_of_getElem? (i := 128) (by decide +kernel)) rfl
theorem kw130 : Cond.instanceMethod yX7_init ∈ TB := mTB (List.mem_of_getElem? (i := 130) (by decide +kernel)) rfl
theorem kw131 : Cond.code yX7_init cX7_init 1 none ∈ TB := mTB (List.mem_of_getElem? (i := 131) (by decide +kernel)) rfl
theorem kw132 : Cond.methodLink RX7 3 objectInit ∈ TB := mTB (List.mem_of_getElem? (i := 132) (by decide +kernel)) rfl
theorem kw133 : Cond.classLink RX7 21 RX2 ∈ TB := mTB (List.mem_of_getElem? (i := 133) (by decide +kernel)) rfl
theorem kw134 : Cond.instantiable RX2 6 ∈ TB := mTB (List.mem_of_getElem? (i := 134) (by decide +kernel)) rfl
theorem kw136 : Cond.instanceMethod yX2_init ∈ TB := mTB (List.mem_of_getElem? (i := 136) (by decide +kernel)) rfl
theorem kw137 : Cond.code yX2_init cX2_init 1 none ∈ TB := mTB (List.mem_of_getElem? (i := 137) (by decide +kernel)) rfl
theorem kw138 : Cond.methodLink RX2 3 objectInit ∈ TB := mTB (List.mem_of_getElem? (i := 138) (by decide +kernel)) rfl
theorem kw139 : Cond.fieldLink RX2 9 "TwinSets$Log" "stamps" "[I" ∈ TB := mTB (List.mem_of_getElem? (i := 139) (by decide +kernel)) rfl
theorem kw141 : Cond.fieldLink RX2 15 "TwinSets$Log" "numbers" "[I" ∈ TB := mTB (List.mem_of_getElem? (i := 141) (by decide +kernel)) rfl
theorem kw143 : Cond.fieldLink RX2 18 "TwinSets$Log" "kinds" "[I" ∈ TB := mTB (List.mem_of_getElem? (i := 143) (by decide +kernel)) rfl
theorem kw145 : Cond.fieldLink RX2 21 "TwinSets$Log" "count" "I" ∈ TB := mTB (List.mem_of_getElem? (i := 145) (by decide +kernel)) rfl
theorem kw147 : Cond.fieldLink RX2 25 "TwinSets$Log" "firstStamp" "I" ∈ TB := mTB (List.mem_of_getElem? (i := 147) (by decide +kernel)) rfl
theorem kw149 : Cond.fieldLink RX2 28 "TwinSets$Log" "bitsAtFirst" "J" ∈ TB := mTB (List.mem_of_getElem? (i := 149) (by decide +kernel)) rfl
theorem kw163 : Cond.arrayClass .int ∈ TB := mTB (List.mem_of_getElem? (i := 163) (by decide +kernel)) rfl
theorem kw165 : Cond.fieldLink RX7 9 "TwinSets$TwinRows" "members" "[I" ∈ TB := mTB (List.mem_of_getElem? (i := 165) (by decide +kernel)) rfl
theorem kw168 : Cond.fieldLink RX7 15 "TwinSets$TwinRows" "places" "[I" ∈ TB := mTB (List.mem_of_getElem? (i := 168) (by decide +kernel)) rfl
theorem kw171 : Cond.fieldLink RX7 18 "TwinSets$TwinRows" "stamps" "[I" ∈ TB := mTB (List.mem_of_getElem? (i := 171) (by decide +kernel)) rfl
theorem kw174 : Cond.fieldLink RX7 24 "TwinSets$TwinRows" "log" "LTwinSets$Log;" ∈ TB := mTB (List.mem_of_getElem? (i := 174) (by decide +kernel)) rfl
theorem kw177 : Cond.fieldLink RX7 30 "TwinSets$TwinRows" "name" "Ljava/lang/String;" ∈ TB := mTB (List.mem_of_getElem? (i := 177) (by decide +kernel)) rfl
theorem kw179 : Cond.fieldLink RX7 34 "TwinSets$TwinRows" "size" "I" ∈ TB := mTB (List.mem_of_getElem? (i := 179) (by decide +kernel)) rfl
theorem kw182 : Cond.fieldLink RX7 38 "TwinSets$TwinRows" "generation" "I" ∈ TB := mTB (List.mem_of_getElem? (i := 182) (by decide +kernel)) rfl
theorem kw200 : Cond.instantiable RX0 8 ∈ TB := mTB (List.mem_of_getElem? (i := 200) (by decide +kernel)) rfl
theorem kw202 : Cond.instanceMethod yX0_init ∈ TB := mTB (List.mem_of_getElem? (i := 202) (by decide +kernel)) rfl
theorem kw203 : Cond.code yX0_init cX0_init 1 none ∈ TB := mTB (List.mem_of_getElem? (i := 203) (by decide +kernel)) rfl
theorem kw204 : Cond.methodLink RX0 3 objectInit ∈ TB := mTB (List.mem_of_getElem? (i := 204) (by decide +kernel)) rfl
theorem kw205 : Cond.fieldLink RX0 9 "TwinSets$Cursor" "isInUse" "Z" ∈ TB := mTB (List.mem_of_getElem? (i := 205) (by decide +kernel)) rfl
theorem kw208 : Cond.fieldLink RX0 15 "TwinSets$Cursor" "isOpen" "Z" ∈ TB := mTB (List.mem_of_getElem? (i := 208) (by decide +kernel)) rfl
theorem kw211 : Cond.fieldLink RX0 18 "TwinSets$Cursor" "isStrict" "Z" ∈ TB := mTB (List.mem_of_getElem? (i := 211) (by decide +kernel)) rfl
theorem kw213 : Cond.fieldLink RX0 21 "TwinSets$Cursor" "set" "I" ∈ TB := mTB (List.mem_of_getElem? (i := 213) (by decide +kernel)) rfl
theorem kw216 : Cond.fieldLink RX0 25 "TwinSets$Cursor" "position" "I" ∈ TB := mTB (List.mem_of_getElem? (i := 216) (by decide +kernel)) rfl
theorem kw219 : Cond.fieldLink RX0 28 "TwinSets$Cursor" "madeAt" "I" ∈ TB := mTB (List.mem_of_getElem? (i := 219) (by decide +kernel)) rfl
theorem kw221 : Cond.fieldLink RX0 31 "TwinSets$Cursor" "metCount" "I" ∈ TB := mTB (List.mem_of_getElem? (i := 221) (by decide +kernel)) rfl
theorem kw224 : Cond.fieldLink RX0 34 "TwinSets$Cursor" "lastMet" "I" ∈ TB := mTB (List.mem_of_getElem? (i := 224) (by decide +kernel)) rfl
theorem kw244 : Cond.fieldLink RX5 11 "TwinSets$State" "sets" "[LTwinSets$TwinRows;" ∈ TB := mTB (List.mem_of_getElem? (i := 244) (by decide +kernel)) rfl
theorem kw247 : Cond.fieldLink RX5 19 "TwinSets$State" "cursors" "[LTwinSets$Cursor;" ∈ TB := mTB (List.mem_of_getElem? (i := 247) (by decide +kernel)) rfl
theorem kw249 : Cond.fieldLink RX5 23 "TwinSets$State" "marks" "[I" ∈ TB := mTB (List.mem_of_getElem? (i := 249) (by decide +kernel)) rfl
theorem kw251 : Cond.fieldLink RX5 29 "TwinSets$State" "universe" "I" ∈ TB := mTB (List.mem_of_getElem? (i := 251) (by decide +kernel)) rfl
theorem kw254 : Cond.fieldLink RX5 33 "TwinSets$State" "horizon" "I" ∈ TB := mTB (List.mem_of_getElem? (i := 254) (by decide +kernel)) rfl
theorem kw256 : Cond.fieldLink RX5 36 "TwinSets$State" "setCount" "I" ∈ TB := mTB (List.mem_of_getElem? (i := 256) (by decide +kernel)) rfl
theorem kw259 : Cond.fieldLink RX5 39 "TwinSets$State" "markCount" "I" ∈ TB := mTB (List.mem_of_getElem? (i := 259) (by decide +kernel)) rfl
theorem kw262 : Cond.fieldLink RX5 42 "TwinSets$State" "clock" "I" ∈ TB := mTB (List.mem_of_getElem? (i := 262) (by decide +kernel)) rfl
theorem kw264 : Cond.fieldLink RX5 45 "TwinSets$State" "cost" "I" ∈ TB := mTB (List.mem_of_getElem? (i := 264) (by decide +kernel)) rfl
theorem kw285 : Cond.methodLink RX9 44 yX5_begin ∈ TB := mTB (List.mem_of_getElem? (i := 285) (by decide +kernel)) rfl
theorem kw286 : Cond.instanceMethod yX5_begin ∈ TB := mTB (List.mem_of_getElem? (i := 286) (by decide +kernel)) rfl
theorem kw287 : Cond.selects RX5 yX5_begin yX5_begin ∈ TB := mTB (List.mem_of_getElem? (i := 287) (by decide +kernel)) rfl
theorem kw288 : Cond.code yX5_begin cX5_begin 4 none ∈ TB := mTB (List.mem_of_getElem? (i := 288) (by decide +kernel)) rfl
theorem kw289 : Cond.fieldLink RX9 10 "TwinSets" "input" "LTwinSets$Input;" ∈ TB := mTB (List.mem_of_getElem? (i := 289) (by decide +kernel)) rfl
theorem kw290 : Cond.fieldLink RX9 19 "TwinSets" "history" "LTwinSets$UndoHistory;" ∈ TB := mTB (List.mem_of_getElem? (i := 290) (by decide +kernel)) rfl
theorem kw291 : Cond.fieldLink RX9 26 "TwinSets" "slots" "LTwinSets$SnapshotSlots;" ∈ TB := mTB (List.mem_of_getElem? (i := 291) (by decide +kernel)) rfl
theorem kw292 : Cond.fieldLink RX9 33 "TwinSets" "now" "LTwinSets$State;" ∈ TB := mTB (List.mem_of_getElem? (i := 292) (by decide +kernel)) rfl
theorem kw293 : Cond.fieldLink RX9 37 "TwinSets" "draft" "LTwinSets$State;" ∈ TB := mTB (List.mem_of_getElem? (i := 293) (by decide +kernel)) rfl
theorem kw294 : Cond.fieldLink RX9 40 "TwinSets" "errorAt" "I" ∈ TB := mTB (List.mem_of_getElem? (i := 294) (by decide +kernel)) rfl
theorem kw311 : Cond.classLink RL 32 RX12 ∈ TB := mTB (List.mem_of_getElem? (i := 311) (by decide +kernel)) rfl
theorem kw312 : Cond.instantiable RX12 9 ∈ TB := mTB (List.mem_of_getElem? (i := 312) (by decide +kernel)) rfl
theorem kw314 : Cond.instanceMethod yX12_init ∈ TB := mTB (List.mem_of_getElem? (i := 314) (by decide +kernel)) rfl
theorem kw315 : Cond.code yX12_init cX12_init 1 none ∈ TB := mTB (List.mem_of_getElem? (i := 315) (by decide +kernel)) rfl
theorem kw316 : Cond.methodLink RX12 1 objectInit ∈ TB := mTB (List.mem_of_getElem? (i := 316) (by decide +kernel)) rfl
theorem kw317 : Cond.classLink RX12 7 RX10 ∈ TB := mTB (List.mem_of_getElem? (i := 317) (by decide +kernel)) rfl
theorem kw319 : Cond.instantiable RX10 10 ∈ TB := mTB (List.mem_of_getElem? (i := 319) (by decide +kernel)) rfl
theorem kw321 : Cond.instanceMethod yX10_init ∈ TB := mTB (List.mem_of_getElem? (i := 321) (by decide +kernel)) rfl
theorem kw322 : Cond.code yX10_init cX10_init 1 none ∈ TB := mTB (List.mem_of_getElem? (i := 322) (by decide +kernel)) rfl
theorem kw323 : Cond.methodLink RX10 1 objectInit ∈ TB := mTB (List.mem_of_getElem? (i := 323) (by decide +kernel)) rfl
theorem kw324 : Cond.fieldLink RX10 32 "TwinSetsLaw$Box" "size" "I" ∈ TB := mTB (List.mem_of_getElem? (i := 324) (by decide +kernel)) rfl
theorem kw329 : Cond.fieldLink RX10 36 "TwinSetsLaw$Box" "events" "I" ∈ TB := mTB (List.mem_of_getElem? (i := 329) (by decide +kernel)) rfl
theorem kw331 : Cond.fieldLink RX10 7 "TwinSetsLaw$Box" "members" "[I" ∈ TB := mTB (List.mem_of_getElem? (i := 331) (by decide +kernel)) rfl
theorem kw334 : Cond.fieldLink RX10 13 "TwinSetsLaw$Box" "places" "[I" ∈ TB := mTB (List.mem_of_getElem? (i := 334) (by decide +kernel)) rfl
theorem kw337 : Cond.fieldLink RX10 16 "TwinSetsLaw$Box" "stamps" "[I" ∈ TB := mTB (List.mem_of_getElem? (i := 337) (by decide +kernel)) rfl
theorem kw341 : Cond.fieldLink RX10 19 "TwinSetsLaw$Box" "stamp" "[I" ∈ TB := mTB (List.mem_of_getElem? (i := 341) (by decide +kernel)) rfl
theorem kw343 : Cond.fieldLink RX10 22 "TwinSetsLaw$Box" "number" "[I" ∈ TB := mTB (List.mem_of_getElem? (i := 343) (by decide +kernel)) rfl
theorem kw345 : Cond.fieldLink RX10 25 "TwinSetsLaw$Box" "kind" "[I" ∈ TB := mTB (List.mem_of_getElem? (i := 345) (by decide +kernel)) rfl
theorem kw347 : Cond.fieldLink RX10 28 "TwinSetsLaw$Box" "then" "[J" ∈ TB := mTB (List.mem_of_getElem? (i := 347) (by decide +kernel)) rfl
theorem kw370 : Cond.arrayClass .long ∈ TB := mTB (List.mem_of_getElem? (i := 370) (by decide +kernel)) rfl
theorem kw371 : Cond.classLink RX12 16 RX11 ∈ TB := mTB (List.mem_of_getElem? (i := 371) (by decide +kernel)) rfl
theorem kw376 : Cond.fieldLink RX12 47 "TwinSetsLaw$Sets" "clock" "I" ∈ TB := mTB (List.mem_of_getElem? (i := 376) (by decide +kernel)) rfl
theorem kw378 : Cond.fieldLink RX12 32 "TwinSetsLaw$Sets" "cost" "I" ∈ TB := mTB (List.mem_of_getElem? (i := 378) (by decide +kernel)) rfl
theorem kw381 : Cond.fieldLink RX12 10 "TwinSetsLaw$Sets" "box" "[LTwinSetsLaw$Box;" ∈ TB := mTB (List.mem_of_getElem? (i := 381) (by decide +kernel)) rfl
theorem kw383 : Cond.fieldLink RX12 18 "TwinSetsLaw$Sets" "cursor" "[LTwinSetsLaw$Cursor;" ∈ TB := mTB (List.mem_of_getElem? (i := 383) (by decide +kernel)) rfl
theorem kw385 : Cond.fieldLink RX12 22 "TwinSetsLaw$Sets" "mark" "[I" ∈ TB := mTB (List.mem_of_getElem? (i := 385) (by decide +kernel)) rfl
theorem kw406 : Cond.methodLink RL 35 yL_draw ∈ TB := mTB (List.mem_of_getElem? (i := 406) (by decide +kernel)) rfl
theorem kw407 : Cond.static yL_draw ∈ TB := mTB (List.mem_of_getElem? (i := 407) (by decide +kernel)) rfl
theorem kw408 : Cond.code yL_draw cL_draw 2 (some .int) ∈ TB := mTB (List.mem_of_getElem? (i := 408) (by decide +kernel)) rfl
theorem kw409 : Cond.constant RL 23 1664525 ∈ TB := mTB (List.mem_of_getElem? (i := 409) (by decide +kernel)) rfl
theorem kw410 : Cond.constant RL 24 1013904223 ∈ TB := mTB (List.mem_of_getElem? (i := 410) (by decide +kernel)) rfl
theorem kw411 : Cond.classLink RL 49 RJ4 ∈ TB := mTB (List.mem_of_getElem? (i := 411) (by decide +kernel)) rfl
theorem kw412 : Cond.instantiable RJ4 4 ∈ TB := mTB (List.mem_of_getElem? (i := 412) (by decide +kernel)) rfl
theorem kw413 : Cond.methodLink RL 51 yJ4_init_da8c8 ∈ TB := mTB (List.mem_of_getElem? (i := 413) (by decide +kernel)) rfl
theorem kw414 : Cond.instanceMethod yJ4_init_da8c8 ∈ TB := mTB (List.mem_of_getElem? (i := 414) (by decide +kernel)) rfl
theorem kw415 : Cond.code yJ4_init_da8c8 cJ4_init_da8c8 1 none ∈ TB := mTB (List.mem_of_getElem? (i := 415) (by decide +kernel)) rfl
theorem kw416 : Cond.methodLink RJ4 1 yJ5_init_d00df ∈ TB := mTB (List.mem_of_getElem? (i := 416) (by decide +kernel)) rfl
theorem kw417 : Cond.instanceMethod yJ5_init_d00df ∈ TB := mTB (List.mem_of_getElem? (i := 417) (by decide +kernel)) rfl
theorem kw418 : Cond.code yJ5_init_d00df cJ5_init_d00df 2 none ∈ TB := mTB (List.mem_of_getElem? (i := 418) (by decide +kernel)) rfl
theorem kw419 : Cond.methodLink RJ5 3 objectInit ∈ TB := mTB (List.mem_of_getElem? (i := 419) (by decide +kernel)) rfl
theorem kw420 : Cond.fieldLink RJ5 18 "java/lang/String" "COMPACT_STRINGS" "Z" ∈ TB := mTB (List.mem_of_getElem? (i := 420) (by decide +kernel)) rfl
theorem kw429 : Cond.fieldLink RJ5 15 "java/lang/AbstractStringBuilder" "value" "[B" ∈ TB := mTB (List.mem_of_getElem? (i := 429) (by decide +kernel)) rfl
theorem kw430 : Cond.fieldLink RJ5 22 "java/lang/AbstractStringBuilder" "coder" "B" ∈ TB := mTB (List.mem_of_getElem? (i := 430) (by decide +kernel)) rfl
theorem kw431 : Cond.fieldLink RJ0 1048 "java/lang/AbstractStringBuilder" "maybeLatin1" "Z" ∈ TB := mTB (List.mem_of_getElem? (i := 431) (by decide +kernel)) rfl
theorem kw432 : Cond.fieldLink RJ5 79 "java/lang/AbstractStringBuilder" "count" "I" ∈ TB := mTB (List.mem_of_getElem? (i := 432) (by decide +kernel)) rfl
theorem kw441 : Cond.superclass RJ4 RJ5 ∈ TB := mTB (List.mem_of_getElem? (i := 441) (by decide +kernel)) rfl
theorem kw443 : Cond.methodLink RL 54 yJ4_append_15ec4 ∈ TB := mTB (List.mem_of_getElem? (i := 443) (by decide +kernel)) rfl
theorem kw444 : Cond.instanceMethod yJ4_append_15ec4 ∈ TB := mTB (List.mem_of_getElem? (i := 444) (by decide +kernel)) rfl
theorem kw445 : Cond.selects RJ4 yJ4_append_15ec4 yJ4_append_15ec4 ∈ TB := mTB (List.mem_of_getElem? (i := 445) (by decide +kernel)) rfl
theorem kw446 : Cond.code yJ4_append_15ec4 cJ4_append_15ec4 2 (some (.object "java/lang/StringBuilder")) ∈ TB := mTB (List.mem_of_getElem? (i := 446) (by decide +kernel)) rfl
theorem kw447 : Cond.methodLink RJ4 29 yJ5_append_cf1ce ∈ TB := mTB (List.mem_of_getElem? (i := 447) (by decide +kernel)) rfl
theorem kw448 : Cond.instanceMethod yJ5_append_cf1ce ∈ TB := mTB (List.mem_of_getElem? (i := 448) (by decide +kernel)) rfl
theorem kw449 : Cond.code yJ5_append_cf1ce cJ5_append_cf1ce 3 (some (.object "java/lang/AbstractStringBuilder")) ∈ TB := mTB (List.mem_of_getElem? (i := 449) (by decide +kernel)) rfl
theorem kw454 : Cond.methodLink RJ5 100 yJ5_ensureCapacityInternal_d00df ∈ TB := mTB (List.mem_of_getElem? (i := 454) (by decide +kernel)) rfl
theorem kw456 : Cond.instanceMethod yJ5_ensureCapacityInternal_d00df ∈ TB := mTB (List.mem_of_getElem? (i := 456) (by decide +kernel)) rfl
theorem kw457 : Cond.code yJ5_ensureCapacityInternal_d00df cJ5_ensureCapacityInternal_d00df 3 none ∈ TB := mTB (List.mem_of_getElem? (i := 457) (by decide +kernel)) rfl
theorem kw458 : Cond.methodLink RJ5 104 yJ5_newCapacity_0f7a4 ∈ TB := mTB (List.mem_of_getElem? (i := 458) (by decide +kernel)) rfl
theorem kw460 : Cond.instanceMethod yJ5_newCapacity_0f7a4 ∈ TB := mTB (List.mem_of_getElem? (i := 460) (by decide +kernel)) rfl
theorem kw461 : Cond.code yJ5_newCapacity_0f7a4 cJ5_newCapacity_0f7a4 6 (some .int) ∈ TB := mTB (List.mem_of_getElem? (i := 461) (by decide +kernel)) rfl
theorem kw462 : Cond.methodLink RJ5 114 yJ8_newLength_cabcc ∈ TB := mTB (List.mem_of_getElem? (i := 462) (by decide +kernel)) rfl
theorem kw463 : Cond.static yJ8_newLength_cabcc ∈ TB := mTB (List.mem_of_getElem? (i := 463) (by decide +kernel)) rfl
theorem kw464 : Cond.code yJ8_newLength_cabcc cJ8_newLength_cabcc 4 (some .int) ∈ TB := mTB (List.mem_of_getElem? (i := 464) (by decide +kernel)) rfl
theorem kw465 : Cond.methodLink RJ8 194 yJ9_max_7cf53 ∈ TB := mTB (List.mem_of_getElem? (i := 465) (by decide +kernel)) rfl
theorem kw466 : Cond.static yJ9_max_7cf53 ∈ TB := mTB (List.mem_of_getElem? (i := 466) (by decide +kernel)) rfl
theorem kw467 : Cond.code yJ9_max_7cf53 cJ9_max_7cf53 2 (some .int) ∈ TB := mTB (List.mem_of_getElem? (i := 467) (by decide +kernel)) rfl
theorem kw468 : Cond.constant RJ8 200 2147483639 ∈ TB := mTB (List.mem_of_getElem? (i := 468) (by decide +kernel)) rfl
theorem kw472 : Cond.constant RJ5 39 2147483647 ∈ TB := mTB (List.mem_of_getElem? (i := 472) (by decide +kernel)) rfl
theorem kw473 : Cond.methodLink RJ5 108 yJ7_copyOf_9075b ∈ TB := mTB (List.mem_of_getElem? (i := 473) (by decide +kernel)) rfl
theorem kw474 : Cond.static yJ7_copyOf_9075b ∈ TB := mTB (List.mem_of_getElem? (i := 474) (by decide +kernel)) rfl
theorem kw475 : Cond.code yJ7_copyOf_9075b cJ7_copyOf_9075b 3 (some (.array .byte)) ∈ TB := mTB (List.mem_of_getElem? (i := 475) (by decide +kernel)) rfl
theorem kw483 : Cond.methodLink RJ7 304 Lib.Math.min.name ∈ TB := mTB (List.mem_of_getElem? (i := 483) (by decide +kernel)) rfl
theorem kw484 : Cond.static Lib.Math.min.name ∈ TB := mTB (List.mem_of_getElem? (i := 484) (by decide +kernel)) rfl
theorem kw485 : Cond.code Lib.Math.min.name Lib.Math.min.code 2 (some .int) ∈ TB := mTB (List.mem_of_getElem? (i := 485) (by decide +kernel)) rfl
theorem kw486 : Cond.methodLink RJ7 150 arraycopyName ∈ TB := mTB (List.mem_of_getElem? (i := 486) (by decide +kernel)) rfl
theorem kw487 : Cond.static arraycopyName ∈ TB := mTB (List.mem_of_getElem? (i := 487) (by decide +kernel)) rfl
theorem kw488 : Cond.native arraycopyName ∈ TB := mTB (List.mem_of_getElem? (i := 488) (by decide +kernel)) rfl
theorem kw489 : Cond.methodLink RJ5 83 yJ5_isLatin1_aae02 ∈ TB := mTB (List.mem_of_getElem? (i := 489) (by decide +kernel)) rfl
theorem kw490 : Cond.instanceMethod yJ5_isLatin1_aae02 ∈ TB := mTB (List.mem_of_getElem? (i := 490) (by decide +kernel)) rfl
theorem kw491 : Cond.sameMethod RJ5 RJ5 "isLatin1" "()Z" ∈ TB := mTB (List.mem_of_getElem? (i := 491) (by decide +kernel)) rfl
theorem kw492 : Cond.selects RJ4 yJ5_isLatin1_aae02 yJ5_isLatin1_aae02 ∈ TB := mTB (List.mem_of_getElem? (i := 492) (by decide +kernel)) rfl
theorem kw493 : Cond.code yJ5_isLatin1_aae02 cJ5_isLatin1_aae02 1 (some .boolean) ∈ TB := mTB (List.mem_of_getElem? (i := 493) (by decide +kernel)) rfl
theorem kw506 : Cond.fieldLink RJ0 1053 "jdk/internal/util/Preconditions" "SIOOBE_FORMATTER" "Ljava/util/function/BiFunction;" ∈ TB := mTB (List.mem_of_getElem? (i := 506) (by decide +kernel)) rfl
theorem kw520 : Cond.methodLink RJ5 32 yJ0_length_8abf5 ∈ TB := mTB (List.mem_of_getElem? (i := 520) (by decide +kernel)) rfl
theorem kw521 : Cond.instanceMethod yJ0_length_8abf5 ∈ TB := mTB (List.mem_of_getElem? (i := 521) (by decide +kernel)) rfl
theorem kw522 : Cond.selects RJ0 yJ0_length_8abf5 yJ0_length_8abf5 ∈ TB := mTB (List.mem_of_getElem? (i := 522) (by decide +kernel)) rfl
theorem kw523 : Cond.code yJ0_length_8abf5 cJ0_length_8abf5 1 (some .int) ∈ TB := mTB (List.mem_of_getElem? (i := 523) (by decide +kernel)) rfl
theorem kw524 : Cond.methodLink RJ0 335 yJ0_coder_7d493 ∈ TB := mTB (List.mem_of_getElem? (i := 524) (by decide +kernel)) rfl
theorem kw525 : Cond.instanceMethod yJ0_coder_7d493 ∈ TB := mTB (List.mem_of_getElem? (i := 525) (by decide +kernel)) rfl
theorem kw526 : Cond.selects RJ0 yJ0_coder_7d493 yJ0_coder_7d493 ∈ TB := mTB (List.mem_of_getElem? (i := 526) (by decide +kernel)) rfl
theorem kw527 : Cond.code yJ0_coder_7d493 cJ0_coder_7d493 1 (some .byte) ∈ TB := mTB (List.mem_of_getElem? (i := 527) (by decide +kernel)) rfl
theorem kw528 : Cond.fieldLink RJ0 38 "java/lang/String" "COMPACT_STRINGS" "Z" ∈ TB := mTB (List.mem_of_getElem? (i := 528) (by decide +kernel)) rfl
theorem kw529 : Cond.methodLink RJ5 208 yJ5_putStringAt_47b60 ∈ TB := mTB (List.mem_of_getElem? (i := 529) (by decide +kernel)) rfl
theorem kw531 : Cond.instanceMethod yJ5_putStringAt_47b60 ∈ TB := mTB (List.mem_of_getElem? (i := 531) (by decide +kernel)) rfl
theorem kw532 : Cond.code yJ5_putStringAt_47b60 cJ5_putStringAt_47b60 3 none ∈ TB := mTB (List.mem_of_getElem? (i := 532) (by decide +kernel)) rfl
theorem kw533 : Cond.methodLink RJ5 397 yJ5_inflateIfNeededFor_a7421 ∈ TB := mTB (List.mem_of_getElem? (i := 533) (by decide +kernel)) rfl
theorem kw535 : Cond.instanceMethod yJ5_inflateIfNeededFor_a7421 ∈ TB := mTB (List.mem_of_getElem? (i := 535) (by decide +kernel)) rfl
theorem kw536 : Cond.code yJ5_inflateIfNeededFor_a7421 cJ5_inflateIfNeededFor_a7421 2 none ∈ TB := mTB (List.mem_of_getElem? (i := 536) (by decide +kernel)) rfl
theorem kw537 : Cond.methodLink RJ5 40 yJ0_coder_7d493 ∈ TB := mTB (List.mem_of_getElem? (i := 537) (by decide +kernel)) rfl
theorem kw557 : Cond.methodLink RJ5 399 yJ0_getBytes_840e7 ∈ TB := mTB (List.mem_of_getElem? (i := 557) (by decide +kernel)) rfl
theorem kw558 : Cond.instanceMethod yJ0_getBytes_840e7 ∈ TB := mTB (List.mem_of_getElem? (i := 558) (by decide +kernel)) rfl
theorem kw559 : Cond.selects RJ0 yJ0_getBytes_840e7 yJ0_getBytes_840e7 ∈ TB := mTB (List.mem_of_getElem? (i := 559) (by decide +kernel)) rfl
theorem kw560 : Cond.code yJ0_getBytes_840e7 cJ0_getBytes_840e7 4 none ∈ TB := mTB (List.mem_of_getElem? (i := 560) (by decide +kernel)) rfl
theorem kw561 : Cond.methodLink RJ0 212 arraycopyName ∈ TB := mTB (List.mem_of_getElem? (i := 561) (by decide +kernel)) rfl
theorem kw563 : Cond.methodLink RL 57 yJ4_append_bf812 ∈ TB := mTB (List.mem_of_getElem? (i := 563) (by decide +kernel)) rfl
theorem kw564 : Cond.instanceMethod yJ4_append_bf812 ∈ TB := mTB (List.mem_of_getElem? (i := 564) (by decide +kernel)) rfl
theorem kw565 : Cond.selects RJ4 yJ4_append_bf812 yJ4_append_bf812 ∈ TB := mTB (List.mem_of_getElem? (i := 565) (by decide +kernel)) rfl
theorem kw566 : Cond.code yJ4_append_bf812 cJ4_append_bf812 2 (some (.object "java/lang/StringBuilder")) ∈ TB := mTB (List.mem_of_getElem? (i := 566) (by decide +kernel)) rfl
theorem kw567 : Cond.methodLink RJ4 53 yJ5_append_c97b9 ∈ TB := mTB (List.mem_of_getElem? (i := 567) (by decide +kernel)) rfl
theorem kw568 : Cond.instanceMethod yJ5_append_c97b9 ∈ TB := mTB (List.mem_of_getElem? (i := 568) (by decide +kernel)) rfl
theorem kw569 : Cond.code yJ5_append_c97b9 cJ5_append_c97b9 4 (some (.object "java/lang/AbstractStringBuilder")) ∈ TB := mTB (List.mem_of_getElem? (i := 569) (by decide +kernel)) rfl
theorem kw570 : Cond.methodLink RJ5 245 yJ6_stringSize_0f7a4 ∈ TB := mTB (List.mem_of_getElem? (i := 570) (by decide +kernel)) rfl
theorem kw571 : Cond.static yJ6_stringSize_0f7a4 ∈ TB := mTB (List.mem_of_getElem? (i := 571) (by decide +kernel)) rfl
theorem kw572 : Cond.code yJ6_stringSize_0f7a4 cJ6_stringSize_0f7a4 4 (some .int) ∈ TB := mTB (List.mem_of_getElem? (i := 572) (by decide +kernel)) rfl
theorem kw573 : Cond.methodLink RJ5 248 yJ6_getChars_ba4f3 ∈ TB := mTB (List.mem_of_getElem? (i := 573) (by decide +kernel)) rfl
theorem kw574 : Cond.static yJ6_getChars_ba4f3 ∈ TB := mTB (List.mem_of_getElem? (i := 574) (by decide +kernel)) rfl
theorem kw575 : Cond.code yJ6_getChars_ba4f3 cJ6_getChars_ba4f3 7 (some .int) ∈ TB := mTB (List.mem_of_getElem? (i := 575) (by decide +kernel)) rfl
theorem kw576 : Cond.fieldLink RJ6 83 "java/lang/Integer" "DigitOnes" "[B" ∈ TB := mTB (List.mem_of_getElem? (i := 576) (by decide +kernel)) rfl
theorem kw590 : Cond.methodLink RL 64 yJ4_toString_0e30d ∈ TB := mTB (List.mem_of_getElem? (i := 590) (by decide +kernel)) rfl
theorem kw591 : Cond.instanceMethod yJ4_toString_0e30d ∈ TB := mTB (List.mem_of_getElem? (i := 591) (by decide +kernel)) rfl
theorem kw592 : Cond.selects RJ4 yJ4_toString_0e30d yJ4_toString_0e30d ∈ TB := mTB (List.mem_of_getElem? (i := 592) (by decide +kernel)) rfl
theorem kw593 : Cond.code yJ4_toString_0e30d cJ4_toString_0e30d 1 (some (.object "java/lang/String")) ∈ TB := mTB (List.mem_of_getElem? (i := 593) (by decide +kernel)) rfl
theorem kw594 : Cond.classLink RJ4 18 RJ0 ∈ TB := mTB (List.mem_of_getElem? (i := 594) (by decide +kernel)) rfl
theorem kw595 : Cond.instantiable RJ0 4 ∈ TB := mTB (List.mem_of_getElem? (i := 595) (by decide +kernel)) rfl
theorem kw596 : Cond.methodLink RJ4 137 yJ0_init_81219 ∈ TB := mTB (List.mem_of_getElem? (i := 596) (by decide +kernel)) rfl
theorem kw597 : Cond.instanceMethod yJ0_init_81219 ∈ TB := mTB (List.mem_of_getElem? (i := 597) (by decide +kernel)) rfl
theorem kw598 : Cond.code yJ0_init_81219 cJ0_init_81219 2 none ∈ TB := mTB (List.mem_of_getElem? (i := 598) (by decide +kernel)) rfl
theorem kw599 : Cond.methodLink RJ0 489 yJ0_init_db425 ∈ TB := mTB (List.mem_of_getElem? (i := 599) (by decide +kernel)) rfl
theorem kw600 : Cond.instanceMethod yJ0_init_db425 ∈ TB := mTB (List.mem_of_getElem? (i := 600) (by decide +kernel)) rfl
theorem kw601 : Cond.code yJ0_init_db425 cJ0_init_db425 5 none ∈ TB := mTB (List.mem_of_getElem? (i := 601) (by decide +kernel)) rfl
theorem kw602 : Cond.methodLink RJ0 1 objectInit ∈ TB := mTB (List.mem_of_getElem? (i := 602) (by decide +kernel)) rfl
theorem kw603 : Cond.methodLink RJ0 552 yJ5_getValue_6d5f1 ∈ TB := mTB (List.mem_of_getElem? (i := 603) (by decide +kernel)) rfl
theorem kw604 : Cond.instanceMethod yJ5_getValue_6d5f1 ∈ TB := mTB (List.mem_of_getElem? (i := 604) (by decide +kernel)) rfl
theorem kw605 : Cond.sameMethod RJ5 RJ5 "getValue" "()[B" ∈ TB := mTB (List.mem_of_getElem? (i := 605) (by decide +kernel)) rfl
theorem kw606 : Cond.selects RJ4 yJ5_getValue_6d5f1 yJ5_getValue_6d5f1 ∈ TB := mTB (List.mem_of_getElem? (i := 606) (by decide +kernel)) rfl
theorem kw607 : Cond.code yJ5_getValue_6d5f1 cJ5_getValue_6d5f1 1 (some (.array .byte)) ∈ TB := mTB (List.mem_of_getElem? (i := 607) (by decide +kernel)) rfl
theorem kw608 : Cond.methodLink RJ0 549 yJ5_length_8abf5 ∈ TB := mTB (List.mem_of_getElem? (i := 608) (by decide +kernel)) rfl
theorem kw609 : Cond.instanceMethod yJ5_length_8abf5 ∈ TB := mTB (List.mem_of_getElem? (i := 609) (by decide +kernel)) rfl
theorem kw610 : Cond.sameMethod RJ5 RJ5 "length" "()I" ∈ TB := mTB (List.mem_of_getElem? (i := 610) (by decide +kernel)) rfl
theorem kw611 : Cond.selects RJ4 yJ5_length_8abf5 yJ4_length_8abf5 ∈ TB := mTB (List.mem_of_getElem? (i := 611) (by decide +kernel)) rfl
theorem kw612 : Cond.instanceMethod yJ4_length_8abf5 ∈ TB := mTB (List.mem_of_getElem? (i := 612) (by decide +kernel)) rfl
theorem kw613 : Cond.code yJ4_length_8abf5 cJ4_length_8abf5 1 (some .int) ∈ TB := mTB (List.mem_of_getElem? (i := 613) (by decide +kernel)) rfl
theorem kw614 : Cond.methodLink RJ4 343 yJ5_length_8abf5 ∈ TB := mTB (List.mem_of_getElem? (i := 614) (by decide +kernel)) rfl
theorem kw615 : Cond.code yJ5_length_8abf5 cJ5_length_8abf5 1 (some .int) ∈ TB := mTB (List.mem_of_getElem? (i := 615) (by decide +kernel)) rfl
theorem kw616 : Cond.methodLink RJ0 1047 yJ5_isLatin1_aae02 ∈ TB := mTB (List.mem_of_getElem? (i := 616) (by decide +kernel)) rfl
theorem kw617 : Cond.methodLink RJ0 54 yJ7_copyOfRange_39247 ∈ TB := mTB (List.mem_of_getElem? (i := 617) (by decide +kernel)) rfl
theorem kw618 : Cond.static yJ7_copyOfRange_39247 ∈ TB := mTB (List.mem_of_getElem? (i := 618) (by decide +kernel)) rfl
theorem kw619 : Cond.code yJ7_copyOfRange_39247 cJ7_copyOfRange_39247 3 (some (.array .byte)) ∈ TB := mTB (List.mem_of_getElem? (i := 619) (by decide +kernel)) rfl
theorem kw620 : Cond.methodLink RJ7 339 yJ7_copyOfRangeByte_39247 ∈ TB := mTB (List.mem_of_getElem? (i := 620) (by decide +kernel)) rfl
theorem kw621 : Cond.static yJ7_copyOfRangeByte_39247 ∈ TB := mTB (List.mem_of_getElem? (i := 621) (by decide +kernel)) rfl
theorem kw622 : Cond.code yJ7_copyOfRangeByte_39247 cJ7_copyOfRangeByte_39247 5 (some (.array .byte)) ∈ TB := mTB (List.mem_of_getElem? (i := 622) (by decide +kernel)) rfl
theorem kw623 : Cond.methodLink RJ7 343 yJ7_checkLength_df160 ∈ TB := mTB (List.mem_of_getElem? (i := 623) (by decide +kernel)) rfl
theorem kw624 : Cond.static yJ7_checkLength_df160 ∈ TB := mTB (List.mem_of_getElem? (i := 624) (by decide +kernel)) rfl
theorem kw625 : Cond.code yJ7_checkLength_df160 cJ7_checkLength_df160 2 none ∈ TB := mTB (List.mem_of_getElem? (i := 625) (by decide +kernel)) rfl
theorem kw639 : Cond.fieldLink RJ0 9 "java/lang/String" "value" "[B" ∈ TB := mTB (List.mem_of_getElem? (i := 639) (by decide +kernel)) rfl
theorem kw640 : Cond.fieldLink RJ0 15 "java/lang/String" "coder" "B" ∈ TB := mTB (List.mem_of_getElem? (i := 640) (by decide +kernel)) rfl
theorem kw650 : Cond.methodLink RL 68 yJ4_init_a7421 ∈ TB := mTB (List.mem_of_getElem? (i := 650) (by decide +kernel)) rfl
theorem kw651 : Cond.instanceMethod yJ4_init_a7421 ∈ TB := mTB (List.mem_of_getElem? (i := 651) (by decide +kernel)) rfl
theorem kw652 : Cond.code yJ4_init_a7421 cJ4_init_a7421 2 none ∈ TB := mTB (List.mem_of_getElem? (i := 652) (by decide +kernel)) rfl
theorem kw653 : Cond.methodLink RJ4 7 yJ5_init_a7421 ∈ TB := mTB (List.mem_of_getElem? (i := 653) (by decide +kernel)) rfl
theorem kw654 : Cond.instanceMethod yJ5_init_a7421 ∈ TB := mTB (List.mem_of_getElem? (i := 654) (by decide +kernel)) rfl
theorem kw655 : Cond.code yJ5_init_a7421 cJ5_init_a7421 5 none ∈ TB := mTB (List.mem_of_getElem? (i := 655) (by decide +kernel)) rfl
theorem kw656 : Cond.constant RJ5 38 2147483631 ∈ TB := mTB (List.mem_of_getElem? (i := 656) (by decide +kernel)) rfl
theorem kw657 : Cond.methodLink RJ5 43 yJ5_append_cf1ce ∈ TB := mTB (List.mem_of_getElem? (i := 657) (by decide +kernel)) rfl
theorem kw658 : Cond.instanceMethod yJ4_append_cf1ce ∈ TB := mTB (List.mem_of_getElem? (i := 658) (by decide +kernel)) rfl
theorem kw659 : Cond.code yJ4_append_cf1ce cJ4_append_cf1ce 2 (some (.object "java/lang/AbstractStringBuilder")) ∈ TB := mTB (List.mem_of_getElem? (i := 659) (by decide +kernel)) rfl
theorem kw660 : Cond.methodLink RJ4 23 yJ4_append_15ec4 ∈ TB := mTB (List.mem_of_getElem? (i := 660) (by decide +kernel)) rfl
theorem kw662 : Cond.methodLink RL 73 yJ4_append_cf468 ∈ TB := mTB (List.mem_of_getElem? (i := 662) (by decide +kernel)) rfl
theorem kw663 : Cond.instanceMethod yJ4_append_cf468 ∈ TB := mTB (List.mem_of_getElem? (i := 663) (by decide +kernel)) rfl
theorem kw664 : Cond.selects RJ4 yJ4_append_cf468 yJ4_append_cf468 ∈ TB := mTB (List.mem_of_getElem? (i := 664) (by decide +kernel)) rfl
theorem kw665 : Cond.code yJ4_append_cf468 cJ4_append_cf468 2 (some (.object "java/lang/StringBuilder")) ∈ TB := mTB (List.mem_of_getElem? (i := 665) (by decide +kernel)) rfl
theorem kw666 : Cond.methodLink RJ4 50 yJ5_append_3fe6f ∈ TB := mTB (List.mem_of_getElem? (i := 666) (by decide +kernel)) rfl
theorem kw667 : Cond.instanceMethod yJ5_append_3fe6f ∈ TB := mTB (List.mem_of_getElem? (i := 667) (by decide +kernel)) rfl
theorem kw668 : Cond.code yJ5_append_3fe6f cJ5_append_3fe6f 2 (some (.object "java/lang/AbstractStringBuilder")) ∈ TB := mTB (List.mem_of_getElem? (i := 668) (by decide +kernel)) rfl
theorem kw669 : Cond.methodLink RJ5 191 yJ1_canEncode_fc78d ∈ TB := mTB (List.mem_of_getElem? (i := 669) (by decide +kernel)) rfl
theorem kw670 : Cond.static yJ1_canEncode_fc78d ∈ TB := mTB (List.mem_of_getElem? (i := 670) (by decide +kernel)) rfl
theorem kw671 : Cond.code yJ1_canEncode_fc78d cJ1_canEncode_fc78d 1 (some .boolean) ∈ TB := mTB (List.mem_of_getElem? (i := 671) (by decide +kernel)) rfl
theorem kw679 : Cond.static yJ0_checkIndex_df160 ∈ TB := mTB (List.mem_of_getElem? (i := 679) (by decide +kernel)) rfl
theorem kw680 : Cond.code yJ0_checkIndex_df160 cJ0_checkIndex_df160 2 none ∈ TB := mTB (List.mem_of_getElem? (i := 680) (by decide +kernel)) rfl
theorem kw681 : Cond.methodLink RJ0 1059 yJ3_checkIndex_8e157 ∈ TB := mTB (List.mem_of_getElem? (i := 681) (by decide +kernel)) rfl
theorem kw682 : Cond.static yJ3_checkIndex_8e157 ∈ TB := mTB (List.mem_of_getElem? (i := 682) (by decide +kernel)) rfl
theorem kw683 : Cond.code yJ3_checkIndex_8e157 cJ3_checkIndex_8e157 3 (some .int) ∈ TB := mTB (List.mem_of_getElem? (i := 683) (by decide +kernel)) rfl
theorem kw686 : Cond.methodLink RL 84 yX12_add ∈ TB := mTB (List.mem_of_getElem? (i := 686) (by decide +kernel)) rfl
theorem kw687 : Cond.instanceMethod yX12_add ∈ TB := mTB (List.mem_of_getElem? (i := 687) (by decide +kernel)) rfl
theorem kw688 : Cond.selects RX12 yX12_add yX12_add ∈ TB := mTB (List.mem_of_getElem? (i := 688) (by decide +kernel)) rfl
theorem kw689 : Cond.code yX12_add cX12_add 3 none ∈ TB := mTB (List.mem_of_getElem? (i := 689) (by decide +kernel)) rfl
theorem kw690 : Cond.methodLink RX12 36 yX10_has ∈ TB := mTB (List.mem_of_getElem? (i := 690) (by decide +kernel)) rfl
theorem kw691 : Cond.instanceMethod yX10_has ∈ TB := mTB (List.mem_of_getElem? (i := 691) (by decide +kernel)) rfl
theorem kw692 : Cond.selects RX10 yX10_has yX10_has ∈ TB := mTB (List.mem_of_getElem? (i := 692) (by decide +kernel)) rfl
theorem kw693 : Cond.code yX10_has cX10_has 2 (some .boolean) ∈ TB := mTB (List.mem_of_getElem? (i := 693) (by decide +kernel)) rfl
theorem kw694 : Cond.methodLink RX12 43 yX12_put ∈ TB := mTB (List.mem_of_getElem? (i := 694) (by decide +kernel)) rfl
theorem kw695 : Cond.instanceMethod yX12_put ∈ TB := mTB (List.mem_of_getElem? (i := 695) (by decide +kernel)) rfl
theorem kw696 : Cond.selects RX12 yX12_put yX12_put ∈ TB := mTB (List.mem_of_getElem? (i := 696) (by decide +kernel)) rfl
theorem kw697 : Cond.code yX12_put cX12_put 4 none ∈ TB := mTB (List.mem_of_getElem? (i := 697) (by decide +kernel)) rfl
theorem kw698 : Cond.methodLink RX12 53 yX10_note ∈ TB := mTB (List.mem_of_getElem? (i := 698) (by decide +kernel)) rfl
theorem kw699 : Cond.instanceMethod yX10_note ∈ TB := mTB (List.mem_of_getElem? (i := 699) (by decide +kernel)) rfl
theorem kw700 : Cond.selects RX10 yX10_note yX10_note ∈ TB := mTB (List.mem_of_getElem? (i := 700) (by decide +kernel)) rfl
theorem kw701 : Cond.code yX10_note cX10_note 4 none ∈ TB := mTB (List.mem_of_getElem? (i := 701) (by decide +kernel)) rfl
theorem kw702 : Cond.methodLink RX10 39 yX10_bits ∈ TB := mTB (List.mem_of_getElem? (i := 702) (by decide +kernel)) rfl
theorem kw703 : Cond.instanceMethod yX10_bits ∈ TB := mTB (List.mem_of_getElem? (i := 703) (by decide +kernel)) rfl
theorem kw704 : Cond.selects RX10 yX10_bits yX10_bits ∈ TB := mTB (List.mem_of_getElem? (i := 704) (by decide +kernel)) rfl
theorem kw705 : Cond.code yX10_bits cX10_bits 4 (some .long) ∈ TB := mTB (List.mem_of_getElem? (i := 705) (by decide +kernel)) rfl
theorem kw706 : Cond.methodLink RL 88 yX12_remove ∈ TB := mTB (List.mem_of_getElem? (i := 706) (by decide +kernel)) rfl
theorem kw707 : Cond.instanceMethod yX12_remove ∈ TB := mTB (List.mem_of_getElem? (i := 707) (by decide +kernel)) rfl
theorem kw708 : Cond.selects RX12 yX12_remove yX12_remove ∈ TB := mTB (List.mem_of_getElem? (i := 708) (by decide +kernel)) rfl
theorem kw709 : Cond.code yX12_remove cX12_remove 9 (some .boolean) ∈ TB := mTB (List.mem_of_getElem? (i := 709) (by decide +kernel)) rfl
theorem kw711 : Cond.methodLink RL 104 yL_feeds ∈ TB := mTB (List.mem_of_getElem? (i := 711) (by decide +kernel)) rfl
theorem kw712 : Cond.static yL_feeds ∈ TB := mTB (List.mem_of_getElem? (i := 712) (by decide +kernel)) rfl
theorem kw713 : Cond.code yL_feeds cL_feeds 6 (some .boolean) ∈ TB := mTB (List.mem_of_getElem? (i := 713) (by decide +kernel)) rfl
theorem kw714 : Cond.methodLink RL 7 yJ0_length_8abf5 ∈ TB := mTB (List.mem_of_getElem? (i := 714) (by decide +kernel)) rfl
theorem kw715 : Cond.methodLink RL 13 yJ0_charAt_5068e ∈ TB := mTB (List.mem_of_getElem? (i := 715) (by decide +kernel)) rfl
theorem kw716 : Cond.instanceMethod yJ0_charAt_5068e ∈ TB := mTB (List.mem_of_getElem? (i := 716) (by decide +kernel)) rfl
theorem kw717 : Cond.selects RJ0 yJ0_charAt_5068e yJ0_charAt_5068e ∈ TB := mTB (List.mem_of_getElem? (i := 717) (by decide +kernel)) rfl
theorem kw718 : Cond.code yJ0_charAt_5068e cJ0_charAt_5068e 2 (some .char) ∈ TB := mTB (List.mem_of_getElem? (i := 718) (by decide +kernel)) rfl
theorem kw719 : Cond.methodLink RJ0 492 yJ0_isLatin1_aae02 ∈ TB := mTB (List.mem_of_getElem? (i := 719) (by decide +kernel)) rfl
theorem kw720 : Cond.instanceMethod yJ0_isLatin1_aae02 ∈ TB := mTB (List.mem_of_getElem? (i := 720) (by decide +kernel)) rfl
theorem kw721 : Cond.selects RJ0 yJ0_isLatin1_aae02 yJ0_isLatin1_aae02 ∈ TB := mTB (List.mem_of_getElem? (i := 721) (by decide +kernel)) rfl
theorem kw722 : Cond.code yJ0_isLatin1_aae02 cJ0_isLatin1_aae02 1 (some .boolean) ∈ TB := mTB (List.mem_of_getElem? (i := 722) (by decide +kernel)) rfl
theorem kw723 : Cond.methodLink RJ0 495 yJ1_charAt_3b067 ∈ TB := mTB (List.mem_of_getElem? (i := 723) (by decide +kernel)) rfl
theorem kw724 : Cond.static yJ1_charAt_3b067 ∈ TB := mTB (List.mem_of_getElem? (i := 724) (by decide +kernel)) rfl
theorem kw725 : Cond.code yJ1_charAt_3b067 cJ1_charAt_3b067 2 (some .char) ∈ TB := mTB (List.mem_of_getElem? (i := 725) (by decide +kernel)) rfl
theorem kw726 : Cond.methodLink RJ1 9 yJ0_checkIndex_df160 ∈ TB := mTB (List.mem_of_getElem? (i := 726) (by decide +kernel)) rfl
theorem kw730 : Cond.methodLink RL 17 yX9_append ∈ TB := mTB (List.mem_of_getElem? (i := 730) (by decide +kernel)) rfl
theorem kw731 : Cond.instanceMethod yX9_append ∈ TB := mTB (List.mem_of_getElem? (i := 731) (by decide +kernel)) rfl
theorem kw732 : Cond.selects RX9 yX9_append yX9_append ∈ TB := mTB (List.mem_of_getElem? (i := 732) (by decide +kernel)) rfl
theorem kw733 : Cond.code yX9_append cX9_append 6 (some .int) ∈ TB := mTB (List.mem_of_getElem? (i := 733) (by decide +kernel)) rfl
theorem kw734 : Cond.methodLink RX9 51 yX1_takeFourBytes ∈ TB := mTB (List.mem_of_getElem? (i := 734) (by decide +kernel)) rfl
theorem kw735 : Cond.instanceMethod yX1_takeFourBytes ∈ TB := mTB (List.mem_of_getElem? (i := 735) (by decide +kernel)) rfl
theorem kw736 : Cond.selects RX1 yX1_takeFourBytes yX1_takeFourBytes ∈ TB := mTB (List.mem_of_getElem? (i := 736) (by decide +kernel)) rfl
theorem kw737 : Cond.code yX1_takeFourBytes cX1_takeFourBytes 3 none ∈ TB := mTB (List.mem_of_getElem? (i := 737) (by decide +kernel)) rfl
theorem kw738 : Cond.methodLink RL 108 yJ4_length_8abf5 ∈ TB := mTB (List.mem_of_getElem? (i := 738) (by decide +kernel)) rfl
theorem kw739 : Cond.methodLink RL 109 yX9_parse ∈ TB := mTB (List.mem_of_getElem? (i := 739) (by decide +kernel)) rfl
theorem kw740 : Cond.instanceMethod yX9_parse ∈ TB := mTB (List.mem_of_getElem? (i := 740) (by decide +kernel)) rfl
theorem kw741 : Cond.selects RX9 yX9_parse yX9_parse ∈ TB := mTB (List.mem_of_getElem? (i := 741) (by decide +kernel)) rfl
theorem kw742 : Cond.code yX9_parse cX9_parse 4 (some .int) ∈ TB := mTB (List.mem_of_getElem? (i := 742) (by decide +kernel)) rfl
theorem kw743 : Cond.classLink RX9 55 "java/lang/IllegalArgumentException" ∈ TB := mTB (List.mem_of_getElem? (i := 743) (by decide +kernel)) rfl
theorem kw810 : Cond.classLink RX9 62 RX3 ∈ TB := mTB (List.mem_of_getElem? (i := 810) (by decide +kernel)) rfl
theorem kw811 : Cond.instantiable RX3 9 ∈ TB := mTB (List.mem_of_getElem? (i := 811) (by decide +kernel)) rfl
theorem kw812 : Cond.methodLink RX9 64 yX3_init ∈ TB := mTB (List.mem_of_getElem? (i := 812) (by decide +kernel)) rfl
theorem kw813 : Cond.instanceMethod yX3_init ∈ TB := mTB (List.mem_of_getElem? (i := 813) (by decide +kernel)) rfl
theorem kw814 : Cond.code yX3_init cX3_init 4 none ∈ TB := mTB (List.mem_of_getElem? (i := 814) (by decide +kernel)) rfl
theorem kw815 : Cond.methodLink RX3 3 objectInit ∈ TB := mTB (List.mem_of_getElem? (i := 815) (by decide +kernel)) rfl
theorem kw816 : Cond.fieldLink RX3 23 "TwinSets$Token" "END" "LTwinSets$Token;" ∈ TB := mTB (List.mem_of_getElem? (i := 816) (by decide +kernel)) rfl
theorem kw818 : Cond.fieldLink RX3 9 "TwinSets$Parser" "input" "LTwinSets$Input;" ∈ TB := mTB (List.mem_of_getElem? (i := 818) (by decide +kernel)) rfl
theorem kw819 : Cond.fieldLink RX3 15 "TwinSets$Parser" "length" "I" ∈ TB := mTB (List.mem_of_getElem? (i := 819) (by decide +kernel)) rfl
theorem kw820 : Cond.fieldLink RX3 19 "TwinSets$Parser" "state" "LTwinSets$State;" ∈ TB := mTB (List.mem_of_getElem? (i := 820) (by decide +kernel)) rfl
theorem kw821 : Cond.fieldLink RX3 29 "TwinSets$Parser" "token" "LTwinSets$Token;" ∈ TB := mTB (List.mem_of_getElem? (i := 821) (by decide +kernel)) rfl
theorem kw822 : Cond.fieldLink RX3 100 "TwinSets$Parser" "start" "I" ∈ TB := mTB (List.mem_of_getElem? (i := 822) (by decide +kernel)) rfl
theorem kw823 : Cond.fieldLink RX3 103 "TwinSets$Parser" "end" "I" ∈ TB := mTB (List.mem_of_getElem? (i := 823) (by decide +kernel)) rfl
theorem kw824 : Cond.fieldLink RX3 48 "TwinSets$Parser" "number" "I" ∈ TB := mTB (List.mem_of_getElem? (i := 824) (by decide +kernel)) rfl
theorem kw826 : Cond.fieldLink RX3 151 "TwinSets$Parser" "errorCode" "I" ∈ TB := mTB (List.mem_of_getElem? (i := 826) (by decide +kernel)) rfl
theorem kw827 : Cond.fieldLink RX3 32 "TwinSets$Parser" "errorAt" "I" ∈ TB := mTB (List.mem_of_getElem? (i := 827) (by decide +kernel)) rfl
theorem kw848 : Cond.methodLink RX9 67 yX3_readText ∈ TB := mTB (List.mem_of_getElem? (i := 848) (by decide +kernel)) rfl
theorem kw849 : Cond.instanceMethod yX3_readText ∈ TB := mTB (List.mem_of_getElem? (i := 849) (by decide +kernel)) rfl
theorem kw850 : Cond.selects RX3 yX3_readText yX3_readText ∈ TB := mTB (List.mem_of_getElem? (i := 850) (by decide +kernel)) rfl
theorem kw851 : Cond.code yX3_readText cX3_readText 4 (some .boolean) ∈ TB := mTB (List.mem_of_getElem? (i := 851) (by decide +kernel)) rfl
theorem kw852 : Cond.methodLink RX3 35 yX3_toNextToken ∈ TB := mTB (List.mem_of_getElem? (i := 852) (by decide +kernel)) rfl
theorem kw854 : Cond.instanceMethod yX3_toNextToken ∈ TB := mTB (List.mem_of_getElem? (i := 854) (by decide +kernel)) rfl
theorem kw855 : Cond.code yX3_toNextToken cX3_toNextToken 1 none ∈ TB := mTB (List.mem_of_getElem? (i := 855) (by decide +kernel)) rfl
theorem kw856 : Cond.methodLink RX3 174 yX1_isBlank ∈ TB := mTB (List.mem_of_getElem? (i := 856) (by decide +kernel)) rfl
theorem kw857 : Cond.instanceMethod yX1_isBlank ∈ TB := mTB (List.mem_of_getElem? (i := 857) (by decide +kernel)) rfl
theorem kw858 : Cond.selects RX1 yX1_isBlank yX1_isBlank ∈ TB := mTB (List.mem_of_getElem? (i := 858) (by decide +kernel)) rfl
theorem kw859 : Cond.code yX1_isBlank cX1_isBlank 2 (some .boolean) ∈ TB := mTB (List.mem_of_getElem? (i := 859) (by decide +kernel)) rfl
theorem kw860 : Cond.methodLink RX3 177 yX1_isLetter ∈ TB := mTB (List.mem_of_getElem? (i := 860) (by decide +kernel)) rfl
theorem kw861 : Cond.instanceMethod yX1_isLetter ∈ TB := mTB (List.mem_of_getElem? (i := 861) (by decide +kernel)) rfl
theorem kw862 : Cond.selects RX1 yX1_isLetter yX1_isLetter ∈ TB := mTB (List.mem_of_getElem? (i := 862) (by decide +kernel)) rfl
theorem kw863 : Cond.code yX1_isLetter cX1_isLetter 2 (some .boolean) ∈ TB := mTB (List.mem_of_getElem? (i := 863) (by decide +kernel)) rfl
theorem kw864 : Cond.methodLink RX3 180 yX3_passLetters ∈ TB := mTB (List.mem_of_getElem? (i := 864) (by decide +kernel)) rfl
theorem kw866 : Cond.instanceMethod yX3_passLetters ∈ TB := mTB (List.mem_of_getElem? (i := 866) (by decide +kernel)) rfl
theorem kw867 : Cond.code yX3_passLetters cX3_passLetters 1 none ∈ TB := mTB (List.mem_of_getElem? (i := 867) (by decide +kernel)) rfl
theorem kw868 : Cond.fieldLink RX3 189 "TwinSets$Token" "INVALID" "LTwinSets$Token;" ∈ TB := mTB (List.mem_of_getElem? (i := 868) (by decide +kernel)) rfl
theorem kw870 : Cond.fieldLink RX3 97 "TwinSets$Token" "WORD" "LTwinSets$Token;" ∈ TB := mTB (List.mem_of_getElem? (i := 870) (by decide +kernel)) rfl
theorem kw872 : Cond.methodLink RX3 183 yX1_isDigit ∈ TB := mTB (List.mem_of_getElem? (i := 872) (by decide +kernel)) rfl
theorem kw873 : Cond.instanceMethod yX1_isDigit ∈ TB := mTB (List.mem_of_getElem? (i := 873) (by decide +kernel)) rfl
theorem kw874 : Cond.selects RX1 yX1_isDigit yX1_isDigit ∈ TB := mTB (List.mem_of_getElem? (i := 874) (by decide +kernel)) rfl
theorem kw875 : Cond.code yX1_isDigit cX1_isDigit 2 (some .boolean) ∈ TB := mTB (List.mem_of_getElem? (i := 875) (by decide +kernel)) rfl
theorem kw876 : Cond.methodLink RX3 186 yX3_passDigits ∈ TB := mTB (List.mem_of_getElem? (i := 876) (by decide +kernel)) rfl
theorem kw878 : Cond.instanceMethod yX3_passDigits ∈ TB := mTB (List.mem_of_getElem? (i := 878) (by decide +kernel)) rfl
theorem kw879 : Cond.code yX3_passDigits cX3_passDigits 1 none ∈ TB := mTB (List.mem_of_getElem? (i := 879) (by decide +kernel)) rfl
theorem kw880 : Cond.fieldLink RX3 122 "TwinSets$Token" "NUMBER" "LTwinSets$Token;" ∈ TB := mTB (List.mem_of_getElem? (i := 880) (by decide +kernel)) rfl
theorem kw882 : Cond.fieldLink RX3 148 "TwinSets$Token" "SEMICOLON" "LTwinSets$Token;" ∈ TB := mTB (List.mem_of_getElem? (i := 882) (by decide +kernel)) rfl
theorem kw885 : Cond.methodLink RX3 40 yX3_passWord ∈ TB := mTB (List.mem_of_getElem? (i := 885) (by decide +kernel)) rfl
theorem kw887 : Cond.instanceMethod yX3_passWord ∈ TB := mTB (List.mem_of_getElem? (i := 887) (by decide +kernel)) rfl
theorem kw888 : Cond.code yX3_passWord cX3_passWord 2 (some .boolean) ∈ TB := mTB (List.mem_of_getElem? (i := 888) (by decide +kernel)) rfl
theorem kw889 : Cond.methodLink RX3 66 yX3_isWord ∈ TB := mTB (List.mem_of_getElem? (i := 889) (by decide +kernel)) rfl
theorem kw891 : Cond.instanceMethod yX3_isWord ∈ TB := mTB (List.mem_of_getElem? (i := 891) (by decide +kernel)) rfl
theorem kw892 : Cond.code yX3_isWord cX3_isWord 2 (some .boolean) ∈ TB := mTB (List.mem_of_getElem? (i := 892) (by decide +kernel)) rfl
theorem kw893 : Cond.methodLink RX3 154 yX1_holds ∈ TB := mTB (List.mem_of_getElem? (i := 893) (by decide +kernel)) rfl
theorem kw894 : Cond.instanceMethod yX1_holds ∈ TB := mTB (List.mem_of_getElem? (i := 894) (by decide +kernel)) rfl
theorem kw895 : Cond.selects RX1 yX1_holds yX1_holds ∈ TB := mTB (List.mem_of_getElem? (i := 895) (by decide +kernel)) rfl
theorem kw896 : Cond.code yX1_holds cX1_holds 5 (some .boolean) ∈ TB := mTB (List.mem_of_getElem? (i := 896) (by decide +kernel)) rfl
theorem kw897 : Cond.methodLink RX1 19 yJ0_length_8abf5 ∈ TB := mTB (List.mem_of_getElem? (i := 897) (by decide +kernel)) rfl
theorem kw898 : Cond.methodLink RX1 24 yJ0_charAt_5068e ∈ TB := mTB (List.mem_of_getElem? (i := 898) (by decide +kernel)) rfl
theorem kw899 : Cond.methodLink RX3 90 yX3_fail ∈ TB := mTB (List.mem_of_getElem? (i := 899) (by decide +kernel)) rfl
theorem kw901 : Cond.instanceMethod yX3_fail ∈ TB := mTB (List.mem_of_getElem? (i := 901) (by decide +kernel)) rfl
theorem kw902 : Cond.code yX3_fail cX3_fail 2 (some .boolean) ∈ TB := mTB (List.mem_of_getElem? (i := 902) (by decide +kernel)) rfl
theorem kw903 : Cond.methodLink RX3 44 yX3_isNumber ∈ TB := mTB (List.mem_of_getElem? (i := 903) (by decide +kernel)) rfl
theorem kw905 : Cond.instanceMethod yX3_isNumber ∈ TB := mTB (List.mem_of_getElem? (i := 905) (by decide +kernel)) rfl
theorem kw906 : Cond.code yX3_isNumber cX3_isNumber 3 (some .boolean) ∈ TB := mTB (List.mem_of_getElem? (i := 906) (by decide +kernel)) rfl
theorem kw907 : Cond.methodLink RX3 51 yX5_begin ∈ TB := mTB (List.mem_of_getElem? (i := 907) (by decide +kernel)) rfl
theorem kw908 : Cond.methodLink RX3 57 yX3_passSemicolon ∈ TB := mTB (List.mem_of_getElem? (i := 908) (by decide +kernel)) rfl
theorem kw910 : Cond.instanceMethod yX3_passSemicolon ∈ TB := mTB (List.mem_of_getElem? (i := 910) (by decide +kernel)) rfl
theorem kw911 : Cond.code yX3_passSemicolon cX3_passSemicolon 1 (some .boolean) ∈ TB := mTB (List.mem_of_getElem? (i := 911) (by decide +kernel)) rfl
theorem kw912 : Cond.methodLink RX3 61 yX3_readStatement ∈ TB := mTB (List.mem_of_getElem? (i := 912) (by decide +kernel)) rfl
theorem kw914 : Cond.instanceMethod yX3_readStatement ∈ TB := mTB (List.mem_of_getElem? (i := 914) (by decide +kernel)) rfl
theorem kw915 : Cond.code yX3_readStatement cX3_readStatement 1 (some .boolean) ∈ TB := mTB (List.mem_of_getElem? (i := 915) (by decide +kernel)) rfl
theorem kw917 : Cond.methodLink RX3 69 yX3_readSet ∈ TB := mTB (List.mem_of_getElem? (i := 917) (by decide +kernel)) rfl
theorem kw919 : Cond.instanceMethod yX3_readSet ∈ TB := mTB (List.mem_of_getElem? (i := 919) (by decide +kernel)) rfl
theorem kw920 : Cond.code yX3_readSet cX3_readSet 1 (some .boolean) ∈ TB := mTB (List.mem_of_getElem? (i := 920) (by decide +kernel)) rfl
theorem kw921 : Cond.methodLink RX3 106 yX5_setNamed ∈ TB := mTB (List.mem_of_getElem? (i := 921) (by decide +kernel)) rfl
theorem kw922 : Cond.instanceMethod yX5_setNamed ∈ TB := mTB (List.mem_of_getElem? (i := 922) (by decide +kernel)) rfl
theorem kw923 : Cond.selects RX5 yX5_setNamed yX5_setNamed ∈ TB := mTB (List.mem_of_getElem? (i := 923) (by decide +kernel)) rfl
theorem kw924 : Cond.code yX5_setNamed cX5_setNamed 5 (some .int) ∈ TB := mTB (List.mem_of_getElem? (i := 924) (by decide +kernel)) rfl
theorem kw925 : Cond.methodLink RX5 76 yX1_holds ∈ TB := mTB (List.mem_of_getElem? (i := 925) (by decide +kernel)) rfl
theorem kw926 : Cond.methodLink RX3 110 yX3_wordText ∈ TB := mTB (List.mem_of_getElem? (i := 926) (by decide +kernel)) rfl
theorem kw928 : Cond.instanceMethod yX3_wordText ∈ TB := mTB (List.mem_of_getElem? (i := 928) (by decide +kernel)) rfl
theorem kw929 : Cond.code yX3_wordText cX3_wordText 3 (some (.object "java/lang/String")) ∈ TB := mTB (List.mem_of_getElem? (i := 929) (by decide +kernel)) rfl
theorem kw930 : Cond.classLink RX3 160 RJ4 ∈ TB := mTB (List.mem_of_getElem? (i := 930) (by decide +kernel)) rfl
theorem kw931 : Cond.methodLink RX3 162 yJ4_init_da8c8 ∈ TB := mTB (List.mem_of_getElem? (i := 931) (by decide +kernel)) rfl
theorem kw932 : Cond.methodLink RX3 167 yJ4_append_cf468 ∈ TB := mTB (List.mem_of_getElem? (i := 932) (by decide +kernel)) rfl
theorem kw933 : Cond.methodLink RX3 171 yJ4_toString_0e30d ∈ TB := mTB (List.mem_of_getElem? (i := 933) (by decide +kernel)) rfl
theorem kw934 : Cond.methodLink RX3 114 yX5_beginSet ∈ TB := mTB (List.mem_of_getElem? (i := 934) (by decide +kernel)) rfl
theorem kw935 : Cond.instanceMethod yX5_beginSet ∈ TB := mTB (List.mem_of_getElem? (i := 935) (by decide +kernel)) rfl
theorem kw936 : Cond.selects RX5 yX5_beginSet yX5_beginSet ∈ TB := mTB (List.mem_of_getElem? (i := 936) (by decide +kernel)) rfl
theorem kw937 : Cond.code yX5_beginSet cX5_beginSet 2 none ∈ TB := mTB (List.mem_of_getElem? (i := 937) (by decide +kernel)) rfl
theorem kw938 : Cond.methodLink RX5 55 yX7_begin ∈ TB := mTB (List.mem_of_getElem? (i := 938) (by decide +kernel)) rfl
theorem kw939 : Cond.instanceMethod yX7_begin ∈ TB := mTB (List.mem_of_getElem? (i := 939) (by decide +kernel)) rfl
theorem kw940 : Cond.selects RX7 yX7_begin yX7_begin ∈ TB := mTB (List.mem_of_getElem? (i := 940) (by decide +kernel)) rfl
theorem kw941 : Cond.code yX7_begin cX7_begin 2 none ∈ TB := mTB (List.mem_of_getElem? (i := 941) (by decide +kernel)) rfl
theorem kw942 : Cond.methodLink RX7 41 yJ7_fill_53178 ∈ TB := mTB (List.mem_of_getElem? (i := 942) (by decide +kernel)) rfl
theorem kw943 : Cond.static yJ7_fill_53178 ∈ TB := mTB (List.mem_of_getElem? (i := 943) (by decide +kernel)) rfl
theorem kw944 : Cond.code yJ7_fill_53178 cJ7_fill_53178 4 none ∈ TB := mTB (List.mem_of_getElem? (i := 944) (by decide +kernel)) rfl
theorem kw945 : Cond.methodLink RX7 47 yX2_begin ∈ TB := mTB (List.mem_of_getElem? (i := 945) (by decide +kernel)) rfl
theorem kw946 : Cond.instanceMethod yX2_begin ∈ TB := mTB (List.mem_of_getElem? (i := 946) (by decide +kernel)) rfl
theorem kw947 : Cond.selects RX2 yX2_begin yX2_begin ∈ TB := mTB (List.mem_of_getElem? (i := 947) (by decide +kernel)) rfl
theorem kw948 : Cond.code yX2_begin cX2_begin 1 none ∈ TB := mTB (List.mem_of_getElem? (i := 948) (by decide +kernel)) rfl
theorem kw950 : Cond.methodLink RX3 74 yX3_readMembers ∈ TB := mTB (List.mem_of_getElem? (i := 950) (by decide +kernel)) rfl
theorem kw952 : Cond.instanceMethod yX3_readMembers ∈ TB := mTB (List.mem_of_getElem? (i := 952) (by decide +kernel)) rfl
theorem kw953 : Cond.code yX3_readMembers cX3_readMembers 4 (some .boolean) ∈ TB := mTB (List.mem_of_getElem? (i := 953) (by decide +kernel)) rfl
theorem kw954 : Cond.methodLink RX3 118 yX3_readEarlierSet ∈ TB := mTB (List.mem_of_getElem? (i := 954) (by decide +kernel)) rfl
theorem kw956 : Cond.instanceMethod yX3_readEarlierSet ∈ TB := mTB (List.mem_of_getElem? (i := 956) (by decide +kernel)) rfl
theorem kw957 : Cond.code yX3_readEarlierSet cX3_readEarlierSet 2 (some .int) ∈ TB := mTB (List.mem_of_getElem? (i := 957) (by decide +kernel)) rfl
theorem kw958 : Cond.methodLink RX3 131 yX5_bringIn ∈ TB := mTB (List.mem_of_getElem? (i := 958) (by decide +kernel)) rfl
theorem kw959 : Cond.instanceMethod yX5_bringIn ∈ TB := mTB (List.mem_of_getElem? (i := 959) (by decide +kernel)) rfl
theorem kw960 : Cond.selects RX5 yX5_bringIn yX5_bringIn ∈ TB := mTB (List.mem_of_getElem? (i := 960) (by decide +kernel)) rfl
theorem kw961 : Cond.code yX5_bringIn cX5_bringIn 3 (some .boolean) ∈ TB := mTB (List.mem_of_getElem? (i := 961) (by decide +kernel)) rfl
theorem kw962 : Cond.methodLink RX5 82 yX7_has ∈ TB := mTB (List.mem_of_getElem? (i := 962) (by decide +kernel)) rfl
theorem kw963 : Cond.instanceMethod yX7_has ∈ TB := mTB (List.mem_of_getElem? (i := 963) (by decide +kernel)) rfl
theorem kw964 : Cond.selects RX7 yX7_has yX7_has ∈ TB := mTB (List.mem_of_getElem? (i := 964) (by decide +kernel)) rfl
theorem kw965 : Cond.code yX7_has cX7_has 2 (some .boolean) ∈ TB := mTB (List.mem_of_getElem? (i := 965) (by decide +kernel)) rfl
theorem kw966 : Cond.methodLink RX7 60 yX7_placeOf ∈ TB := mTB (List.mem_of_getElem? (i := 966) (by decide +kernel)) rfl
theorem kw967 : Cond.instanceMethod yX7_placeOf ∈ TB := mTB (List.mem_of_getElem? (i := 967) (by decide +kernel)) rfl
theorem kw968 : Cond.selects RX7 yX7_placeOf yX7_placeOf ∈ TB := mTB (List.mem_of_getElem? (i := 968) (by decide +kernel)) rfl
theorem kw969 : Cond.code yX7_placeOf cX7_placeOf 3 (some .int) ∈ TB := mTB (List.mem_of_getElem? (i := 969) (by decide +kernel)) rfl
theorem kw970 : Cond.methodLink RX5 89 yX5_writeMember ∈ TB := mTB (List.mem_of_getElem? (i := 970) (by decide +kernel)) rfl
theorem kw972 : Cond.instanceMethod yX5_writeMember ∈ TB := mTB (List.mem_of_getElem? (i := 972) (by decide +kernel)) rfl
theorem kw973 : Cond.code yX5_writeMember cX5_writeMember 4 none ∈ TB := mTB (List.mem_of_getElem? (i := 973) (by decide +kernel)) rfl
theorem kw974 : Cond.methodLink RX5 100 yX2_note ∈ TB := mTB (List.mem_of_getElem? (i := 974) (by decide +kernel)) rfl
theorem kw975 : Cond.instanceMethod yX2_note ∈ TB := mTB (List.mem_of_getElem? (i := 975) (by decide +kernel)) rfl
theorem kw976 : Cond.selects RX2 yX2_note yX2_note ∈ TB := mTB (List.mem_of_getElem? (i := 976) (by decide +kernel)) rfl
theorem kw977 : Cond.code yX2_note cX2_note 5 none ∈ TB := mTB (List.mem_of_getElem? (i := 977) (by decide +kernel)) rfl
theorem kw978 : Cond.methodLink RX2 38 yX2_bitsBehind ∈ TB := mTB (List.mem_of_getElem? (i := 978) (by decide +kernel)) rfl
theorem kw980 : Cond.instanceMethod yX2_bitsBehind ∈ TB := mTB (List.mem_of_getElem? (i := 980) (by decide +kernel)) rfl
theorem kw981 : Cond.code yX2_bitsBehind cX2_bitsBehind 6 (some .long) ∈ TB := mTB (List.mem_of_getElem? (i := 981) (by decide +kernel)) rfl
theorem kw982 : Cond.constantLong RX2 42 (-1) ∈ TB := mTB (List.mem_of_getElem? (i := 982) (by decide +kernel)) rfl
theorem kw983 : Cond.methodLink RX2 32 arraycopyName ∈ TB := mTB (List.mem_of_getElem? (i := 983) (by decide +kernel)) rfl
theorem kw984 : Cond.methodLink RX3 135 yX5_takeOut ∈ TB := mTB (List.mem_of_getElem? (i := 984) (by decide +kernel)) rfl
theorem kw985 : Cond.instanceMethod yX5_takeOut ∈ TB := mTB (List.mem_of_getElem? (i := 985) (by decide +kernel)) rfl
theorem kw986 : Cond.selects RX5 yX5_takeOut yX5_takeOut ∈ TB := mTB (List.mem_of_getElem? (i := 986) (by decide +kernel)) rfl
theorem kw987 : Cond.code yX5_takeOut cX5_takeOut 7 (some .boolean) ∈ TB := mTB (List.mem_of_getElem? (i := 987) (by decide +kernel)) rfl
theorem kw988 : Cond.methodLink RX5 106 yX7_placeOf ∈ TB := mTB (List.mem_of_getElem? (i := 988) (by decide +kernel)) rfl
theorem kw989 : Cond.methodLink RX5 110 yX5_pullCursorsBack ∈ TB := mTB (List.mem_of_getElem? (i := 989) (by decide +kernel)) rfl
theorem kw991 : Cond.instanceMethod yX5_pullCursorsBack ∈ TB := mTB (List.mem_of_getElem? (i := 991) (by decide +kernel)) rfl
theorem kw992 : Cond.code yX5_pullCursorsBack cX5_pullCursorsBack 5 (some .boolean) ∈ TB := mTB (List.mem_of_getElem? (i := 992) (by decide +kernel)) rfl
theorem kw993 : Cond.methodLink RX5 117 yX0_isOpenOn ∈ TB := mTB (List.mem_of_getElem? (i := 993) (by decide +kernel)) rfl
theorem kw994 : Cond.instanceMethod yX0_isOpenOn ∈ TB := mTB (List.mem_of_getElem? (i := 994) (by decide +kernel)) rfl
theorem kw995 : Cond.selects RX0 yX0_isOpenOn yX0_isOpenOn ∈ TB := mTB (List.mem_of_getElem? (i := 995) (by decide +kernel)) rfl
theorem kw996 : Cond.code yX0_isOpenOn cX0_isOpenOn 2 (some .boolean) ∈ TB := mTB (List.mem_of_getElem? (i := 996) (by decide +kernel)) rfl
theorem kw997 : Cond.methodLink RX5 114 yX5_moveMember ∈ TB := mTB (List.mem_of_getElem? (i := 997) (by decide +kernel)) rfl
theorem kw999 : Cond.instanceMethod yX5_moveMember ∈ TB := mTB (List.mem_of_getElem? (i := 999) (by decide +kernel)) rfl
theorem kw1000 : Cond.code yX5_moveMember cX5_moveMember 4 none ∈ TB := mTB (List.mem_of_getElem? (i := 1000) (by decide +kernel)) rfl
theorem kw1003 : Cond.methodLink RX3 82 yX3_readClear ∈ TB := mTB (List.mem_of_getElem? (i := 1003) (by decide +kernel)) rfl
theorem kw1005 : Cond.instanceMethod yX3_readClear ∈ TB := mTB (List.mem_of_getElem? (i := 1005) (by decide +kernel)) rfl
theorem kw1006 : Cond.code yX3_readClear cX3_readClear 2 (some .boolean) ∈ TB := mTB (List.mem_of_getElem? (i := 1006) (by decide +kernel)) rfl
theorem kw1007 : Cond.methodLink RX3 138 yX5_emptySet ∈ TB := mTB (List.mem_of_getElem? (i := 1007) (by decide +kernel)) rfl
theorem kw1008 : Cond.instanceMethod yX5_emptySet ∈ TB := mTB (List.mem_of_getElem? (i := 1008) (by decide +kernel)) rfl
theorem kw1009 : Cond.selects RX5 yX5_emptySet yX5_emptySet ∈ TB := mTB (List.mem_of_getElem? (i := 1009) (by decide +kernel)) rfl
theorem kw1010 : Cond.code yX5_emptySet cX5_emptySet 4 none ∈ TB := mTB (List.mem_of_getElem? (i := 1010) (by decide +kernel)) rfl
theorem kw1012 : Cond.methodLink RX3 87 yX3_readMark ∈ TB := mTB (List.mem_of_getElem? (i := 1012) (by decide +kernel)) rfl
theorem kw1014 : Cond.instanceMethod yX3_readMark ∈ TB := mTB (List.mem_of_getElem? (i := 1014) (by decide +kernel)) rfl
theorem kw1015 : Cond.code yX3_readMark cX3_readMark 1 (some .boolean) ∈ TB := mTB (List.mem_of_getElem? (i := 1015) (by decide +kernel)) rfl
theorem kw1016 : Cond.methodLink RX3 145 yX5_makeMark ∈ TB := mTB (List.mem_of_getElem? (i := 1016) (by decide +kernel)) rfl
theorem kw1017 : Cond.instanceMethod yX5_makeMark ∈ TB := mTB (List.mem_of_getElem? (i := 1017) (by decide +kernel)) rfl
theorem kw1018 : Cond.selects RX5 yX5_makeMark yX5_makeMark ∈ TB := mTB (List.mem_of_getElem? (i := 1018) (by decide +kernel)) rfl
theorem kw1019 : Cond.code yX5_makeMark cX5_makeMark 1 none ∈ TB := mTB (List.mem_of_getElem? (i := 1019) (by decide +kernel)) rfl
theorem kw1020 : Cond.methodLink RX9 72 yX9_beginWithDraft ∈ TB := mTB (List.mem_of_getElem? (i := 1020) (by decide +kernel)) rfl
theorem kw1022 : Cond.instanceMethod yX9_beginWithDraft ∈ TB := mTB (List.mem_of_getElem? (i := 1022) (by decide +kernel)) rfl
theorem kw1023 : Cond.code yX9_beginWithDraft cX9_beginWithDraft 2 none ∈ TB := mTB (List.mem_of_getElem? (i := 1023) (by decide +kernel)) rfl
theorem kw1024 : Cond.methodLink RX9 78 yX8_forgetAll ∈ TB := mTB (List.mem_of_getElem? (i := 1024) (by decide +kernel)) rfl
theorem kw1025 : Cond.instanceMethod yX8_forgetAll ∈ TB := mTB (List.mem_of_getElem? (i := 1025) (by decide +kernel)) rfl
theorem kw1026 : Cond.selects RX8 yX8_forgetAll yX8_forgetAll ∈ TB := mTB (List.mem_of_getElem? (i := 1026) (by decide +kernel)) rfl
theorem kw1027 : Cond.code yX8_forgetAll cX8_forgetAll 1 none ∈ TB := mTB (List.mem_of_getElem? (i := 1027) (by decide +kernel)) rfl
theorem kw1028 : Cond.methodLink RX9 81 yX4_emptyAll ∈ TB := mTB (List.mem_of_getElem? (i := 1028) (by decide +kernel)) rfl
theorem kw1029 : Cond.instanceMethod yX4_emptyAll ∈ TB := mTB (List.mem_of_getElem? (i := 1029) (by decide +kernel)) rfl
theorem kw1030 : Cond.selects RX4 yX4_emptyAll yX4_emptyAll ∈ TB := mTB (List.mem_of_getElem? (i := 1030) (by decide +kernel)) rfl
theorem kw1031 : Cond.code yX4_emptyAll cX4_emptyAll 2 none ∈ TB := mTB (List.mem_of_getElem? (i := 1031) (by decide +kernel)) rfl
theorem kw1032 : Cond.methodLink RL 113 yL_changes ∈ TB := mTB (List.mem_of_getElem? (i := 1032) (by decide +kernel)) rfl
theorem kw1033 : Cond.static yL_changes ∈ TB := mTB (List.mem_of_getElem? (i := 1033) (by decide +kernel)) rfl
set_option maxRecDepth 100000 in
theorem kw1034 : Cond.code yL_changes cL_changes 10 (some .boolean) ∈ TB := mTB (List.mem_of_getElem? (i := 1034) (rfl)) rfl
theorem kw1035 : Cond.methodLink RL 275 yX9_clear ∈ TB := mTB (List.mem_of_getElem? (i := 1035) (by decide +kernel)) rfl
theorem kw1036 : Cond.instanceMethod yX9_clear ∈ TB := mTB (List.mem_of_getElem? (i := 1036) (by decide +kernel)) rfl
theorem kw1037 : Cond.selects RX9 yX9_clear yX9_clear ∈ TB := mTB (List.mem_of_getElem? (i := 1037) (by decide +kernel)) rfl
theorem kw1038 : Cond.code yX9_clear cX9_clear 3 (some .int) ∈ TB := mTB (List.mem_of_getElem? (i := 1038) (by decide +kernel)) rfl
theorem kw1039 : Cond.methodLink RX9 122 yX9_rowsOf ∈ TB := mTB (List.mem_of_getElem? (i := 1039) (by decide +kernel)) rfl
theorem kw1041 : Cond.instanceMethod yX9_rowsOf ∈ TB := mTB (List.mem_of_getElem? (i := 1041) (by decide +kernel)) rfl
theorem kw1042 : Cond.code yX9_rowsOf cX9_rowsOf 2 (some (.object "TwinSets$TwinRows")) ∈ TB := mTB (List.mem_of_getElem? (i := 1042) (by decide +kernel)) rfl
theorem kw1043 : Cond.methodLink RX9 247 yX9_checkSet ∈ TB := mTB (List.mem_of_getElem? (i := 1043) (by decide +kernel)) rfl
theorem kw1045 : Cond.instanceMethod yX9_checkSet ∈ TB := mTB (List.mem_of_getElem? (i := 1045) (by decide +kernel)) rfl
theorem kw1046 : Cond.code yX9_checkSet cX9_checkSet 2 none ∈ TB := mTB (List.mem_of_getElem? (i := 1046) (by decide +kernel)) rfl
theorem kw1047 : Cond.classLink RX9 320 "java/lang/IndexOutOfBoundsException" ∈ TB := mTB (List.mem_of_getElem? (i := 1047) (by decide +kernel)) rfl
theorem kw1063 : Cond.methodLink RX9 239 yX8_remember ∈ TB := mTB (List.mem_of_getElem? (i := 1063) (by decide +kernel)) rfl
theorem kw1064 : Cond.instanceMethod yX8_remember ∈ TB := mTB (List.mem_of_getElem? (i := 1064) (by decide +kernel)) rfl
theorem kw1065 : Cond.selects RX8 yX8_remember yX8_remember ∈ TB := mTB (List.mem_of_getElem? (i := 1065) (by decide +kernel)) rfl
theorem kw1066 : Cond.code yX8_remember cX8_remember 2 none ∈ TB := mTB (List.mem_of_getElem? (i := 1066) (by decide +kernel)) rfl
theorem kw1067 : Cond.methodLink RX8 21 yX5_init ∈ TB := mTB (List.mem_of_getElem? (i := 1067) (by decide +kernel)) rfl
theorem kw1068 : Cond.methodLink RX8 22 yX5_copyFrom ∈ TB := mTB (List.mem_of_getElem? (i := 1068) (by decide +kernel)) rfl
theorem kw1069 : Cond.instanceMethod yX5_copyFrom ∈ TB := mTB (List.mem_of_getElem? (i := 1069) (by decide +kernel)) rfl
theorem kw1070 : Cond.selects RX5 yX5_copyFrom yX5_copyFrom ∈ TB := mTB (List.mem_of_getElem? (i := 1070) (by decide +kernel)) rfl
theorem kw1071 : Cond.code yX5_copyFrom cX5_copyFrom 3 none ∈ TB := mTB (List.mem_of_getElem? (i := 1071) (by decide +kernel)) rfl
theorem kw1072 : Cond.methodLink RX5 59 arraycopyName ∈ TB := mTB (List.mem_of_getElem? (i := 1072) (by decide +kernel)) rfl
theorem kw1073 : Cond.methodLink RX5 65 yX7_copyFrom ∈ TB := mTB (List.mem_of_getElem? (i := 1073) (by decide +kernel)) rfl
theorem kw1074 : Cond.instanceMethod yX7_copyFrom ∈ TB := mTB (List.mem_of_getElem? (i := 1074) (by decide +kernel)) rfl
theorem kw1075 : Cond.selects RX7 yX7_copyFrom yX7_copyFrom ∈ TB := mTB (List.mem_of_getElem? (i := 1075) (by decide +kernel)) rfl
theorem kw1076 : Cond.code yX7_copyFrom cX7_copyFrom 2 none ∈ TB := mTB (List.mem_of_getElem? (i := 1076) (by decide +kernel)) rfl
theorem kw1077 : Cond.methodLink RX7 50 arraycopyName ∈ TB := mTB (List.mem_of_getElem? (i := 1077) (by decide +kernel)) rfl
theorem kw1078 : Cond.methodLink RX7 56 yX2_copyFrom ∈ TB := mTB (List.mem_of_getElem? (i := 1078) (by decide +kernel)) rfl
theorem kw1079 : Cond.instanceMethod yX2_copyFrom ∈ TB := mTB (List.mem_of_getElem? (i := 1079) (by decide +kernel)) rfl
theorem kw1080 : Cond.selects RX2 yX2_copyFrom yX2_copyFrom ∈ TB := mTB (List.mem_of_getElem? (i := 1080) (by decide +kernel)) rfl
theorem kw1081 : Cond.code yX2_copyFrom cX2_copyFrom 2 none ∈ TB := mTB (List.mem_of_getElem? (i := 1081) (by decide +kernel)) rfl
theorem kw1082 : Cond.methodLink RX5 69 yX0_copyFrom ∈ TB := mTB (List.mem_of_getElem? (i := 1082) (by decide +kernel)) rfl
theorem kw1083 : Cond.instanceMethod yX0_copyFrom ∈ TB := mTB (List.mem_of_getElem? (i := 1083) (by decide +kernel)) rfl
theorem kw1084 : Cond.selects RX0 yX0_copyFrom yX0_copyFrom ∈ TB := mTB (List.mem_of_getElem? (i := 1084) (by decide +kernel)) rfl
theorem kw1085 : Cond.code yX0_copyFrom cX0_copyFrom 2 none ∈ TB := mTB (List.mem_of_getElem? (i := 1085) (by decide +kernel)) rfl
theorem kw1086 : Cond.methodLink RX8 29 Lib.Math.min.name ∈ TB := mTB (List.mem_of_getElem? (i := 1086) (by decide +kernel)) rfl
theorem kw1087 : Cond.methodLink RX9 254 yX5_emptySet ∈ TB := mTB (List.mem_of_getElem? (i := 1087) (by decide +kernel)) rfl
theorem kw1088 : Cond.methodLink RL 278 yX12_clear ∈ TB := mTB (List.mem_of_getElem? (i := 1088) (by decide +kernel)) rfl
theorem kw1089 : Cond.instanceMethod yX12_clear ∈ TB := mTB (List.mem_of_getElem? (i := 1089) (by decide +kernel)) rfl
theorem kw1090 : Cond.selects RX12 yX12_clear yX12_clear ∈ TB := mTB (List.mem_of_getElem? (i := 1090) (by decide +kernel)) rfl
theorem kw1091 : Cond.code yX12_clear cX12_clear 4 (some .int) ∈ TB := mTB (List.mem_of_getElem? (i := 1091) (by decide +kernel)) rfl
theorem kw1092 : Cond.methodLink RL 281 yX9_mark ∈ TB := mTB (List.mem_of_getElem? (i := 1092) (by decide +kernel)) rfl
theorem kw1093 : Cond.instanceMethod yX9_mark ∈ TB := mTB (List.mem_of_getElem? (i := 1093) (by decide +kernel)) rfl
theorem kw1094 : Cond.selects RX9 yX9_mark yX9_mark ∈ TB := mTB (List.mem_of_getElem? (i := 1094) (by decide +kernel)) rfl
theorem kw1095 : Cond.code yX9_mark cX9_mark 1 (some .int) ∈ TB := mTB (List.mem_of_getElem? (i := 1095) (by decide +kernel)) rfl
theorem kw1096 : Cond.classLink RX9 257 "java/lang/IllegalStateException" ∈ TB := mTB (List.mem_of_getElem? (i := 1096) (by decide +kernel)) rfl
theorem kw1112 : Cond.methodLink RX9 262 yX5_makeMark ∈ TB := mTB (List.mem_of_getElem? (i := 1112) (by decide +kernel)) rfl
theorem kw1113 : Cond.methodLink RL 220 yX12_cursors ∈ TB := mTB (List.mem_of_getElem? (i := 1113) (by decide +kernel)) rfl
theorem kw1114 : Cond.instanceMethod yX12_cursors ∈ TB := mTB (List.mem_of_getElem? (i := 1114) (by decide +kernel)) rfl
theorem kw1115 : Cond.selects RX12 yX12_cursors yX12_cursors ∈ TB := mTB (List.mem_of_getElem? (i := 1115) (by decide +kernel)) rfl
theorem kw1116 : Cond.code yX12_cursors cX12_cursors 3 (some .int) ∈ TB := mTB (List.mem_of_getElem? (i := 1116) (by decide +kernel)) rfl
theorem kw1117 : Cond.classLink RL 129 RX11 ∈ TB := mTB (List.mem_of_getElem? (i := 1117) (by decide +kernel)) rfl
theorem kw1118 : Cond.instantiable RX11 8 ∈ TB := mTB (List.mem_of_getElem? (i := 1118) (by decide +kernel)) rfl
theorem kw1120 : Cond.instanceMethod yX11_init ∈ TB := mTB (List.mem_of_getElem? (i := 1120) (by decide +kernel)) rfl
theorem kw1121 : Cond.code yX11_init cX11_init 1 none ∈ TB := mTB (List.mem_of_getElem? (i := 1121) (by decide +kernel)) rfl
theorem kw1122 : Cond.methodLink RX11 1 objectInit ∈ TB := mTB (List.mem_of_getElem? (i := 1122) (by decide +kernel)) rfl
theorem kw1123 : Cond.fieldLink RX11 20 "TwinSetsLaw$Cursor" "of" "LTwinSetsLaw$Box;" ∈ TB := mTB (List.mem_of_getElem? (i := 1123) (by decide +kernel)) rfl
theorem kw1129 : Cond.fieldLink RX11 30 "TwinSetsLaw$Cursor" "made" "I" ∈ TB := mTB (List.mem_of_getElem? (i := 1129) (by decide +kernel)) rfl
theorem kw1133 : Cond.fieldLink RX11 7 "TwinSetsLaw$Cursor" "last" "I" ∈ TB := mTB (List.mem_of_getElem? (i := 1133) (by decide +kernel)) rfl
theorem kw1136 : Cond.fieldLink RX11 13 "TwinSetsLaw$Cursor" "open" "Z" ∈ TB := mTB (List.mem_of_getElem? (i := 1136) (by decide +kernel)) rfl
theorem kw1139 : Cond.fieldLink RX11 17 "TwinSetsLaw$Cursor" "strict" "Z" ∈ TB := mTB (List.mem_of_getElem? (i := 1139) (by decide +kernel)) rfl
theorem kw1158 : Cond.methodLink RL 284 yX9_open ∈ TB := mTB (List.mem_of_getElem? (i := 1158) (by decide +kernel)) rfl
theorem kw1159 : Cond.instanceMethod yX9_open ∈ TB := mTB (List.mem_of_getElem? (i := 1159) (by decide +kernel)) rfl
theorem kw1160 : Cond.selects RX9 yX9_open yX9_open ∈ TB := mTB (List.mem_of_getElem? (i := 1160) (by decide +kernel)) rfl
theorem kw1161 : Cond.code yX9_open cX9_open 4 (some .int) ∈ TB := mTB (List.mem_of_getElem? (i := 1161) (by decide +kernel)) rfl
theorem kw1162 : Cond.methodLink RX9 265 yX5_freeCursor ∈ TB := mTB (List.mem_of_getElem? (i := 1162) (by decide +kernel)) rfl
theorem kw1163 : Cond.instanceMethod yX5_freeCursor ∈ TB := mTB (List.mem_of_getElem? (i := 1163) (by decide +kernel)) rfl
theorem kw1164 : Cond.selects RX5 yX5_freeCursor yX5_freeCursor ∈ TB := mTB (List.mem_of_getElem? (i := 1164) (by decide +kernel)) rfl
theorem kw1165 : Cond.code yX5_freeCursor cX5_freeCursor 2 (some .int) ∈ TB := mTB (List.mem_of_getElem? (i := 1165) (by decide +kernel)) rfl
theorem kw1167 : Cond.methodLink RX9 274 yX0_begin ∈ TB := mTB (List.mem_of_getElem? (i := 1167) (by decide +kernel)) rfl
theorem kw1168 : Cond.instanceMethod yX0_begin ∈ TB := mTB (List.mem_of_getElem? (i := 1168) (by decide +kernel)) rfl
theorem kw1169 : Cond.selects RX0 yX0_begin yX0_begin ∈ TB := mTB (List.mem_of_getElem? (i := 1169) (by decide +kernel)) rfl
theorem kw1170 : Cond.code yX0_begin cX0_begin 4 none ∈ TB := mTB (List.mem_of_getElem? (i := 1170) (by decide +kernel)) rfl
theorem kw1171 : Cond.methodLink RL 287 yX9_close ∈ TB := mTB (List.mem_of_getElem? (i := 1171) (by decide +kernel)) rfl
theorem kw1172 : Cond.instanceMethod yX9_close ∈ TB := mTB (List.mem_of_getElem? (i := 1172) (by decide +kernel)) rfl
theorem kw1173 : Cond.selects RX9 yX9_close yX9_close ∈ TB := mTB (List.mem_of_getElem? (i := 1173) (by decide +kernel)) rfl
theorem kw1174 : Cond.code yX9_close cX9_close 3 (some .int) ∈ TB := mTB (List.mem_of_getElem? (i := 1174) (by decide +kernel)) rfl
theorem kw1175 : Cond.methodLink RX9 203 yX9_cursorOf ∈ TB := mTB (List.mem_of_getElem? (i := 1175) (by decide +kernel)) rfl
theorem kw1177 : Cond.instanceMethod yX9_cursorOf ∈ TB := mTB (List.mem_of_getElem? (i := 1177) (by decide +kernel)) rfl
theorem kw1178 : Cond.code yX9_cursorOf cX9_cursorOf 2 (some (.object "TwinSets$Cursor")) ∈ TB := mTB (List.mem_of_getElem? (i := 1178) (by decide +kernel)) rfl
theorem kw1180 : Cond.methodLink RL 290 yX9_step ∈ TB := mTB (List.mem_of_getElem? (i := 1180) (by decide +kernel)) rfl
theorem kw1181 : Cond.instanceMethod yX9_step ∈ TB := mTB (List.mem_of_getElem? (i := 1181) (by decide +kernel)) rfl
theorem kw1182 : Cond.selects RX9 yX9_step yX9_step ∈ TB := mTB (List.mem_of_getElem? (i := 1182) (by decide +kernel)) rfl
theorem kw1183 : Cond.code yX9_step cX9_step 3 (some .int) ∈ TB := mTB (List.mem_of_getElem? (i := 1183) (by decide +kernel)) rfl
theorem kw1184 : Cond.methodLink RX9 280 yX5_meetNext ∈ TB := mTB (List.mem_of_getElem? (i := 1184) (by decide +kernel)) rfl
theorem kw1185 : Cond.instanceMethod yX5_meetNext ∈ TB := mTB (List.mem_of_getElem? (i := 1185) (by decide +kernel)) rfl
theorem kw1186 : Cond.selects RX5 yX5_meetNext yX5_meetNext ∈ TB := mTB (List.mem_of_getElem? (i := 1186) (by decide +kernel)) rfl
theorem kw1187 : Cond.code yX5_meetNext cX5_meetNext 4 (some .int) ∈ TB := mTB (List.mem_of_getElem? (i := 1187) (by decide +kernel)) rfl
theorem kw1188 : Cond.methodLink RX5 142 yX7_stampAt ∈ TB := mTB (List.mem_of_getElem? (i := 1188) (by decide +kernel)) rfl
theorem kw1189 : Cond.instanceMethod yX7_stampAt ∈ TB := mTB (List.mem_of_getElem? (i := 1189) (by decide +kernel)) rfl
theorem kw1190 : Cond.selects RX7 yX7_stampAt yX7_stampAt ∈ TB := mTB (List.mem_of_getElem? (i := 1190) (by decide +kernel)) rfl
theorem kw1191 : Cond.code yX7_stampAt cX7_stampAt 2 (some .int) ∈ TB := mTB (List.mem_of_getElem? (i := 1191) (by decide +kernel)) rfl
theorem kw1192 : Cond.methodLink RX5 145 yX0_meets ∈ TB := mTB (List.mem_of_getElem? (i := 1192) (by decide +kernel)) rfl
theorem kw1193 : Cond.instanceMethod yX0_meets ∈ TB := mTB (List.mem_of_getElem? (i := 1193) (by decide +kernel)) rfl
theorem kw1194 : Cond.selects RX0 yX0_meets yX0_meets ∈ TB := mTB (List.mem_of_getElem? (i := 1194) (by decide +kernel)) rfl
theorem kw1195 : Cond.code yX0_meets cX0_meets 2 (some .boolean) ∈ TB := mTB (List.mem_of_getElem? (i := 1195) (by decide +kernel)) rfl
theorem kw1196 : Cond.methodLink RL 293 yX12_step ∈ TB := mTB (List.mem_of_getElem? (i := 1196) (by decide +kernel)) rfl
theorem kw1197 : Cond.instanceMethod yX12_step ∈ TB := mTB (List.mem_of_getElem? (i := 1197) (by decide +kernel)) rfl
theorem kw1198 : Cond.selects RX12 yX12_step yX12_step ∈ TB := mTB (List.mem_of_getElem? (i := 1198) (by decide +kernel)) rfl
theorem kw1199 : Cond.code yX12_step cX12_step 3 (some .int) ∈ TB := mTB (List.mem_of_getElem? (i := 1199) (by decide +kernel)) rfl
theorem kw1200 : Cond.methodLink RX12 71 yX11_meets ∈ TB := mTB (List.mem_of_getElem? (i := 1200) (by decide +kernel)) rfl
theorem kw1201 : Cond.instanceMethod yX11_meets ∈ TB := mTB (List.mem_of_getElem? (i := 1201) (by decide +kernel)) rfl
theorem kw1202 : Cond.selects RX11 yX11_meets yX11_meets ∈ TB := mTB (List.mem_of_getElem? (i := 1202) (by decide +kernel)) rfl
theorem kw1203 : Cond.code yX11_meets cX11_meets 2 (some .boolean) ∈ TB := mTB (List.mem_of_getElem? (i := 1203) (by decide +kernel)) rfl
theorem kw1204 : Cond.methodLink RL 169 yX10_has ∈ TB := mTB (List.mem_of_getElem? (i := 1204) (by decide +kernel)) rfl
theorem kw1205 : Cond.methodLink RL 296 yX9_removeMet ∈ TB := mTB (List.mem_of_getElem? (i := 1205) (by decide +kernel)) rfl
theorem kw1206 : Cond.instanceMethod yX9_removeMet ∈ TB := mTB (List.mem_of_getElem? (i := 1206) (by decide +kernel)) rfl
theorem kw1207 : Cond.selects RX9 yX9_removeMet yX9_removeMet ∈ TB := mTB (List.mem_of_getElem? (i := 1207) (by decide +kernel)) rfl
theorem kw1208 : Cond.code yX9_removeMet cX9_removeMet 4 (some .int) ∈ TB := mTB (List.mem_of_getElem? (i := 1208) (by decide +kernel)) rfl
theorem kw1209 : Cond.methodLink RX9 163 yX7_has ∈ TB := mTB (List.mem_of_getElem? (i := 1209) (by decide +kernel)) rfl
theorem kw1211 : Cond.methodLink RX9 250 yX5_takeOut ∈ TB := mTB (List.mem_of_getElem? (i := 1211) (by decide +kernel)) rfl
theorem kw1212 : Cond.methodLink RL 299 yX9_remove ∈ TB := mTB (List.mem_of_getElem? (i := 1212) (by decide +kernel)) rfl
theorem kw1213 : Cond.instanceMethod yX9_remove ∈ TB := mTB (List.mem_of_getElem? (i := 1213) (by decide +kernel)) rfl
theorem kw1214 : Cond.selects RX9 yX9_remove yX9_remove ∈ TB := mTB (List.mem_of_getElem? (i := 1214) (by decide +kernel)) rfl
theorem kw1215 : Cond.code yX9_remove cX9_remove 3 (some .boolean) ∈ TB := mTB (List.mem_of_getElem? (i := 1215) (by decide +kernel)) rfl
theorem kw1216 : Cond.methodLink RX9 194 yX9_checkNumber ∈ TB := mTB (List.mem_of_getElem? (i := 1216) (by decide +kernel)) rfl
theorem kw1218 : Cond.instanceMethod yX9_checkNumber ∈ TB := mTB (List.mem_of_getElem? (i := 1218) (by decide +kernel)) rfl
theorem kw1219 : Cond.code yX9_checkNumber cX9_checkNumber 2 none ∈ TB := mTB (List.mem_of_getElem? (i := 1219) (by decide +kernel)) rfl
theorem kw1220 : Cond.methodLink RX9 148 yX5_hasNumber ∈ TB := mTB (List.mem_of_getElem? (i := 1220) (by decide +kernel)) rfl
theorem kw1221 : Cond.instanceMethod yX5_hasNumber ∈ TB := mTB (List.mem_of_getElem? (i := 1221) (by decide +kernel)) rfl
theorem kw1222 : Cond.selects RX5 yX5_hasNumber yX5_hasNumber ∈ TB := mTB (List.mem_of_getElem? (i := 1222) (by decide +kernel)) rfl
theorem kw1223 : Cond.code yX5_hasNumber cX5_hasNumber 2 (some .boolean) ∈ TB := mTB (List.mem_of_getElem? (i := 1223) (by decide +kernel)) rfl
theorem kw1225 : Cond.methodLink RL 301 yX9_keep ∈ TB := mTB (List.mem_of_getElem? (i := 1225) (by decide +kernel)) rfl
theorem kw1226 : Cond.instanceMethod yX9_keep ∈ TB := mTB (List.mem_of_getElem? (i := 1226) (by decide +kernel)) rfl
theorem kw1227 : Cond.selects RX9 yX9_keep yX9_keep ∈ TB := mTB (List.mem_of_getElem? (i := 1227) (by decide +kernel)) rfl
theorem kw1228 : Cond.code yX9_keep cX9_keep 3 (some .int) ∈ TB := mTB (List.mem_of_getElem? (i := 1228) (by decide +kernel)) rfl
theorem kw1229 : Cond.methodLink RX9 289 yX5_keepCommon ∈ TB := mTB (List.mem_of_getElem? (i := 1229) (by decide +kernel)) rfl
theorem kw1230 : Cond.instanceMethod yX5_keepCommon ∈ TB := mTB (List.mem_of_getElem? (i := 1230) (by decide +kernel)) rfl
theorem kw1231 : Cond.selects RX5 yX5_keepCommon yX5_keepCommon ∈ TB := mTB (List.mem_of_getElem? (i := 1231) (by decide +kernel)) rfl
theorem kw1232 : Cond.code yX5_keepCommon cX5_keepCommon 7 (some .int) ∈ TB := mTB (List.mem_of_getElem? (i := 1232) (by decide +kernel)) rfl
theorem kw1233 : Cond.methodLink RX5 132 yX5_takeOut ∈ TB := mTB (List.mem_of_getElem? (i := 1233) (by decide +kernel)) rfl
theorem kw1234 : Cond.methodLink RL 304 yX9_unite ∈ TB := mTB (List.mem_of_getElem? (i := 1234) (by decide +kernel)) rfl
theorem kw1235 : Cond.instanceMethod yX9_unite ∈ TB := mTB (List.mem_of_getElem? (i := 1235) (by decide +kernel)) rfl
theorem kw1236 : Cond.selects RX9 yX9_unite yX9_unite ∈ TB := mTB (List.mem_of_getElem? (i := 1236) (by decide +kernel)) rfl
theorem kw1237 : Cond.code yX9_unite cX9_unite 3 (some .int) ∈ TB := mTB (List.mem_of_getElem? (i := 1237) (by decide +kernel)) rfl
theorem kw1238 : Cond.methodLink RX9 293 yX5_bringAll ∈ TB := mTB (List.mem_of_getElem? (i := 1238) (by decide +kernel)) rfl
theorem kw1239 : Cond.instanceMethod yX5_bringAll ∈ TB := mTB (List.mem_of_getElem? (i := 1239) (by decide +kernel)) rfl
theorem kw1240 : Cond.selects RX5 yX5_bringAll yX5_bringAll ∈ TB := mTB (List.mem_of_getElem? (i := 1240) (by decide +kernel)) rfl
theorem kw1241 : Cond.code yX5_bringAll cX5_bringAll 6 (some .int) ∈ TB := mTB (List.mem_of_getElem? (i := 1241) (by decide +kernel)) rfl
theorem kw1242 : Cond.methodLink RX5 135 yX5_bringIn ∈ TB := mTB (List.mem_of_getElem? (i := 1242) (by decide +kernel)) rfl
theorem kw1243 : Cond.methodLink RL 307 yX9_add ∈ TB := mTB (List.mem_of_getElem? (i := 1243) (by decide +kernel)) rfl
theorem kw1244 : Cond.instanceMethod yX9_add ∈ TB := mTB (List.mem_of_getElem? (i := 1244) (by decide +kernel)) rfl
theorem kw1245 : Cond.selects RX9 yX9_add yX9_add ∈ TB := mTB (List.mem_of_getElem? (i := 1245) (by decide +kernel)) rfl
theorem kw1246 : Cond.code yX9_add cX9_add 4 (some .int) ∈ TB := mTB (List.mem_of_getElem? (i := 1246) (by decide +kernel)) rfl
theorem kw1247 : Cond.methodLink RX9 243 yX5_bringIn ∈ TB := mTB (List.mem_of_getElem? (i := 1247) (by decide +kernel)) rfl
theorem kw1248 : Cond.methodLink RX9 160 yX7_placeOf ∈ TB := mTB (List.mem_of_getElem? (i := 1248) (by decide +kernel)) rfl
theorem kw1249 : Cond.methodLink RL 117 yL_state ∈ TB := mTB (List.mem_of_getElem? (i := 1249) (by decide +kernel)) rfl
theorem kw1250 : Cond.static yL_state ∈ TB := mTB (List.mem_of_getElem? (i := 1250) (by decide +kernel)) rfl
set_option maxRecDepth 100000 in
theorem kw1251 : Cond.code yL_state cL_state 10 (some .boolean) ∈ TB := mTB (List.mem_of_getElem? (i := 1251) (rfl)) rfl
theorem kw1252 : Cond.methodLink RL 138 yX10_kept ∈ TB := mTB (List.mem_of_getElem? (i := 1252) (by decide +kernel)) rfl
theorem kw1253 : Cond.instanceMethod yX10_kept ∈ TB := mTB (List.mem_of_getElem? (i := 1253) (by decide +kernel)) rfl
theorem kw1254 : Cond.selects RX10 yX10_kept yX10_kept ∈ TB := mTB (List.mem_of_getElem? (i := 1254) (by decide +kernel)) rfl
theorem kw1255 : Cond.code yX10_kept cX10_kept 2 (some .int) ∈ TB := mTB (List.mem_of_getElem? (i := 1255) (by decide +kernel)) rfl
theorem kw1256 : Cond.methodLink RX10 43 Lib.Math.min.name ∈ TB := mTB (List.mem_of_getElem? (i := 1256) (by decide +kernel)) rfl
theorem kw1257 : Cond.methodLink RL 149 yX10_first ∈ TB := mTB (List.mem_of_getElem? (i := 1257) (by decide +kernel)) rfl
theorem kw1258 : Cond.instanceMethod yX10_first ∈ TB := mTB (List.mem_of_getElem? (i := 1258) (by decide +kernel)) rfl
theorem kw1259 : Cond.selects RX10 yX10_first yX10_first ∈ TB := mTB (List.mem_of_getElem? (i := 1259) (by decide +kernel)) rfl
theorem kw1260 : Cond.code yX10_first cX10_first 2 (some .int) ∈ TB := mTB (List.mem_of_getElem? (i := 1260) (by decide +kernel)) rfl
theorem kw1261 : Cond.methodLink RL 152 yX9_set ∈ TB := mTB (List.mem_of_getElem? (i := 1261) (by decide +kernel)) rfl
theorem kw1262 : Cond.instanceMethod yX9_set ∈ TB := mTB (List.mem_of_getElem? (i := 1262) (by decide +kernel)) rfl
theorem kw1263 : Cond.selects RX9 yX9_set yX9_set ∈ TB := mTB (List.mem_of_getElem? (i := 1263) (by decide +kernel)) rfl
theorem kw1264 : Cond.code yX9_set cX9_set 4 (some .int) ∈ TB := mTB (List.mem_of_getElem? (i := 1264) (by decide +kernel)) rfl
theorem kw1265 : Cond.methodLink RX9 144 yX5_countOpenCursors ∈ TB := mTB (List.mem_of_getElem? (i := 1265) (by decide +kernel)) rfl
theorem kw1266 : Cond.instanceMethod yX5_countOpenCursors ∈ TB := mTB (List.mem_of_getElem? (i := 1266) (by decide +kernel)) rfl
theorem kw1267 : Cond.selects RX5 yX5_countOpenCursors yX5_countOpenCursors ∈ TB := mTB (List.mem_of_getElem? (i := 1267) (by decide +kernel)) rfl
theorem kw1268 : Cond.code yX5_countOpenCursors cX5_countOpenCursors 4 (some .int) ∈ TB := mTB (List.mem_of_getElem? (i := 1268) (by decide +kernel)) rfl
theorem kw1270 : Cond.methodLink RL 156 yX9_cell ∈ TB := mTB (List.mem_of_getElem? (i := 1270) (by decide +kernel)) rfl
theorem kw1271 : Cond.instanceMethod yX9_cell ∈ TB := mTB (List.mem_of_getElem? (i := 1271) (by decide +kernel)) rfl
theorem kw1272 : Cond.selects RX9 yX9_cell yX9_cell ∈ TB := mTB (List.mem_of_getElem? (i := 1272) (by decide +kernel)) rfl
theorem kw1273 : Cond.code yX9_cell cX9_cell 5 (some .int) ∈ TB := mTB (List.mem_of_getElem? (i := 1273) (by decide +kernel)) rfl
theorem kw1275 : Cond.methodLink RL 166 yX9_place ∈ TB := mTB (List.mem_of_getElem? (i := 1275) (by decide +kernel)) rfl
theorem kw1276 : Cond.instanceMethod yX9_place ∈ TB := mTB (List.mem_of_getElem? (i := 1276) (by decide +kernel)) rfl
theorem kw1277 : Cond.selects RX9 yX9_place yX9_place ∈ TB := mTB (List.mem_of_getElem? (i := 1277) (by decide +kernel)) rfl
theorem kw1278 : Cond.code yX9_place cX9_place 3 (some .int) ∈ TB := mTB (List.mem_of_getElem? (i := 1278) (by decide +kernel)) rfl
theorem kw1279 : Cond.methodLink RL 173 yX9_stampOf ∈ TB := mTB (List.mem_of_getElem? (i := 1279) (by decide +kernel)) rfl
theorem kw1280 : Cond.instanceMethod yX9_stampOf ∈ TB := mTB (List.mem_of_getElem? (i := 1280) (by decide +kernel)) rfl
theorem kw1281 : Cond.selects RX9 yX9_stampOf yX9_stampOf ∈ TB := mTB (List.mem_of_getElem? (i := 1281) (by decide +kernel)) rfl
theorem kw1282 : Cond.code yX9_stampOf cX9_stampOf 4 (some .int) ∈ TB := mTB (List.mem_of_getElem? (i := 1282) (by decide +kernel)) rfl
theorem kw1283 : Cond.methodLink RL 182 yX9_event ∈ TB := mTB (List.mem_of_getElem? (i := 1283) (by decide +kernel)) rfl
theorem kw1284 : Cond.instanceMethod yX9_event ∈ TB := mTB (List.mem_of_getElem? (i := 1284) (by decide +kernel)) rfl
theorem kw1285 : Cond.selects RX9 yX9_event yX9_event ∈ TB := mTB (List.mem_of_getElem? (i := 1285) (by decide +kernel)) rfl
theorem kw1286 : Cond.code yX9_event cX9_event 5 (some .int) ∈ TB := mTB (List.mem_of_getElem? (i := 1286) (by decide +kernel)) rfl
theorem kw1288 : Cond.methodLink RL 212 yX9_cursor ∈ TB := mTB (List.mem_of_getElem? (i := 1288) (by decide +kernel)) rfl
theorem kw1289 : Cond.instanceMethod yX9_cursor ∈ TB := mTB (List.mem_of_getElem? (i := 1289) (by decide +kernel)) rfl
theorem kw1290 : Cond.selects RX9 yX9_cursor yX9_cursor ∈ TB := mTB (List.mem_of_getElem? (i := 1290) (by decide +kernel)) rfl
theorem kw1291 : Cond.code yX9_cursor cX9_cursor 4 (some .int) ∈ TB := mTB (List.mem_of_getElem? (i := 1291) (by decide +kernel)) rfl
theorem kw1292 : Cond.methodLink RL 214 yX11_meets ∈ TB := mTB (List.mem_of_getElem? (i := 1292) (by decide +kernel)) rfl
theorem kw1293 : Cond.methodLink RL 217 yX9_ahead ∈ TB := mTB (List.mem_of_getElem? (i := 1293) (by decide +kernel)) rfl
theorem kw1294 : Cond.instanceMethod yX9_ahead ∈ TB := mTB (List.mem_of_getElem? (i := 1294) (by decide +kernel)) rfl
theorem kw1295 : Cond.selects RX9 yX9_ahead yX9_ahead ∈ TB := mTB (List.mem_of_getElem? (i := 1295) (by decide +kernel)) rfl
theorem kw1296 : Cond.code yX9_ahead cX9_ahead 2 (some .int) ∈ TB := mTB (List.mem_of_getElem? (i := 1296) (by decide +kernel)) rfl
theorem kw1297 : Cond.methodLink RX9 231 yX5_countAhead ∈ TB := mTB (List.mem_of_getElem? (i := 1297) (by decide +kernel)) rfl
theorem kw1298 : Cond.instanceMethod yX5_countAhead ∈ TB := mTB (List.mem_of_getElem? (i := 1298) (by decide +kernel)) rfl
theorem kw1299 : Cond.selects RX5 yX5_countAhead yX5_countAhead ∈ TB := mTB (List.mem_of_getElem? (i := 1299) (by decide +kernel)) rfl
theorem kw1300 : Cond.code yX5_countAhead cX5_countAhead 5 (some .int) ∈ TB := mTB (List.mem_of_getElem? (i := 1300) (by decide +kernel)) rfl
theorem kw1301 : Cond.methodLink RL 226 yX9_size ∈ TB := mTB (List.mem_of_getElem? (i := 1301) (by decide +kernel)) rfl
theorem kw1302 : Cond.instanceMethod yX9_size ∈ TB := mTB (List.mem_of_getElem? (i := 1302) (by decide +kernel)) rfl
theorem kw1303 : Cond.selects RX9 yX9_size yX9_size ∈ TB := mTB (List.mem_of_getElem? (i := 1303) (by decide +kernel)) rfl
theorem kw1304 : Cond.code yX9_size cX9_size 2 (some .int) ∈ TB := mTB (List.mem_of_getElem? (i := 1304) (by decide +kernel)) rfl
theorem kw1305 : Cond.methodLink RX9 99 yX5_countCursors ∈ TB := mTB (List.mem_of_getElem? (i := 1305) (by decide +kernel)) rfl
theorem kw1306 : Cond.instanceMethod yX5_countCursors ∈ TB := mTB (List.mem_of_getElem? (i := 1306) (by decide +kernel)) rfl
theorem kw1307 : Cond.selects RX5 yX5_countCursors yX5_countCursors ∈ TB := mTB (List.mem_of_getElem? (i := 1307) (by decide +kernel)) rfl
theorem kw1308 : Cond.code yX5_countCursors cX5_countCursors 3 (some .int) ∈ TB := mTB (List.mem_of_getElem? (i := 1308) (by decide +kernel)) rfl
theorem kw1309 : Cond.methodLink RL 228 yX9_marked ∈ TB := mTB (List.mem_of_getElem? (i := 1309) (by decide +kernel)) rfl
theorem kw1310 : Cond.instanceMethod yX9_marked ∈ TB := mTB (List.mem_of_getElem? (i := 1310) (by decide +kernel)) rfl
theorem kw1311 : Cond.selects RX9 yX9_marked yX9_marked ∈ TB := mTB (List.mem_of_getElem? (i := 1311) (by decide +kernel)) rfl
theorem kw1312 : Cond.code yX9_marked cX9_marked 2 (some .int) ∈ TB := mTB (List.mem_of_getElem? (i := 1312) (by decide +kernel)) rfl
theorem kw1313 : Cond.methodLink RL 121 yL_asks ∈ TB := mTB (List.mem_of_getElem? (i := 1313) (by decide +kernel)) rfl
theorem kw1314 : Cond.static yL_asks ∈ TB := mTB (List.mem_of_getElem? (i := 1314) (by decide +kernel)) rfl
theorem kw1315 : Cond.code yL_asks cL_asks 16 (some .boolean) ∈ TB := mTB (List.mem_of_getElem? (i := 1315) (by decide +kernel)) rfl
theorem kw1316 : Cond.methodLink RL 231 yX9_at ∈ TB := mTB (List.mem_of_getElem? (i := 1316) (by decide +kernel)) rfl
theorem kw1317 : Cond.instanceMethod yX9_at ∈ TB := mTB (List.mem_of_getElem? (i := 1317) (by decide +kernel)) rfl
theorem kw1318 : Cond.selects RX9 yX9_at yX9_at ∈ TB := mTB (List.mem_of_getElem? (i := 1318) (by decide +kernel)) rfl
theorem kw1319 : Cond.code yX9_at cX9_at 4 (some .long) ∈ TB := mTB (List.mem_of_getElem? (i := 1319) (by decide +kernel)) rfl
theorem kw1320 : Cond.methodLink RX9 178 yX9_checkStamp ∈ TB := mTB (List.mem_of_getElem? (i := 1320) (by decide +kernel)) rfl
theorem kw1322 : Cond.instanceMethod yX9_checkStamp ∈ TB := mTB (List.mem_of_getElem? (i := 1322) (by decide +kernel)) rfl
theorem kw1323 : Cond.code yX9_checkStamp cX9_checkStamp 3 none ∈ TB := mTB (List.mem_of_getElem? (i := 1323) (by decide +kernel)) rfl
theorem kw1325 : Cond.methodLink RX9 182 yX2_bitsAt ∈ TB := mTB (List.mem_of_getElem? (i := 1325) (by decide +kernel)) rfl
theorem kw1326 : Cond.instanceMethod yX2_bitsAt ∈ TB := mTB (List.mem_of_getElem? (i := 1326) (by decide +kernel)) rfl
theorem kw1327 : Cond.selects RX2 yX2_bitsAt yX2_bitsAt ∈ TB := mTB (List.mem_of_getElem? (i := 1327) (by decide +kernel)) rfl
theorem kw1328 : Cond.code yX2_bitsAt cX2_bitsAt 5 (some .long) ∈ TB := mTB (List.mem_of_getElem? (i := 1328) (by decide +kernel)) rfl
theorem kw1329 : Cond.methodLink RL 235 yX10_at ∈ TB := mTB (List.mem_of_getElem? (i := 1329) (by decide +kernel)) rfl
theorem kw1330 : Cond.instanceMethod yX10_at ∈ TB := mTB (List.mem_of_getElem? (i := 1330) (by decide +kernel)) rfl
theorem kw1331 : Cond.selects RX10 yX10_at yX10_at ∈ TB := mTB (List.mem_of_getElem? (i := 1331) (by decide +kernel)) rfl
theorem kw1332 : Cond.code yX10_at cX10_at 3 (some .long) ∈ TB := mTB (List.mem_of_getElem? (i := 1332) (by decide +kernel)) rfl
theorem kw1333 : Cond.methodLink RL 238 yX9_differs ∈ TB := mTB (List.mem_of_getElem? (i := 1333) (by decide +kernel)) rfl
theorem kw1334 : Cond.instanceMethod yX9_differs ∈ TB := mTB (List.mem_of_getElem? (i := 1334) (by decide +kernel)) rfl
theorem kw1335 : Cond.selects RX9 yX9_differs yX9_differs ∈ TB := mTB (List.mem_of_getElem? (i := 1335) (by decide +kernel)) rfl
theorem kw1336 : Cond.code yX9_differs cX9_differs 10 (some .int) ∈ TB := mTB (List.mem_of_getElem? (i := 1336) (by decide +kernel)) rfl
theorem kw1337 : Cond.constantLong RX9 186 (-1) ∈ TB := mTB (List.mem_of_getElem? (i := 1337) (by decide +kernel)) rfl
theorem kw1338 : Cond.methodLink RX9 188 yJ13_bitCount_95d88 ∈ TB := mTB (List.mem_of_getElem? (i := 1338) (by decide +kernel)) rfl
theorem kw1339 : Cond.static yJ13_bitCount_95d88 ∈ TB := mTB (List.mem_of_getElem? (i := 1339) (by decide +kernel)) rfl
theorem kw1340 : Cond.code yJ13_bitCount_95d88 cJ13_bitCount_95d88 2 (some .int) ∈ TB := mTB (List.mem_of_getElem? (i := 1340) (by decide +kernel)) rfl
theorem kw1341 : Cond.constantLong RJ13 314 6148914691236517205 ∈ TB := mTB (List.mem_of_getElem? (i := 1341) (by decide +kernel)) rfl
theorem kw1342 : Cond.constantLong RJ13 316 3689348814741910323 ∈ TB := mTB (List.mem_of_getElem? (i := 1342) (by decide +kernel)) rfl
theorem kw1343 : Cond.constantLong RJ13 318 1085102592571150095 ∈ TB := mTB (List.mem_of_getElem? (i := 1343) (by decide +kernel)) rfl
theorem kw1344 : Cond.constantLong RL 242 (-1) ∈ TB := mTB (List.mem_of_getElem? (i := 1344) (by decide +kernel)) rfl
theorem kw1345 : Cond.methodLink RL 244 yJ13_bitCount_95d88 ∈ TB := mTB (List.mem_of_getElem? (i := 1345) (by decide +kernel)) rfl
theorem kw1346 : Cond.methodLink RL 250 yX9_fullest ∈ TB := mTB (List.mem_of_getElem? (i := 1346) (by decide +kernel)) rfl
theorem kw1347 : Cond.instanceMethod yX9_fullest ∈ TB := mTB (List.mem_of_getElem? (i := 1347) (by decide +kernel)) rfl
theorem kw1348 : Cond.selects RX9 yX9_fullest yX9_fullest ∈ TB := mTB (List.mem_of_getElem? (i := 1348) (by decide +kernel)) rfl
theorem kw1349 : Cond.code yX9_fullest cX9_fullest 2 (some .int) ∈ TB := mTB (List.mem_of_getElem? (i := 1349) (by decide +kernel)) rfl
theorem kw1350 : Cond.methodLink RX9 200 yX2_stampOfMostMembers ∈ TB := mTB (List.mem_of_getElem? (i := 1350) (by decide +kernel)) rfl
theorem kw1351 : Cond.instanceMethod yX2_stampOfMostMembers ∈ TB := mTB (List.mem_of_getElem? (i := 1351) (by decide +kernel)) rfl
theorem kw1352 : Cond.selects RX2 yX2_stampOfMostMembers yX2_stampOfMostMembers ∈ TB := mTB (List.mem_of_getElem? (i := 1352) (by decide +kernel)) rfl
theorem kw1353 : Cond.code yX2_stampOfMostMembers cX2_stampOfMostMembers 6 (some .int) ∈ TB := mTB (List.mem_of_getElem? (i := 1353) (by decide +kernel)) rfl
theorem kw1354 : Cond.methodLink RX2 44 yJ13_bitCount_95d88 ∈ TB := mTB (List.mem_of_getElem? (i := 1354) (by decide +kernel)) rfl
theorem kw1355 : Cond.methodLink RL 257 yX9_since ∈ TB := mTB (List.mem_of_getElem? (i := 1355) (by decide +kernel)) rfl
theorem kw1356 : Cond.instanceMethod yX9_since ∈ TB := mTB (List.mem_of_getElem? (i := 1356) (by decide +kernel)) rfl
theorem kw1357 : Cond.selects RX9 yX9_since yX9_since ∈ TB := mTB (List.mem_of_getElem? (i := 1357) (by decide +kernel)) rfl
theorem kw1358 : Cond.code yX9_since cX9_since 4 (some .int) ∈ TB := mTB (List.mem_of_getElem? (i := 1358) (by decide +kernel)) rfl
theorem kw1359 : Cond.methodLink RX9 197 yX2_latestChangeOf ∈ TB := mTB (List.mem_of_getElem? (i := 1359) (by decide +kernel)) rfl
theorem kw1360 : Cond.instanceMethod yX2_latestChangeOf ∈ TB := mTB (List.mem_of_getElem? (i := 1360) (by decide +kernel)) rfl
theorem kw1361 : Cond.selects RX2 yX2_latestChangeOf yX2_latestChangeOf ∈ TB := mTB (List.mem_of_getElem? (i := 1361) (by decide +kernel)) rfl
theorem kw1362 : Cond.code yX2_latestChangeOf cX2_latestChangeOf 8 (some .int) ∈ TB := mTB (List.mem_of_getElem? (i := 1362) (by decide +kernel)) rfl
theorem kw1363 : Cond.methodLink RL 260 yX10_bits ∈ TB := mTB (List.mem_of_getElem? (i := 1363) (by decide +kernel)) rfl
theorem kw1364 : Cond.methodLink RL 264 yX9_common ∈ TB := mTB (List.mem_of_getElem? (i := 1364) (by decide +kernel)) rfl
theorem kw1365 : Cond.instanceMethod yX9_common ∈ TB := mTB (List.mem_of_getElem? (i := 1365) (by decide +kernel)) rfl
theorem kw1366 : Cond.selects RX9 yX9_common yX9_common ∈ TB := mTB (List.mem_of_getElem? (i := 1366) (by decide +kernel)) rfl
theorem kw1367 : Cond.code yX9_common cX9_common 5 (some .int) ∈ TB := mTB (List.mem_of_getElem? (i := 1367) (by decide +kernel)) rfl
theorem kw1368 : Cond.methodLink RX9 235 yX7_bits ∈ TB := mTB (List.mem_of_getElem? (i := 1368) (by decide +kernel)) rfl
theorem kw1369 : Cond.instanceMethod yX7_bits ∈ TB := mTB (List.mem_of_getElem? (i := 1369) (by decide +kernel)) rfl
theorem kw1370 : Cond.selects RX7 yX7_bits yX7_bits ∈ TB := mTB (List.mem_of_getElem? (i := 1370) (by decide +kernel)) rfl
theorem kw1371 : Cond.code yX7_bits cX7_bits 4 (some .long) ∈ TB := mTB (List.mem_of_getElem? (i := 1371) (by decide +kernel)) rfl
theorem kw1372 : Cond.methodLink RL 267 yX9_isWithin ∈ TB := mTB (List.mem_of_getElem? (i := 1372) (by decide +kernel)) rfl
theorem kw1373 : Cond.instanceMethod yX9_isWithin ∈ TB := mTB (List.mem_of_getElem? (i := 1373) (by decide +kernel)) rfl
theorem kw1374 : Cond.selects RX9 yX9_isWithin yX9_isWithin ∈ TB := mTB (List.mem_of_getElem? (i := 1374) (by decide +kernel)) rfl
theorem kw1375 : Cond.code yX9_isWithin cX9_isWithin 5 (some .boolean) ∈ TB := mTB (List.mem_of_getElem? (i := 1375) (by decide +kernel)) rfl
theorem kw1376 : Cond.methodLink RL 271 yX9_likeness ∈ TB := mTB (List.mem_of_getElem? (i := 1376) (by decide +kernel)) rfl
theorem kw1377 : Cond.instanceMethod yX9_likeness ∈ TB := mTB (List.mem_of_getElem? (i := 1377) (by decide +kernel)) rfl
theorem kw1378 : Cond.selects RX9 yX9_likeness yX9_likeness ∈ TB := mTB (List.mem_of_getElem? (i := 1378) (by decide +kernel)) rfl
theorem kw1379 : Cond.code yX9_likeness cX9_likeness 8 (some .double) ∈ TB := mTB (List.mem_of_getElem? (i := 1379) (by decide +kernel)) rfl
theorem kw1380 : Cond.sameMethod RJ5 RJ5 "append" "(Ljava/lang/String;)Ljava/lang/AbstractStringBuilder;" ∈ TB := mTB (List.mem_of_getElem? (i := 1380) (by decide +kernel)) rfl
theorem kw1382 : Cond.sameMethod RJ5 RJ5 "ensureCapacityInternal" "(I)V" ∈ TB := mTB (List.mem_of_getElem? (i := 1382) (by decide +kernel)) rfl
theorem kw1383 : Cond.sameMethod RJ5 RJ5 "newCapacity" "(I)I" ∈ TB := mTB (List.mem_of_getElem? (i := 1383) (by decide +kernel)) rfl
theorem kw1384 : Cond.sameMethod RJ5 RJ5 "putStringAt" "(ILjava/lang/String;)V" ∈ TB := mTB (List.mem_of_getElem? (i := 1384) (by decide +kernel)) rfl
theorem kw1385 : Cond.sameMethod RJ5 RJ5 "inflateIfNeededFor" "(Ljava/lang/String;)V" ∈ TB := mTB (List.mem_of_getElem? (i := 1385) (by decide +kernel)) rfl
theorem kw1387 : Cond.sameMethod RJ5 RJ5 "append" "(I)Ljava/lang/AbstractStringBuilder;" ∈ TB := mTB (List.mem_of_getElem? (i := 1387) (by decide +kernel)) rfl
theorem kw1388 : Cond.selects RJ4 yJ5_append_cf1ce yJ4_append_cf1ce ∈ TB := mTB (List.mem_of_getElem? (i := 1388) (by decide +kernel)) rfl
theorem kw1389 : Cond.sameMethod RJ5 RJ5 "append" "(C)Ljava/lang/AbstractStringBuilder;" ∈ TB := mTB (List.mem_of_getElem? (i := 1389) (by decide +kernel)) rfl
theorem kw1390 : Cond.selects RJ4 yJ4_length_8abf5 yJ4_length_8abf5 ∈ TB := mTB (List.mem_of_getElem? (i := 1390) (by decide +kernel)) rfl
theorem iwJ0 : ∀ w ∈ u_ws RJ0 TJ0 2, w ∈ TB := by
  show ∀ w ∈ [u_lay RJ0 TJ0 0, u_lay RJ0 TJ0 1], w ∈ TB
  simp only [List.forall_mem_cons]
  exact ⟨mTB (List.mem_of_getElem? (i := 641) (by decide +kernel)) rfl, mTB (List.mem_of_getElem? (i := 643) (by decide +kernel)) rfl, fun _ h => nomatch h⟩
theorem iwJ4 : ∀ w ∈ u_ws RJ4 TJ4 4, w ∈ TB := by
  show ∀ w ∈ [u_lay RJ4 TJ4 0, u_lay RJ4 TJ4 1, u_lay RJ4 TJ4 2, u_lay RJ4 TJ4 3], w ∈ TB
  simp only [List.forall_mem_cons]
  exact ⟨mTB (List.mem_of_getElem? (i := 433) (by decide +kernel)) rfl, mTB (List.mem_of_getElem? (i := 435) (by decide +kernel)) rfl, mTB (List.mem_of_getElem? (i := 437) (by decide +kernel)) rfl, mTB (List.mem_of_getElem? (i := 439) (by decide +kernel)) rfl, fun _ h => nomatch h⟩
theorem iwX0 : ∀ w ∈ u_ws RX0 TX0 8, w ∈ TB := by
  show ∀ w ∈ [u_lay RX0 TX0 0, u_lay RX0 TX0 1, u_lay RX0 TX0 2, u_lay RX0 TX0 3, u_lay RX0 TX0 4, u_lay RX0 TX0 5, u_lay RX0 TX0 6, u_lay RX0 TX0 7], w ∈ TB
  simp only [List.forall_mem_cons]
  exact ⟨mTB (List.mem_of_getElem? (i := 227) (by decide +kernel)) rfl, mTB (List.mem_of_getElem? (i := 229) (by decide +kernel)) rfl, mTB (List.mem_of_getElem? (i := 231) (by decide +kernel)) rfl, mTB (List.mem_of_getElem? (i := 233) (by decide +kernel)) rfl, mTB (List.mem_of_getElem? (i := 235) (by decide +kernel)) rfl, mTB (List.mem_of_getElem? (i := 237) (by decide +kernel)) rfl, mTB (List.mem_of_getElem? (i := 239) (by decide +kernel)) rfl, mTB (List.mem_of_getElem? (i := 241) (by decide +kernel)) rfl, fun _ h => nomatch h⟩
theorem iwX1 : ∀ w ∈ u_ws RX1 TX1 2, w ∈ TB := by
  show ∀ w ∈ [u_lay RX1 TX1 0, u_lay RX1 TX1 1], w ∈ TB
  simp only [List.forall_mem_cons]
  exact ⟨mTB (List.mem_of_getElem? (i := 78) (by decide +kernel)) rfl, mTB (List.mem_of_getElem? (i := 80) (by decide +kernel)) rfl, fun _ h => nomatch h⟩
theorem iwX2 : ∀ w ∈ u_ws RX2 TX2 6, w ∈ TB := by
  show ∀ w ∈ [u_lay RX2 TX2 0, u_lay RX2 TX2 1, u_lay RX2 TX2 2, u_lay RX2 TX2 3, u_lay RX2 TX2 4, u_lay RX2 TX2 5], w ∈ TB
  simp only [List.forall_mem_cons]
  exact ⟨mTB (List.mem_of_getElem? (i := 150) (by decide +kernel)) rfl, mTB (List.mem_of_getElem? (i := 152) (by decide +kernel)) rfl, mTB (List.mem_of_getElem? (i := 154) (by decide +kernel)) rfl, mTB (List.mem_of_getElem? (i := 156) (by decide +kernel)) rfl, mTB (List.mem_of_getElem? (i := 158) (by decide +kernel)) rfl, mTB (List.mem_of_getElem? (i := 160) (by decide +kernel)) rfl, fun _ h => nomatch h⟩
theorem iwX3 : ∀ w ∈ u_ws RX3 TX3 9, w ∈ TB := by
  show ∀ w ∈ [u_lay RX3 TX3 0, u_lay RX3 TX3 1, u_lay RX3 TX3 2, u_lay RX3 TX3 3, u_lay RX3 TX3 4, u_lay RX3 TX3 5, u_lay RX3 TX3 6, u_lay RX3 TX3 7, u_lay RX3 TX3 8], w ∈ TB
  simp only [List.forall_mem_cons]
  exact ⟨mTB (List.mem_of_getElem? (i := 829) (by decide +kernel)) rfl, mTB (List.mem_of_getElem? (i := 831) (by decide +kernel)) rfl, mTB (List.mem_of_getElem? (i := 833) (by decide +kernel)) rfl, mTB (List.mem_of_getElem? (i := 835) (by decide +kernel)) rfl, mTB (List.mem_of_getElem? (i := 837) (by decide +kernel)) rfl, mTB (List.mem_of_getElem? (i := 839) (by decide +kernel)) rfl, mTB (List.mem_of_getElem? (i := 841) (by decide +kernel)) rfl, mTB (List.mem_of_getElem? (i := 843) (by decide +kernel)) rfl, mTB (List.mem_of_getElem? (i := 845) (by decide +kernel)) rfl, fun _ h => nomatch h⟩
theorem iwX4 : ∀ w ∈ u_ws RX4 TX4 2, w ∈ TB := by
  show ∀ w ∈ [u_lay RX4 TX4 0, u_lay RX4 TX4 1], w ∈ TB
  simp only [List.forall_mem_cons]
  exact ⟨mTB (List.mem_of_getElem? (i := 112) (by decide +kernel)) rfl, mTB (List.mem_of_getElem? (i := 114) (by decide +kernel)) rfl, fun _ h => nomatch h⟩
theorem iwX5 : ∀ w ∈ u_ws RX5 TX5 9, w ∈ TB := by
  show ∀ w ∈ [u_lay RX5 TX5 0, u_lay RX5 TX5 1, u_lay RX5 TX5 2, u_lay RX5 TX5 3, u_lay RX5 TX5 4, u_lay RX5 TX5 5, u_lay RX5 TX5 6, u_lay RX5 TX5 7, u_lay RX5 TX5 8], w ∈ TB
  simp only [List.forall_mem_cons]
  exact ⟨mTB (List.mem_of_getElem? (i := 266) (by decide +kernel)) rfl, mTB (List.mem_of_getElem? (i := 268) (by decide +kernel)) rfl, mTB (List.mem_of_getElem? (i := 270) (by decide +kernel)) rfl, mTB (List.mem_of_getElem? (i := 272) (by decide +kernel)) rfl, mTB (List.mem_of_getElem? (i := 274) (by decide +kernel)) rfl, mTB (List.mem_of_getElem? (i := 276) (by decide +kernel)) rfl, mTB (List.mem_of_getElem? (i := 278) (by decide +kernel)) rfl, mTB (List.mem_of_getElem? (i := 280) (by decide +kernel)) rfl, mTB (List.mem_of_getElem? (i := 282) (by decide +kernel)) rfl, fun _ h => nomatch h⟩
theorem iwX7 : ∀ w ∈ u_ws RX7 TX7 7, w ∈ TB := by
  show ∀ w ∈ [u_lay RX7 TX7 0, u_lay RX7 TX7 1, u_lay RX7 TX7 2, u_lay RX7 TX7 3, u_lay RX7 TX7 4, u_lay RX7 TX7 5, u_lay RX7 TX7 6], w ∈ TB
  simp only [List.forall_mem_cons]
  exact ⟨mTB (List.mem_of_getElem? (i := 185) (by decide +kernel)) rfl, mTB (List.mem_of_getElem? (i := 187) (by decide +kernel)) rfl, mTB (List.mem_of_getElem? (i := 189) (by decide +kernel)) rfl, mTB (List.mem_of_getElem? (i := 191) (by decide +kernel)) rfl, mTB (List.mem_of_getElem? (i := 193) (by decide +kernel)) rfl, mTB (List.mem_of_getElem? (i := 195) (by decide +kernel)) rfl, mTB (List.mem_of_getElem? (i := 197) (by decide +kernel)) rfl, fun _ h => nomatch h⟩
theorem iwX8 : ∀ w ∈ u_ws RX8 TX8 3, w ∈ TB := by
  show ∀ w ∈ [u_lay RX8 TX8 0, u_lay RX8 TX8 1, u_lay RX8 TX8 2], w ∈ TB
  simp only [List.forall_mem_cons]
  exact ⟨mTB (List.mem_of_getElem? (i := 96) (by decide +kernel)) rfl, mTB (List.mem_of_getElem? (i := 98) (by decide +kernel)) rfl, mTB (List.mem_of_getElem? (i := 100) (by decide +kernel)) rfl, fun _ h => nomatch h⟩
theorem iwX9 : ∀ w ∈ u_ws RX9 TX9 6, w ∈ TB := by
  show ∀ w ∈ [u_lay RX9 TX9 0, u_lay RX9 TX9 1, u_lay RX9 TX9 2, u_lay RX9 TX9 3, u_lay RX9 TX9 4, u_lay RX9 TX9 5], w ∈ TB
  simp only [List.forall_mem_cons]
  exact ⟨mTB (List.mem_of_getElem? (i := 295) (by decide +kernel)) rfl, mTB (List.mem_of_getElem? (i := 297) (by decide +kernel)) rfl, mTB (List.mem_of_getElem? (i := 299) (by decide +kernel)) rfl, mTB (List.mem_of_getElem? (i := 301) (by decide +kernel)) rfl, mTB (List.mem_of_getElem? (i := 303) (by decide +kernel)) rfl, mTB (List.mem_of_getElem? (i := 305) (by decide +kernel)) rfl, fun _ h => nomatch h⟩
theorem iwX10 : ∀ w ∈ u_ws RX10 TX10 10, w ∈ TB := by
  show ∀ w ∈ [u_lay RX10 TX10 0, u_lay RX10 TX10 1, u_lay RX10 TX10 2, u_lay RX10 TX10 3, u_lay RX10 TX10 4, u_lay RX10 TX10 5, u_lay RX10 TX10 6, u_lay RX10 TX10 7, u_lay RX10 TX10 8, u_lay RX10 TX10 9], w ∈ TB
  simp only [List.forall_mem_cons]
  exact ⟨mTB (List.mem_of_getElem? (i := 349) (by decide +kernel)) rfl, mTB (List.mem_of_getElem? (i := 351) (by decide +kernel)) rfl, mTB (List.mem_of_getElem? (i := 353) (by decide +kernel)) rfl, mTB (List.mem_of_getElem? (i := 355) (by decide +kernel)) rfl, mTB (List.mem_of_getElem? (i := 357) (by decide +kernel)) rfl, mTB (List.mem_of_getElem? (i := 359) (by decide +kernel)) rfl, mTB (List.mem_of_getElem? (i := 361) (by decide +kernel)) rfl, mTB (List.mem_of_getElem? (i := 363) (by decide +kernel)) rfl, mTB (List.mem_of_getElem? (i := 365) (by decide +kernel)) rfl, mTB (List.mem_of_getElem? (i := 367) (by decide +kernel)) rfl, fun _ h => nomatch h⟩
theorem iwX11 : ∀ w ∈ u_ws RX11 TX11 8, w ∈ TB := by
  show ∀ w ∈ [u_lay RX11 TX11 0, u_lay RX11 TX11 1, u_lay RX11 TX11 2, u_lay RX11 TX11 3, u_lay RX11 TX11 4, u_lay RX11 TX11 5, u_lay RX11 TX11 6, u_lay RX11 TX11 7], w ∈ TB
  simp only [List.forall_mem_cons]
  exact ⟨mTB (List.mem_of_getElem? (i := 1141) (by decide +kernel)) rfl, mTB (List.mem_of_getElem? (i := 1143) (by decide +kernel)) rfl, mTB (List.mem_of_getElem? (i := 1145) (by decide +kernel)) rfl, mTB (List.mem_of_getElem? (i := 1147) (by decide +kernel)) rfl, mTB (List.mem_of_getElem? (i := 1149) (by decide +kernel)) rfl, mTB (List.mem_of_getElem? (i := 1151) (by decide +kernel)) rfl, mTB (List.mem_of_getElem? (i := 1153) (by decide +kernel)) rfl, mTB (List.mem_of_getElem? (i := 1155) (by decide +kernel)) rfl, fun _ h => nomatch h⟩
theorem iwX12 : ∀ w ∈ u_ws RX12 TX12 9, w ∈ TB := by
  show ∀ w ∈ [u_lay RX12 TX12 0, u_lay RX12 TX12 1, u_lay RX12 TX12 2, u_lay RX12 TX12 3, u_lay RX12 TX12 4, u_lay RX12 TX12 5, u_lay RX12 TX12 6, u_lay RX12 TX12 7, u_lay RX12 TX12 8], w ∈ TB
  simp only [List.forall_mem_cons]
  exact ⟨mTB (List.mem_of_getElem? (i := 387) (by decide +kernel)) rfl, mTB (List.mem_of_getElem? (i := 389) (by decide +kernel)) rfl, mTB (List.mem_of_getElem? (i := 391) (by decide +kernel)) rfl, mTB (List.mem_of_getElem? (i := 393) (by decide +kernel)) rfl, mTB (List.mem_of_getElem? (i := 395) (by decide +kernel)) rfl, mTB (List.mem_of_getElem? (i := 397) (by decide +kernel)) rfl, mTB (List.mem_of_getElem? (i := 399) (by decide +kernel)) rfl, mTB (List.mem_of_getElem? (i := 401) (by decide +kernel)) rfl, mTB (List.mem_of_getElem? (i := 403) (by decide +kernel)) rfl, fun _ h => nomatch h⟩
def vNF : List (String × Nat × String × String × String × String) := [(RX3, 163, "TwinSets$Input", "bytes", "[B", "TwinSets"), (RX9, 48, "TwinSets$Input", "length", "I", "TwinSets"), (RX9, 106, "TwinSets$UndoHistory", "count", "I", "TwinSets"), (RX9, 171, "TwinSets$Log", "stamps", "[I", "TwinSets"), (RX9, 172, "TwinSets$Log", "numbers", "[I", "TwinSets"), (RX9, 175, "TwinSets$Log", "kinds", "[I", "TwinSets"), (RX9, 143, "TwinSets$Log", "count", "I", "TwinSets"), (RX9, 138, "TwinSets$Log", "firstStamp", "I", "TwinSets"), (RX5, 123, "TwinSets$TwinRows", "members", "[I", "TwinSets"), (RX9, 157, "TwinSets$TwinRows", "members", "[I", "TwinSets"), (RX9, 154, "TwinSets$TwinRows", "places", "[I", "TwinSets"), (RX5, 126, "TwinSets$TwinRows", "places", "[I", "TwinSets"), (RX5, 93, "TwinSets$TwinRows", "stamps", "[I", "TwinSets"), (RX9, 166, "TwinSets$TwinRows", "stamps", "[I", "TwinSets"), (RX5, 96, "TwinSets$TwinRows", "log", "LTwinSets$Log;", "TwinSets"), (RX9, 134, "TwinSets$TwinRows", "log", "LTwinSets$Log;", "TwinSets"), (RX5, 72, "TwinSets$TwinRows", "name", "Ljava/lang/String;", "TwinSets"), (RX5, 86, "TwinSets$TwinRows", "size", "I", "TwinSets"), (RX9, 126, "TwinSets$TwinRows", "size", "I", "TwinSets"), (RX9, 131, "TwinSets$TwinRows", "generation", "I", "TwinSets"), (RX5, 129, "TwinSets$TwinRows", "generation", "I", "TwinSets"), (RX5, 48, "TwinSets$Cursor", "isInUse", "Z", "TwinSets"), (RX9, 277, "TwinSets$Cursor", "isInUse", "Z", "TwinSets"), (RX5, 52, "TwinSets$Cursor", "isOpen", "Z", "TwinSets"), (RX9, 215, "TwinSets$Cursor", "isOpen", "Z", "TwinSets"), (RX9, 219, "TwinSets$Cursor", "isStrict", "Z", "TwinSets"), (RX9, 207, "TwinSets$Cursor", "set", "I", "TwinSets"), (RX5, 139, "TwinSets$Cursor", "set", "I", "TwinSets"), (RX5, 120, "TwinSets$Cursor", "position", "I", "TwinSets"), (RX9, 212, "TwinSets$Cursor", "position", "I", "TwinSets"), (RX9, 222, "TwinSets$Cursor", "madeAt", "I", "TwinSets"), (RX9, 225, "TwinSets$Cursor", "metCount", "I", "TwinSets"), (RX5, 148, "TwinSets$Cursor", "metCount", "I", "TwinSets"), (RX9, 228, "TwinSets$Cursor", "lastMet", "I", "TwinSets"), (RX5, 151, "TwinSets$Cursor", "lastMet", "I", "TwinSets"), (RX3, 128, "TwinSets$State", "sets", "[LTwinSets$TwinRows;", "TwinSets"), (RX9, 283, "TwinSets$State", "sets", "[LTwinSets$TwinRows;", "TwinSets"), (RX9, 270, "TwinSets$State", "cursors", "[LTwinSets$Cursor;", "TwinSets"), (RX9, 118, "TwinSets$State", "marks", "[I", "TwinSets"), (RX3, 125, "TwinSets$State", "universe", "I", "TwinSets"), (RX9, 87, "TwinSets$State", "universe", "I", "TwinSets"), (RX9, 90, "TwinSets$State", "horizon", "I", "TwinSets"), (RX3, 94, "TwinSets$State", "setCount", "I", "TwinSets"), (RX9, 84, "TwinSets$State", "setCount", "I", "TwinSets"), (RX9, 96, "TwinSets$State", "markCount", "I", "TwinSets"), (RX3, 142, "TwinSets$State", "markCount", "I", "TwinSets"), (RX9, 93, "TwinSets$State", "clock", "I", "TwinSets"), (RX9, 103, "TwinSets$State", "cost", "I", "TwinSets"), (RX12, 40, "TwinSetsLaw$Box", "size", "I", "TwinSetsLaw"), (RL, 143, "TwinSetsLaw$Box", "size", "I", "TwinSetsLaw"), (RX12, 68, "TwinSetsLaw$Box", "generation", "I", "TwinSetsLaw"), (RL, 146, "TwinSetsLaw$Box", "generation", "I", "TwinSetsLaw"), (RL, 179, "TwinSetsLaw$Box", "events", "I", "TwinSetsLaw"), (RX12, 26, "TwinSetsLaw$Box", "members", "[I", "TwinSetsLaw"), (RL, 160, "TwinSetsLaw$Box", "members", "[I", "TwinSetsLaw"), (RX12, 29, "TwinSetsLaw$Box", "places", "[I", "TwinSetsLaw"), (RL, 163, "TwinSetsLaw$Box", "places", "[I", "TwinSetsLaw"), (RX11, 24, "TwinSetsLaw$Box", "stamps", "[I", "TwinSetsLaw"), (RX12, 50, "TwinSetsLaw$Box", "stamps", "[I", "TwinSetsLaw"), (RL, 176, "TwinSetsLaw$Box", "stamps", "[I", "TwinSetsLaw"), (RL, 186, "TwinSetsLaw$Box", "stamp", "[I", "TwinSetsLaw"), (RL, 189, "TwinSetsLaw$Box", "number", "[I", "TwinSetsLaw"), (RL, 192, "TwinSetsLaw$Box", "kind", "[I", "TwinSetsLaw"), (RL, 253, "TwinSetsLaw$Box", "then", "[J", "TwinSetsLaw"), (RL, 46, "TwinSetsLaw$Sets", "many", "I", "TwinSetsLaw"), (RL, 39, "TwinSetsLaw$Sets", "universe", "I", "TwinSetsLaw"), (RL, 43, "TwinSetsLaw$Sets", "horizon", "I", "TwinSetsLaw"), (RL, 99, "TwinSetsLaw$Sets", "clock", "I", "TwinSetsLaw"), (RL, 223, "TwinSetsLaw$Sets", "cost", "I", "TwinSetsLaw"), (RL, 96, "TwinSetsLaw$Sets", "marks", "I", "TwinSetsLaw"), (RL, 80, "TwinSetsLaw$Sets", "box", "[LTwinSetsLaw$Box;", "TwinSetsLaw"), (RL, 124, "TwinSetsLaw$Sets", "cursor", "[LTwinSetsLaw$Cursor;", "TwinSetsLaw"), (RL, 92, "TwinSetsLaw$Sets", "mark", "[I", "TwinSetsLaw"), (RX9, 75, "TwinSets$Parser", "errorCode", "I", "TwinSets"), (RX9, 71, "TwinSets$Parser", "errorAt", "I", "TwinSets"), (RX12, 61, "TwinSetsLaw$Cursor", "of", "LTwinSetsLaw$Box;", "TwinSetsLaw"), (RL, 128, "TwinSetsLaw$Cursor", "of", "LTwinSetsLaw$Box;", "TwinSetsLaw"), (RL, 195, "TwinSetsLaw$Cursor", "set", "I", "TwinSetsLaw"), (RX12, 65, "TwinSetsLaw$Cursor", "position", "I", "TwinSetsLaw"), (RL, 197, "TwinSetsLaw$Cursor", "position", "I", "TwinSetsLaw"), (RL, 203, "TwinSetsLaw$Cursor", "made", "I", "TwinSetsLaw"), (RX12, 74, "TwinSetsLaw$Cursor", "met", "I", "TwinSetsLaw"), (RL, 206, "TwinSetsLaw$Cursor", "met", "I", "TwinSetsLaw"), (RX12, 77, "TwinSetsLaw$Cursor", "last", "I", "TwinSetsLaw"), (RL, 209, "TwinSetsLaw$Cursor", "last", "I", "TwinSetsLaw"), (RX12, 57, "TwinSetsLaw$Cursor", "open", "Z", "TwinSetsLaw"), (RL, 134, "TwinSetsLaw$Cursor", "open", "Z", "TwinSetsLaw"), (RL, 200, "TwinSetsLaw$Cursor", "strict", "Z", "TwinSetsLaw")]
def vNM : List (String × Nat × MethodName × String) := [(RX9, 9, yX1_init, "TwinSets"), (RX9, 18, yX8_init, "TwinSets"), (RX9, 25, yX4_init, "TwinSets"), (RX5, 27, yX7_init, "TwinSets"), (RX7, 23, yX2_init, "TwinSets"), (RX5, 28, yX0_init, "TwinSets"), (RL, 34, yX12_init, "TwinSetsLaw"), (RX12, 9, yX10_init, "TwinSetsLaw"), (RL, 283, yX11_init, "TwinSetsLaw")]
end
section
theorem dX0_init_0 : decode cX0_init 0 = .ok (.aload_n 0, 1) := by decide +kernel
theorem dX0_init_1 : decode cX0_init 1 = .ok (.invokespecial 3, 3) := by decide +kernel
theorem dX0_init_4 : decode cX0_init 4 = .ok (.return_, 1) := by decide +kernel
theorem dX0_begin_0 : decode cX0_begin 0 = .ok (.aload_n 0, 1) := by decide +kernel
theorem dX0_begin_1 : decode cX0_begin 1 = .ok (.iconst 1, 1) := by decide +kernel
theorem dX0_begin_2 : decode cX0_begin 2 = .ok (.putfield 9, 3) := by decide +kernel
theorem dX0_begin_5 : decode cX0_begin 5 = .ok (.aload_n 0, 1) := by decide +kernel
theorem dX0_begin_6 : decode cX0_begin 6 = .ok (.iconst 1, 1) := by decide +kernel
theorem dX0_begin_7 : decode cX0_begin 7 = .ok (.putfield 15, 3) := by decide +kernel
theorem dX0_begin_10 : decode cX0_begin 10 = .ok (.aload_n 0, 1) := by decide +kernel
theorem dX0_begin_11 : decode cX0_begin 11 = .ok (.iload_n 2, 1) := by decide +kernel
theorem dX0_begin_12 : decode cX0_begin 12 = .ok (.putfield 18, 3) := by decide +kernel
theorem dX0_begin_15 : decode cX0_begin 15 = .ok (.aload_n 0, 1) := by decide +kernel
theorem dX0_begin_16 : decode cX0_begin 16 = .ok (.iload_n 1, 1) := by decide +kernel
theorem dX0_begin_17 : decode cX0_begin 17 = .ok (.putfield 21, 3) := by decide +kernel
theorem dX0_begin_20 : decode cX0_begin 20 = .ok (.aload_n 0, 1) := by decide +kernel
theorem dX0_begin_21 : decode cX0_begin 21 = .ok (.iconst 0, 1) := by decide +kernel
theorem dX0_begin_22 : decode cX0_begin 22 = .ok (.putfield 25, 3) := by decide +kernel
theorem dX0_begin_25 : decode cX0_begin 25 = .ok (.aload_n 0, 1) := by decide +kernel
theorem dX0_begin_26 : decode cX0_begin 26 = .ok (.iload_n 3, 1) := by decide +kernel
theorem dX0_begin_27 : decode cX0_begin 27 = .ok (.putfield 28, 3) := by decide +kernel
theorem dX0_begin_30 : decode cX0_begin 30 = .ok (.aload_n 0, 1) := by decide +kernel
theorem dX0_begin_31 : decode cX0_begin 31 = .ok (.iconst 0, 1) := by decide +kernel
theorem dX0_begin_32 : decode cX0_begin 32 = .ok (.putfield 31, 3) := by decide +kernel
theorem dX0_begin_35 : decode cX0_begin 35 = .ok (.aload_n 0, 1) := by decide +kernel
theorem dX0_begin_36 : decode cX0_begin 36 = .ok (.iconst (-1), 1) := by decide +kernel
theorem dX0_begin_37 : decode cX0_begin 37 = .ok (.putfield 34, 3) := by decide +kernel
theorem dX0_begin_40 : decode cX0_begin 40 = .ok (.return_, 1) := by decide +kernel
theorem dX0_copyFrom_0 : decode cX0_copyFrom 0 = .ok (.aload_n 0, 1) := by decide +kernel
theorem dX0_copyFrom_1 : decode cX0_copyFrom 1 = .ok (.aload_n 1, 1) := by decide +kernel
theorem dX0_copyFrom_2 : decode cX0_copyFrom 2 = .ok (.getfield 9, 3) := by decide +kernel
theorem dX0_copyFrom_5 : decode cX0_copyFrom 5 = .ok (.putfield 9, 3) := by decide +kernel
theorem dX0_copyFrom_8 : decode cX0_copyFrom 8 = .ok (.aload_n 0, 1) := by decide +kernel
theorem dX0_copyFrom_9 : decode cX0_copyFrom 9 = .ok (.aload_n 1, 1) := by decide +kernel
theorem dX0_copyFrom_10 : decode cX0_copyFrom 10 = .ok (.getfield 15, 3) := by decide +kernel
theorem dX0_copyFrom_13 : decode cX0_copyFrom 13 = .ok (.putfield 15, 3) := by decide +kernel
theorem dX0_copyFrom_16 : decode cX0_copyFrom 16 = .ok (.aload_n 0, 1) := by decide +kernel
theorem dX0_copyFrom_17 : decode cX0_copyFrom 17 = .ok (.aload_n 1, 1) := by decide +kernel
theorem dX0_copyFrom_18 : decode cX0_copyFrom 18 = .ok (.getfield 18, 3) := by decide +kernel
theorem dX0_copyFrom_21 : decode cX0_copyFrom 21 = .ok (.putfield 18, 3) := by decide +kernel
theorem dX0_copyFrom_24 : decode cX0_copyFrom 24 = .ok (.aload_n 0, 1) := by decide +kernel
theorem dX0_copyFrom_25 : decode cX0_copyFrom 25 = .ok (.aload_n 1, 1) := by decide +kernel
theorem dX0_copyFrom_26 : decode cX0_copyFrom 26 = .ok (.getfield 21, 3) := by decide +kernel
theorem dX0_copyFrom_29 : decode cX0_copyFrom 29 = .ok (.putfield 21, 3) := by decide +kernel
theorem dX0_copyFrom_32 : decode cX0_copyFrom 32 = .ok (.aload_n 0, 1) := by decide +kernel
theorem dX0_copyFrom_33 : decode cX0_copyFrom 33 = .ok (.aload_n 1, 1) := by decide +kernel
theorem dX0_copyFrom_34 : decode cX0_copyFrom 34 = .ok (.getfield 25, 3) := by decide +kernel
theorem dX0_copyFrom_37 : decode cX0_copyFrom 37 = .ok (.putfield 25, 3) := by decide +kernel
theorem dX0_copyFrom_40 : decode cX0_copyFrom 40 = .ok (.aload_n 0, 1) := by decide +kernel
theorem dX0_copyFrom_41 : decode cX0_copyFrom 41 = .ok (.aload_n 1, 1) := by decide +kernel
theorem dX0_copyFrom_42 : decode cX0_copyFrom 42 = .ok (.getfield 28, 3) := by decide +kernel
theorem dX0_copyFrom_45 : decode cX0_copyFrom 45 = .ok (.putfield 28, 3) := by decide +kernel
theorem dX0_copyFrom_48 : decode cX0_copyFrom 48 = .ok (.aload_n 0, 1) := by decide +kernel
theorem dX0_copyFrom_49 : decode cX0_copyFrom 49 = .ok (.aload_n 1, 1) := by decide +kernel
theorem dX0_copyFrom_50 : decode cX0_copyFrom 50 = .ok (.getfield 31, 3) := by decide +kernel
theorem dX0_copyFrom_53 : decode cX0_copyFrom 53 = .ok (.putfield 31, 3) := by decide +kernel
theorem dX0_copyFrom_56 : decode cX0_copyFrom 56 = .ok (.aload_n 0, 1) := by decide +kernel
theorem dX0_copyFrom_57 : decode cX0_copyFrom 57 = .ok (.aload_n 1, 1) := by decide +kernel
theorem dX0_copyFrom_58 : decode cX0_copyFrom 58 = .ok (.getfield 34, 3) := by decide +kernel
theorem dX0_copyFrom_61 : decode cX0_copyFrom 61 = .ok (.putfield 34, 3) := by decide +kernel
theorem dX0_copyFrom_64 : decode cX0_copyFrom 64 = .ok (.return_, 1) := by decide +kernel
theorem dX0_isOpenOn_0 : decode cX0_isOpenOn 0 = .ok (.aload_n 0, 1) := by decide +kernel
theorem dX0_isOpenOn_1 : decode cX0_isOpenOn 1 = .ok (.getfield 15, 3) := by decide +kernel
theorem dX0_isOpenOn_4 : decode cX0_isOpenOn 4 = .ok (.ifCond .eq 15, 3) := by decide +kernel
theorem dX0_isOpenOn_7 : decode cX0_isOpenOn 7 = .ok (.aload_n 0, 1) := by decide +kernel
theorem dX0_isOpenOn_8 : decode cX0_isOpenOn 8 = .ok (.getfield 21, 3) := by decide +kernel
theorem dX0_isOpenOn_11 : decode cX0_isOpenOn 11 = .ok (.iload_n 1, 1) := by decide +kernel
theorem dX0_isOpenOn_12 : decode cX0_isOpenOn 12 = .ok (.if_icmp .ne 7, 3) := by decide +kernel
theorem dX0_isOpenOn_15 : decode cX0_isOpenOn 15 = .ok (.iconst 1, 1) := by decide +kernel
theorem dX0_isOpenOn_16 : decode cX0_isOpenOn 16 = .ok (.goto 4, 3) := by decide +kernel
theorem dX0_isOpenOn_19 : decode cX0_isOpenOn 19 = .ok (.iconst 0, 1) := by decide +kernel
theorem dX0_isOpenOn_20 : decode cX0_isOpenOn 20 = .ok (.ireturn, 1) := by decide +kernel
theorem dX0_meets_0 : decode cX0_meets 0 = .ok (.aload_n 0, 1) := by decide +kernel
theorem dX0_meets_1 : decode cX0_meets 1 = .ok (.getfield 18, 3) := by decide +kernel
theorem dX0_meets_4 : decode cX0_meets 4 = .ok (.ifCond .eq 11, 3) := by decide +kernel
theorem dX0_meets_7 : decode cX0_meets 7 = .ok (.iload_n 1, 1) := by decide +kernel
theorem dX0_meets_8 : decode cX0_meets 8 = .ok (.aload_n 0, 1) := by decide +kernel
theorem dX0_meets_9 : decode cX0_meets 9 = .ok (.getfield 28, 3) := by decide +kernel
theorem dX0_meets_12 : decode cX0_meets 12 = .ok (.if_icmp .gt 7, 3) := by decide +kernel
theorem dX0_meets_15 : decode cX0_meets 15 = .ok (.iconst 1, 1) := by decide +kernel
theorem dX0_meets_16 : decode cX0_meets 16 = .ok (.goto 4, 3) := by decide +kernel
theorem dX0_meets_19 : decode cX0_meets 19 = .ok (.iconst 0, 1) := by decide +kernel
theorem dX0_meets_20 : decode cX0_meets 20 = .ok (.ireturn, 1) := by decide +kernel
theorem dX1_init_0 : decode cX1_init 0 = .ok (.aload_n 0, 1) := by decide +kernel
theorem dX1_init_1 : decode cX1_init 1 = .ok (.invokespecial 3, 3) := by decide +kernel
theorem dX1_init_4 : decode cX1_init 4 = .ok (.aload_n 0, 1) := by decide +kernel
theorem dX1_init_5 : decode cX1_init 5 = .ok (.sipush 600, 3) := by decide +kernel
theorem dX1_init_8 : decode cX1_init 8 = .ok (.newarray .byte, 2) := by decide +kernel
theorem dX1_init_10 : decode cX1_init 10 = .ok (.putfield 9, 3) := by decide +kernel
theorem dX1_init_13 : decode cX1_init 13 = .ok (.return_, 1) := by decide +kernel
theorem dX1_takeFourBytes_0 : decode cX1_takeFourBytes 0 = .ok (.bipush 24, 2) := by decide +kernel
theorem dX1_takeFourBytes_2 : decode cX1_takeFourBytes 2 = .ok (.istore_n 2, 1) := by decide +kernel
theorem dX1_takeFourBytes_3 : decode cX1_takeFourBytes 3 = .ok (.iload_n 2, 1) := by decide +kernel
theorem dX1_takeFourBytes_4 : decode cX1_takeFourBytes 4 = .ok (.ifCond .lt 42, 3) := by decide +kernel
theorem dX1_takeFourBytes_7 : decode cX1_takeFourBytes 7 = .ok (.aload_n 0, 1) := by decide +kernel
theorem dX1_takeFourBytes_8 : decode cX1_takeFourBytes 8 = .ok (.getfield 15, 3) := by decide +kernel
theorem dX1_takeFourBytes_11 : decode cX1_takeFourBytes 11 = .ok (.sipush 600, 3) := by decide +kernel
theorem dX1_takeFourBytes_14 : decode cX1_takeFourBytes 14 = .ok (.if_icmp .ge 32, 3) := by decide +kernel
theorem dX1_takeFourBytes_17 : decode cX1_takeFourBytes 17 = .ok (.aload_n 0, 1) := by decide +kernel
theorem dX1_takeFourBytes_18 : decode cX1_takeFourBytes 18 = .ok (.getfield 9, 3) := by decide +kernel
theorem dX1_takeFourBytes_21 : decode cX1_takeFourBytes 21 = .ok (.aload_n 0, 1) := by decide +kernel
theorem dX1_takeFourBytes_22 : decode cX1_takeFourBytes 22 = .ok (.getfield 15, 3) := by decide +kernel
theorem dX1_takeFourBytes_25 : decode cX1_takeFourBytes 25 = .ok (.iload_n 1, 1) := by decide +kernel
theorem dX1_takeFourBytes_26 : decode cX1_takeFourBytes 26 = .ok (.iload_n 2, 1) := by decide +kernel
theorem dX1_takeFourBytes_27 : decode cX1_takeFourBytes 27 = .ok (.ishr, 1) := by decide +kernel
theorem dX1_takeFourBytes_28 : decode cX1_takeFourBytes 28 = .ok (.i2b, 1) := by decide +kernel
theorem dX1_takeFourBytes_29 : decode cX1_takeFourBytes 29 = .ok (.bastore, 1) := by decide +kernel
theorem dX1_takeFourBytes_30 : decode cX1_takeFourBytes 30 = .ok (.aload_n 0, 1) := by decide +kernel
theorem dX1_takeFourBytes_31 : decode cX1_takeFourBytes 31 = .ok (.dup, 1) := by decide +kernel
theorem dX1_takeFourBytes_32 : decode cX1_takeFourBytes 32 = .ok (.getfield 15, 3) := by decide +kernel
theorem dX1_takeFourBytes_35 : decode cX1_takeFourBytes 35 = .ok (.iconst 1, 1) := by decide +kernel
theorem dX1_takeFourBytes_36 : decode cX1_takeFourBytes 36 = .ok (.iadd, 1) := by decide +kernel
theorem dX1_takeFourBytes_37 : decode cX1_takeFourBytes 37 = .ok (.putfield 15, 3) := by decide +kernel
theorem dX1_takeFourBytes_40 : decode cX1_takeFourBytes 40 = .ok (.iinc 2 (-8), 3) := by decide +kernel
theorem dX1_takeFourBytes_43 : decode cX1_takeFourBytes 43 = .ok (.goto (-40), 3) := by decide +kernel
theorem dX1_takeFourBytes_46 : decode cX1_takeFourBytes 46 = .ok (.return_, 1) := by decide +kernel
theorem dJ0_coder_7d493_0 : decode cJ0_coder_7d493 0 = .ok (.getstatic 38, 3) := by decide +kernel
theorem dJ0_coder_7d493_3 : decode cJ0_coder_7d493 3 = .ok (.ifCond .eq 10, 3) := by decide +kernel
theorem dJ0_coder_7d493_6 : decode cJ0_coder_7d493 6 = .ok (.aload_n 0, 1) := by decide +kernel
theorem dJ0_coder_7d493_7 : decode cJ0_coder_7d493 7 = .ok (.getfield 15, 3) := by decide +kernel
theorem dJ0_coder_7d493_10 : decode cJ0_coder_7d493 10 = .ok (.goto 4, 3) := by decide +kernel
theorem dJ0_coder_7d493_13 : decode cJ0_coder_7d493 13 = .ok (.iconst 1, 1) := by decide +kernel
theorem dJ0_coder_7d493_14 : decode cJ0_coder_7d493 14 = .ok (.ireturn, 1) := by decide +kernel
theorem dJ0_length_8abf5_0 : decode cJ0_length_8abf5 0 = .ok (.aload_n 0, 1) := by decide +kernel
theorem dJ0_length_8abf5_1 : decode cJ0_length_8abf5 1 = .ok (.getfield 9, 3) := by decide +kernel
theorem dJ0_length_8abf5_4 : decode cJ0_length_8abf5 4 = .ok (.arraylength, 1) := by decide +kernel
theorem dJ0_length_8abf5_5 : decode cJ0_length_8abf5 5 = .ok (.aload_n 0, 1) := by decide +kernel
theorem dJ0_length_8abf5_6 : decode cJ0_length_8abf5 6 = .ok (.invokevirtual 335, 3) := by decide +kernel
theorem dJ0_length_8abf5_9 : decode cJ0_length_8abf5 9 = .ok (.ishr, 1) := by decide +kernel
theorem dJ0_length_8abf5_10 : decode cJ0_length_8abf5 10 = .ok (.ireturn, 1) := by decide +kernel
theorem dJ0_isLatin1_aae02_0 : decode cJ0_isLatin1_aae02 0 = .ok (.getstatic 38, 3) := by decide +kernel
theorem dJ0_isLatin1_aae02_3 : decode cJ0_isLatin1_aae02 3 = .ok (.ifCond .eq 14, 3) := by decide +kernel
theorem dJ0_isLatin1_aae02_6 : decode cJ0_isLatin1_aae02 6 = .ok (.aload_n 0, 1) := by decide +kernel
theorem dJ0_isLatin1_aae02_7 : decode cJ0_isLatin1_aae02 7 = .ok (.getfield 15, 3) := by decide +kernel
theorem dJ0_isLatin1_aae02_10 : decode cJ0_isLatin1_aae02 10 = .ok (.ifCond .ne 7, 3) := by decide +kernel
theorem dJ0_isLatin1_aae02_13 : decode cJ0_isLatin1_aae02 13 = .ok (.iconst 1, 1) := by decide +kernel
theorem dJ0_isLatin1_aae02_14 : decode cJ0_isLatin1_aae02 14 = .ok (.goto 4, 3) := by decide +kernel
theorem dJ0_isLatin1_aae02_17 : decode cJ0_isLatin1_aae02 17 = .ok (.iconst 0, 1) := by decide +kernel
theorem dJ0_isLatin1_aae02_18 : decode cJ0_isLatin1_aae02 18 = .ok (.ireturn, 1) := by decide +kernel
theorem dJ3_checkIndex_8e157_0 : decode cJ3_checkIndex_8e157 0 = .ok (.iload_n 0, 1) := by decide +kernel
theorem dJ3_checkIndex_8e157_1 : decode cJ3_checkIndex_8e157 1 = .ok (.ifCond .lt 8, 3) := by decide +kernel
theorem dJ3_checkIndex_8e157_4 : decode cJ3_checkIndex_8e157 4 = .ok (.iload_n 0, 1) := by decide +kernel
theorem dJ3_checkIndex_8e157_5 : decode cJ3_checkIndex_8e157 5 = .ok (.iload_n 1, 1) := by decide +kernel
theorem dJ3_checkIndex_8e157_6 : decode cJ3_checkIndex_8e157 6 = .ok (.if_icmp .lt 10, 3) := by decide +kernel
theorem dJ3_checkIndex_8e157_9 : decode cJ3_checkIndex_8e157 9 = .ok (.aload_n 2, 1) := by decide +kernel
theorem dJ3_checkIndex_8e157_10 : decode cJ3_checkIndex_8e157 10 = .ok (.iload_n 0, 1) := by decide +kernel
theorem dJ3_checkIndex_8e157_11 : decode cJ3_checkIndex_8e157 11 = .ok (.iload_n 1, 1) := by decide +kernel
theorem dJ3_checkIndex_8e157_12 : decode cJ3_checkIndex_8e157 12 = .ok (.invokestatic 95, 3) := by decide +kernel
theorem dJ3_checkIndex_8e157_15 : decode cJ3_checkIndex_8e157 15 = .ok (.athrow, 1) := by decide +kernel
theorem dJ3_checkIndex_8e157_16 : decode cJ3_checkIndex_8e157 16 = .ok (.iload_n 0, 1) := by decide +kernel
theorem dJ3_checkIndex_8e157_17 : decode cJ3_checkIndex_8e157 17 = .ok (.ireturn, 1) := by decide +kernel
theorem dJ0_checkIndex_df160_0 : decode cJ0_checkIndex_df160 0 = .ok (.iload_n 0, 1) := by decide +kernel
theorem dJ0_checkIndex_df160_1 : decode cJ0_checkIndex_df160 1 = .ok (.iload_n 1, 1) := by decide +kernel
theorem dJ0_checkIndex_df160_2 : decode cJ0_checkIndex_df160 2 = .ok (.getstatic 1053, 3) := by decide +kernel
theorem dJ0_checkIndex_df160_5 : decode cJ0_checkIndex_df160 5 = .ok (.invokestatic 1059, 3) := by decide +kernel
theorem dJ0_checkIndex_df160_8 : decode cJ0_checkIndex_df160 8 = .ok (.pop, 1) := by decide +kernel
theorem dJ0_checkIndex_df160_9 : decode cJ0_checkIndex_df160 9 = .ok (.return_, 1) := by decide +kernel
theorem dJ1_charAt_3b067_0 : decode cJ1_charAt_3b067 0 = .ok (.iload_n 1, 1) := by decide +kernel
theorem dJ1_charAt_3b067_1 : decode cJ1_charAt_3b067 1 = .ok (.aload_n 0, 1) := by decide +kernel
theorem dJ1_charAt_3b067_2 : decode cJ1_charAt_3b067 2 = .ok (.arraylength, 1) := by decide +kernel
theorem dJ1_charAt_3b067_3 : decode cJ1_charAt_3b067 3 = .ok (.invokestatic 9, 3) := by decide +kernel
theorem dJ1_charAt_3b067_6 : decode cJ1_charAt_3b067 6 = .ok (.aload_n 0, 1) := by decide +kernel
theorem dJ1_charAt_3b067_7 : decode cJ1_charAt_3b067 7 = .ok (.iload_n 1, 1) := by decide +kernel
theorem dJ1_charAt_3b067_8 : decode cJ1_charAt_3b067 8 = .ok (.baload, 1) := by decide +kernel
theorem dJ1_charAt_3b067_9 : decode cJ1_charAt_3b067 9 = .ok (.sipush 255, 3) := by decide +kernel
theorem dJ1_charAt_3b067_12 : decode cJ1_charAt_3b067 12 = .ok (.iand, 1) := by decide +kernel
theorem dJ1_charAt_3b067_13 : decode cJ1_charAt_3b067 13 = .ok (.i2c, 1) := by decide +kernel
theorem dJ1_charAt_3b067_14 : decode cJ1_charAt_3b067 14 = .ok (.ireturn, 1) := by decide +kernel
theorem dJ0_charAt_5068e_0 : decode cJ0_charAt_5068e 0 = .ok (.aload_n 0, 1) := by decide +kernel
theorem dJ0_charAt_5068e_1 : decode cJ0_charAt_5068e 1 = .ok (.invokevirtual 492, 3) := by decide +kernel
theorem dJ0_charAt_5068e_4 : decode cJ0_charAt_5068e 4 = .ok (.ifCond .eq 12, 3) := by decide +kernel
theorem dJ0_charAt_5068e_7 : decode cJ0_charAt_5068e 7 = .ok (.aload_n 0, 1) := by decide +kernel
theorem dJ0_charAt_5068e_8 : decode cJ0_charAt_5068e 8 = .ok (.getfield 9, 3) := by decide +kernel
theorem dJ0_charAt_5068e_11 : decode cJ0_charAt_5068e 11 = .ok (.iload_n 1, 1) := by decide +kernel
theorem dJ0_charAt_5068e_12 : decode cJ0_charAt_5068e 12 = .ok (.invokestatic 495, 3) := by decide +kernel
theorem dJ0_charAt_5068e_15 : decode cJ0_charAt_5068e 15 = .ok (.ireturn, 1) := by decide +kernel
theorem dJ0_charAt_5068e_16 : decode cJ0_charAt_5068e 16 = .ok (.aload_n 0, 1) := by decide +kernel
theorem dJ0_charAt_5068e_17 : decode cJ0_charAt_5068e 17 = .ok (.getfield 9, 3) := by decide +kernel
theorem dJ0_charAt_5068e_20 : decode cJ0_charAt_5068e 20 = .ok (.iload_n 1, 1) := by decide +kernel
theorem dJ0_charAt_5068e_21 : decode cJ0_charAt_5068e 21 = .ok (.invokestatic 498, 3) := by decide +kernel
theorem dJ0_charAt_5068e_24 : decode cJ0_charAt_5068e 24 = .ok (.ireturn, 1) := by decide +kernel
theorem dX1_holds_0 : decode cX1_holds 0 = .ok (.iload_n 1, 1) := by decide +kernel
theorem dX1_holds_1 : decode cX1_holds 1 = .ok (.ifCond .lt 20, 3) := by decide +kernel
theorem dX1_holds_4 : decode cX1_holds 4 = .ok (.iload_n 2, 1) := by decide +kernel
theorem dX1_holds_5 : decode cX1_holds 5 = .ok (.sipush 600, 3) := by decide +kernel
theorem dX1_holds_8 : decode cX1_holds 8 = .ok (.if_icmp .gt 13, 3) := by decide +kernel
theorem dX1_holds_11 : decode cX1_holds 11 = .ok (.iload_n 2, 1) := by decide +kernel
theorem dX1_holds_12 : decode cX1_holds 12 = .ok (.iload_n 1, 1) := by decide +kernel
theorem dX1_holds_13 : decode cX1_holds 13 = .ok (.isub, 1) := by decide +kernel
theorem dX1_holds_14 : decode cX1_holds 14 = .ok (.aload_n 3, 1) := by decide +kernel
theorem dX1_holds_15 : decode cX1_holds 15 = .ok (.invokevirtual 19, 3) := by decide +kernel
theorem dX1_holds_18 : decode cX1_holds 18 = .ok (.if_icmp .eq 5, 3) := by decide +kernel
theorem dX1_holds_21 : decode cX1_holds 21 = .ok (.iconst 0, 1) := by decide +kernel
theorem dX1_holds_22 : decode cX1_holds 22 = .ok (.ireturn, 1) := by decide +kernel
theorem dX1_holds_23 : decode cX1_holds 23 = .ok (.iload_n 1, 1) := by decide +kernel
theorem dX1_holds_24 : decode cX1_holds 24 = .ok (.istore 4, 2) := by decide +kernel
theorem dX1_holds_26 : decode cX1_holds 26 = .ok (.iload 4, 2) := by decide +kernel
theorem dX1_holds_28 : decode cX1_holds 28 = .ok (.iload_n 2, 1) := by decide +kernel
theorem dX1_holds_29 : decode cX1_holds 29 = .ok (.if_icmp .ge 29, 3) := by decide +kernel
theorem dX1_holds_32 : decode cX1_holds 32 = .ok (.aload_n 0, 1) := by decide +kernel
theorem dX1_holds_33 : decode cX1_holds 33 = .ok (.getfield 9, 3) := by decide +kernel
theorem dX1_holds_36 : decode cX1_holds 36 = .ok (.iload 4, 2) := by decide +kernel
theorem dX1_holds_38 : decode cX1_holds 38 = .ok (.baload, 1) := by decide +kernel
theorem dX1_holds_39 : decode cX1_holds 39 = .ok (.aload_n 3, 1) := by decide +kernel
theorem dX1_holds_40 : decode cX1_holds 40 = .ok (.iload 4, 2) := by decide +kernel
theorem dX1_holds_42 : decode cX1_holds 42 = .ok (.iload_n 1, 1) := by decide +kernel
theorem dX1_holds_43 : decode cX1_holds 43 = .ok (.isub, 1) := by decide +kernel
theorem dX1_holds_44 : decode cX1_holds 44 = .ok (.invokevirtual 24, 3) := by decide +kernel
theorem dX1_holds_47 : decode cX1_holds 47 = .ok (.if_icmp .eq 5, 3) := by decide +kernel
theorem dX1_holds_50 : decode cX1_holds 50 = .ok (.iconst 0, 1) := by decide +kernel
theorem dX1_holds_51 : decode cX1_holds 51 = .ok (.ireturn, 1) := by decide +kernel
theorem dX1_holds_52 : decode cX1_holds 52 = .ok (.iinc 4 1, 3) := by decide +kernel
theorem dX1_holds_55 : decode cX1_holds 55 = .ok (.goto (-29), 3) := by decide +kernel
theorem dX1_holds_58 : decode cX1_holds 58 = .ok (.iconst 1, 1) := by decide +kernel
theorem dX1_holds_59 : decode cX1_holds 59 = .ok (.ireturn, 1) := by decide +kernel
theorem dX1_isBlank_0 : decode cX1_isBlank 0 = .ok (.aload_n 0, 1) := by decide +kernel
theorem dX1_isBlank_1 : decode cX1_isBlank 1 = .ok (.getfield 9, 3) := by decide +kernel
theorem dX1_isBlank_4 : decode cX1_isBlank 4 = .ok (.iload_n 1, 1) := by decide +kernel
theorem dX1_isBlank_5 : decode cX1_isBlank 5 = .ok (.baload, 1) := by decide +kernel
theorem dX1_isBlank_6 : decode cX1_isBlank 6 = .ok (.bipush 32, 2) := by decide +kernel
theorem dX1_isBlank_8 : decode cX1_isBlank 8 = .ok (.if_icmp .eq 14, 3) := by decide +kernel
theorem dX1_isBlank_11 : decode cX1_isBlank 11 = .ok (.aload_n 0, 1) := by decide +kernel
theorem dX1_isBlank_12 : decode cX1_isBlank 12 = .ok (.getfield 9, 3) := by decide +kernel
theorem dX1_isBlank_15 : decode cX1_isBlank 15 = .ok (.iload_n 1, 1) := by decide +kernel
theorem dX1_isBlank_16 : decode cX1_isBlank 16 = .ok (.baload, 1) := by decide +kernel
theorem dX1_isBlank_17 : decode cX1_isBlank 17 = .ok (.bipush 10, 2) := by decide +kernel
theorem dX1_isBlank_19 : decode cX1_isBlank 19 = .ok (.if_icmp .ne 7, 3) := by decide +kernel
theorem dX1_isBlank_22 : decode cX1_isBlank 22 = .ok (.iconst 1, 1) := by decide +kernel
theorem dX1_isBlank_23 : decode cX1_isBlank 23 = .ok (.goto 4, 3) := by decide +kernel
theorem dX1_isBlank_26 : decode cX1_isBlank 26 = .ok (.iconst 0, 1) := by decide +kernel
theorem dX1_isBlank_27 : decode cX1_isBlank 27 = .ok (.ireturn, 1) := by decide +kernel
theorem dX1_isLetter_0 : decode cX1_isLetter 0 = .ok (.aload_n 0, 1) := by decide +kernel
theorem dX1_isLetter_1 : decode cX1_isLetter 1 = .ok (.getfield 9, 3) := by decide +kernel
theorem dX1_isLetter_4 : decode cX1_isLetter 4 = .ok (.iload_n 1, 1) := by decide +kernel
theorem dX1_isLetter_5 : decode cX1_isLetter 5 = .ok (.baload, 1) := by decide +kernel
theorem dX1_isLetter_6 : decode cX1_isLetter 6 = .ok (.bipush 97, 2) := by decide +kernel
theorem dX1_isLetter_8 : decode cX1_isLetter 8 = .ok (.if_icmp .lt 18, 3) := by decide +kernel
theorem dX1_isLetter_11 : decode cX1_isLetter 11 = .ok (.aload_n 0, 1) := by decide +kernel
theorem dX1_isLetter_12 : decode cX1_isLetter 12 = .ok (.getfield 9, 3) := by decide +kernel
theorem dX1_isLetter_15 : decode cX1_isLetter 15 = .ok (.iload_n 1, 1) := by decide +kernel
theorem dX1_isLetter_16 : decode cX1_isLetter 16 = .ok (.baload, 1) := by decide +kernel
theorem dX1_isLetter_17 : decode cX1_isLetter 17 = .ok (.bipush 122, 2) := by decide +kernel
theorem dX1_isLetter_19 : decode cX1_isLetter 19 = .ok (.if_icmp .gt 7, 3) := by decide +kernel
theorem dX1_isLetter_22 : decode cX1_isLetter 22 = .ok (.iconst 1, 1) := by decide +kernel
theorem dX1_isLetter_23 : decode cX1_isLetter 23 = .ok (.goto 4, 3) := by decide +kernel
theorem dX1_isLetter_26 : decode cX1_isLetter 26 = .ok (.iconst 0, 1) := by decide +kernel
theorem dX1_isLetter_27 : decode cX1_isLetter 27 = .ok (.ireturn, 1) := by decide +kernel
theorem dX1_isDigit_0 : decode cX1_isDigit 0 = .ok (.aload_n 0, 1) := by decide +kernel
theorem dX1_isDigit_1 : decode cX1_isDigit 1 = .ok (.getfield 9, 3) := by decide +kernel
theorem dX1_isDigit_4 : decode cX1_isDigit 4 = .ok (.iload_n 1, 1) := by decide +kernel
theorem dX1_isDigit_5 : decode cX1_isDigit 5 = .ok (.baload, 1) := by decide +kernel
theorem dX1_isDigit_6 : decode cX1_isDigit 6 = .ok (.bipush 48, 2) := by decide +kernel
theorem dX1_isDigit_8 : decode cX1_isDigit 8 = .ok (.if_icmp .lt 18, 3) := by decide +kernel
theorem dX1_isDigit_11 : decode cX1_isDigit 11 = .ok (.aload_n 0, 1) := by decide +kernel
theorem dX1_isDigit_12 : decode cX1_isDigit 12 = .ok (.getfield 9, 3) := by decide +kernel
theorem dX1_isDigit_15 : decode cX1_isDigit 15 = .ok (.iload_n 1, 1) := by decide +kernel
theorem dX1_isDigit_16 : decode cX1_isDigit 16 = .ok (.baload, 1) := by decide +kernel
theorem dX1_isDigit_17 : decode cX1_isDigit 17 = .ok (.bipush 57, 2) := by decide +kernel
theorem dX1_isDigit_19 : decode cX1_isDigit 19 = .ok (.if_icmp .gt 7, 3) := by decide +kernel
theorem dX1_isDigit_22 : decode cX1_isDigit 22 = .ok (.iconst 1, 1) := by decide +kernel
theorem dX1_isDigit_23 : decode cX1_isDigit 23 = .ok (.goto 4, 3) := by decide +kernel
theorem dX1_isDigit_26 : decode cX1_isDigit 26 = .ok (.iconst 0, 1) := by decide +kernel
theorem dX1_isDigit_27 : decode cX1_isDigit 27 = .ok (.ireturn, 1) := by decide +kernel
theorem dX2_init_0 : decode cX2_init 0 = .ok (.aload_n 0, 1) := by decide +kernel
theorem dX2_init_1 : decode cX2_init 1 = .ok (.invokespecial 3, 3) := by decide +kernel
theorem dX2_init_4 : decode cX2_init 4 = .ok (.aload_n 0, 1) := by decide +kernel
theorem dX2_init_5 : decode cX2_init 5 = .ok (.bipush 60, 2) := by decide +kernel
theorem dX2_init_7 : decode cX2_init 7 = .ok (.newarray .int, 2) := by decide +kernel
theorem dX2_init_9 : decode cX2_init 9 = .ok (.putfield 9, 3) := by decide +kernel
theorem dX2_init_12 : decode cX2_init 12 = .ok (.aload_n 0, 1) := by decide +kernel
theorem dX2_init_13 : decode cX2_init 13 = .ok (.bipush 60, 2) := by decide +kernel
theorem dX2_init_15 : decode cX2_init 15 = .ok (.newarray .int, 2) := by decide +kernel
theorem dX2_init_17 : decode cX2_init 17 = .ok (.putfield 15, 3) := by decide +kernel
theorem dX2_init_20 : decode cX2_init 20 = .ok (.aload_n 0, 1) := by decide +kernel
theorem dX2_init_21 : decode cX2_init 21 = .ok (.bipush 60, 2) := by decide +kernel
theorem dX2_init_23 : decode cX2_init 23 = .ok (.newarray .int, 2) := by decide +kernel
theorem dX2_init_25 : decode cX2_init 25 = .ok (.putfield 18, 3) := by decide +kernel
theorem dX2_init_28 : decode cX2_init 28 = .ok (.return_, 1) := by decide +kernel
theorem dX2_begin_0 : decode cX2_begin 0 = .ok (.aload_n 0, 1) := by decide +kernel
theorem dX2_begin_1 : decode cX2_begin 1 = .ok (.iconst 0, 1) := by decide +kernel
theorem dX2_begin_2 : decode cX2_begin 2 = .ok (.putfield 21, 3) := by decide +kernel
theorem dX2_begin_5 : decode cX2_begin 5 = .ok (.aload_n 0, 1) := by decide +kernel
theorem dX2_begin_6 : decode cX2_begin 6 = .ok (.iconst 0, 1) := by decide +kernel
theorem dX2_begin_7 : decode cX2_begin 7 = .ok (.putfield 25, 3) := by decide +kernel
theorem dX2_begin_10 : decode cX2_begin 10 = .ok (.aload_n 0, 1) := by decide +kernel
theorem dX2_begin_11 : decode cX2_begin 11 = .ok (.lconst 0, 1) := by decide +kernel
theorem dX2_begin_12 : decode cX2_begin 12 = .ok (.putfield 28, 3) := by decide +kernel
theorem dX2_begin_15 : decode cX2_begin 15 = .ok (.return_, 1) := by decide +kernel
theorem dX2_copyFrom_0 : decode cX2_copyFrom 0 = .ok (.aload_n 0, 1) := by decide +kernel
theorem dX2_copyFrom_1 : decode cX2_copyFrom 1 = .ok (.aload_n 1, 1) := by decide +kernel
theorem dX2_copyFrom_2 : decode cX2_copyFrom 2 = .ok (.getfield 21, 3) := by decide +kernel
theorem dX2_copyFrom_5 : decode cX2_copyFrom 5 = .ok (.putfield 21, 3) := by decide +kernel
theorem dX2_copyFrom_8 : decode cX2_copyFrom 8 = .ok (.aload_n 0, 1) := by decide +kernel
theorem dX2_copyFrom_9 : decode cX2_copyFrom 9 = .ok (.aload_n 1, 1) := by decide +kernel
theorem dX2_copyFrom_10 : decode cX2_copyFrom 10 = .ok (.getfield 25, 3) := by decide +kernel
theorem dX2_copyFrom_13 : decode cX2_copyFrom 13 = .ok (.putfield 25, 3) := by decide +kernel
theorem dX2_copyFrom_16 : decode cX2_copyFrom 16 = .ok (.aload_n 0, 1) := by decide +kernel
theorem dX2_copyFrom_17 : decode cX2_copyFrom 17 = .ok (.aload_n 1, 1) := by decide +kernel
theorem dX2_copyFrom_18 : decode cX2_copyFrom 18 = .ok (.getfield 28, 3) := by decide +kernel
theorem dX2_copyFrom_21 : decode cX2_copyFrom 21 = .ok (.putfield 28, 3) := by decide +kernel
theorem dX2_copyFrom_24 : decode cX2_copyFrom 24 = .ok (.aload_n 1, 1) := by decide +kernel
theorem dX2_copyFrom_25 : decode cX2_copyFrom 25 = .ok (.getfield 9, 3) := by decide +kernel
theorem dX2_copyFrom_28 : decode cX2_copyFrom 28 = .ok (.iconst 0, 1) := by decide +kernel
theorem dX2_copyFrom_29 : decode cX2_copyFrom 29 = .ok (.aload_n 0, 1) := by decide +kernel
theorem dX2_copyFrom_30 : decode cX2_copyFrom 30 = .ok (.getfield 9, 3) := by decide +kernel
theorem dX2_copyFrom_33 : decode cX2_copyFrom 33 = .ok (.iconst 0, 1) := by decide +kernel
theorem dX2_copyFrom_34 : decode cX2_copyFrom 34 = .ok (.aload_n 0, 1) := by decide +kernel
theorem dX2_copyFrom_35 : decode cX2_copyFrom 35 = .ok (.getfield 21, 3) := by decide +kernel
theorem dX2_copyFrom_38 : decode cX2_copyFrom 38 = .ok (.invokestatic 32, 3) := by decide +kernel
theorem dX2_copyFrom_41 : decode cX2_copyFrom 41 = .ok (.aload_n 1, 1) := by decide +kernel
theorem dX2_copyFrom_42 : decode cX2_copyFrom 42 = .ok (.getfield 15, 3) := by decide +kernel
theorem dX2_copyFrom_45 : decode cX2_copyFrom 45 = .ok (.iconst 0, 1) := by decide +kernel
theorem dX2_copyFrom_46 : decode cX2_copyFrom 46 = .ok (.aload_n 0, 1) := by decide +kernel
theorem dX2_copyFrom_47 : decode cX2_copyFrom 47 = .ok (.getfield 15, 3) := by decide +kernel
theorem dX2_copyFrom_50 : decode cX2_copyFrom 50 = .ok (.iconst 0, 1) := by decide +kernel
theorem dX2_copyFrom_51 : decode cX2_copyFrom 51 = .ok (.aload_n 0, 1) := by decide +kernel
theorem dX2_copyFrom_52 : decode cX2_copyFrom 52 = .ok (.getfield 21, 3) := by decide +kernel
theorem dX2_copyFrom_55 : decode cX2_copyFrom 55 = .ok (.invokestatic 32, 3) := by decide +kernel
theorem dX2_copyFrom_58 : decode cX2_copyFrom 58 = .ok (.aload_n 1, 1) := by decide +kernel
theorem dX2_copyFrom_59 : decode cX2_copyFrom 59 = .ok (.getfield 18, 3) := by decide +kernel
theorem dX2_copyFrom_62 : decode cX2_copyFrom 62 = .ok (.iconst 0, 1) := by decide +kernel
theorem dX2_copyFrom_63 : decode cX2_copyFrom 63 = .ok (.aload_n 0, 1) := by decide +kernel
theorem dX2_copyFrom_64 : decode cX2_copyFrom 64 = .ok (.getfield 18, 3) := by decide +kernel
theorem dX2_copyFrom_67 : decode cX2_copyFrom 67 = .ok (.iconst 0, 1) := by decide +kernel
theorem dX2_copyFrom_68 : decode cX2_copyFrom 68 = .ok (.aload_n 0, 1) := by decide +kernel
theorem dX2_copyFrom_69 : decode cX2_copyFrom 69 = .ok (.getfield 21, 3) := by decide +kernel
theorem dX2_copyFrom_72 : decode cX2_copyFrom 72 = .ok (.invokestatic 32, 3) := by decide +kernel
theorem dX2_copyFrom_75 : decode cX2_copyFrom 75 = .ok (.return_, 1) := by decide +kernel
theorem dX2_bitsBehind_0 : decode cX2_bitsBehind 0 = .ok (.aload_n 0, 1) := by decide +kernel
theorem dX2_bitsBehind_1 : decode cX2_bitsBehind 1 = .ok (.getfield 18, 3) := by decide +kernel
theorem dX2_bitsBehind_4 : decode cX2_bitsBehind 4 = .ok (.iload_n 3, 1) := by decide +kernel
theorem dX2_bitsBehind_5 : decode cX2_bitsBehind 5 = .ok (.iaload, 1) := by decide +kernel
theorem dX2_bitsBehind_6 : decode cX2_bitsBehind 6 = .ok (.iconst 2, 1) := by decide +kernel
theorem dX2_bitsBehind_7 : decode cX2_bitsBehind 7 = .ok (.if_icmp .ne 5, 3) := by decide +kernel
theorem dX2_bitsBehind_10 : decode cX2_bitsBehind 10 = .ok (.lconst 0, 1) := by decide +kernel
theorem dX2_bitsBehind_11 : decode cX2_bitsBehind 11 = .ok (.lreturn, 1) := by decide +kernel
theorem dX2_bitsBehind_12 : decode cX2_bitsBehind 12 = .ok (.lconst 1, 1) := by decide +kernel
theorem dX2_bitsBehind_13 : decode cX2_bitsBehind 13 = .ok (.aload_n 0, 1) := by decide +kernel
theorem dX2_bitsBehind_14 : decode cX2_bitsBehind 14 = .ok (.getfield 15, 3) := by decide +kernel
theorem dX2_bitsBehind_17 : decode cX2_bitsBehind 17 = .ok (.iload_n 3, 1) := by decide +kernel
theorem dX2_bitsBehind_18 : decode cX2_bitsBehind 18 = .ok (.iaload, 1) := by decide +kernel
theorem dX2_bitsBehind_19 : decode cX2_bitsBehind 19 = .ok (.lshl, 1) := by decide +kernel
theorem dX2_bitsBehind_20 : decode cX2_bitsBehind 20 = .ok (.lstore 4, 2) := by decide +kernel
theorem dX2_bitsBehind_22 : decode cX2_bitsBehind 22 = .ok (.aload_n 0, 1) := by decide +kernel
theorem dX2_bitsBehind_23 : decode cX2_bitsBehind 23 = .ok (.getfield 18, 3) := by decide +kernel
theorem dX2_bitsBehind_26 : decode cX2_bitsBehind 26 = .ok (.iload_n 3, 1) := by decide +kernel
theorem dX2_bitsBehind_27 : decode cX2_bitsBehind 27 = .ok (.iaload, 1) := by decide +kernel
theorem dX2_bitsBehind_28 : decode cX2_bitsBehind 28 = .ok (.ifCond .ne 10, 3) := by decide +kernel
theorem dX2_bitsBehind_31 : decode cX2_bitsBehind 31 = .ok (.lload_n 1, 1) := by decide +kernel
theorem dX2_bitsBehind_32 : decode cX2_bitsBehind 32 = .ok (.lload 4, 2) := by decide +kernel
theorem dX2_bitsBehind_34 : decode cX2_bitsBehind 34 = .ok (.lor, 1) := by decide +kernel
theorem dX2_bitsBehind_35 : decode cX2_bitsBehind 35 = .ok (.goto 11, 3) := by decide +kernel
theorem dX2_bitsBehind_38 : decode cX2_bitsBehind 38 = .ok (.lload_n 1, 1) := by decide +kernel
theorem dX2_bitsBehind_39 : decode cX2_bitsBehind 39 = .ok (.lload 4, 2) := by decide +kernel
theorem dX2_bitsBehind_41 : decode cX2_bitsBehind 41 = .ok (.ldc2_w 42, 3) := by decide +kernel
theorem dX2_bitsBehind_44 : decode cX2_bitsBehind 44 = .ok (.lxor, 1) := by decide +kernel
theorem dX2_bitsBehind_45 : decode cX2_bitsBehind 45 = .ok (.land, 1) := by decide +kernel
theorem dX2_bitsBehind_46 : decode cX2_bitsBehind 46 = .ok (.lreturn, 1) := by decide +kernel
theorem dX2_note_0 : decode cX2_note 0 = .ok (.aload_n 0, 1) := by decide +kernel
theorem dX2_note_1 : decode cX2_note 1 = .ok (.getfield 21, 3) := by decide +kernel
theorem dX2_note_4 : decode cX2_note 4 = .ok (.iload 4, 2) := by decide +kernel
theorem dX2_note_6 : decode cX2_note 6 = .ok (.if_icmp .lt 87, 3) := by decide +kernel
theorem dX2_note_9 : decode cX2_note 9 = .ok (.aload_n 0, 1) := by decide +kernel
theorem dX2_note_10 : decode cX2_note 10 = .ok (.aload_n 0, 1) := by decide +kernel
theorem dX2_note_11 : decode cX2_note 11 = .ok (.getfield 9, 3) := by decide +kernel
theorem dX2_note_14 : decode cX2_note 14 = .ok (.iconst 0, 1) := by decide +kernel
theorem dX2_note_15 : decode cX2_note 15 = .ok (.iaload, 1) := by decide +kernel
theorem dX2_note_16 : decode cX2_note 16 = .ok (.putfield 25, 3) := by decide +kernel
theorem dX2_note_19 : decode cX2_note 19 = .ok (.aload_n 0, 1) := by decide +kernel
theorem dX2_note_20 : decode cX2_note 20 = .ok (.aload_n 0, 1) := by decide +kernel
theorem dX2_note_21 : decode cX2_note 21 = .ok (.aload_n 0, 1) := by decide +kernel
theorem dX2_note_22 : decode cX2_note 22 = .ok (.getfield 28, 3) := by decide +kernel
theorem dX2_note_25 : decode cX2_note 25 = .ok (.iconst 0, 1) := by decide +kernel
theorem dX2_note_26 : decode cX2_note 26 = .ok (.invokevirtual 38, 3) := by decide +kernel
theorem dX2_note_29 : decode cX2_note 29 = .ok (.putfield 28, 3) := by decide +kernel
theorem dX2_note_32 : decode cX2_note 32 = .ok (.aload_n 0, 1) := by decide +kernel
theorem dX2_note_33 : decode cX2_note 33 = .ok (.dup, 1) := by decide +kernel
theorem dX2_note_34 : decode cX2_note 34 = .ok (.getfield 21, 3) := by decide +kernel
theorem dX2_note_37 : decode cX2_note 37 = .ok (.iconst 1, 1) := by decide +kernel
theorem dX2_note_38 : decode cX2_note 38 = .ok (.isub, 1) := by decide +kernel
theorem dX2_note_39 : decode cX2_note 39 = .ok (.putfield 21, 3) := by decide +kernel
theorem dX2_note_42 : decode cX2_note 42 = .ok (.aload_n 0, 1) := by decide +kernel
theorem dX2_note_43 : decode cX2_note 43 = .ok (.getfield 9, 3) := by decide +kernel
theorem dX2_note_46 : decode cX2_note 46 = .ok (.iconst 1, 1) := by decide +kernel
theorem dX2_note_47 : decode cX2_note 47 = .ok (.aload_n 0, 1) := by decide +kernel
theorem dX2_note_48 : decode cX2_note 48 = .ok (.getfield 9, 3) := by decide +kernel
theorem dX2_note_51 : decode cX2_note 51 = .ok (.iconst 0, 1) := by decide +kernel
theorem dX2_note_52 : decode cX2_note 52 = .ok (.aload_n 0, 1) := by decide +kernel
theorem dX2_note_53 : decode cX2_note 53 = .ok (.getfield 21, 3) := by decide +kernel
theorem dX2_note_56 : decode cX2_note 56 = .ok (.invokestatic 32, 3) := by decide +kernel
theorem dX2_note_59 : decode cX2_note 59 = .ok (.aload_n 0, 1) := by decide +kernel
theorem dX2_note_60 : decode cX2_note 60 = .ok (.getfield 15, 3) := by decide +kernel
theorem dX2_note_63 : decode cX2_note 63 = .ok (.iconst 1, 1) := by decide +kernel
theorem dX2_note_64 : decode cX2_note 64 = .ok (.aload_n 0, 1) := by decide +kernel
theorem dX2_note_65 : decode cX2_note 65 = .ok (.getfield 15, 3) := by decide +kernel
theorem dX2_note_68 : decode cX2_note 68 = .ok (.iconst 0, 1) := by decide +kernel
theorem dX2_note_69 : decode cX2_note 69 = .ok (.aload_n 0, 1) := by decide +kernel
theorem dX2_note_70 : decode cX2_note 70 = .ok (.getfield 21, 3) := by decide +kernel
theorem dX2_note_73 : decode cX2_note 73 = .ok (.invokestatic 32, 3) := by decide +kernel
theorem dX2_note_76 : decode cX2_note 76 = .ok (.aload_n 0, 1) := by decide +kernel
theorem dX2_note_77 : decode cX2_note 77 = .ok (.getfield 18, 3) := by decide +kernel
theorem dX2_note_80 : decode cX2_note 80 = .ok (.iconst 1, 1) := by decide +kernel
theorem dX2_note_81 : decode cX2_note 81 = .ok (.aload_n 0, 1) := by decide +kernel
theorem dX2_note_82 : decode cX2_note 82 = .ok (.getfield 18, 3) := by decide +kernel
theorem dX2_note_85 : decode cX2_note 85 = .ok (.iconst 0, 1) := by decide +kernel
theorem dX2_note_86 : decode cX2_note 86 = .ok (.aload_n 0, 1) := by decide +kernel
theorem dX2_note_87 : decode cX2_note 87 = .ok (.getfield 21, 3) := by decide +kernel
theorem dX2_note_90 : decode cX2_note 90 = .ok (.invokestatic 32, 3) := by decide +kernel
theorem dX2_note_93 : decode cX2_note 93 = .ok (.aload_n 0, 1) := by decide +kernel
theorem dX2_note_94 : decode cX2_note 94 = .ok (.getfield 9, 3) := by decide +kernel
theorem dX2_note_97 : decode cX2_note 97 = .ok (.aload_n 0, 1) := by decide +kernel
theorem dX2_note_98 : decode cX2_note 98 = .ok (.getfield 21, 3) := by decide +kernel
theorem dX2_note_101 : decode cX2_note 101 = .ok (.iload_n 1, 1) := by decide +kernel
theorem dX2_note_102 : decode cX2_note 102 = .ok (.iastore, 1) := by decide +kernel
theorem dX2_note_103 : decode cX2_note 103 = .ok (.aload_n 0, 1) := by decide +kernel
theorem dX2_note_104 : decode cX2_note 104 = .ok (.getfield 15, 3) := by decide +kernel
theorem dX2_note_107 : decode cX2_note 107 = .ok (.aload_n 0, 1) := by decide +kernel
theorem dX2_note_108 : decode cX2_note 108 = .ok (.getfield 21, 3) := by decide +kernel
theorem dX2_note_111 : decode cX2_note 111 = .ok (.iload_n 2, 1) := by decide +kernel
theorem dX2_note_112 : decode cX2_note 112 = .ok (.iastore, 1) := by decide +kernel
theorem dX2_note_113 : decode cX2_note 113 = .ok (.aload_n 0, 1) := by decide +kernel
theorem dX2_note_114 : decode cX2_note 114 = .ok (.getfield 18, 3) := by decide +kernel
theorem dX2_note_117 : decode cX2_note 117 = .ok (.aload_n 0, 1) := by decide +kernel
theorem dX2_note_118 : decode cX2_note 118 = .ok (.getfield 21, 3) := by decide +kernel
theorem dX2_note_121 : decode cX2_note 121 = .ok (.iload_n 3, 1) := by decide +kernel
theorem dX2_note_122 : decode cX2_note 122 = .ok (.iastore, 1) := by decide +kernel
theorem dX2_note_123 : decode cX2_note 123 = .ok (.aload_n 0, 1) := by decide +kernel
theorem dX2_note_124 : decode cX2_note 124 = .ok (.dup, 1) := by decide +kernel
theorem dX2_note_125 : decode cX2_note 125 = .ok (.getfield 21, 3) := by decide +kernel
theorem dX2_note_128 : decode cX2_note 128 = .ok (.iconst 1, 1) := by decide +kernel
theorem dX2_note_129 : decode cX2_note 129 = .ok (.iadd, 1) := by decide +kernel
theorem dX2_note_130 : decode cX2_note 130 = .ok (.putfield 21, 3) := by decide +kernel
theorem dX2_note_133 : decode cX2_note 133 = .ok (.return_, 1) := by decide +kernel
theorem dX2_bitsAt_0 : decode cX2_bitsAt 0 = .ok (.aload_n 0, 1) := by decide +kernel
theorem dX2_bitsAt_1 : decode cX2_bitsAt 1 = .ok (.getfield 28, 3) := by decide +kernel
theorem dX2_bitsAt_4 : decode cX2_bitsAt 4 = .ok (.lstore_n 2, 1) := by decide +kernel
theorem dX2_bitsAt_5 : decode cX2_bitsAt 5 = .ok (.iconst 0, 1) := by decide +kernel
theorem dX2_bitsAt_6 : decode cX2_bitsAt 6 = .ok (.istore 4, 2) := by decide +kernel
theorem dX2_bitsAt_8 : decode cX2_bitsAt 8 = .ok (.iload 4, 2) := by decide +kernel
theorem dX2_bitsAt_10 : decode cX2_bitsAt 10 = .ok (.aload_n 0, 1) := by decide +kernel
theorem dX2_bitsAt_11 : decode cX2_bitsAt 11 = .ok (.getfield 21, 3) := by decide +kernel
theorem dX2_bitsAt_14 : decode cX2_bitsAt 14 = .ok (.if_icmp .ge 28, 3) := by decide +kernel
theorem dX2_bitsAt_17 : decode cX2_bitsAt 17 = .ok (.aload_n 0, 1) := by decide +kernel
theorem dX2_bitsAt_18 : decode cX2_bitsAt 18 = .ok (.getfield 9, 3) := by decide +kernel
theorem dX2_bitsAt_21 : decode cX2_bitsAt 21 = .ok (.iload 4, 2) := by decide +kernel
theorem dX2_bitsAt_23 : decode cX2_bitsAt 23 = .ok (.iaload, 1) := by decide +kernel
theorem dX2_bitsAt_24 : decode cX2_bitsAt 24 = .ok (.iload_n 1, 1) := by decide +kernel
theorem dX2_bitsAt_25 : decode cX2_bitsAt 25 = .ok (.if_icmp .gt 17, 3) := by decide +kernel
theorem dX2_bitsAt_28 : decode cX2_bitsAt 28 = .ok (.aload_n 0, 1) := by decide +kernel
theorem dX2_bitsAt_29 : decode cX2_bitsAt 29 = .ok (.lload_n 2, 1) := by decide +kernel
theorem dX2_bitsAt_30 : decode cX2_bitsAt 30 = .ok (.iload 4, 2) := by decide +kernel
theorem dX2_bitsAt_32 : decode cX2_bitsAt 32 = .ok (.invokevirtual 38, 3) := by decide +kernel
theorem dX2_bitsAt_35 : decode cX2_bitsAt 35 = .ok (.lstore_n 2, 1) := by decide +kernel
theorem dX2_bitsAt_36 : decode cX2_bitsAt 36 = .ok (.iinc 4 1, 3) := by decide +kernel
theorem dX2_bitsAt_39 : decode cX2_bitsAt 39 = .ok (.goto (-31), 3) := by decide +kernel
theorem dX2_bitsAt_42 : decode cX2_bitsAt 42 = .ok (.lload_n 2, 1) := by decide +kernel
theorem dX2_bitsAt_43 : decode cX2_bitsAt 43 = .ok (.lreturn, 1) := by decide +kernel
theorem dX2_latestChangeOf_0 : decode cX2_latestChangeOf 0 = .ok (.iconst (-1), 1) := by decide +kernel
theorem dX2_latestChangeOf_1 : decode cX2_latestChangeOf 1 = .ok (.istore_n 2, 1) := by decide +kernel
theorem dX2_latestChangeOf_2 : decode cX2_latestChangeOf 2 = .ok (.aload_n 0, 1) := by decide +kernel
theorem dX2_latestChangeOf_3 : decode cX2_latestChangeOf 3 = .ok (.getfield 28, 3) := by decide +kernel
theorem dX2_latestChangeOf_6 : decode cX2_latestChangeOf 6 = .ok (.lstore_n 3, 1) := by decide +kernel
theorem dX2_latestChangeOf_7 : decode cX2_latestChangeOf 7 = .ok (.iconst 0, 1) := by decide +kernel
theorem dX2_latestChangeOf_8 : decode cX2_latestChangeOf 8 = .ok (.istore 5, 2) := by decide +kernel
theorem dX2_latestChangeOf_10 : decode cX2_latestChangeOf 10 = .ok (.iload 5, 2) := by decide +kernel
theorem dX2_latestChangeOf_12 : decode cX2_latestChangeOf 12 = .ok (.aload_n 0, 1) := by decide +kernel
theorem dX2_latestChangeOf_13 : decode cX2_latestChangeOf 13 = .ok (.getfield 21, 3) := by decide +kernel
theorem dX2_latestChangeOf_16 : decode cX2_latestChangeOf 16 = .ok (.if_icmp .ge 42, 3) := by decide +kernel
theorem dX2_latestChangeOf_19 : decode cX2_latestChangeOf 19 = .ok (.aload_n 0, 1) := by decide +kernel
theorem dX2_latestChangeOf_20 : decode cX2_latestChangeOf 20 = .ok (.lload_n 3, 1) := by decide +kernel
theorem dX2_latestChangeOf_21 : decode cX2_latestChangeOf 21 = .ok (.iload 5, 2) := by decide +kernel
theorem dX2_latestChangeOf_23 : decode cX2_latestChangeOf 23 = .ok (.invokevirtual 38, 3) := by decide +kernel
theorem dX2_latestChangeOf_26 : decode cX2_latestChangeOf 26 = .ok (.lstore 6, 2) := by decide +kernel
theorem dX2_latestChangeOf_28 : decode cX2_latestChangeOf 28 = .ok (.lload_n 3, 1) := by decide +kernel
theorem dX2_latestChangeOf_29 : decode cX2_latestChangeOf 29 = .ok (.lload 6, 2) := by decide +kernel
theorem dX2_latestChangeOf_31 : decode cX2_latestChangeOf 31 = .ok (.lxor, 1) := by decide +kernel
theorem dX2_latestChangeOf_32 : decode cX2_latestChangeOf 32 = .ok (.lconst 1, 1) := by decide +kernel
theorem dX2_latestChangeOf_33 : decode cX2_latestChangeOf 33 = .ok (.iload_n 1, 1) := by decide +kernel
theorem dX2_latestChangeOf_34 : decode cX2_latestChangeOf 34 = .ok (.lshl, 1) := by decide +kernel
theorem dX2_latestChangeOf_35 : decode cX2_latestChangeOf 35 = .ok (.land, 1) := by decide +kernel
theorem dX2_latestChangeOf_36 : decode cX2_latestChangeOf 36 = .ok (.lconst 0, 1) := by decide +kernel
theorem dX2_latestChangeOf_37 : decode cX2_latestChangeOf 37 = .ok (.lcmp, 1) := by decide +kernel
theorem dX2_latestChangeOf_38 : decode cX2_latestChangeOf 38 = .ok (.ifCond .eq 11, 3) := by decide +kernel
theorem dX2_latestChangeOf_41 : decode cX2_latestChangeOf 41 = .ok (.aload_n 0, 1) := by decide +kernel
theorem dX2_latestChangeOf_42 : decode cX2_latestChangeOf 42 = .ok (.getfield 9, 3) := by decide +kernel
theorem dX2_latestChangeOf_45 : decode cX2_latestChangeOf 45 = .ok (.iload 5, 2) := by decide +kernel
theorem dX2_latestChangeOf_47 : decode cX2_latestChangeOf 47 = .ok (.iaload, 1) := by decide +kernel
theorem dX2_latestChangeOf_48 : decode cX2_latestChangeOf 48 = .ok (.istore_n 2, 1) := by decide +kernel
theorem dX2_latestChangeOf_49 : decode cX2_latestChangeOf 49 = .ok (.lload 6, 2) := by decide +kernel
theorem dX2_latestChangeOf_51 : decode cX2_latestChangeOf 51 = .ok (.lstore_n 3, 1) := by decide +kernel
theorem dX2_latestChangeOf_52 : decode cX2_latestChangeOf 52 = .ok (.iinc 5 1, 3) := by decide +kernel
theorem dX2_latestChangeOf_55 : decode cX2_latestChangeOf 55 = .ok (.goto (-45), 3) := by decide +kernel
theorem dX2_latestChangeOf_58 : decode cX2_latestChangeOf 58 = .ok (.iload_n 2, 1) := by decide +kernel
theorem dX2_latestChangeOf_59 : decode cX2_latestChangeOf 59 = .ok (.ireturn, 1) := by decide +kernel
theorem dJ13_bitCount_95d88_0 : decode cJ13_bitCount_95d88 0 = .ok (.lload_n 0, 1) := by decide +kernel
theorem dJ13_bitCount_95d88_1 : decode cJ13_bitCount_95d88 1 = .ok (.lload_n 0, 1) := by decide +kernel
theorem dJ13_bitCount_95d88_2 : decode cJ13_bitCount_95d88 2 = .ok (.iconst 1, 1) := by decide +kernel
theorem dJ13_bitCount_95d88_3 : decode cJ13_bitCount_95d88 3 = .ok (.lushr, 1) := by decide +kernel
theorem dJ13_bitCount_95d88_4 : decode cJ13_bitCount_95d88 4 = .ok (.ldc2_w 314, 3) := by decide +kernel
theorem dJ13_bitCount_95d88_7 : decode cJ13_bitCount_95d88 7 = .ok (.land, 1) := by decide +kernel
theorem dJ13_bitCount_95d88_8 : decode cJ13_bitCount_95d88 8 = .ok (.lsub, 1) := by decide +kernel
theorem dJ13_bitCount_95d88_9 : decode cJ13_bitCount_95d88 9 = .ok (.lstore_n 0, 1) := by decide +kernel
theorem dJ13_bitCount_95d88_10 : decode cJ13_bitCount_95d88 10 = .ok (.lload_n 0, 1) := by decide +kernel
theorem dJ13_bitCount_95d88_11 : decode cJ13_bitCount_95d88 11 = .ok (.ldc2_w 316, 3) := by decide +kernel
theorem dJ13_bitCount_95d88_14 : decode cJ13_bitCount_95d88 14 = .ok (.land, 1) := by decide +kernel
theorem dJ13_bitCount_95d88_15 : decode cJ13_bitCount_95d88 15 = .ok (.lload_n 0, 1) := by decide +kernel
theorem dJ13_bitCount_95d88_16 : decode cJ13_bitCount_95d88 16 = .ok (.iconst 2, 1) := by decide +kernel
theorem dJ13_bitCount_95d88_17 : decode cJ13_bitCount_95d88 17 = .ok (.lushr, 1) := by decide +kernel
theorem dJ13_bitCount_95d88_18 : decode cJ13_bitCount_95d88 18 = .ok (.ldc2_w 316, 3) := by decide +kernel
theorem dJ13_bitCount_95d88_21 : decode cJ13_bitCount_95d88 21 = .ok (.land, 1) := by decide +kernel
theorem dJ13_bitCount_95d88_22 : decode cJ13_bitCount_95d88 22 = .ok (.ladd, 1) := by decide +kernel
theorem dJ13_bitCount_95d88_23 : decode cJ13_bitCount_95d88 23 = .ok (.lstore_n 0, 1) := by decide +kernel
theorem dJ13_bitCount_95d88_24 : decode cJ13_bitCount_95d88 24 = .ok (.lload_n 0, 1) := by decide +kernel
theorem dJ13_bitCount_95d88_25 : decode cJ13_bitCount_95d88 25 = .ok (.lload_n 0, 1) := by decide +kernel
theorem dJ13_bitCount_95d88_26 : decode cJ13_bitCount_95d88 26 = .ok (.iconst 4, 1) := by decide +kernel
theorem dJ13_bitCount_95d88_27 : decode cJ13_bitCount_95d88 27 = .ok (.lushr, 1) := by decide +kernel
theorem dJ13_bitCount_95d88_28 : decode cJ13_bitCount_95d88 28 = .ok (.ladd, 1) := by decide +kernel
theorem dJ13_bitCount_95d88_29 : decode cJ13_bitCount_95d88 29 = .ok (.ldc2_w 318, 3) := by decide +kernel
theorem dJ13_bitCount_95d88_32 : decode cJ13_bitCount_95d88 32 = .ok (.land, 1) := by decide +kernel
theorem dJ13_bitCount_95d88_33 : decode cJ13_bitCount_95d88 33 = .ok (.lstore_n 0, 1) := by decide +kernel
theorem dJ13_bitCount_95d88_34 : decode cJ13_bitCount_95d88 34 = .ok (.lload_n 0, 1) := by decide +kernel
theorem dJ13_bitCount_95d88_35 : decode cJ13_bitCount_95d88 35 = .ok (.lload_n 0, 1) := by decide +kernel
theorem dJ13_bitCount_95d88_36 : decode cJ13_bitCount_95d88 36 = .ok (.bipush 8, 2) := by decide +kernel
theorem dJ13_bitCount_95d88_38 : decode cJ13_bitCount_95d88 38 = .ok (.lushr, 1) := by decide +kernel
theorem dJ13_bitCount_95d88_39 : decode cJ13_bitCount_95d88 39 = .ok (.ladd, 1) := by decide +kernel
theorem dJ13_bitCount_95d88_40 : decode cJ13_bitCount_95d88 40 = .ok (.lstore_n 0, 1) := by decide +kernel
theorem dJ13_bitCount_95d88_41 : decode cJ13_bitCount_95d88 41 = .ok (.lload_n 0, 1) := by decide +kernel
theorem dJ13_bitCount_95d88_42 : decode cJ13_bitCount_95d88 42 = .ok (.lload_n 0, 1) := by decide +kernel
theorem dJ13_bitCount_95d88_43 : decode cJ13_bitCount_95d88 43 = .ok (.bipush 16, 2) := by decide +kernel
theorem dJ13_bitCount_95d88_45 : decode cJ13_bitCount_95d88 45 = .ok (.lushr, 1) := by decide +kernel
theorem dJ13_bitCount_95d88_46 : decode cJ13_bitCount_95d88 46 = .ok (.ladd, 1) := by decide +kernel
theorem dJ13_bitCount_95d88_47 : decode cJ13_bitCount_95d88 47 = .ok (.lstore_n 0, 1) := by decide +kernel
theorem dJ13_bitCount_95d88_48 : decode cJ13_bitCount_95d88 48 = .ok (.lload_n 0, 1) := by decide +kernel
theorem dJ13_bitCount_95d88_49 : decode cJ13_bitCount_95d88 49 = .ok (.lload_n 0, 1) := by decide +kernel
theorem dJ13_bitCount_95d88_50 : decode cJ13_bitCount_95d88 50 = .ok (.bipush 32, 2) := by decide +kernel
theorem dJ13_bitCount_95d88_52 : decode cJ13_bitCount_95d88 52 = .ok (.lushr, 1) := by decide +kernel
theorem dJ13_bitCount_95d88_53 : decode cJ13_bitCount_95d88 53 = .ok (.ladd, 1) := by decide +kernel
theorem dJ13_bitCount_95d88_54 : decode cJ13_bitCount_95d88 54 = .ok (.lstore_n 0, 1) := by decide +kernel
theorem dJ13_bitCount_95d88_55 : decode cJ13_bitCount_95d88 55 = .ok (.lload_n 0, 1) := by decide +kernel
theorem dJ13_bitCount_95d88_56 : decode cJ13_bitCount_95d88 56 = .ok (.l2i, 1) := by decide +kernel
theorem dJ13_bitCount_95d88_57 : decode cJ13_bitCount_95d88 57 = .ok (.bipush 127, 2) := by decide +kernel
theorem dJ13_bitCount_95d88_59 : decode cJ13_bitCount_95d88 59 = .ok (.iand, 1) := by decide +kernel
theorem dJ13_bitCount_95d88_60 : decode cJ13_bitCount_95d88 60 = .ok (.ireturn, 1) := by decide +kernel
theorem dX2_stampOfMostMembers_0 : decode cX2_stampOfMostMembers 0 = .ok (.aload_n 0, 1) := by decide +kernel
theorem dX2_stampOfMostMembers_1 : decode cX2_stampOfMostMembers 1 = .ok (.getfield 25, 3) := by decide +kernel
theorem dX2_stampOfMostMembers_4 : decode cX2_stampOfMostMembers 4 = .ok (.istore_n 1, 1) := by decide +kernel
theorem dX2_stampOfMostMembers_5 : decode cX2_stampOfMostMembers 5 = .ok (.aload_n 0, 1) := by decide +kernel
theorem dX2_stampOfMostMembers_6 : decode cX2_stampOfMostMembers 6 = .ok (.getfield 28, 3) := by decide +kernel
theorem dX2_stampOfMostMembers_9 : decode cX2_stampOfMostMembers 9 = .ok (.lstore_n 2, 1) := by decide +kernel
theorem dX2_stampOfMostMembers_10 : decode cX2_stampOfMostMembers 10 = .ok (.lload_n 2, 1) := by decide +kernel
theorem dX2_stampOfMostMembers_11 : decode cX2_stampOfMostMembers 11 = .ok (.invokestatic 44, 3) := by decide +kernel
theorem dX2_stampOfMostMembers_14 : decode cX2_stampOfMostMembers 14 = .ok (.istore 4, 2) := by decide +kernel
theorem dX2_stampOfMostMembers_16 : decode cX2_stampOfMostMembers 16 = .ok (.iconst 0, 1) := by decide +kernel
theorem dX2_stampOfMostMembers_17 : decode cX2_stampOfMostMembers 17 = .ok (.istore 5, 2) := by decide +kernel
theorem dX2_stampOfMostMembers_19 : decode cX2_stampOfMostMembers 19 = .ok (.iload 5, 2) := by decide +kernel
theorem dX2_stampOfMostMembers_21 : decode cX2_stampOfMostMembers 21 = .ok (.aload_n 0, 1) := by decide +kernel
theorem dX2_stampOfMostMembers_22 : decode cX2_stampOfMostMembers 22 = .ok (.getfield 21, 3) := by decide +kernel
theorem dX2_stampOfMostMembers_25 : decode cX2_stampOfMostMembers 25 = .ok (.if_icmp .ge 40, 3) := by decide +kernel
theorem dX2_stampOfMostMembers_28 : decode cX2_stampOfMostMembers 28 = .ok (.aload_n 0, 1) := by decide +kernel
theorem dX2_stampOfMostMembers_29 : decode cX2_stampOfMostMembers 29 = .ok (.lload_n 2, 1) := by decide +kernel
theorem dX2_stampOfMostMembers_30 : decode cX2_stampOfMostMembers 30 = .ok (.iload 5, 2) := by decide +kernel
theorem dX2_stampOfMostMembers_32 : decode cX2_stampOfMostMembers 32 = .ok (.invokevirtual 38, 3) := by decide +kernel
theorem dX2_stampOfMostMembers_35 : decode cX2_stampOfMostMembers 35 = .ok (.lstore_n 2, 1) := by decide +kernel
theorem dX2_stampOfMostMembers_36 : decode cX2_stampOfMostMembers 36 = .ok (.lload_n 2, 1) := by decide +kernel
theorem dX2_stampOfMostMembers_37 : decode cX2_stampOfMostMembers 37 = .ok (.invokestatic 44, 3) := by decide +kernel
theorem dX2_stampOfMostMembers_40 : decode cX2_stampOfMostMembers 40 = .ok (.iload 4, 2) := by decide +kernel
theorem dX2_stampOfMostMembers_42 : decode cX2_stampOfMostMembers 42 = .ok (.if_icmp .le 17, 3) := by decide +kernel
theorem dX2_stampOfMostMembers_45 : decode cX2_stampOfMostMembers 45 = .ok (.lload_n 2, 1) := by decide +kernel
theorem dX2_stampOfMostMembers_46 : decode cX2_stampOfMostMembers 46 = .ok (.invokestatic 44, 3) := by decide +kernel
theorem dX2_stampOfMostMembers_49 : decode cX2_stampOfMostMembers 49 = .ok (.istore 4, 2) := by decide +kernel
theorem dX2_stampOfMostMembers_51 : decode cX2_stampOfMostMembers 51 = .ok (.aload_n 0, 1) := by decide +kernel
theorem dX2_stampOfMostMembers_52 : decode cX2_stampOfMostMembers 52 = .ok (.getfield 9, 3) := by decide +kernel
theorem dX2_stampOfMostMembers_55 : decode cX2_stampOfMostMembers 55 = .ok (.iload 5, 2) := by decide +kernel
theorem dX2_stampOfMostMembers_57 : decode cX2_stampOfMostMembers 57 = .ok (.iaload, 1) := by decide +kernel
theorem dX2_stampOfMostMembers_58 : decode cX2_stampOfMostMembers 58 = .ok (.istore_n 1, 1) := by decide +kernel
theorem dX2_stampOfMostMembers_59 : decode cX2_stampOfMostMembers 59 = .ok (.iinc 5 1, 3) := by decide +kernel
theorem dX2_stampOfMostMembers_62 : decode cX2_stampOfMostMembers 62 = .ok (.goto (-43), 3) := by decide +kernel
theorem dX2_stampOfMostMembers_65 : decode cX2_stampOfMostMembers 65 = .ok (.iload_n 1, 1) := by decide +kernel
theorem dX2_stampOfMostMembers_66 : decode cX2_stampOfMostMembers 66 = .ok (.ireturn, 1) := by decide +kernel
theorem dX3_init_0 : decode cX3_init 0 = .ok (.aload_n 0, 1) := by decide +kernel
theorem dX3_init_1 : decode cX3_init 1 = .ok (.invokespecial 3, 3) := by decide +kernel
theorem dX3_init_4 : decode cX3_init 4 = .ok (.aload_n 0, 1) := by decide +kernel
theorem dX3_init_5 : decode cX3_init 5 = .ok (.aload_n 1, 1) := by decide +kernel
theorem dX3_init_6 : decode cX3_init 6 = .ok (.putfield 9, 3) := by decide +kernel
theorem dX3_init_9 : decode cX3_init 9 = .ok (.aload_n 0, 1) := by decide +kernel
theorem dX3_init_10 : decode cX3_init 10 = .ok (.iload_n 2, 1) := by decide +kernel
theorem dX3_init_11 : decode cX3_init 11 = .ok (.putfield 15, 3) := by decide +kernel
theorem dX3_init_14 : decode cX3_init 14 = .ok (.aload_n 0, 1) := by decide +kernel
theorem dX3_init_15 : decode cX3_init 15 = .ok (.aload_n 3, 1) := by decide +kernel
theorem dX3_init_16 : decode cX3_init 16 = .ok (.putfield 19, 3) := by decide +kernel
theorem dX3_init_19 : decode cX3_init 19 = .ok (.aload_n 0, 1) := by decide +kernel
theorem dX3_init_20 : decode cX3_init 20 = .ok (.getstatic 23, 3) := by decide +kernel
theorem dX3_init_23 : decode cX3_init 23 = .ok (.putfield 29, 3) := by decide +kernel
theorem dX3_init_26 : decode cX3_init 26 = .ok (.aload_n 0, 1) := by decide +kernel
theorem dX3_init_27 : decode cX3_init 27 = .ok (.iconst (-1), 1) := by decide +kernel
theorem dX3_init_28 : decode cX3_init 28 = .ok (.putfield 32, 3) := by decide +kernel
theorem dX3_init_31 : decode cX3_init 31 = .ok (.return_, 1) := by decide +kernel
theorem dX3_passLetters_0 : decode cX3_passLetters 0 = .ok (.aload_n 0, 1) := by decide +kernel
theorem dX3_passLetters_1 : decode cX3_passLetters 1 = .ok (.aload_n 0, 1) := by decide +kernel
theorem dX3_passLetters_2 : decode cX3_passLetters 2 = .ok (.getfield 100, 3) := by decide +kernel
theorem dX3_passLetters_5 : decode cX3_passLetters 5 = .ok (.putfield 103, 3) := by decide +kernel
theorem dX3_passLetters_8 : decode cX3_passLetters 8 = .ok (.aload_n 0, 1) := by decide +kernel
theorem dX3_passLetters_9 : decode cX3_passLetters 9 = .ok (.getfield 103, 3) := by decide +kernel
theorem dX3_passLetters_12 : decode cX3_passLetters 12 = .ok (.aload_n 0, 1) := by decide +kernel
theorem dX3_passLetters_13 : decode cX3_passLetters 13 = .ok (.getfield 15, 3) := by decide +kernel
theorem dX3_passLetters_16 : decode cX3_passLetters 16 = .ok (.if_icmp .ge 30, 3) := by decide +kernel
theorem dX3_passLetters_19 : decode cX3_passLetters 19 = .ok (.aload_n 0, 1) := by decide +kernel
theorem dX3_passLetters_20 : decode cX3_passLetters 20 = .ok (.getfield 9, 3) := by decide +kernel
theorem dX3_passLetters_23 : decode cX3_passLetters 23 = .ok (.aload_n 0, 1) := by decide +kernel
theorem dX3_passLetters_24 : decode cX3_passLetters 24 = .ok (.getfield 103, 3) := by decide +kernel
theorem dX3_passLetters_27 : decode cX3_passLetters 27 = .ok (.invokevirtual 177, 3) := by decide +kernel
theorem dX3_passLetters_30 : decode cX3_passLetters 30 = .ok (.ifCond .eq 16, 3) := by decide +kernel
theorem dX3_passLetters_33 : decode cX3_passLetters 33 = .ok (.aload_n 0, 1) := by decide +kernel
theorem dX3_passLetters_34 : decode cX3_passLetters 34 = .ok (.dup, 1) := by decide +kernel
theorem dX3_passLetters_35 : decode cX3_passLetters 35 = .ok (.getfield 103, 3) := by decide +kernel
theorem dX3_passLetters_38 : decode cX3_passLetters 38 = .ok (.iconst 1, 1) := by decide +kernel
theorem dX3_passLetters_39 : decode cX3_passLetters 39 = .ok (.iadd, 1) := by decide +kernel
theorem dX3_passLetters_40 : decode cX3_passLetters 40 = .ok (.putfield 103, 3) := by decide +kernel
theorem dX3_passLetters_43 : decode cX3_passLetters 43 = .ok (.goto (-35), 3) := by decide +kernel
theorem dX3_passLetters_46 : decode cX3_passLetters 46 = .ok (.aload_n 0, 1) := by decide +kernel
theorem dX3_passLetters_47 : decode cX3_passLetters 47 = .ok (.aload_n 0, 1) := by decide +kernel
theorem dX3_passLetters_48 : decode cX3_passLetters 48 = .ok (.getfield 103, 3) := by decide +kernel
theorem dX3_passLetters_51 : decode cX3_passLetters 51 = .ok (.aload_n 0, 1) := by decide +kernel
theorem dX3_passLetters_52 : decode cX3_passLetters 52 = .ok (.getfield 100, 3) := by decide +kernel
theorem dX3_passLetters_55 : decode cX3_passLetters 55 = .ok (.isub, 1) := by decide +kernel
theorem dX3_passLetters_56 : decode cX3_passLetters 56 = .ok (.bipush 8, 2) := by decide +kernel
theorem dX3_passLetters_58 : decode cX3_passLetters 58 = .ok (.if_icmp .le 9, 3) := by decide +kernel
theorem dX3_passLetters_61 : decode cX3_passLetters 61 = .ok (.getstatic 189, 3) := by decide +kernel
theorem dX3_passLetters_64 : decode cX3_passLetters 64 = .ok (.goto 6, 3) := by decide +kernel
theorem dX3_passLetters_67 : decode cX3_passLetters 67 = .ok (.getstatic 97, 3) := by decide +kernel
theorem dX3_passLetters_70 : decode cX3_passLetters 70 = .ok (.putfield 29, 3) := by decide +kernel
theorem dX3_passLetters_73 : decode cX3_passLetters 73 = .ok (.return_, 1) := by decide +kernel
theorem dX3_passDigits_0 : decode cX3_passDigits 0 = .ok (.aload_n 0, 1) := by decide +kernel
theorem dX3_passDigits_1 : decode cX3_passDigits 1 = .ok (.iconst 0, 1) := by decide +kernel
theorem dX3_passDigits_2 : decode cX3_passDigits 2 = .ok (.putfield 48, 3) := by decide +kernel
theorem dX3_passDigits_5 : decode cX3_passDigits 5 = .ok (.aload_n 0, 1) := by decide +kernel
theorem dX3_passDigits_6 : decode cX3_passDigits 6 = .ok (.aload_n 0, 1) := by decide +kernel
theorem dX3_passDigits_7 : decode cX3_passDigits 7 = .ok (.getfield 100, 3) := by decide +kernel
theorem dX3_passDigits_10 : decode cX3_passDigits 10 = .ok (.putfield 103, 3) := by decide +kernel
theorem dX3_passDigits_13 : decode cX3_passDigits 13 = .ok (.aload_n 0, 1) := by decide +kernel
theorem dX3_passDigits_14 : decode cX3_passDigits 14 = .ok (.getfield 103, 3) := by decide +kernel
theorem dX3_passDigits_17 : decode cX3_passDigits 17 = .ok (.aload_n 0, 1) := by decide +kernel
theorem dX3_passDigits_18 : decode cX3_passDigits 18 = .ok (.getfield 15, 3) := by decide +kernel
theorem dX3_passDigits_21 : decode cX3_passDigits 21 = .ok (.if_icmp .ge 57, 3) := by decide +kernel
theorem dX3_passDigits_24 : decode cX3_passDigits 24 = .ok (.aload_n 0, 1) := by decide +kernel
theorem dX3_passDigits_25 : decode cX3_passDigits 25 = .ok (.getfield 9, 3) := by decide +kernel
theorem dX3_passDigits_28 : decode cX3_passDigits 28 = .ok (.aload_n 0, 1) := by decide +kernel
theorem dX3_passDigits_29 : decode cX3_passDigits 29 = .ok (.getfield 103, 3) := by decide +kernel
theorem dX3_passDigits_32 : decode cX3_passDigits 32 = .ok (.invokevirtual 183, 3) := by decide +kernel
theorem dX3_passDigits_35 : decode cX3_passDigits 35 = .ok (.ifCond .eq 43, 3) := by decide +kernel
theorem dX3_passDigits_38 : decode cX3_passDigits 38 = .ok (.aload_n 0, 1) := by decide +kernel
theorem dX3_passDigits_39 : decode cX3_passDigits 39 = .ok (.aload_n 0, 1) := by decide +kernel
theorem dX3_passDigits_40 : decode cX3_passDigits 40 = .ok (.getfield 48, 3) := by decide +kernel
theorem dX3_passDigits_43 : decode cX3_passDigits 43 = .ok (.bipush 10, 2) := by decide +kernel
theorem dX3_passDigits_45 : decode cX3_passDigits 45 = .ok (.imul, 1) := by decide +kernel
theorem dX3_passDigits_46 : decode cX3_passDigits 46 = .ok (.aload_n 0, 1) := by decide +kernel
theorem dX3_passDigits_47 : decode cX3_passDigits 47 = .ok (.getfield 9, 3) := by decide +kernel
theorem dX3_passDigits_50 : decode cX3_passDigits 50 = .ok (.getfield 163, 3) := by decide +kernel
theorem dX3_passDigits_53 : decode cX3_passDigits 53 = .ok (.aload_n 0, 1) := by decide +kernel
theorem dX3_passDigits_54 : decode cX3_passDigits 54 = .ok (.getfield 103, 3) := by decide +kernel
theorem dX3_passDigits_57 : decode cX3_passDigits 57 = .ok (.baload, 1) := by decide +kernel
theorem dX3_passDigits_58 : decode cX3_passDigits 58 = .ok (.bipush 48, 2) := by decide +kernel
theorem dX3_passDigits_60 : decode cX3_passDigits 60 = .ok (.isub, 1) := by decide +kernel
theorem dX3_passDigits_61 : decode cX3_passDigits 61 = .ok (.iadd, 1) := by decide +kernel
theorem dX3_passDigits_62 : decode cX3_passDigits 62 = .ok (.putfield 48, 3) := by decide +kernel
theorem dX3_passDigits_65 : decode cX3_passDigits 65 = .ok (.aload_n 0, 1) := by decide +kernel
theorem dX3_passDigits_66 : decode cX3_passDigits 66 = .ok (.dup, 1) := by decide +kernel
theorem dX3_passDigits_67 : decode cX3_passDigits 67 = .ok (.getfield 103, 3) := by decide +kernel
theorem dX3_passDigits_70 : decode cX3_passDigits 70 = .ok (.iconst 1, 1) := by decide +kernel
theorem dX3_passDigits_71 : decode cX3_passDigits 71 = .ok (.iadd, 1) := by decide +kernel
theorem dX3_passDigits_72 : decode cX3_passDigits 72 = .ok (.putfield 103, 3) := by decide +kernel
theorem dX3_passDigits_75 : decode cX3_passDigits 75 = .ok (.goto (-62), 3) := by decide +kernel
theorem dX3_passDigits_78 : decode cX3_passDigits 78 = .ok (.aload_n 0, 1) := by decide +kernel
theorem dX3_passDigits_79 : decode cX3_passDigits 79 = .ok (.aload_n 0, 1) := by decide +kernel
theorem dX3_passDigits_80 : decode cX3_passDigits 80 = .ok (.getfield 103, 3) := by decide +kernel
theorem dX3_passDigits_83 : decode cX3_passDigits 83 = .ok (.aload_n 0, 1) := by decide +kernel
theorem dX3_passDigits_84 : decode cX3_passDigits 84 = .ok (.getfield 100, 3) := by decide +kernel
theorem dX3_passDigits_87 : decode cX3_passDigits 87 = .ok (.isub, 1) := by decide +kernel
theorem dX3_passDigits_88 : decode cX3_passDigits 88 = .ok (.iconst 3, 1) := by decide +kernel
theorem dX3_passDigits_89 : decode cX3_passDigits 89 = .ok (.if_icmp .le 9, 3) := by decide +kernel
theorem dX3_passDigits_92 : decode cX3_passDigits 92 = .ok (.getstatic 189, 3) := by decide +kernel
theorem dX3_passDigits_95 : decode cX3_passDigits 95 = .ok (.goto 6, 3) := by decide +kernel
theorem dX3_passDigits_98 : decode cX3_passDigits 98 = .ok (.getstatic 122, 3) := by decide +kernel
theorem dX3_passDigits_101 : decode cX3_passDigits 101 = .ok (.putfield 29, 3) := by decide +kernel
theorem dX3_passDigits_104 : decode cX3_passDigits 104 = .ok (.return_, 1) := by decide +kernel
theorem dX3_toNextToken_0 : decode cX3_toNextToken 0 = .ok (.aload_n 0, 1) := by decide +kernel
theorem dX3_toNextToken_1 : decode cX3_toNextToken 1 = .ok (.aload_n 0, 1) := by decide +kernel
theorem dX3_toNextToken_2 : decode cX3_toNextToken 2 = .ok (.getfield 103, 3) := by decide +kernel
theorem dX3_toNextToken_5 : decode cX3_toNextToken 5 = .ok (.putfield 100, 3) := by decide +kernel
theorem dX3_toNextToken_8 : decode cX3_toNextToken 8 = .ok (.aload_n 0, 1) := by decide +kernel
theorem dX3_toNextToken_9 : decode cX3_toNextToken 9 = .ok (.getfield 100, 3) := by decide +kernel
theorem dX3_toNextToken_12 : decode cX3_toNextToken 12 = .ok (.aload_n 0, 1) := by decide +kernel
theorem dX3_toNextToken_13 : decode cX3_toNextToken 13 = .ok (.getfield 15, 3) := by decide +kernel
theorem dX3_toNextToken_16 : decode cX3_toNextToken 16 = .ok (.if_icmp .ge 30, 3) := by decide +kernel
theorem dX3_toNextToken_19 : decode cX3_toNextToken 19 = .ok (.aload_n 0, 1) := by decide +kernel
theorem dX3_toNextToken_20 : decode cX3_toNextToken 20 = .ok (.getfield 9, 3) := by decide +kernel
theorem dX3_toNextToken_23 : decode cX3_toNextToken 23 = .ok (.aload_n 0, 1) := by decide +kernel
theorem dX3_toNextToken_24 : decode cX3_toNextToken 24 = .ok (.getfield 100, 3) := by decide +kernel
theorem dX3_toNextToken_27 : decode cX3_toNextToken 27 = .ok (.invokevirtual 174, 3) := by decide +kernel
theorem dX3_toNextToken_30 : decode cX3_toNextToken 30 = .ok (.ifCond .eq 16, 3) := by decide +kernel
theorem dX3_toNextToken_33 : decode cX3_toNextToken 33 = .ok (.aload_n 0, 1) := by decide +kernel
theorem dX3_toNextToken_34 : decode cX3_toNextToken 34 = .ok (.dup, 1) := by decide +kernel
theorem dX3_toNextToken_35 : decode cX3_toNextToken 35 = .ok (.getfield 100, 3) := by decide +kernel
theorem dX3_toNextToken_38 : decode cX3_toNextToken 38 = .ok (.iconst 1, 1) := by decide +kernel
theorem dX3_toNextToken_39 : decode cX3_toNextToken 39 = .ok (.iadd, 1) := by decide +kernel
theorem dX3_toNextToken_40 : decode cX3_toNextToken 40 = .ok (.putfield 100, 3) := by decide +kernel
theorem dX3_toNextToken_43 : decode cX3_toNextToken 43 = .ok (.goto (-35), 3) := by decide +kernel
theorem dX3_toNextToken_46 : decode cX3_toNextToken 46 = .ok (.aload_n 0, 1) := by decide +kernel
theorem dX3_toNextToken_47 : decode cX3_toNextToken 47 = .ok (.getfield 100, 3) := by decide +kernel
theorem dX3_toNextToken_50 : decode cX3_toNextToken 50 = .ok (.aload_n 0, 1) := by decide +kernel
theorem dX3_toNextToken_51 : decode cX3_toNextToken 51 = .ok (.getfield 15, 3) := by decide +kernel
theorem dX3_toNextToken_54 : decode cX3_toNextToken 54 = .ok (.if_icmp .lt 21, 3) := by decide +kernel
theorem dX3_toNextToken_57 : decode cX3_toNextToken 57 = .ok (.aload_n 0, 1) := by decide +kernel
theorem dX3_toNextToken_58 : decode cX3_toNextToken 58 = .ok (.aload_n 0, 1) := by decide +kernel
theorem dX3_toNextToken_59 : decode cX3_toNextToken 59 = .ok (.getfield 100, 3) := by decide +kernel
theorem dX3_toNextToken_62 : decode cX3_toNextToken 62 = .ok (.putfield 103, 3) := by decide +kernel
theorem dX3_toNextToken_65 : decode cX3_toNextToken 65 = .ok (.aload_n 0, 1) := by decide +kernel
theorem dX3_toNextToken_66 : decode cX3_toNextToken 66 = .ok (.getstatic 23, 3) := by decide +kernel
theorem dX3_toNextToken_69 : decode cX3_toNextToken 69 = .ok (.putfield 29, 3) := by decide +kernel
theorem dX3_toNextToken_72 : decode cX3_toNextToken 72 = .ok (.goto 85, 3) := by decide +kernel
theorem dX3_toNextToken_75 : decode cX3_toNextToken 75 = .ok (.aload_n 0, 1) := by decide +kernel
theorem dX3_toNextToken_76 : decode cX3_toNextToken 76 = .ok (.getfield 9, 3) := by decide +kernel
theorem dX3_toNextToken_79 : decode cX3_toNextToken 79 = .ok (.aload_n 0, 1) := by decide +kernel
theorem dX3_toNextToken_80 : decode cX3_toNextToken 80 = .ok (.getfield 100, 3) := by decide +kernel
theorem dX3_toNextToken_83 : decode cX3_toNextToken 83 = .ok (.invokevirtual 177, 3) := by decide +kernel
theorem dX3_toNextToken_86 : decode cX3_toNextToken 86 = .ok (.ifCond .eq 10, 3) := by decide +kernel
theorem dX3_toNextToken_89 : decode cX3_toNextToken 89 = .ok (.aload_n 0, 1) := by decide +kernel
theorem dX3_toNextToken_90 : decode cX3_toNextToken 90 = .ok (.invokevirtual 180, 3) := by decide +kernel
theorem dX3_toNextToken_93 : decode cX3_toNextToken 93 = .ok (.goto 64, 3) := by decide +kernel
theorem dX3_toNextToken_96 : decode cX3_toNextToken 96 = .ok (.aload_n 0, 1) := by decide +kernel
theorem dX3_toNextToken_97 : decode cX3_toNextToken 97 = .ok (.getfield 9, 3) := by decide +kernel
theorem dX3_toNextToken_100 : decode cX3_toNextToken 100 = .ok (.aload_n 0, 1) := by decide +kernel
theorem dX3_toNextToken_101 : decode cX3_toNextToken 101 = .ok (.getfield 100, 3) := by decide +kernel
theorem dX3_toNextToken_104 : decode cX3_toNextToken 104 = .ok (.invokevirtual 183, 3) := by decide +kernel
theorem dX3_toNextToken_107 : decode cX3_toNextToken 107 = .ok (.ifCond .eq 10, 3) := by decide +kernel
theorem dX3_toNextToken_110 : decode cX3_toNextToken 110 = .ok (.aload_n 0, 1) := by decide +kernel
theorem dX3_toNextToken_111 : decode cX3_toNextToken 111 = .ok (.invokevirtual 186, 3) := by decide +kernel
theorem dX3_toNextToken_114 : decode cX3_toNextToken 114 = .ok (.goto 43, 3) := by decide +kernel
theorem dX3_toNextToken_117 : decode cX3_toNextToken 117 = .ok (.aload_n 0, 1) := by decide +kernel
theorem dX3_toNextToken_118 : decode cX3_toNextToken 118 = .ok (.aload_n 0, 1) := by decide +kernel
theorem dX3_toNextToken_119 : decode cX3_toNextToken 119 = .ok (.getfield 100, 3) := by decide +kernel
theorem dX3_toNextToken_122 : decode cX3_toNextToken 122 = .ok (.iconst 1, 1) := by decide +kernel
theorem dX3_toNextToken_123 : decode cX3_toNextToken 123 = .ok (.iadd, 1) := by decide +kernel
theorem dX3_toNextToken_124 : decode cX3_toNextToken 124 = .ok (.putfield 103, 3) := by decide +kernel
theorem dX3_toNextToken_127 : decode cX3_toNextToken 127 = .ok (.aload_n 0, 1) := by decide +kernel
theorem dX3_toNextToken_128 : decode cX3_toNextToken 128 = .ok (.aload_n 0, 1) := by decide +kernel
theorem dX3_toNextToken_129 : decode cX3_toNextToken 129 = .ok (.getfield 9, 3) := by decide +kernel
theorem dX3_toNextToken_132 : decode cX3_toNextToken 132 = .ok (.getfield 163, 3) := by decide +kernel
theorem dX3_toNextToken_135 : decode cX3_toNextToken 135 = .ok (.aload_n 0, 1) := by decide +kernel
theorem dX3_toNextToken_136 : decode cX3_toNextToken 136 = .ok (.getfield 100, 3) := by decide +kernel
theorem dX3_toNextToken_139 : decode cX3_toNextToken 139 = .ok (.baload, 1) := by decide +kernel
theorem dX3_toNextToken_140 : decode cX3_toNextToken 140 = .ok (.bipush 59, 2) := by decide +kernel
theorem dX3_toNextToken_142 : decode cX3_toNextToken 142 = .ok (.if_icmp .ne 9, 3) := by decide +kernel
theorem dX3_toNextToken_145 : decode cX3_toNextToken 145 = .ok (.getstatic 148, 3) := by decide +kernel
theorem dX3_toNextToken_148 : decode cX3_toNextToken 148 = .ok (.goto 6, 3) := by decide +kernel
theorem dX3_toNextToken_151 : decode cX3_toNextToken 151 = .ok (.getstatic 189, 3) := by decide +kernel
theorem dX3_toNextToken_154 : decode cX3_toNextToken 154 = .ok (.putfield 29, 3) := by decide +kernel
theorem dX3_toNextToken_157 : decode cX3_toNextToken 157 = .ok (.return_, 1) := by decide +kernel
theorem dX3_isWord_0 : decode cX3_isWord 0 = .ok (.aload_n 0, 1) := by decide +kernel
theorem dX3_isWord_1 : decode cX3_isWord 1 = .ok (.getfield 29, 3) := by decide +kernel
theorem dX3_isWord_4 : decode cX3_isWord 4 = .ok (.getstatic 97, 3) := by decide +kernel
theorem dX3_isWord_7 : decode cX3_isWord 7 = .ok (.if_acmp .ne 26, 3) := by decide +kernel
theorem dX3_isWord_10 : decode cX3_isWord 10 = .ok (.aload_n 0, 1) := by decide +kernel
theorem dX3_isWord_11 : decode cX3_isWord 11 = .ok (.getfield 9, 3) := by decide +kernel
theorem dX3_isWord_14 : decode cX3_isWord 14 = .ok (.aload_n 0, 1) := by decide +kernel
theorem dX3_isWord_15 : decode cX3_isWord 15 = .ok (.getfield 100, 3) := by decide +kernel
theorem dX3_isWord_18 : decode cX3_isWord 18 = .ok (.aload_n 0, 1) := by decide +kernel
theorem dX3_isWord_19 : decode cX3_isWord 19 = .ok (.getfield 103, 3) := by decide +kernel
theorem dX3_isWord_22 : decode cX3_isWord 22 = .ok (.aload_n 1, 1) := by decide +kernel
theorem dX3_isWord_23 : decode cX3_isWord 23 = .ok (.invokevirtual 154, 3) := by decide +kernel
theorem dX3_isWord_26 : decode cX3_isWord 26 = .ok (.ifCond .eq 7, 3) := by decide +kernel
theorem dX3_isWord_29 : decode cX3_isWord 29 = .ok (.iconst 1, 1) := by decide +kernel
theorem dX3_isWord_30 : decode cX3_isWord 30 = .ok (.goto 4, 3) := by decide +kernel
theorem dX3_isWord_33 : decode cX3_isWord 33 = .ok (.iconst 0, 1) := by decide +kernel
theorem dX3_isWord_34 : decode cX3_isWord 34 = .ok (.ireturn, 1) := by decide +kernel
theorem dX3_fail_0 : decode cX3_fail 0 = .ok (.aload_n 0, 1) := by decide +kernel
theorem dX3_fail_1 : decode cX3_fail 1 = .ok (.iload_n 1, 1) := by decide +kernel
theorem dX3_fail_2 : decode cX3_fail 2 = .ok (.putfield 151, 3) := by decide +kernel
theorem dX3_fail_5 : decode cX3_fail 5 = .ok (.aload_n 0, 1) := by decide +kernel
theorem dX3_fail_6 : decode cX3_fail 6 = .ok (.aload_n 0, 1) := by decide +kernel
theorem dX3_fail_7 : decode cX3_fail 7 = .ok (.getfield 100, 3) := by decide +kernel
theorem dX3_fail_10 : decode cX3_fail 10 = .ok (.putfield 32, 3) := by decide +kernel
theorem dX3_fail_13 : decode cX3_fail 13 = .ok (.iconst 0, 1) := by decide +kernel
theorem dX3_fail_14 : decode cX3_fail 14 = .ok (.ireturn, 1) := by decide +kernel
theorem dX3_passWord_0 : decode cX3_passWord 0 = .ok (.aload_n 0, 1) := by decide +kernel
theorem dX3_passWord_1 : decode cX3_passWord 1 = .ok (.aload_n 1, 1) := by decide +kernel
theorem dX3_passWord_2 : decode cX3_passWord 2 = .ok (.invokevirtual 66, 3) := by decide +kernel
theorem dX3_passWord_5 : decode cX3_passWord 5 = .ok (.ifCond .ne 9, 3) := by decide +kernel
theorem dX3_passWord_8 : decode cX3_passWord 8 = .ok (.aload_n 0, 1) := by decide +kernel
theorem dX3_passWord_9 : decode cX3_passWord 9 = .ok (.iconst 1, 1) := by decide +kernel
theorem dX3_passWord_10 : decode cX3_passWord 10 = .ok (.invokevirtual 90, 3) := by decide +kernel
theorem dX3_passWord_13 : decode cX3_passWord 13 = .ok (.ireturn, 1) := by decide +kernel
theorem dX3_passWord_14 : decode cX3_passWord 14 = .ok (.aload_n 0, 1) := by decide +kernel
theorem dX3_passWord_15 : decode cX3_passWord 15 = .ok (.invokevirtual 35, 3) := by decide +kernel
theorem dX3_passWord_18 : decode cX3_passWord 18 = .ok (.iconst 1, 1) := by decide +kernel
theorem dX3_passWord_19 : decode cX3_passWord 19 = .ok (.ireturn, 1) := by decide +kernel
theorem dX3_isNumber_0 : decode cX3_isNumber 0 = .ok (.aload_n 0, 1) := by decide +kernel
theorem dX3_isNumber_1 : decode cX3_isNumber 1 = .ok (.getfield 29, 3) := by decide +kernel
theorem dX3_isNumber_4 : decode cX3_isNumber 4 = .ok (.getstatic 122, 3) := by decide +kernel
theorem dX3_isNumber_7 : decode cX3_isNumber 7 = .ok (.if_acmp .eq 9, 3) := by decide +kernel
theorem dX3_isNumber_10 : decode cX3_isNumber 10 = .ok (.aload_n 0, 1) := by decide +kernel
theorem dX3_isNumber_11 : decode cX3_isNumber 11 = .ok (.iconst 1, 1) := by decide +kernel
theorem dX3_isNumber_12 : decode cX3_isNumber 12 = .ok (.invokevirtual 90, 3) := by decide +kernel
theorem dX3_isNumber_15 : decode cX3_isNumber 15 = .ok (.ireturn, 1) := by decide +kernel
theorem dX3_isNumber_16 : decode cX3_isNumber 16 = .ok (.aload_n 0, 1) := by decide +kernel
theorem dX3_isNumber_17 : decode cX3_isNumber 17 = .ok (.getfield 48, 3) := by decide +kernel
theorem dX3_isNumber_20 : decode cX3_isNumber 20 = .ok (.iload_n 1, 1) := by decide +kernel
theorem dX3_isNumber_21 : decode cX3_isNumber 21 = .ok (.if_icmp .lt 11, 3) := by decide +kernel
theorem dX3_isNumber_24 : decode cX3_isNumber 24 = .ok (.aload_n 0, 1) := by decide +kernel
theorem dX3_isNumber_25 : decode cX3_isNumber 25 = .ok (.getfield 48, 3) := by decide +kernel
theorem dX3_isNumber_28 : decode cX3_isNumber 28 = .ok (.iload_n 2, 1) := by decide +kernel
theorem dX3_isNumber_29 : decode cX3_isNumber 29 = .ok (.if_icmp .le 11, 3) := by decide +kernel
theorem dX3_isNumber_32 : decode cX3_isNumber 32 = .ok (.aload_n 0, 1) := by decide +kernel
theorem dX3_isNumber_33 : decode cX3_isNumber 33 = .ok (.iconst 3, 1) := by decide +kernel
theorem dX3_isNumber_34 : decode cX3_isNumber 34 = .ok (.invokevirtual 90, 3) := by decide +kernel
theorem dX3_isNumber_37 : decode cX3_isNumber 37 = .ok (.ifCond .eq 7, 3) := by decide +kernel
theorem dX3_isNumber_40 : decode cX3_isNumber 40 = .ok (.iconst 1, 1) := by decide +kernel
theorem dX3_isNumber_41 : decode cX3_isNumber 41 = .ok (.goto 4, 3) := by decide +kernel
theorem dX3_isNumber_44 : decode cX3_isNumber 44 = .ok (.iconst 0, 1) := by decide +kernel
theorem dX3_isNumber_45 : decode cX3_isNumber 45 = .ok (.ireturn, 1) := by decide +kernel
theorem dX5_begin_0 : decode cX5_begin 0 = .ok (.aload_n 0, 1) := by decide +kernel
theorem dX5_begin_1 : decode cX5_begin 1 = .ok (.iload_n 1, 1) := by decide +kernel
theorem dX5_begin_2 : decode cX5_begin 2 = .ok (.putfield 29, 3) := by decide +kernel
theorem dX5_begin_5 : decode cX5_begin 5 = .ok (.aload_n 0, 1) := by decide +kernel
theorem dX5_begin_6 : decode cX5_begin 6 = .ok (.iload_n 2, 1) := by decide +kernel
theorem dX5_begin_7 : decode cX5_begin 7 = .ok (.putfield 33, 3) := by decide +kernel
theorem dX5_begin_10 : decode cX5_begin 10 = .ok (.aload_n 0, 1) := by decide +kernel
theorem dX5_begin_11 : decode cX5_begin 11 = .ok (.iconst 0, 1) := by decide +kernel
theorem dX5_begin_12 : decode cX5_begin 12 = .ok (.putfield 36, 3) := by decide +kernel
theorem dX5_begin_15 : decode cX5_begin 15 = .ok (.aload_n 0, 1) := by decide +kernel
theorem dX5_begin_16 : decode cX5_begin 16 = .ok (.iconst 0, 1) := by decide +kernel
theorem dX5_begin_17 : decode cX5_begin 17 = .ok (.putfield 39, 3) := by decide +kernel
theorem dX5_begin_20 : decode cX5_begin 20 = .ok (.aload_n 0, 1) := by decide +kernel
theorem dX5_begin_21 : decode cX5_begin 21 = .ok (.iconst 0, 1) := by decide +kernel
theorem dX5_begin_22 : decode cX5_begin 22 = .ok (.putfield 42, 3) := by decide +kernel
theorem dX5_begin_25 : decode cX5_begin 25 = .ok (.aload_n 0, 1) := by decide +kernel
theorem dX5_begin_26 : decode cX5_begin 26 = .ok (.iconst 0, 1) := by decide +kernel
theorem dX5_begin_27 : decode cX5_begin 27 = .ok (.putfield 45, 3) := by decide +kernel
theorem dX5_begin_30 : decode cX5_begin 30 = .ok (.iconst 0, 1) := by decide +kernel
theorem dX5_begin_31 : decode cX5_begin 31 = .ok (.istore_n 3, 1) := by decide +kernel
theorem dX5_begin_32 : decode cX5_begin 32 = .ok (.iload_n 3, 1) := by decide +kernel
theorem dX5_begin_33 : decode cX5_begin 33 = .ok (.bipush 6, 2) := by decide +kernel
theorem dX5_begin_35 : decode cX5_begin 35 = .ok (.if_icmp .ge 29, 3) := by decide +kernel
theorem dX5_begin_38 : decode cX5_begin 38 = .ok (.aload_n 0, 1) := by decide +kernel
theorem dX5_begin_39 : decode cX5_begin 39 = .ok (.getfield 19, 3) := by decide +kernel
theorem dX5_begin_42 : decode cX5_begin 42 = .ok (.iload_n 3, 1) := by decide +kernel
theorem dX5_begin_43 : decode cX5_begin 43 = .ok (.aaload, 1) := by decide +kernel
theorem dX5_begin_44 : decode cX5_begin 44 = .ok (.iconst 0, 1) := by decide +kernel
theorem dX5_begin_45 : decode cX5_begin 45 = .ok (.putfield 48, 3) := by decide +kernel
theorem dX5_begin_48 : decode cX5_begin 48 = .ok (.aload_n 0, 1) := by decide +kernel
theorem dX5_begin_49 : decode cX5_begin 49 = .ok (.getfield 19, 3) := by decide +kernel
theorem dX5_begin_52 : decode cX5_begin 52 = .ok (.iload_n 3, 1) := by decide +kernel
theorem dX5_begin_53 : decode cX5_begin 53 = .ok (.aaload, 1) := by decide +kernel
theorem dX5_begin_54 : decode cX5_begin 54 = .ok (.iconst 0, 1) := by decide +kernel
theorem dX5_begin_55 : decode cX5_begin 55 = .ok (.putfield 52, 3) := by decide +kernel
theorem dX5_begin_58 : decode cX5_begin 58 = .ok (.iinc 3 1, 3) := by decide +kernel
theorem dX5_begin_61 : decode cX5_begin 61 = .ok (.goto (-29), 3) := by decide +kernel
theorem dX5_begin_64 : decode cX5_begin 64 = .ok (.return_, 1) := by decide +kernel
theorem dX3_passSemicolon_0 : decode cX3_passSemicolon 0 = .ok (.aload_n 0, 1) := by decide +kernel
theorem dX3_passSemicolon_1 : decode cX3_passSemicolon 1 = .ok (.getfield 29, 3) := by decide +kernel
theorem dX3_passSemicolon_4 : decode cX3_passSemicolon 4 = .ok (.getstatic 148, 3) := by decide +kernel
theorem dX3_passSemicolon_7 : decode cX3_passSemicolon 7 = .ok (.if_acmp .eq 9, 3) := by decide +kernel
theorem dX3_passSemicolon_10 : decode cX3_passSemicolon 10 = .ok (.aload_n 0, 1) := by decide +kernel
theorem dX3_passSemicolon_11 : decode cX3_passSemicolon 11 = .ok (.iconst 1, 1) := by decide +kernel
theorem dX3_passSemicolon_12 : decode cX3_passSemicolon 12 = .ok (.invokevirtual 90, 3) := by decide +kernel
theorem dX3_passSemicolon_15 : decode cX3_passSemicolon 15 = .ok (.ireturn, 1) := by decide +kernel
theorem dX3_passSemicolon_16 : decode cX3_passSemicolon 16 = .ok (.aload_n 0, 1) := by decide +kernel
theorem dX3_passSemicolon_17 : decode cX3_passSemicolon 17 = .ok (.invokevirtual 35, 3) := by decide +kernel
theorem dX3_passSemicolon_20 : decode cX3_passSemicolon 20 = .ok (.iconst 1, 1) := by decide +kernel
theorem dX3_passSemicolon_21 : decode cX3_passSemicolon 21 = .ok (.ireturn, 1) := by decide +kernel
theorem dX5_setNamed_0 : decode cX5_setNamed 0 = .ok (.iconst 0, 1) := by decide +kernel
theorem dX5_setNamed_1 : decode cX5_setNamed 1 = .ok (.istore 4, 2) := by decide +kernel
theorem dX5_setNamed_3 : decode cX5_setNamed 3 = .ok (.iload 4, 2) := by decide +kernel
theorem dX5_setNamed_5 : decode cX5_setNamed 5 = .ok (.aload_n 0, 1) := by decide +kernel
theorem dX5_setNamed_6 : decode cX5_setNamed 6 = .ok (.getfield 36, 3) := by decide +kernel
theorem dX5_setNamed_9 : decode cX5_setNamed 9 = .ok (.if_icmp .ge 31, 3) := by decide +kernel
theorem dX5_setNamed_12 : decode cX5_setNamed 12 = .ok (.aload_n 1, 1) := by decide +kernel
theorem dX5_setNamed_13 : decode cX5_setNamed 13 = .ok (.iload_n 2, 1) := by decide +kernel
theorem dX5_setNamed_14 : decode cX5_setNamed 14 = .ok (.iload_n 3, 1) := by decide +kernel
theorem dX5_setNamed_15 : decode cX5_setNamed 15 = .ok (.aload_n 0, 1) := by decide +kernel
theorem dX5_setNamed_16 : decode cX5_setNamed 16 = .ok (.getfield 11, 3) := by decide +kernel
theorem dX5_setNamed_19 : decode cX5_setNamed 19 = .ok (.iload 4, 2) := by decide +kernel
theorem dX5_setNamed_21 : decode cX5_setNamed 21 = .ok (.aaload, 1) := by decide +kernel
theorem dX5_setNamed_22 : decode cX5_setNamed 22 = .ok (.getfield 72, 3) := by decide +kernel
theorem dX5_setNamed_25 : decode cX5_setNamed 25 = .ok (.invokevirtual 76, 3) := by decide +kernel
theorem dX5_setNamed_28 : decode cX5_setNamed 28 = .ok (.ifCond .eq 6, 3) := by decide +kernel
theorem dX5_setNamed_31 : decode cX5_setNamed 31 = .ok (.iload 4, 2) := by decide +kernel
theorem dX5_setNamed_33 : decode cX5_setNamed 33 = .ok (.ireturn, 1) := by decide +kernel
theorem dX5_setNamed_34 : decode cX5_setNamed 34 = .ok (.iinc 4 1, 3) := by decide +kernel
theorem dX5_setNamed_37 : decode cX5_setNamed 37 = .ok (.goto (-34), 3) := by decide +kernel
theorem dX5_setNamed_40 : decode cX5_setNamed 40 = .ok (.iconst (-1), 1) := by decide +kernel
theorem dX5_setNamed_41 : decode cX5_setNamed 41 = .ok (.ireturn, 1) := by decide +kernel
theorem dJ5_init_d00df_0 : decode cJ5_init_d00df 0 = .ok (.aload_n 0, 1) := by decide +kernel
theorem dJ5_init_d00df_1 : decode cJ5_init_d00df 1 = .ok (.invokespecial 3, 3) := by decide +kernel
theorem dJ5_init_d00df_4 : decode cJ5_init_d00df 4 = .ok (.getstatic 18, 3) := by decide +kernel
theorem dJ5_init_d00df_7 : decode cJ5_init_d00df 7 = .ok (.ifCond .eq 18, 3) := by decide +kernel
theorem dJ5_init_d00df_10 : decode cJ5_init_d00df 10 = .ok (.aload_n 0, 1) := by decide +kernel
theorem dJ5_init_d00df_11 : decode cJ5_init_d00df 11 = .ok (.iload_n 1, 1) := by decide +kernel
theorem dJ5_init_d00df_12 : decode cJ5_init_d00df 12 = .ok (.newarray .byte, 2) := by decide +kernel
theorem dJ5_init_d00df_14 : decode cJ5_init_d00df 14 = .ok (.putfield 15, 3) := by decide +kernel
theorem dJ5_init_d00df_17 : decode cJ5_init_d00df 17 = .ok (.aload_n 0, 1) := by decide +kernel
theorem dJ5_init_d00df_18 : decode cJ5_init_d00df 18 = .ok (.iconst 0, 1) := by decide +kernel
theorem dJ5_init_d00df_19 : decode cJ5_init_d00df 19 = .ok (.putfield 22, 3) := by decide +kernel
theorem dJ5_init_d00df_22 : decode cJ5_init_d00df 22 = .ok (.goto 16, 3) := by decide +kernel
theorem dJ5_init_d00df_25 : decode cJ5_init_d00df 25 = .ok (.aload_n 0, 1) := by decide +kernel
theorem dJ5_init_d00df_26 : decode cJ5_init_d00df 26 = .ok (.iload_n 1, 1) := by decide +kernel
theorem dJ5_init_d00df_27 : decode cJ5_init_d00df 27 = .ok (.invokestatic 26, 3) := by decide +kernel
theorem dJ5_init_d00df_30 : decode cJ5_init_d00df 30 = .ok (.putfield 15, 3) := by decide +kernel
theorem dJ5_init_d00df_33 : decode cJ5_init_d00df 33 = .ok (.aload_n 0, 1) := by decide +kernel
theorem dJ5_init_d00df_34 : decode cJ5_init_d00df 34 = .ok (.iconst 1, 1) := by decide +kernel
theorem dJ5_init_d00df_35 : decode cJ5_init_d00df 35 = .ok (.putfield 22, 3) := by decide +kernel
theorem dJ5_init_d00df_38 : decode cJ5_init_d00df 38 = .ok (.return_, 1) := by decide +kernel
theorem dJ4_init_da8c8_0 : decode cJ4_init_da8c8 0 = .ok (.aload_n 0, 1) := by decide +kernel
theorem dJ4_init_da8c8_1 : decode cJ4_init_da8c8 1 = .ok (.bipush 16, 2) := by decide +kernel
theorem dJ4_init_da8c8_3 : decode cJ4_init_da8c8 3 = .ok (.invokespecial 1, 3) := by decide +kernel
theorem dJ4_init_da8c8_6 : decode cJ4_init_da8c8 6 = .ok (.return_, 1) := by decide +kernel
theorem dJ9_max_7cf53_0 : decode cJ9_max_7cf53 0 = .ok (.iload_n 0, 1) := by decide +kernel
theorem dJ9_max_7cf53_1 : decode cJ9_max_7cf53 1 = .ok (.iload_n 1, 1) := by decide +kernel
theorem dJ9_max_7cf53_2 : decode cJ9_max_7cf53 2 = .ok (.if_icmp .lt 7, 3) := by decide +kernel
theorem dJ9_max_7cf53_5 : decode cJ9_max_7cf53 5 = .ok (.iload_n 0, 1) := by decide +kernel
theorem dJ9_max_7cf53_6 : decode cJ9_max_7cf53 6 = .ok (.goto 4, 3) := by decide +kernel
theorem dJ9_max_7cf53_9 : decode cJ9_max_7cf53 9 = .ok (.iload_n 1, 1) := by decide +kernel
theorem dJ9_max_7cf53_10 : decode cJ9_max_7cf53 10 = .ok (.ireturn, 1) := by decide +kernel
theorem dJ8_newLength_cabcc_0 : decode cJ8_newLength_cabcc 0 = .ok (.iload_n 0, 1) := by decide +kernel
theorem dJ8_newLength_cabcc_1 : decode cJ8_newLength_cabcc 1 = .ok (.iload_n 1, 1) := by decide +kernel
theorem dJ8_newLength_cabcc_2 : decode cJ8_newLength_cabcc 2 = .ok (.iload_n 2, 1) := by decide +kernel
theorem dJ8_newLength_cabcc_3 : decode cJ8_newLength_cabcc 3 = .ok (.invokestatic 194, 3) := by decide +kernel
theorem dJ8_newLength_cabcc_6 : decode cJ8_newLength_cabcc 6 = .ok (.iadd, 1) := by decide +kernel
theorem dJ8_newLength_cabcc_7 : decode cJ8_newLength_cabcc 7 = .ok (.istore_n 3, 1) := by decide +kernel
theorem dJ8_newLength_cabcc_8 : decode cJ8_newLength_cabcc 8 = .ok (.iconst 0, 1) := by decide +kernel
theorem dJ8_newLength_cabcc_9 : decode cJ8_newLength_cabcc 9 = .ok (.iload_n 3, 1) := by decide +kernel
theorem dJ8_newLength_cabcc_10 : decode cJ8_newLength_cabcc 10 = .ok (.if_icmp .ge 11, 3) := by decide +kernel
theorem dJ8_newLength_cabcc_13 : decode cJ8_newLength_cabcc 13 = .ok (.iload_n 3, 1) := by decide +kernel
theorem dJ8_newLength_cabcc_14 : decode cJ8_newLength_cabcc 14 = .ok (.ldc 200, 2) := by decide +kernel
theorem dJ8_newLength_cabcc_16 : decode cJ8_newLength_cabcc 16 = .ok (.if_icmp .gt 5, 3) := by decide +kernel
theorem dJ8_newLength_cabcc_19 : decode cJ8_newLength_cabcc 19 = .ok (.iload_n 3, 1) := by decide +kernel
theorem dJ8_newLength_cabcc_20 : decode cJ8_newLength_cabcc 20 = .ok (.ireturn, 1) := by decide +kernel
theorem dJ8_newLength_cabcc_21 : decode cJ8_newLength_cabcc 21 = .ok (.iload_n 0, 1) := by decide +kernel
theorem dJ8_newLength_cabcc_22 : decode cJ8_newLength_cabcc 22 = .ok (.iload_n 1, 1) := by decide +kernel
theorem dJ8_newLength_cabcc_23 : decode cJ8_newLength_cabcc 23 = .ok (.invokestatic 201, 3) := by decide +kernel
theorem dJ8_newLength_cabcc_26 : decode cJ8_newLength_cabcc 26 = .ok (.ireturn, 1) := by decide +kernel
theorem dJ5_newCapacity_0f7a4_0 : decode cJ5_newCapacity_0f7a4 0 = .ok (.aload_n 0, 1) := by decide +kernel
theorem dJ5_newCapacity_0f7a4_1 : decode cJ5_newCapacity_0f7a4 1 = .ok (.getfield 15, 3) := by decide +kernel
theorem dJ5_newCapacity_0f7a4_4 : decode cJ5_newCapacity_0f7a4 4 = .ok (.arraylength, 1) := by decide +kernel
theorem dJ5_newCapacity_0f7a4_5 : decode cJ5_newCapacity_0f7a4 5 = .ok (.istore_n 2, 1) := by decide +kernel
theorem dJ5_newCapacity_0f7a4_6 : decode cJ5_newCapacity_0f7a4 6 = .ok (.iload_n 1, 1) := by decide +kernel
theorem dJ5_newCapacity_0f7a4_7 : decode cJ5_newCapacity_0f7a4 7 = .ok (.aload_n 0, 1) := by decide +kernel
theorem dJ5_newCapacity_0f7a4_8 : decode cJ5_newCapacity_0f7a4 8 = .ok (.getfield 22, 3) := by decide +kernel
theorem dJ5_newCapacity_0f7a4_11 : decode cJ5_newCapacity_0f7a4 11 = .ok (.ishl, 1) := by decide +kernel
theorem dJ5_newCapacity_0f7a4_12 : decode cJ5_newCapacity_0f7a4 12 = .ok (.istore_n 3, 1) := by decide +kernel
theorem dJ5_newCapacity_0f7a4_13 : decode cJ5_newCapacity_0f7a4 13 = .ok (.iload_n 3, 1) := by decide +kernel
theorem dJ5_newCapacity_0f7a4_14 : decode cJ5_newCapacity_0f7a4 14 = .ok (.iload_n 2, 1) := by decide +kernel
theorem dJ5_newCapacity_0f7a4_15 : decode cJ5_newCapacity_0f7a4 15 = .ok (.isub, 1) := by decide +kernel
theorem dJ5_newCapacity_0f7a4_16 : decode cJ5_newCapacity_0f7a4 16 = .ok (.istore 4, 2) := by decide +kernel
theorem dJ5_newCapacity_0f7a4_18 : decode cJ5_newCapacity_0f7a4 18 = .ok (.iload_n 2, 1) := by decide +kernel
theorem dJ5_newCapacity_0f7a4_19 : decode cJ5_newCapacity_0f7a4 19 = .ok (.iload 4, 2) := by decide +kernel
theorem dJ5_newCapacity_0f7a4_21 : decode cJ5_newCapacity_0f7a4 21 = .ok (.iload_n 2, 1) := by decide +kernel
theorem dJ5_newCapacity_0f7a4_22 : decode cJ5_newCapacity_0f7a4 22 = .ok (.iconst 2, 1) := by decide +kernel
theorem dJ5_newCapacity_0f7a4_23 : decode cJ5_newCapacity_0f7a4 23 = .ok (.aload_n 0, 1) := by decide +kernel
theorem dJ5_newCapacity_0f7a4_24 : decode cJ5_newCapacity_0f7a4 24 = .ok (.getfield 22, 3) := by decide +kernel
theorem dJ5_newCapacity_0f7a4_27 : decode cJ5_newCapacity_0f7a4 27 = .ok (.ishl, 1) := by decide +kernel
theorem dJ5_newCapacity_0f7a4_28 : decode cJ5_newCapacity_0f7a4 28 = .ok (.iadd, 1) := by decide +kernel
theorem dJ5_newCapacity_0f7a4_29 : decode cJ5_newCapacity_0f7a4 29 = .ok (.invokestatic 114, 3) := by decide +kernel
theorem dJ5_newCapacity_0f7a4_32 : decode cJ5_newCapacity_0f7a4 32 = .ok (.istore 5, 2) := by decide +kernel
theorem dJ5_newCapacity_0f7a4_34 : decode cJ5_newCapacity_0f7a4 34 = .ok (.iload 5, 2) := by decide +kernel
theorem dJ5_newCapacity_0f7a4_36 : decode cJ5_newCapacity_0f7a4 36 = .ok (.ldc 39, 2) := by decide +kernel
theorem dJ5_newCapacity_0f7a4_38 : decode cJ5_newCapacity_0f7a4 38 = .ok (.if_icmp .ne 13, 3) := by decide +kernel
theorem dJ5_newCapacity_0f7a4_41 : decode cJ5_newCapacity_0f7a4 41 = .ok (.new 120, 3) := by decide +kernel
theorem dJ5_newCapacity_0f7a4_44 : decode cJ5_newCapacity_0f7a4 44 = .ok (.dup, 1) := by decide +kernel
theorem dJ5_newCapacity_0f7a4_45 : decode cJ5_newCapacity_0f7a4 45 = .ok (.ldc 122, 2) := by decide +kernel
theorem dJ5_newCapacity_0f7a4_47 : decode cJ5_newCapacity_0f7a4 47 = .ok (.invokespecial 124, 3) := by decide +kernel
theorem dJ5_newCapacity_0f7a4_50 : decode cJ5_newCapacity_0f7a4 50 = .ok (.athrow, 1) := by decide +kernel
theorem dJ5_newCapacity_0f7a4_51 : decode cJ5_newCapacity_0f7a4 51 = .ok (.iload 5, 2) := by decide +kernel
theorem dJ5_newCapacity_0f7a4_53 : decode cJ5_newCapacity_0f7a4 53 = .ok (.aload_n 0, 1) := by decide +kernel
theorem dJ5_newCapacity_0f7a4_54 : decode cJ5_newCapacity_0f7a4 54 = .ok (.getfield 22, 3) := by decide +kernel
theorem dJ5_newCapacity_0f7a4_57 : decode cJ5_newCapacity_0f7a4 57 = .ok (.ishr, 1) := by decide +kernel
theorem dJ5_newCapacity_0f7a4_58 : decode cJ5_newCapacity_0f7a4 58 = .ok (.ireturn, 1) := by decide +kernel
theorem dJ7_copyOf_9075b_0 : decode cJ7_copyOf_9075b 0 = .ok (.iload_n 1, 1) := by decide +kernel
theorem dJ7_copyOf_9075b_1 : decode cJ7_copyOf_9075b 1 = .ok (.aload_n 0, 1) := by decide +kernel
theorem dJ7_copyOf_9075b_2 : decode cJ7_copyOf_9075b 2 = .ok (.arraylength, 1) := by decide +kernel
theorem dJ7_copyOf_9075b_3 : decode cJ7_copyOf_9075b 3 = .ok (.if_icmp .ne 11, 3) := by decide +kernel
theorem dJ7_copyOf_9075b_6 : decode cJ7_copyOf_9075b 6 = .ok (.aload_n 0, 1) := by decide +kernel
theorem dJ7_copyOf_9075b_7 : decode cJ7_copyOf_9075b 7 = .ok (.invokevirtual 310, 3) := by decide +kernel
theorem dJ7_copyOf_9075b_10 : decode cJ7_copyOf_9075b 10 = .ok (.checkcast 311, 3) := by decide +kernel
theorem dJ7_copyOf_9075b_13 : decode cJ7_copyOf_9075b 13 = .ok (.areturn, 1) := by decide +kernel
theorem dJ7_copyOf_9075b_14 : decode cJ7_copyOf_9075b 14 = .ok (.iload_n 1, 1) := by decide +kernel
theorem dJ7_copyOf_9075b_15 : decode cJ7_copyOf_9075b 15 = .ok (.newarray .byte, 2) := by decide +kernel
theorem dJ7_copyOf_9075b_17 : decode cJ7_copyOf_9075b 17 = .ok (.astore_n 2, 1) := by decide +kernel
theorem dJ7_copyOf_9075b_18 : decode cJ7_copyOf_9075b 18 = .ok (.aload_n 0, 1) := by decide +kernel
theorem dJ7_copyOf_9075b_19 : decode cJ7_copyOf_9075b 19 = .ok (.iconst 0, 1) := by decide +kernel
theorem dJ7_copyOf_9075b_20 : decode cJ7_copyOf_9075b 20 = .ok (.aload_n 2, 1) := by decide +kernel
theorem dJ7_copyOf_9075b_21 : decode cJ7_copyOf_9075b 21 = .ok (.iconst 0, 1) := by decide +kernel
theorem dJ7_copyOf_9075b_22 : decode cJ7_copyOf_9075b 22 = .ok (.aload_n 0, 1) := by decide +kernel
theorem dJ7_copyOf_9075b_23 : decode cJ7_copyOf_9075b 23 = .ok (.arraylength, 1) := by decide +kernel
theorem dJ7_copyOf_9075b_24 : decode cJ7_copyOf_9075b 24 = .ok (.iload_n 1, 1) := by decide +kernel
theorem dJ7_copyOf_9075b_25 : decode cJ7_copyOf_9075b 25 = .ok (.invokestatic 304, 3) := by decide +kernel
theorem dJ7_copyOf_9075b_28 : decode cJ7_copyOf_9075b 28 = .ok (.invokestatic 150, 3) := by decide +kernel
theorem dJ7_copyOf_9075b_31 : decode cJ7_copyOf_9075b 31 = .ok (.aload_n 2, 1) := by decide +kernel
theorem dJ7_copyOf_9075b_32 : decode cJ7_copyOf_9075b 32 = .ok (.areturn, 1) := by decide +kernel
theorem dJ5_ensureCapacityInternal_d00df_0 : decode cJ5_ensureCapacityInternal_d00df 0 = .ok (.aload_n 0, 1) := by decide +kernel
theorem dJ5_ensureCapacityInternal_d00df_1 : decode cJ5_ensureCapacityInternal_d00df 1 = .ok (.getfield 15, 3) := by decide +kernel
theorem dJ5_ensureCapacityInternal_d00df_4 : decode cJ5_ensureCapacityInternal_d00df 4 = .ok (.arraylength, 1) := by decide +kernel
theorem dJ5_ensureCapacityInternal_d00df_5 : decode cJ5_ensureCapacityInternal_d00df 5 = .ok (.aload_n 0, 1) := by decide +kernel
theorem dJ5_ensureCapacityInternal_d00df_6 : decode cJ5_ensureCapacityInternal_d00df 6 = .ok (.getfield 22, 3) := by decide +kernel
theorem dJ5_ensureCapacityInternal_d00df_9 : decode cJ5_ensureCapacityInternal_d00df 9 = .ok (.ishr, 1) := by decide +kernel
theorem dJ5_ensureCapacityInternal_d00df_10 : decode cJ5_ensureCapacityInternal_d00df 10 = .ok (.istore_n 2, 1) := by decide +kernel
theorem dJ5_ensureCapacityInternal_d00df_11 : decode cJ5_ensureCapacityInternal_d00df 11 = .ok (.iload_n 1, 1) := by decide +kernel
theorem dJ5_ensureCapacityInternal_d00df_12 : decode cJ5_ensureCapacityInternal_d00df 12 = .ok (.iload_n 2, 1) := by decide +kernel
theorem dJ5_ensureCapacityInternal_d00df_13 : decode cJ5_ensureCapacityInternal_d00df 13 = .ok (.isub, 1) := by decide +kernel
theorem dJ5_ensureCapacityInternal_d00df_14 : decode cJ5_ensureCapacityInternal_d00df 14 = .ok (.ifCond .le 24, 3) := by decide +kernel
theorem dJ5_ensureCapacityInternal_d00df_17 : decode cJ5_ensureCapacityInternal_d00df 17 = .ok (.aload_n 0, 1) := by decide +kernel
theorem dJ5_ensureCapacityInternal_d00df_18 : decode cJ5_ensureCapacityInternal_d00df 18 = .ok (.aload_n 0, 1) := by decide +kernel
theorem dJ5_ensureCapacityInternal_d00df_19 : decode cJ5_ensureCapacityInternal_d00df 19 = .ok (.getfield 15, 3) := by decide +kernel
theorem dJ5_ensureCapacityInternal_d00df_22 : decode cJ5_ensureCapacityInternal_d00df 22 = .ok (.aload_n 0, 1) := by decide +kernel
theorem dJ5_ensureCapacityInternal_d00df_23 : decode cJ5_ensureCapacityInternal_d00df 23 = .ok (.iload_n 1, 1) := by decide +kernel
theorem dJ5_ensureCapacityInternal_d00df_24 : decode cJ5_ensureCapacityInternal_d00df 24 = .ok (.invokevirtual 104, 3) := by decide +kernel
theorem dJ5_ensureCapacityInternal_d00df_27 : decode cJ5_ensureCapacityInternal_d00df 27 = .ok (.aload_n 0, 1) := by decide +kernel
theorem dJ5_ensureCapacityInternal_d00df_28 : decode cJ5_ensureCapacityInternal_d00df 28 = .ok (.getfield 22, 3) := by decide +kernel
theorem dJ5_ensureCapacityInternal_d00df_31 : decode cJ5_ensureCapacityInternal_d00df 31 = .ok (.ishl, 1) := by decide +kernel
theorem dJ5_ensureCapacityInternal_d00df_32 : decode cJ5_ensureCapacityInternal_d00df 32 = .ok (.invokestatic 108, 3) := by decide +kernel
theorem dJ5_ensureCapacityInternal_d00df_35 : decode cJ5_ensureCapacityInternal_d00df 35 = .ok (.putfield 15, 3) := by decide +kernel
theorem dJ5_ensureCapacityInternal_d00df_38 : decode cJ5_ensureCapacityInternal_d00df 38 = .ok (.return_, 1) := by decide +kernel
theorem dJ5_isLatin1_aae02_0 : decode cJ5_isLatin1_aae02 0 = .ok (.getstatic 18, 3) := by decide +kernel
theorem dJ5_isLatin1_aae02_3 : decode cJ5_isLatin1_aae02 3 = .ok (.ifCond .eq 14, 3) := by decide +kernel
theorem dJ5_isLatin1_aae02_6 : decode cJ5_isLatin1_aae02 6 = .ok (.aload_n 0, 1) := by decide +kernel
theorem dJ5_isLatin1_aae02_7 : decode cJ5_isLatin1_aae02 7 = .ok (.getfield 22, 3) := by decide +kernel
theorem dJ5_isLatin1_aae02_10 : decode cJ5_isLatin1_aae02 10 = .ok (.ifCond .ne 7, 3) := by decide +kernel
theorem dJ5_isLatin1_aae02_13 : decode cJ5_isLatin1_aae02 13 = .ok (.iconst 1, 1) := by decide +kernel
theorem dJ5_isLatin1_aae02_14 : decode cJ5_isLatin1_aae02 14 = .ok (.goto 4, 3) := by decide +kernel
theorem dJ5_isLatin1_aae02_17 : decode cJ5_isLatin1_aae02 17 = .ok (.iconst 0, 1) := by decide +kernel
theorem dJ5_isLatin1_aae02_18 : decode cJ5_isLatin1_aae02 18 = .ok (.ireturn, 1) := by decide +kernel
theorem dJ1_canEncode_fc78d_0 : decode cJ1_canEncode_fc78d 0 = .ok (.iload_n 0, 1) := by decide +kernel
theorem dJ1_canEncode_fc78d_1 : decode cJ1_canEncode_fc78d 1 = .ok (.sipush 255, 3) := by decide +kernel
theorem dJ1_canEncode_fc78d_4 : decode cJ1_canEncode_fc78d 4 = .ok (.if_icmp .gt 7, 3) := by decide +kernel
theorem dJ1_canEncode_fc78d_7 : decode cJ1_canEncode_fc78d 7 = .ok (.iconst 1, 1) := by decide +kernel
theorem dJ1_canEncode_fc78d_8 : decode cJ1_canEncode_fc78d 8 = .ok (.goto 4, 3) := by decide +kernel
theorem dJ1_canEncode_fc78d_11 : decode cJ1_canEncode_fc78d 11 = .ok (.iconst 0, 1) := by decide +kernel
theorem dJ1_canEncode_fc78d_12 : decode cJ1_canEncode_fc78d 12 = .ok (.ireturn, 1) := by decide +kernel
theorem dJ5_append_3fe6f_0 : decode cJ5_append_3fe6f 0 = .ok (.aload_n 0, 1) := by decide +kernel
theorem dJ5_append_3fe6f_1 : decode cJ5_append_3fe6f 1 = .ok (.aload_n 0, 1) := by decide +kernel
theorem dJ5_append_3fe6f_2 : decode cJ5_append_3fe6f 2 = .ok (.getfield 79, 3) := by decide +kernel
theorem dJ5_append_3fe6f_5 : decode cJ5_append_3fe6f 5 = .ok (.iconst 1, 1) := by decide +kernel
theorem dJ5_append_3fe6f_6 : decode cJ5_append_3fe6f 6 = .ok (.iadd, 1) := by decide +kernel
theorem dJ5_append_3fe6f_7 : decode cJ5_append_3fe6f 7 = .ok (.invokevirtual 100, 3) := by decide +kernel
theorem dJ5_append_3fe6f_10 : decode cJ5_append_3fe6f 10 = .ok (.aload_n 0, 1) := by decide +kernel
theorem dJ5_append_3fe6f_11 : decode cJ5_append_3fe6f 11 = .ok (.invokevirtual 83, 3) := by decide +kernel
theorem dJ5_append_3fe6f_14 : decode cJ5_append_3fe6f 14 = .ok (.ifCond .eq 31, 3) := by decide +kernel
theorem dJ5_append_3fe6f_17 : decode cJ5_append_3fe6f 17 = .ok (.iload_n 1, 1) := by decide +kernel
theorem dJ5_append_3fe6f_18 : decode cJ5_append_3fe6f 18 = .ok (.invokestatic 191, 3) := by decide +kernel
theorem dJ5_append_3fe6f_21 : decode cJ5_append_3fe6f 21 = .ok (.ifCond .eq 24, 3) := by decide +kernel
theorem dJ5_append_3fe6f_24 : decode cJ5_append_3fe6f 24 = .ok (.aload_n 0, 1) := by decide +kernel
theorem dJ5_append_3fe6f_25 : decode cJ5_append_3fe6f 25 = .ok (.getfield 15, 3) := by decide +kernel
theorem dJ5_append_3fe6f_28 : decode cJ5_append_3fe6f 28 = .ok (.aload_n 0, 1) := by decide +kernel
theorem dJ5_append_3fe6f_29 : decode cJ5_append_3fe6f 29 = .ok (.dup, 1) := by decide +kernel
theorem dJ5_append_3fe6f_30 : decode cJ5_append_3fe6f 30 = .ok (.getfield 79, 3) := by decide +kernel
theorem dJ5_append_3fe6f_33 : decode cJ5_append_3fe6f 33 = .ok (.dup_x1, 1) := by decide +kernel
theorem dJ5_append_3fe6f_34 : decode cJ5_append_3fe6f 34 = .ok (.iconst 1, 1) := by decide +kernel
theorem dJ5_append_3fe6f_35 : decode cJ5_append_3fe6f 35 = .ok (.iadd, 1) := by decide +kernel
theorem dJ5_append_3fe6f_36 : decode cJ5_append_3fe6f 36 = .ok (.putfield 79, 3) := by decide +kernel
theorem dJ5_append_3fe6f_39 : decode cJ5_append_3fe6f 39 = .ok (.iload_n 1, 1) := by decide +kernel
theorem dJ5_append_3fe6f_40 : decode cJ5_append_3fe6f 40 = .ok (.i2b, 1) := by decide +kernel
theorem dJ5_append_3fe6f_41 : decode cJ5_append_3fe6f 41 = .ok (.bastore, 1) := by decide +kernel
theorem dJ5_append_3fe6f_42 : decode cJ5_append_3fe6f 42 = .ok (.goto 33, 3) := by decide +kernel
theorem dJ5_append_3fe6f_45 : decode cJ5_append_3fe6f 45 = .ok (.aload_n 0, 1) := by decide +kernel
theorem dJ5_append_3fe6f_46 : decode cJ5_append_3fe6f 46 = .ok (.invokevirtual 83, 3) := by decide +kernel
theorem dJ5_append_3fe6f_49 : decode cJ5_append_3fe6f 49 = .ok (.ifCond .eq 7, 3) := by decide +kernel
theorem dJ5_append_3fe6f_52 : decode cJ5_append_3fe6f 52 = .ok (.aload_n 0, 1) := by decide +kernel
theorem dJ5_append_3fe6f_53 : decode cJ5_append_3fe6f 53 = .ok (.invokevirtual 195, 3) := by decide +kernel
theorem dJ5_append_3fe6f_56 : decode cJ5_append_3fe6f 56 = .ok (.aload_n 0, 1) := by decide +kernel
theorem dJ5_append_3fe6f_57 : decode cJ5_append_3fe6f 57 = .ok (.getfield 15, 3) := by decide +kernel
theorem dJ5_append_3fe6f_60 : decode cJ5_append_3fe6f 60 = .ok (.aload_n 0, 1) := by decide +kernel
theorem dJ5_append_3fe6f_61 : decode cJ5_append_3fe6f 61 = .ok (.dup, 1) := by decide +kernel
theorem dJ5_append_3fe6f_62 : decode cJ5_append_3fe6f 62 = .ok (.getfield 79, 3) := by decide +kernel
theorem dJ5_append_3fe6f_65 : decode cJ5_append_3fe6f 65 = .ok (.dup_x1, 1) := by decide +kernel
theorem dJ5_append_3fe6f_66 : decode cJ5_append_3fe6f 66 = .ok (.iconst 1, 1) := by decide +kernel
theorem dJ5_append_3fe6f_67 : decode cJ5_append_3fe6f 67 = .ok (.iadd, 1) := by decide +kernel
theorem dJ5_append_3fe6f_68 : decode cJ5_append_3fe6f 68 = .ok (.putfield 79, 3) := by decide +kernel
theorem dJ5_append_3fe6f_71 : decode cJ5_append_3fe6f 71 = .ok (.iload_n 1, 1) := by decide +kernel
theorem dJ5_append_3fe6f_72 : decode cJ5_append_3fe6f 72 = .ok (.invokestatic 197, 3) := by decide +kernel
theorem dJ5_append_3fe6f_75 : decode cJ5_append_3fe6f 75 = .ok (.aload_n 0, 1) := by decide +kernel
theorem dJ5_append_3fe6f_76 : decode cJ5_append_3fe6f 76 = .ok (.areturn, 1) := by decide +kernel
theorem dJ4_append_cf468_0 : decode cJ4_append_cf468 0 = .ok (.aload_n 0, 1) := by decide +kernel
theorem dJ4_append_cf468_1 : decode cJ4_append_cf468 1 = .ok (.iload_n 1, 1) := by decide +kernel
theorem dJ4_append_cf468_2 : decode cJ4_append_cf468 2 = .ok (.invokespecial 50, 3) := by decide +kernel
theorem dJ4_append_cf468_5 : decode cJ4_append_cf468 5 = .ok (.pop, 1) := by decide +kernel
theorem dJ4_append_cf468_6 : decode cJ4_append_cf468 6 = .ok (.aload_n 0, 1) := by decide +kernel
theorem dJ4_append_cf468_7 : decode cJ4_append_cf468 7 = .ok (.areturn, 1) := by decide +kernel
theorem dJ5_getValue_6d5f1_0 : decode cJ5_getValue_6d5f1 0 = .ok (.aload_n 0, 1) := by decide +kernel
theorem dJ5_getValue_6d5f1_1 : decode cJ5_getValue_6d5f1 1 = .ok (.getfield 15, 3) := by decide +kernel
theorem dJ5_getValue_6d5f1_4 : decode cJ5_getValue_6d5f1 4 = .ok (.areturn, 1) := by decide +kernel
theorem dJ5_length_8abf5_0 : decode cJ5_length_8abf5 0 = .ok (.aload_n 0, 1) := by decide +kernel
theorem dJ5_length_8abf5_1 : decode cJ5_length_8abf5 1 = .ok (.getfield 79, 3) := by decide +kernel
theorem dJ5_length_8abf5_4 : decode cJ5_length_8abf5 4 = .ok (.ireturn, 1) := by decide +kernel
theorem dJ4_length_8abf5_0 : decode cJ4_length_8abf5 0 = .ok (.aload_n 0, 1) := by decide +kernel
theorem dJ4_length_8abf5_1 : decode cJ4_length_8abf5 1 = .ok (.invokespecial 343, 3) := by decide +kernel
theorem dJ4_length_8abf5_4 : decode cJ4_length_8abf5 4 = .ok (.ireturn, 1) := by decide +kernel
theorem dJ7_checkLength_df160_0 : decode cJ7_checkLength_df160 0 = .ok (.iload_n 1, 1) := by decide +kernel
theorem dJ7_checkLength_df160_1 : decode cJ7_checkLength_df160 1 = .ok (.iload_n 0, 1) := by decide +kernel
theorem dJ7_checkLength_df160_2 : decode cJ7_checkLength_df160 2 = .ok (.if_icmp .ge 35, 3) := by decide +kernel
theorem dJ7_checkLength_df160_5 : decode cJ7_checkLength_df160 5 = .ok (.new 43, 3) := by decide +kernel
theorem dJ7_checkLength_df160_8 : decode cJ7_checkLength_df160 8 = .ok (.dup, 1) := by decide +kernel
theorem dJ7_checkLength_df160_9 : decode cJ7_checkLength_df160 9 = .ok (.new 45, 3) := by decide +kernel
theorem dJ7_checkLength_df160_12 : decode cJ7_checkLength_df160 12 = .ok (.dup, 1) := by decide +kernel
theorem dJ7_checkLength_df160_13 : decode cJ7_checkLength_df160 13 = .ok (.invokespecial 47, 3) := by decide +kernel
theorem dJ7_checkLength_df160_16 : decode cJ7_checkLength_df160 16 = .ok (.iload_n 0, 1) := by decide +kernel
theorem dJ7_checkLength_df160_17 : decode cJ7_checkLength_df160 17 = .ok (.invokevirtual 54, 3) := by decide +kernel
theorem dJ7_checkLength_df160_20 : decode cJ7_checkLength_df160 20 = .ok (.ldc_w 337, 3) := by decide +kernel
theorem dJ7_checkLength_df160_23 : decode cJ7_checkLength_df160 23 = .ok (.invokevirtual 50, 3) := by decide +kernel
theorem dJ7_checkLength_df160_26 : decode cJ7_checkLength_df160 26 = .ok (.iload_n 1, 1) := by decide +kernel
theorem dJ7_checkLength_df160_27 : decode cJ7_checkLength_df160 27 = .ok (.invokevirtual 54, 3) := by decide +kernel
theorem dJ7_checkLength_df160_30 : decode cJ7_checkLength_df160 30 = .ok (.invokevirtual 61, 3) := by decide +kernel
theorem dJ7_checkLength_df160_33 : decode cJ7_checkLength_df160 33 = .ok (.invokespecial 65, 3) := by decide +kernel
theorem dJ7_checkLength_df160_36 : decode cJ7_checkLength_df160 36 = .ok (.athrow, 1) := by decide +kernel
theorem dJ7_checkLength_df160_37 : decode cJ7_checkLength_df160 37 = .ok (.return_, 1) := by decide +kernel
theorem dJ7_copyOfRangeByte_39247_0 : decode cJ7_copyOfRangeByte_39247 0 = .ok (.iload_n 1, 1) := by decide +kernel
theorem dJ7_copyOfRangeByte_39247_1 : decode cJ7_copyOfRangeByte_39247 1 = .ok (.iload_n 2, 1) := by decide +kernel
theorem dJ7_copyOfRangeByte_39247_2 : decode cJ7_copyOfRangeByte_39247 2 = .ok (.invokestatic 343, 3) := by decide +kernel
theorem dJ7_copyOfRangeByte_39247_5 : decode cJ7_copyOfRangeByte_39247 5 = .ok (.iload_n 2, 1) := by decide +kernel
theorem dJ7_copyOfRangeByte_39247_6 : decode cJ7_copyOfRangeByte_39247 6 = .ok (.iload_n 1, 1) := by decide +kernel
theorem dJ7_copyOfRangeByte_39247_7 : decode cJ7_copyOfRangeByte_39247 7 = .ok (.isub, 1) := by decide +kernel
theorem dJ7_copyOfRangeByte_39247_8 : decode cJ7_copyOfRangeByte_39247 8 = .ok (.istore_n 3, 1) := by decide +kernel
theorem dJ7_copyOfRangeByte_39247_9 : decode cJ7_copyOfRangeByte_39247 9 = .ok (.iload_n 3, 1) := by decide +kernel
theorem dJ7_copyOfRangeByte_39247_10 : decode cJ7_copyOfRangeByte_39247 10 = .ok (.newarray .byte, 2) := by decide +kernel
theorem dJ7_copyOfRangeByte_39247_12 : decode cJ7_copyOfRangeByte_39247 12 = .ok (.astore 4, 2) := by decide +kernel
theorem dJ7_copyOfRangeByte_39247_14 : decode cJ7_copyOfRangeByte_39247 14 = .ok (.aload_n 0, 1) := by decide +kernel
theorem dJ7_copyOfRangeByte_39247_15 : decode cJ7_copyOfRangeByte_39247 15 = .ok (.iload_n 1, 1) := by decide +kernel
theorem dJ7_copyOfRangeByte_39247_16 : decode cJ7_copyOfRangeByte_39247 16 = .ok (.aload 4, 2) := by decide +kernel
theorem dJ7_copyOfRangeByte_39247_18 : decode cJ7_copyOfRangeByte_39247 18 = .ok (.iconst 0, 1) := by decide +kernel
theorem dJ7_copyOfRangeByte_39247_19 : decode cJ7_copyOfRangeByte_39247 19 = .ok (.aload_n 0, 1) := by decide +kernel
theorem dJ7_copyOfRangeByte_39247_20 : decode cJ7_copyOfRangeByte_39247 20 = .ok (.arraylength, 1) := by decide +kernel
theorem dJ7_copyOfRangeByte_39247_21 : decode cJ7_copyOfRangeByte_39247 21 = .ok (.iload_n 1, 1) := by decide +kernel
theorem dJ7_copyOfRangeByte_39247_22 : decode cJ7_copyOfRangeByte_39247 22 = .ok (.isub, 1) := by decide +kernel
theorem dJ7_copyOfRangeByte_39247_23 : decode cJ7_copyOfRangeByte_39247 23 = .ok (.iload_n 3, 1) := by decide +kernel
theorem dJ7_copyOfRangeByte_39247_24 : decode cJ7_copyOfRangeByte_39247 24 = .ok (.invokestatic 304, 3) := by decide +kernel
theorem dJ7_copyOfRangeByte_39247_27 : decode cJ7_copyOfRangeByte_39247 27 = .ok (.invokestatic 150, 3) := by decide +kernel
theorem dJ7_copyOfRangeByte_39247_30 : decode cJ7_copyOfRangeByte_39247 30 = .ok (.aload 4, 2) := by decide +kernel
theorem dJ7_copyOfRangeByte_39247_32 : decode cJ7_copyOfRangeByte_39247 32 = .ok (.areturn, 1) := by decide +kernel
theorem dJ7_copyOfRange_39247_0 : decode cJ7_copyOfRange_39247 0 = .ok (.iload_n 1, 1) := by decide +kernel
theorem dJ7_copyOfRange_39247_1 : decode cJ7_copyOfRange_39247 1 = .ok (.ifCond .ne 9, 3) := by decide +kernel
theorem dJ7_copyOfRange_39247_4 : decode cJ7_copyOfRange_39247 4 = .ok (.iload_n 2, 1) := by decide +kernel
theorem dJ7_copyOfRange_39247_5 : decode cJ7_copyOfRange_39247 5 = .ok (.aload_n 0, 1) := by decide +kernel
theorem dJ7_copyOfRange_39247_6 : decode cJ7_copyOfRange_39247 6 = .ok (.arraylength, 1) := by decide +kernel
theorem dJ7_copyOfRange_39247_7 : decode cJ7_copyOfRange_39247 7 = .ok (.if_icmp .eq 10, 3) := by decide +kernel
theorem dJ7_copyOfRange_39247_10 : decode cJ7_copyOfRange_39247 10 = .ok (.aload_n 0, 1) := by decide +kernel
theorem dJ7_copyOfRange_39247_11 : decode cJ7_copyOfRange_39247 11 = .ok (.iload_n 1, 1) := by decide +kernel
theorem dJ7_copyOfRange_39247_12 : decode cJ7_copyOfRange_39247 12 = .ok (.iload_n 2, 1) := by decide +kernel
theorem dJ7_copyOfRange_39247_13 : decode cJ7_copyOfRange_39247 13 = .ok (.invokestatic 339, 3) := by decide +kernel
theorem dJ7_copyOfRange_39247_16 : decode cJ7_copyOfRange_39247 16 = .ok (.areturn, 1) := by decide +kernel
theorem dJ7_copyOfRange_39247_17 : decode cJ7_copyOfRange_39247 17 = .ok (.aload_n 0, 1) := by decide +kernel
theorem dJ7_copyOfRange_39247_18 : decode cJ7_copyOfRange_39247 18 = .ok (.invokevirtual 310, 3) := by decide +kernel
theorem dJ7_copyOfRange_39247_21 : decode cJ7_copyOfRange_39247 21 = .ok (.checkcast 311, 3) := by decide +kernel
theorem dJ7_copyOfRange_39247_24 : decode cJ7_copyOfRange_39247 24 = .ok (.areturn, 1) := by decide +kernel
theorem dJ0_init_db425_0 : decode cJ0_init_db425 0 = .ok (.aload_n 0, 1) := by decide +kernel
theorem dJ0_init_db425_1 : decode cJ0_init_db425 1 = .ok (.invokespecial 1, 3) := by decide +kernel
theorem dJ0_init_db425_4 : decode cJ0_init_db425 4 = .ok (.aload_n 1, 1) := by decide +kernel
theorem dJ0_init_db425_5 : decode cJ0_init_db425 5 = .ok (.invokevirtual 552, 3) := by decide +kernel
theorem dJ0_init_db425_8 : decode cJ0_init_db425 8 = .ok (.astore_n 3, 1) := by decide +kernel
theorem dJ0_init_db425_9 : decode cJ0_init_db425 9 = .ok (.aload_n 1, 1) := by decide +kernel
theorem dJ0_init_db425_10 : decode cJ0_init_db425 10 = .ok (.invokevirtual 549, 3) := by decide +kernel
theorem dJ0_init_db425_13 : decode cJ0_init_db425 13 = .ok (.istore 4, 2) := by decide +kernel
theorem dJ0_init_db425_15 : decode cJ0_init_db425 15 = .ok (.aload_n 1, 1) := by decide +kernel
theorem dJ0_init_db425_16 : decode cJ0_init_db425 16 = .ok (.invokevirtual 1047, 3) := by decide +kernel
theorem dJ0_init_db425_19 : decode cJ0_init_db425 19 = .ok (.ifCond .eq 22, 3) := by decide +kernel
theorem dJ0_init_db425_22 : decode cJ0_init_db425 22 = .ok (.aload_n 0, 1) := by decide +kernel
theorem dJ0_init_db425_23 : decode cJ0_init_db425 23 = .ok (.iconst 0, 1) := by decide +kernel
theorem dJ0_init_db425_24 : decode cJ0_init_db425 24 = .ok (.putfield 15, 3) := by decide +kernel
theorem dJ0_init_db425_27 : decode cJ0_init_db425 27 = .ok (.aload_n 0, 1) := by decide +kernel
theorem dJ0_init_db425_28 : decode cJ0_init_db425 28 = .ok (.aload_n 3, 1) := by decide +kernel
theorem dJ0_init_db425_29 : decode cJ0_init_db425 29 = .ok (.iconst 0, 1) := by decide +kernel
theorem dJ0_init_db425_30 : decode cJ0_init_db425 30 = .ok (.iload 4, 2) := by decide +kernel
theorem dJ0_init_db425_32 : decode cJ0_init_db425 32 = .ok (.invokestatic 54, 3) := by decide +kernel
theorem dJ0_init_db425_35 : decode cJ0_init_db425 35 = .ok (.putfield 9, 3) := by decide +kernel
theorem dJ0_init_db425_38 : decode cJ0_init_db425 38 = .ok (.goto 59, 3) := by decide +kernel
theorem dJ0_init_db425_41 : decode cJ0_init_db425 41 = .ok (.getstatic 38, 3) := by decide +kernel
theorem dJ0_init_db425_44 : decode cJ0_init_db425 44 = .ok (.ifCond .eq 35, 3) := by decide +kernel
theorem dJ0_init_db425_47 : decode cJ0_init_db425 47 = .ok (.aload_n 1, 1) := by decide +kernel
theorem dJ0_init_db425_48 : decode cJ0_init_db425 48 = .ok (.getfield 1048, 3) := by decide +kernel
theorem dJ0_init_db425_51 : decode cJ0_init_db425 51 = .ok (.ifCond .eq 28, 3) := by decide +kernel
theorem dJ0_init_db425_54 : decode cJ0_init_db425 54 = .ok (.aload_n 0, 1) := by decide +kernel
theorem dJ0_init_db425_55 : decode cJ0_init_db425 55 = .ok (.aload_n 3, 1) := by decide +kernel
theorem dJ0_init_db425_56 : decode cJ0_init_db425 56 = .ok (.iconst 0, 1) := by decide +kernel
theorem dJ0_init_db425_57 : decode cJ0_init_db425 57 = .ok (.iload 4, 2) := by decide +kernel
theorem dJ0_init_db425_59 : decode cJ0_init_db425 59 = .ok (.invokestatic 1051, 3) := by decide +kernel
theorem dJ0_init_db425_62 : decode cJ0_init_db425 62 = .ok (.putfield 9, 3) := by decide +kernel
theorem dJ0_init_db425_65 : decode cJ0_init_db425 65 = .ok (.aload_n 0, 1) := by decide +kernel
theorem dJ0_init_db425_66 : decode cJ0_init_db425 66 = .ok (.aload_n 0, 1) := by decide +kernel
theorem dJ0_init_db425_67 : decode cJ0_init_db425 67 = .ok (.getfield 9, 3) := by decide +kernel
theorem dJ0_init_db425_70 : decode cJ0_init_db425 70 = .ok (.iload 4, 2) := by decide +kernel
theorem dJ0_init_db425_72 : decode cJ0_init_db425 72 = .ok (.invokestatic 47, 3) := by decide +kernel
theorem dJ0_init_db425_75 : decode cJ0_init_db425 75 = .ok (.putfield 15, 3) := by decide +kernel
theorem dJ0_init_db425_78 : decode cJ0_init_db425 78 = .ok (.return_, 1) := by decide +kernel
theorem dJ0_init_db425_79 : decode cJ0_init_db425 79 = .ok (.aload_n 0, 1) := by decide +kernel
theorem dJ0_init_db425_80 : decode cJ0_init_db425 80 = .ok (.iconst 1, 1) := by decide +kernel
theorem dJ0_init_db425_81 : decode cJ0_init_db425 81 = .ok (.putfield 15, 3) := by decide +kernel
theorem dJ0_init_db425_84 : decode cJ0_init_db425 84 = .ok (.aload_n 0, 1) := by decide +kernel
theorem dJ0_init_db425_85 : decode cJ0_init_db425 85 = .ok (.aload_n 3, 1) := by decide +kernel
theorem dJ0_init_db425_86 : decode cJ0_init_db425 86 = .ok (.iconst 0, 1) := by decide +kernel
theorem dJ0_init_db425_87 : decode cJ0_init_db425 87 = .ok (.iload 4, 2) := by decide +kernel
theorem dJ0_init_db425_89 : decode cJ0_init_db425 89 = .ok (.iconst 1, 1) := by decide +kernel
theorem dJ0_init_db425_90 : decode cJ0_init_db425 90 = .ok (.ishl, 1) := by decide +kernel
theorem dJ0_init_db425_91 : decode cJ0_init_db425 91 = .ok (.invokestatic 54, 3) := by decide +kernel
theorem dJ0_init_db425_94 : decode cJ0_init_db425 94 = .ok (.putfield 9, 3) := by decide +kernel
theorem dJ0_init_db425_97 : decode cJ0_init_db425 97 = .ok (.return_, 1) := by decide +kernel
theorem dJ0_init_81219_0 : decode cJ0_init_81219 0 = .ok (.aload_n 0, 1) := by decide +kernel
theorem dJ0_init_81219_1 : decode cJ0_init_81219 1 = .ok (.aload_n 1, 1) := by decide +kernel
theorem dJ0_init_81219_2 : decode cJ0_init_81219 2 = .ok (.aconst_null, 1) := by decide +kernel
theorem dJ0_init_81219_3 : decode cJ0_init_81219 3 = .ok (.invokespecial 489, 3) := by decide +kernel
theorem dJ0_init_81219_6 : decode cJ0_init_81219 6 = .ok (.return_, 1) := by decide +kernel
theorem dJ4_toString_0e30d_0 : decode cJ4_toString_0e30d 0 = .ok (.new 18, 3) := by decide +kernel
theorem dJ4_toString_0e30d_3 : decode cJ4_toString_0e30d 3 = .ok (.dup, 1) := by decide +kernel
theorem dJ4_toString_0e30d_4 : decode cJ4_toString_0e30d 4 = .ok (.aload_n 0, 1) := by decide +kernel
theorem dJ4_toString_0e30d_5 : decode cJ4_toString_0e30d 5 = .ok (.invokespecial 137, 3) := by decide +kernel
theorem dJ4_toString_0e30d_8 : decode cJ4_toString_0e30d 8 = .ok (.areturn, 1) := by decide +kernel
theorem dX3_wordText_0 : decode cX3_wordText 0 = .ok (.new 160, 3) := by decide +kernel
theorem dX3_wordText_3 : decode cX3_wordText 3 = .ok (.dup, 1) := by decide +kernel
theorem dX3_wordText_4 : decode cX3_wordText 4 = .ok (.invokespecial 162, 3) := by decide +kernel
theorem dX3_wordText_7 : decode cX3_wordText 7 = .ok (.astore_n 1, 1) := by decide +kernel
theorem dX3_wordText_8 : decode cX3_wordText 8 = .ok (.aload_n 0, 1) := by decide +kernel
theorem dX3_wordText_9 : decode cX3_wordText 9 = .ok (.getfield 100, 3) := by decide +kernel
theorem dX3_wordText_12 : decode cX3_wordText 12 = .ok (.istore_n 2, 1) := by decide +kernel
theorem dX3_wordText_13 : decode cX3_wordText 13 = .ok (.iload_n 2, 1) := by decide +kernel
theorem dX3_wordText_14 : decode cX3_wordText 14 = .ok (.aload_n 0, 1) := by decide +kernel
theorem dX3_wordText_15 : decode cX3_wordText 15 = .ok (.getfield 103, 3) := by decide +kernel
theorem dX3_wordText_18 : decode cX3_wordText 18 = .ok (.if_icmp .ge 24, 3) := by decide +kernel
theorem dX3_wordText_21 : decode cX3_wordText 21 = .ok (.aload_n 1, 1) := by decide +kernel
theorem dX3_wordText_22 : decode cX3_wordText 22 = .ok (.aload_n 0, 1) := by decide +kernel
theorem dX3_wordText_23 : decode cX3_wordText 23 = .ok (.getfield 9, 3) := by decide +kernel
theorem dX3_wordText_26 : decode cX3_wordText 26 = .ok (.getfield 163, 3) := by decide +kernel
theorem dX3_wordText_29 : decode cX3_wordText 29 = .ok (.iload_n 2, 1) := by decide +kernel
theorem dX3_wordText_30 : decode cX3_wordText 30 = .ok (.baload, 1) := by decide +kernel
theorem dX3_wordText_31 : decode cX3_wordText 31 = .ok (.i2c, 1) := by decide +kernel
theorem dX3_wordText_32 : decode cX3_wordText 32 = .ok (.invokevirtual 167, 3) := by decide +kernel
theorem dX3_wordText_35 : decode cX3_wordText 35 = .ok (.pop, 1) := by decide +kernel
theorem dX3_wordText_36 : decode cX3_wordText 36 = .ok (.iinc 2 1, 3) := by decide +kernel
theorem dX3_wordText_39 : decode cX3_wordText 39 = .ok (.goto (-26), 3) := by decide +kernel
theorem dX3_wordText_42 : decode cX3_wordText 42 = .ok (.aload_n 1, 1) := by decide +kernel
theorem dX3_wordText_43 : decode cX3_wordText 43 = .ok (.invokevirtual 171, 3) := by decide +kernel
theorem dX3_wordText_46 : decode cX3_wordText 46 = .ok (.areturn, 1) := by decide +kernel
theorem dJ7_fill_53178_0 : decode cJ7_fill_53178 0 = .ok (.iconst 0, 1) := by decide +kernel
theorem dJ7_fill_53178_1 : decode cJ7_fill_53178 1 = .ok (.istore_n 2, 1) := by decide +kernel
theorem dJ7_fill_53178_2 : decode cJ7_fill_53178 2 = .ok (.aload_n 0, 1) := by decide +kernel
theorem dJ7_fill_53178_3 : decode cJ7_fill_53178 3 = .ok (.arraylength, 1) := by decide +kernel
theorem dJ7_fill_53178_4 : decode cJ7_fill_53178 4 = .ok (.istore_n 3, 1) := by decide +kernel
theorem dJ7_fill_53178_5 : decode cJ7_fill_53178 5 = .ok (.iload_n 2, 1) := by decide +kernel
theorem dJ7_fill_53178_6 : decode cJ7_fill_53178 6 = .ok (.iload_n 3, 1) := by decide +kernel
theorem dJ7_fill_53178_7 : decode cJ7_fill_53178 7 = .ok (.if_icmp .ge 13, 3) := by decide +kernel
theorem dJ7_fill_53178_10 : decode cJ7_fill_53178 10 = .ok (.aload_n 0, 1) := by decide +kernel
theorem dJ7_fill_53178_11 : decode cJ7_fill_53178 11 = .ok (.iload_n 2, 1) := by decide +kernel
theorem dJ7_fill_53178_12 : decode cJ7_fill_53178 12 = .ok (.iload_n 1, 1) := by decide +kernel
theorem dJ7_fill_53178_13 : decode cJ7_fill_53178 13 = .ok (.iastore, 1) := by decide +kernel
theorem dJ7_fill_53178_14 : decode cJ7_fill_53178 14 = .ok (.iinc 2 1, 3) := by decide +kernel
theorem dJ7_fill_53178_17 : decode cJ7_fill_53178 17 = .ok (.goto (-12), 3) := by decide +kernel
theorem dJ7_fill_53178_20 : decode cJ7_fill_53178 20 = .ok (.return_, 1) := by decide +kernel
theorem dX7_begin_0 : decode cX7_begin 0 = .ok (.aload_n 0, 1) := by decide +kernel
theorem dX7_begin_1 : decode cX7_begin 1 = .ok (.aload_n 1, 1) := by decide +kernel
theorem dX7_begin_2 : decode cX7_begin 2 = .ok (.putfield 30, 3) := by decide +kernel
theorem dX7_begin_5 : decode cX7_begin 5 = .ok (.aload_n 0, 1) := by decide +kernel
theorem dX7_begin_6 : decode cX7_begin 6 = .ok (.iconst 0, 1) := by decide +kernel
theorem dX7_begin_7 : decode cX7_begin 7 = .ok (.putfield 34, 3) := by decide +kernel
theorem dX7_begin_10 : decode cX7_begin 10 = .ok (.aload_n 0, 1) := by decide +kernel
theorem dX7_begin_11 : decode cX7_begin 11 = .ok (.iconst 0, 1) := by decide +kernel
theorem dX7_begin_12 : decode cX7_begin 12 = .ok (.putfield 38, 3) := by decide +kernel
theorem dX7_begin_15 : decode cX7_begin 15 = .ok (.aload_n 0, 1) := by decide +kernel
theorem dX7_begin_16 : decode cX7_begin 16 = .ok (.getfield 9, 3) := by decide +kernel
theorem dX7_begin_19 : decode cX7_begin 19 = .ok (.iconst 0, 1) := by decide +kernel
theorem dX7_begin_20 : decode cX7_begin 20 = .ok (.invokestatic 41, 3) := by decide +kernel
theorem dX7_begin_23 : decode cX7_begin 23 = .ok (.aload_n 0, 1) := by decide +kernel
theorem dX7_begin_24 : decode cX7_begin 24 = .ok (.getfield 15, 3) := by decide +kernel
theorem dX7_begin_27 : decode cX7_begin 27 = .ok (.iconst 0, 1) := by decide +kernel
theorem dX7_begin_28 : decode cX7_begin 28 = .ok (.invokestatic 41, 3) := by decide +kernel
theorem dX7_begin_31 : decode cX7_begin 31 = .ok (.aload_n 0, 1) := by decide +kernel
theorem dX7_begin_32 : decode cX7_begin 32 = .ok (.getfield 24, 3) := by decide +kernel
theorem dX7_begin_35 : decode cX7_begin 35 = .ok (.invokevirtual 47, 3) := by decide +kernel
theorem dX7_begin_38 : decode cX7_begin 38 = .ok (.return_, 1) := by decide +kernel
theorem dX5_beginSet_0 : decode cX5_beginSet 0 = .ok (.aload_n 0, 1) := by decide +kernel
theorem dX5_beginSet_1 : decode cX5_beginSet 1 = .ok (.getfield 36, 3) := by decide +kernel
theorem dX5_beginSet_4 : decode cX5_beginSet 4 = .ok (.iconst 5, 1) := by decide +kernel
theorem dX5_beginSet_5 : decode cX5_beginSet 5 = .ok (.if_icmp .ge 26, 3) := by decide +kernel
theorem dX5_beginSet_8 : decode cX5_beginSet 8 = .ok (.aload_n 0, 1) := by decide +kernel
theorem dX5_beginSet_9 : decode cX5_beginSet 9 = .ok (.getfield 11, 3) := by decide +kernel
theorem dX5_beginSet_12 : decode cX5_beginSet 12 = .ok (.aload_n 0, 1) := by decide +kernel
theorem dX5_beginSet_13 : decode cX5_beginSet 13 = .ok (.getfield 36, 3) := by decide +kernel
theorem dX5_beginSet_16 : decode cX5_beginSet 16 = .ok (.aaload, 1) := by decide +kernel
theorem dX5_beginSet_17 : decode cX5_beginSet 17 = .ok (.aload_n 1, 1) := by decide +kernel
theorem dX5_beginSet_18 : decode cX5_beginSet 18 = .ok (.invokevirtual 55, 3) := by decide +kernel
theorem dX5_beginSet_21 : decode cX5_beginSet 21 = .ok (.aload_n 0, 1) := by decide +kernel
theorem dX5_beginSet_22 : decode cX5_beginSet 22 = .ok (.dup, 1) := by decide +kernel
theorem dX5_beginSet_23 : decode cX5_beginSet 23 = .ok (.getfield 36, 3) := by decide +kernel
theorem dX5_beginSet_26 : decode cX5_beginSet 26 = .ok (.iconst 1, 1) := by decide +kernel
theorem dX5_beginSet_27 : decode cX5_beginSet 27 = .ok (.iadd, 1) := by decide +kernel
theorem dX5_beginSet_28 : decode cX5_beginSet 28 = .ok (.putfield 36, 3) := by decide +kernel
theorem dX5_beginSet_31 : decode cX5_beginSet 31 = .ok (.return_, 1) := by decide +kernel
theorem dX3_readSet_0 : decode cX3_readSet 0 = .ok (.aload_n 0, 1) := by decide +kernel
theorem dX3_readSet_1 : decode cX3_readSet 1 = .ok (.getfield 19, 3) := by decide +kernel
theorem dX3_readSet_4 : decode cX3_readSet 4 = .ok (.getfield 94, 3) := by decide +kernel
theorem dX3_readSet_7 : decode cX3_readSet 7 = .ok (.iconst 5, 1) := by decide +kernel
theorem dX3_readSet_8 : decode cX3_readSet 8 = .ok (.if_icmp .lt 9, 3) := by decide +kernel
theorem dX3_readSet_11 : decode cX3_readSet 11 = .ok (.aload_n 0, 1) := by decide +kernel
theorem dX3_readSet_12 : decode cX3_readSet 12 = .ok (.iconst 5, 1) := by decide +kernel
theorem dX3_readSet_13 : decode cX3_readSet 13 = .ok (.invokevirtual 90, 3) := by decide +kernel
theorem dX3_readSet_16 : decode cX3_readSet 16 = .ok (.ireturn, 1) := by decide +kernel
theorem dX3_readSet_17 : decode cX3_readSet 17 = .ok (.aload_n 0, 1) := by decide +kernel
theorem dX3_readSet_18 : decode cX3_readSet 18 = .ok (.invokevirtual 35, 3) := by decide +kernel
theorem dX3_readSet_21 : decode cX3_readSet 21 = .ok (.aload_n 0, 1) := by decide +kernel
theorem dX3_readSet_22 : decode cX3_readSet 22 = .ok (.getfield 29, 3) := by decide +kernel
theorem dX3_readSet_25 : decode cX3_readSet 25 = .ok (.getstatic 97, 3) := by decide +kernel
theorem dX3_readSet_28 : decode cX3_readSet 28 = .ok (.if_acmp .eq 9, 3) := by decide +kernel
theorem dX3_readSet_31 : decode cX3_readSet 31 = .ok (.aload_n 0, 1) := by decide +kernel
theorem dX3_readSet_32 : decode cX3_readSet 32 = .ok (.iconst 1, 1) := by decide +kernel
theorem dX3_readSet_33 : decode cX3_readSet 33 = .ok (.invokevirtual 90, 3) := by decide +kernel
theorem dX3_readSet_36 : decode cX3_readSet 36 = .ok (.ireturn, 1) := by decide +kernel
theorem dX3_readSet_37 : decode cX3_readSet 37 = .ok (.aload_n 0, 1) := by decide +kernel
theorem dX3_readSet_38 : decode cX3_readSet 38 = .ok (.getfield 19, 3) := by decide +kernel
theorem dX3_readSet_41 : decode cX3_readSet 41 = .ok (.aload_n 0, 1) := by decide +kernel
theorem dX3_readSet_42 : decode cX3_readSet 42 = .ok (.getfield 9, 3) := by decide +kernel
theorem dX3_readSet_45 : decode cX3_readSet 45 = .ok (.aload_n 0, 1) := by decide +kernel
theorem dX3_readSet_46 : decode cX3_readSet 46 = .ok (.getfield 100, 3) := by decide +kernel
theorem dX3_readSet_49 : decode cX3_readSet 49 = .ok (.aload_n 0, 1) := by decide +kernel
theorem dX3_readSet_50 : decode cX3_readSet 50 = .ok (.getfield 103, 3) := by decide +kernel
theorem dX3_readSet_53 : decode cX3_readSet 53 = .ok (.invokevirtual 106, 3) := by decide +kernel
theorem dX3_readSet_56 : decode cX3_readSet 56 = .ok (.iconst (-1), 1) := by decide +kernel
theorem dX3_readSet_57 : decode cX3_readSet 57 = .ok (.if_icmp .eq 9, 3) := by decide +kernel
theorem dX3_readSet_60 : decode cX3_readSet 60 = .ok (.aload_n 0, 1) := by decide +kernel
theorem dX3_readSet_61 : decode cX3_readSet 61 = .ok (.iconst 2, 1) := by decide +kernel
theorem dX3_readSet_62 : decode cX3_readSet 62 = .ok (.invokevirtual 90, 3) := by decide +kernel
theorem dX3_readSet_65 : decode cX3_readSet 65 = .ok (.ireturn, 1) := by decide +kernel
theorem dX3_readSet_66 : decode cX3_readSet 66 = .ok (.aload_n 0, 1) := by decide +kernel
theorem dX3_readSet_67 : decode cX3_readSet 67 = .ok (.getfield 19, 3) := by decide +kernel
theorem dX3_readSet_70 : decode cX3_readSet 70 = .ok (.aload_n 0, 1) := by decide +kernel
theorem dX3_readSet_71 : decode cX3_readSet 71 = .ok (.invokevirtual 110, 3) := by decide +kernel
theorem dX3_readSet_74 : decode cX3_readSet 74 = .ok (.invokevirtual 114, 3) := by decide +kernel
theorem dX3_readSet_77 : decode cX3_readSet 77 = .ok (.aload_n 0, 1) := by decide +kernel
theorem dX3_readSet_78 : decode cX3_readSet 78 = .ok (.invokevirtual 35, 3) := by decide +kernel
theorem dX3_readSet_81 : decode cX3_readSet 81 = .ok (.iconst 1, 1) := by decide +kernel
theorem dX3_readSet_82 : decode cX3_readSet 82 = .ok (.ireturn, 1) := by decide +kernel
theorem dX3_readEarlierSet_0 : decode cX3_readEarlierSet 0 = .ok (.aload_n 0, 1) := by decide +kernel
theorem dX3_readEarlierSet_1 : decode cX3_readEarlierSet 1 = .ok (.getfield 29, 3) := by decide +kernel
theorem dX3_readEarlierSet_4 : decode cX3_readEarlierSet 4 = .ok (.getstatic 97, 3) := by decide +kernel
theorem dX3_readEarlierSet_7 : decode cX3_readEarlierSet 7 = .ok (.if_acmp .eq 11, 3) := by decide +kernel
theorem dX3_readEarlierSet_10 : decode cX3_readEarlierSet 10 = .ok (.aload_n 0, 1) := by decide +kernel
theorem dX3_readEarlierSet_11 : decode cX3_readEarlierSet 11 = .ok (.iconst 1, 1) := by decide +kernel
theorem dX3_readEarlierSet_12 : decode cX3_readEarlierSet 12 = .ok (.invokevirtual 90, 3) := by decide +kernel
theorem dX3_readEarlierSet_15 : decode cX3_readEarlierSet 15 = .ok (.pop, 1) := by decide +kernel
theorem dX3_readEarlierSet_16 : decode cX3_readEarlierSet 16 = .ok (.iconst (-1), 1) := by decide +kernel
theorem dX3_readEarlierSet_17 : decode cX3_readEarlierSet 17 = .ok (.ireturn, 1) := by decide +kernel
theorem dX3_readEarlierSet_18 : decode cX3_readEarlierSet 18 = .ok (.aload_n 0, 1) := by decide +kernel
theorem dX3_readEarlierSet_19 : decode cX3_readEarlierSet 19 = .ok (.getfield 19, 3) := by decide +kernel
theorem dX3_readEarlierSet_22 : decode cX3_readEarlierSet 22 = .ok (.aload_n 0, 1) := by decide +kernel
theorem dX3_readEarlierSet_23 : decode cX3_readEarlierSet 23 = .ok (.getfield 9, 3) := by decide +kernel
theorem dX3_readEarlierSet_26 : decode cX3_readEarlierSet 26 = .ok (.aload_n 0, 1) := by decide +kernel
theorem dX3_readEarlierSet_27 : decode cX3_readEarlierSet 27 = .ok (.getfield 100, 3) := by decide +kernel
theorem dX3_readEarlierSet_30 : decode cX3_readEarlierSet 30 = .ok (.aload_n 0, 1) := by decide +kernel
theorem dX3_readEarlierSet_31 : decode cX3_readEarlierSet 31 = .ok (.getfield 103, 3) := by decide +kernel
theorem dX3_readEarlierSet_34 : decode cX3_readEarlierSet 34 = .ok (.invokevirtual 106, 3) := by decide +kernel
theorem dX3_readEarlierSet_37 : decode cX3_readEarlierSet 37 = .ok (.istore_n 1, 1) := by decide +kernel
theorem dX3_readEarlierSet_38 : decode cX3_readEarlierSet 38 = .ok (.iload_n 1, 1) := by decide +kernel
theorem dX3_readEarlierSet_39 : decode cX3_readEarlierSet 39 = .ok (.iconst (-1), 1) := by decide +kernel
theorem dX3_readEarlierSet_40 : decode cX3_readEarlierSet 40 = .ok (.if_icmp .ne 9, 3) := by decide +kernel
theorem dX3_readEarlierSet_43 : decode cX3_readEarlierSet 43 = .ok (.aload_n 0, 1) := by decide +kernel
theorem dX3_readEarlierSet_44 : decode cX3_readEarlierSet 44 = .ok (.iconst 4, 1) := by decide +kernel
theorem dX3_readEarlierSet_45 : decode cX3_readEarlierSet 45 = .ok (.invokevirtual 90, 3) := by decide +kernel
theorem dX3_readEarlierSet_48 : decode cX3_readEarlierSet 48 = .ok (.pop, 1) := by decide +kernel
theorem dX3_readEarlierSet_49 : decode cX3_readEarlierSet 49 = .ok (.iload_n 1, 1) := by decide +kernel
theorem dX3_readEarlierSet_50 : decode cX3_readEarlierSet 50 = .ok (.ireturn, 1) := by decide +kernel
theorem dX7_placeOf_0 : decode cX7_placeOf 0 = .ok (.iload_n 1, 1) := by decide +kernel
theorem dX7_placeOf_1 : decode cX7_placeOf 1 = .ok (.ifCond .lt 9, 3) := by decide +kernel
theorem dX7_placeOf_4 : decode cX7_placeOf 4 = .ok (.iload_n 1, 1) := by decide +kernel
theorem dX7_placeOf_5 : decode cX7_placeOf 5 = .ok (.bipush 64, 2) := by decide +kernel
theorem dX7_placeOf_7 : decode cX7_placeOf 7 = .ok (.if_icmp .lt 5, 3) := by decide +kernel
theorem dX7_placeOf_10 : decode cX7_placeOf 10 = .ok (.iconst (-1), 1) := by decide +kernel
theorem dX7_placeOf_11 : decode cX7_placeOf 11 = .ok (.ireturn, 1) := by decide +kernel
theorem dX7_placeOf_12 : decode cX7_placeOf 12 = .ok (.aload_n 0, 1) := by decide +kernel
theorem dX7_placeOf_13 : decode cX7_placeOf 13 = .ok (.getfield 15, 3) := by decide +kernel
theorem dX7_placeOf_16 : decode cX7_placeOf 16 = .ok (.iload_n 1, 1) := by decide +kernel
theorem dX7_placeOf_17 : decode cX7_placeOf 17 = .ok (.iaload, 1) := by decide +kernel
theorem dX7_placeOf_18 : decode cX7_placeOf 18 = .ok (.istore_n 2, 1) := by decide +kernel
theorem dX7_placeOf_19 : decode cX7_placeOf 19 = .ok (.iload_n 2, 1) := by decide +kernel
theorem dX7_placeOf_20 : decode cX7_placeOf 20 = .ok (.aload_n 0, 1) := by decide +kernel
theorem dX7_placeOf_21 : decode cX7_placeOf 21 = .ok (.getfield 34, 3) := by decide +kernel
theorem dX7_placeOf_24 : decode cX7_placeOf 24 = .ok (.if_icmp .ge 17, 3) := by decide +kernel
theorem dX7_placeOf_27 : decode cX7_placeOf 27 = .ok (.aload_n 0, 1) := by decide +kernel
theorem dX7_placeOf_28 : decode cX7_placeOf 28 = .ok (.getfield 9, 3) := by decide +kernel
theorem dX7_placeOf_31 : decode cX7_placeOf 31 = .ok (.iload_n 2, 1) := by decide +kernel
theorem dX7_placeOf_32 : decode cX7_placeOf 32 = .ok (.iaload, 1) := by decide +kernel
theorem dX7_placeOf_33 : decode cX7_placeOf 33 = .ok (.iload_n 1, 1) := by decide +kernel
theorem dX7_placeOf_34 : decode cX7_placeOf 34 = .ok (.if_icmp .ne 7, 3) := by decide +kernel
theorem dX7_placeOf_37 : decode cX7_placeOf 37 = .ok (.iload_n 2, 1) := by decide +kernel
theorem dX7_placeOf_38 : decode cX7_placeOf 38 = .ok (.goto 4, 3) := by decide +kernel
theorem dX7_placeOf_41 : decode cX7_placeOf 41 = .ok (.iconst (-1), 1) := by decide +kernel
theorem dX7_placeOf_42 : decode cX7_placeOf 42 = .ok (.ireturn, 1) := by decide +kernel
theorem dX7_has_0 : decode cX7_has 0 = .ok (.aload_n 0, 1) := by decide +kernel
theorem dX7_has_1 : decode cX7_has 1 = .ok (.iload_n 1, 1) := by decide +kernel
theorem dX7_has_2 : decode cX7_has 2 = .ok (.invokevirtual 60, 3) := by decide +kernel
theorem dX7_has_5 : decode cX7_has 5 = .ok (.iconst (-1), 1) := by decide +kernel
theorem dX7_has_6 : decode cX7_has 6 = .ok (.if_icmp .eq 7, 3) := by decide +kernel
theorem dX7_has_9 : decode cX7_has 9 = .ok (.iconst 1, 1) := by decide +kernel
theorem dX7_has_10 : decode cX7_has 10 = .ok (.goto 4, 3) := by decide +kernel
theorem dX7_has_13 : decode cX7_has 13 = .ok (.iconst 0, 1) := by decide +kernel
theorem dX7_has_14 : decode cX7_has 14 = .ok (.ireturn, 1) := by decide +kernel
theorem dX5_writeMember_0 : decode cX5_writeMember 0 = .ok (.aload_n 1, 1) := by decide +kernel
theorem dX5_writeMember_1 : decode cX5_writeMember 1 = .ok (.getfield 123, 3) := by decide +kernel
theorem dX5_writeMember_4 : decode cX5_writeMember 4 = .ok (.iload_n 2, 1) := by decide +kernel
theorem dX5_writeMember_5 : decode cX5_writeMember 5 = .ok (.iload_n 3, 1) := by decide +kernel
theorem dX5_writeMember_6 : decode cX5_writeMember 6 = .ok (.iastore, 1) := by decide +kernel
theorem dX5_writeMember_7 : decode cX5_writeMember 7 = .ok (.aload_n 1, 1) := by decide +kernel
theorem dX5_writeMember_8 : decode cX5_writeMember 8 = .ok (.getfield 126, 3) := by decide +kernel
theorem dX5_writeMember_11 : decode cX5_writeMember 11 = .ok (.iload_n 3, 1) := by decide +kernel
theorem dX5_writeMember_12 : decode cX5_writeMember 12 = .ok (.iload_n 2, 1) := by decide +kernel
theorem dX5_writeMember_13 : decode cX5_writeMember 13 = .ok (.iastore, 1) := by decide +kernel
theorem dX5_writeMember_14 : decode cX5_writeMember 14 = .ok (.aload_n 0, 1) := by decide +kernel
theorem dX5_writeMember_15 : decode cX5_writeMember 15 = .ok (.dup, 1) := by decide +kernel
theorem dX5_writeMember_16 : decode cX5_writeMember 16 = .ok (.getfield 45, 3) := by decide +kernel
theorem dX5_writeMember_19 : decode cX5_writeMember 19 = .ok (.iconst 2, 1) := by decide +kernel
theorem dX5_writeMember_20 : decode cX5_writeMember 20 = .ok (.iadd, 1) := by decide +kernel
theorem dX5_writeMember_21 : decode cX5_writeMember 21 = .ok (.putfield 45, 3) := by decide +kernel
theorem dX5_writeMember_24 : decode cX5_writeMember 24 = .ok (.return_, 1) := by decide +kernel
theorem dX5_bringIn_0 : decode cX5_bringIn 0 = .ok (.aload_n 1, 1) := by decide +kernel
theorem dX5_bringIn_1 : decode cX5_bringIn 1 = .ok (.iload_n 2, 1) := by decide +kernel
theorem dX5_bringIn_2 : decode cX5_bringIn 2 = .ok (.invokevirtual 82, 3) := by decide +kernel
theorem dX5_bringIn_5 : decode cX5_bringIn 5 = .ok (.ifCond .eq 5, 3) := by decide +kernel
theorem dX5_bringIn_8 : decode cX5_bringIn 8 = .ok (.iconst 0, 1) := by decide +kernel
theorem dX5_bringIn_9 : decode cX5_bringIn 9 = .ok (.ireturn, 1) := by decide +kernel
theorem dX5_bringIn_10 : decode cX5_bringIn 10 = .ok (.aload_n 0, 1) := by decide +kernel
theorem dX5_bringIn_11 : decode cX5_bringIn 11 = .ok (.aload_n 1, 1) := by decide +kernel
theorem dX5_bringIn_12 : decode cX5_bringIn 12 = .ok (.aload_n 1, 1) := by decide +kernel
theorem dX5_bringIn_13 : decode cX5_bringIn 13 = .ok (.getfield 86, 3) := by decide +kernel
theorem dX5_bringIn_16 : decode cX5_bringIn 16 = .ok (.iload_n 2, 1) := by decide +kernel
theorem dX5_bringIn_17 : decode cX5_bringIn 17 = .ok (.invokevirtual 89, 3) := by decide +kernel
theorem dX5_bringIn_20 : decode cX5_bringIn 20 = .ok (.aload_n 1, 1) := by decide +kernel
theorem dX5_bringIn_21 : decode cX5_bringIn 21 = .ok (.dup, 1) := by decide +kernel
theorem dX5_bringIn_22 : decode cX5_bringIn 22 = .ok (.getfield 86, 3) := by decide +kernel
theorem dX5_bringIn_25 : decode cX5_bringIn 25 = .ok (.iconst 1, 1) := by decide +kernel
theorem dX5_bringIn_26 : decode cX5_bringIn 26 = .ok (.iadd, 1) := by decide +kernel
theorem dX5_bringIn_27 : decode cX5_bringIn 27 = .ok (.putfield 86, 3) := by decide +kernel
theorem dX5_bringIn_30 : decode cX5_bringIn 30 = .ok (.aload_n 0, 1) := by decide +kernel
theorem dX5_bringIn_31 : decode cX5_bringIn 31 = .ok (.dup, 1) := by decide +kernel
theorem dX5_bringIn_32 : decode cX5_bringIn 32 = .ok (.getfield 42, 3) := by decide +kernel
theorem dX5_bringIn_35 : decode cX5_bringIn 35 = .ok (.iconst 1, 1) := by decide +kernel
theorem dX5_bringIn_36 : decode cX5_bringIn 36 = .ok (.iadd, 1) := by decide +kernel
theorem dX5_bringIn_37 : decode cX5_bringIn 37 = .ok (.putfield 42, 3) := by decide +kernel
theorem dX5_bringIn_40 : decode cX5_bringIn 40 = .ok (.aload_n 1, 1) := by decide +kernel
theorem dX5_bringIn_41 : decode cX5_bringIn 41 = .ok (.getfield 93, 3) := by decide +kernel
theorem dX5_bringIn_44 : decode cX5_bringIn 44 = .ok (.iload_n 2, 1) := by decide +kernel
theorem dX5_bringIn_45 : decode cX5_bringIn 45 = .ok (.aload_n 0, 1) := by decide +kernel
theorem dX5_bringIn_46 : decode cX5_bringIn 46 = .ok (.getfield 42, 3) := by decide +kernel
theorem dX5_bringIn_49 : decode cX5_bringIn 49 = .ok (.iastore, 1) := by decide +kernel
theorem dX5_bringIn_50 : decode cX5_bringIn 50 = .ok (.aload_n 1, 1) := by decide +kernel
theorem dX5_bringIn_51 : decode cX5_bringIn 51 = .ok (.getfield 96, 3) := by decide +kernel
theorem dX5_bringIn_54 : decode cX5_bringIn 54 = .ok (.aload_n 0, 1) := by decide +kernel
theorem dX5_bringIn_55 : decode cX5_bringIn 55 = .ok (.getfield 42, 3) := by decide +kernel
theorem dX5_bringIn_58 : decode cX5_bringIn 58 = .ok (.iload_n 2, 1) := by decide +kernel
theorem dX5_bringIn_59 : decode cX5_bringIn 59 = .ok (.iconst 0, 1) := by decide +kernel
theorem dX5_bringIn_60 : decode cX5_bringIn 60 = .ok (.aload_n 0, 1) := by decide +kernel
theorem dX5_bringIn_61 : decode cX5_bringIn 61 = .ok (.getfield 33, 3) := by decide +kernel
theorem dX5_bringIn_64 : decode cX5_bringIn 64 = .ok (.invokevirtual 100, 3) := by decide +kernel
theorem dX5_bringIn_67 : decode cX5_bringIn 67 = .ok (.iconst 1, 1) := by decide +kernel
theorem dX5_bringIn_68 : decode cX5_bringIn 68 = .ok (.ireturn, 1) := by decide +kernel
theorem dX5_pullCursorsBack_0 : decode cX5_pullCursorsBack 0 = .ok (.iconst 0, 1) := by decide +kernel
theorem dX5_pullCursorsBack_1 : decode cX5_pullCursorsBack 1 = .ok (.istore_n 3, 1) := by decide +kernel
theorem dX5_pullCursorsBack_2 : decode cX5_pullCursorsBack 2 = .ok (.iconst 0, 1) := by decide +kernel
theorem dX5_pullCursorsBack_3 : decode cX5_pullCursorsBack 3 = .ok (.istore 4, 2) := by decide +kernel
theorem dX5_pullCursorsBack_5 : decode cX5_pullCursorsBack 5 = .ok (.iload 4, 2) := by decide +kernel
theorem dX5_pullCursorsBack_7 : decode cX5_pullCursorsBack 7 = .ok (.bipush 6, 2) := by decide +kernel
theorem dX5_pullCursorsBack_9 : decode cX5_pullCursorsBack 9 = .ok (.if_icmp .ge 52, 3) := by decide +kernel
theorem dX5_pullCursorsBack_12 : decode cX5_pullCursorsBack 12 = .ok (.aload_n 0, 1) := by decide +kernel
theorem dX5_pullCursorsBack_13 : decode cX5_pullCursorsBack 13 = .ok (.getfield 19, 3) := by decide +kernel
theorem dX5_pullCursorsBack_16 : decode cX5_pullCursorsBack 16 = .ok (.iload 4, 2) := by decide +kernel
theorem dX5_pullCursorsBack_18 : decode cX5_pullCursorsBack 18 = .ok (.aaload, 1) := by decide +kernel
theorem dX5_pullCursorsBack_19 : decode cX5_pullCursorsBack 19 = .ok (.iload_n 1, 1) := by decide +kernel
theorem dX5_pullCursorsBack_20 : decode cX5_pullCursorsBack 20 = .ok (.invokevirtual 117, 3) := by decide +kernel
theorem dX5_pullCursorsBack_23 : decode cX5_pullCursorsBack 23 = .ok (.ifCond .eq 32, 3) := by decide +kernel
theorem dX5_pullCursorsBack_26 : decode cX5_pullCursorsBack 26 = .ok (.aload_n 0, 1) := by decide +kernel
theorem dX5_pullCursorsBack_27 : decode cX5_pullCursorsBack 27 = .ok (.getfield 19, 3) := by decide +kernel
theorem dX5_pullCursorsBack_30 : decode cX5_pullCursorsBack 30 = .ok (.iload 4, 2) := by decide +kernel
theorem dX5_pullCursorsBack_32 : decode cX5_pullCursorsBack 32 = .ok (.aaload, 1) := by decide +kernel
theorem dX5_pullCursorsBack_33 : decode cX5_pullCursorsBack 33 = .ok (.getfield 120, 3) := by decide +kernel
theorem dX5_pullCursorsBack_36 : decode cX5_pullCursorsBack 36 = .ok (.iload_n 2, 1) := by decide +kernel
theorem dX5_pullCursorsBack_37 : decode cX5_pullCursorsBack 37 = .ok (.if_icmp .ne 18, 3) := by decide +kernel
theorem dX5_pullCursorsBack_40 : decode cX5_pullCursorsBack 40 = .ok (.aload_n 0, 1) := by decide +kernel
theorem dX5_pullCursorsBack_41 : decode cX5_pullCursorsBack 41 = .ok (.getfield 19, 3) := by decide +kernel
theorem dX5_pullCursorsBack_44 : decode cX5_pullCursorsBack 44 = .ok (.iload 4, 2) := by decide +kernel
theorem dX5_pullCursorsBack_46 : decode cX5_pullCursorsBack 46 = .ok (.aaload, 1) := by decide +kernel
theorem dX5_pullCursorsBack_47 : decode cX5_pullCursorsBack 47 = .ok (.iload_n 2, 1) := by decide +kernel
theorem dX5_pullCursorsBack_48 : decode cX5_pullCursorsBack 48 = .ok (.iconst 1, 1) := by decide +kernel
theorem dX5_pullCursorsBack_49 : decode cX5_pullCursorsBack 49 = .ok (.isub, 1) := by decide +kernel
theorem dX5_pullCursorsBack_50 : decode cX5_pullCursorsBack 50 = .ok (.putfield 120, 3) := by decide +kernel
theorem dX5_pullCursorsBack_53 : decode cX5_pullCursorsBack 53 = .ok (.iconst 1, 1) := by decide +kernel
theorem dX5_pullCursorsBack_54 : decode cX5_pullCursorsBack 54 = .ok (.istore_n 3, 1) := by decide +kernel
theorem dX5_pullCursorsBack_55 : decode cX5_pullCursorsBack 55 = .ok (.iinc 4 1, 3) := by decide +kernel
theorem dX5_pullCursorsBack_58 : decode cX5_pullCursorsBack 58 = .ok (.goto (-53), 3) := by decide +kernel
theorem dX5_pullCursorsBack_61 : decode cX5_pullCursorsBack 61 = .ok (.iload_n 3, 1) := by decide +kernel
theorem dX5_pullCursorsBack_62 : decode cX5_pullCursorsBack 62 = .ok (.ireturn, 1) := by decide +kernel
theorem dX5_moveMember_0 : decode cX5_moveMember 0 = .ok (.iload_n 2, 1) := by decide +kernel
theorem dX5_moveMember_1 : decode cX5_moveMember 1 = .ok (.iload_n 3, 1) := by decide +kernel
theorem dX5_moveMember_2 : decode cX5_moveMember 2 = .ok (.if_icmp .eq 15, 3) := by decide +kernel
theorem dX5_moveMember_5 : decode cX5_moveMember 5 = .ok (.aload_n 0, 1) := by decide +kernel
theorem dX5_moveMember_6 : decode cX5_moveMember 6 = .ok (.aload_n 1, 1) := by decide +kernel
theorem dX5_moveMember_7 : decode cX5_moveMember 7 = .ok (.iload_n 3, 1) := by decide +kernel
theorem dX5_moveMember_8 : decode cX5_moveMember 8 = .ok (.aload_n 1, 1) := by decide +kernel
theorem dX5_moveMember_9 : decode cX5_moveMember 9 = .ok (.getfield 123, 3) := by decide +kernel
theorem dX5_moveMember_12 : decode cX5_moveMember 12 = .ok (.iload_n 2, 1) := by decide +kernel
theorem dX5_moveMember_13 : decode cX5_moveMember 13 = .ok (.iaload, 1) := by decide +kernel
theorem dX5_moveMember_14 : decode cX5_moveMember 14 = .ok (.invokevirtual 89, 3) := by decide +kernel
theorem dX5_moveMember_17 : decode cX5_moveMember 17 = .ok (.return_, 1) := by decide +kernel
theorem dX5_takeOut_0 : decode cX5_takeOut 0 = .ok (.aload_n 0, 1) := by decide +kernel
theorem dX5_takeOut_1 : decode cX5_takeOut 1 = .ok (.getfield 11, 3) := by decide +kernel
theorem dX5_takeOut_4 : decode cX5_takeOut 4 = .ok (.iload_n 1, 1) := by decide +kernel
theorem dX5_takeOut_5 : decode cX5_takeOut 5 = .ok (.aaload, 1) := by decide +kernel
theorem dX5_takeOut_6 : decode cX5_takeOut 6 = .ok (.astore_n 3, 1) := by decide +kernel
theorem dX5_takeOut_7 : decode cX5_takeOut 7 = .ok (.aload_n 3, 1) := by decide +kernel
theorem dX5_takeOut_8 : decode cX5_takeOut 8 = .ok (.iload_n 2, 1) := by decide +kernel
theorem dX5_takeOut_9 : decode cX5_takeOut 9 = .ok (.invokevirtual 106, 3) := by decide +kernel
theorem dX5_takeOut_12 : decode cX5_takeOut 12 = .ok (.istore 4, 2) := by decide +kernel
theorem dX5_takeOut_14 : decode cX5_takeOut 14 = .ok (.iload 4, 2) := by decide +kernel
theorem dX5_takeOut_16 : decode cX5_takeOut 16 = .ok (.iconst (-1), 1) := by decide +kernel
theorem dX5_takeOut_17 : decode cX5_takeOut 17 = .ok (.if_icmp .ne 5, 3) := by decide +kernel
theorem dX5_takeOut_20 : decode cX5_takeOut 20 = .ok (.iconst 0, 1) := by decide +kernel
theorem dX5_takeOut_21 : decode cX5_takeOut 21 = .ok (.ireturn, 1) := by decide +kernel
theorem dX5_takeOut_22 : decode cX5_takeOut 22 = .ok (.iload 4, 2) := by decide +kernel
theorem dX5_takeOut_24 : decode cX5_takeOut 24 = .ok (.istore 5, 2) := by decide +kernel
theorem dX5_takeOut_26 : decode cX5_takeOut 26 = .ok (.iload 4, 2) := by decide +kernel
theorem dX5_takeOut_28 : decode cX5_takeOut 28 = .ok (.iconst 1, 1) := by decide +kernel
theorem dX5_takeOut_29 : decode cX5_takeOut 29 = .ok (.iadd, 1) := by decide +kernel
theorem dX5_takeOut_30 : decode cX5_takeOut 30 = .ok (.istore 6, 2) := by decide +kernel
theorem dX5_takeOut_32 : decode cX5_takeOut 32 = .ok (.iload 6, 2) := by decide +kernel
theorem dX5_takeOut_34 : decode cX5_takeOut 34 = .ok (.aload_n 3, 1) := by decide +kernel
theorem dX5_takeOut_35 : decode cX5_takeOut 35 = .ok (.getfield 86, 3) := by decide +kernel
theorem dX5_takeOut_38 : decode cX5_takeOut 38 = .ok (.if_icmp .gt 45, 3) := by decide +kernel
theorem dX5_takeOut_41 : decode cX5_takeOut 41 = .ok (.aload_n 0, 1) := by decide +kernel
theorem dX5_takeOut_42 : decode cX5_takeOut 42 = .ok (.iload_n 1, 1) := by decide +kernel
theorem dX5_takeOut_43 : decode cX5_takeOut 43 = .ok (.iload 6, 2) := by decide +kernel
theorem dX5_takeOut_45 : decode cX5_takeOut 45 = .ok (.invokevirtual 110, 3) := by decide +kernel
theorem dX5_takeOut_48 : decode cX5_takeOut 48 = .ok (.ifCond .ne 12, 3) := by decide +kernel
theorem dX5_takeOut_51 : decode cX5_takeOut 51 = .ok (.iload 6, 2) := by decide +kernel
theorem dX5_takeOut_53 : decode cX5_takeOut 53 = .ok (.aload_n 3, 1) := by decide +kernel
theorem dX5_takeOut_54 : decode cX5_takeOut 54 = .ok (.getfield 86, 3) := by decide +kernel
theorem dX5_takeOut_57 : decode cX5_takeOut 57 = .ok (.if_icmp .ne 20, 3) := by decide +kernel
theorem dX5_takeOut_60 : decode cX5_takeOut 60 = .ok (.aload_n 0, 1) := by decide +kernel
theorem dX5_takeOut_61 : decode cX5_takeOut 61 = .ok (.aload_n 3, 1) := by decide +kernel
theorem dX5_takeOut_62 : decode cX5_takeOut 62 = .ok (.iload 6, 2) := by decide +kernel
theorem dX5_takeOut_64 : decode cX5_takeOut 64 = .ok (.iconst 1, 1) := by decide +kernel
theorem dX5_takeOut_65 : decode cX5_takeOut 65 = .ok (.isub, 1) := by decide +kernel
theorem dX5_takeOut_66 : decode cX5_takeOut 66 = .ok (.iload 5, 2) := by decide +kernel
theorem dX5_takeOut_68 : decode cX5_takeOut 68 = .ok (.invokevirtual 114, 3) := by decide +kernel
theorem dX5_takeOut_71 : decode cX5_takeOut 71 = .ok (.iload 6, 2) := by decide +kernel
theorem dX5_takeOut_73 : decode cX5_takeOut 73 = .ok (.iconst 1, 1) := by decide +kernel
theorem dX5_takeOut_74 : decode cX5_takeOut 74 = .ok (.isub, 1) := by decide +kernel
theorem dX5_takeOut_75 : decode cX5_takeOut 75 = .ok (.istore 5, 2) := by decide +kernel
theorem dX5_takeOut_77 : decode cX5_takeOut 77 = .ok (.iinc 6 1, 3) := by decide +kernel
theorem dX5_takeOut_80 : decode cX5_takeOut 80 = .ok (.goto (-48), 3) := by decide +kernel
theorem dX5_takeOut_83 : decode cX5_takeOut 83 = .ok (.aload_n 3, 1) := by decide +kernel
theorem dX5_takeOut_84 : decode cX5_takeOut 84 = .ok (.dup, 1) := by decide +kernel
theorem dX5_takeOut_85 : decode cX5_takeOut 85 = .ok (.getfield 86, 3) := by decide +kernel
theorem dX5_takeOut_88 : decode cX5_takeOut 88 = .ok (.iconst 1, 1) := by decide +kernel
theorem dX5_takeOut_89 : decode cX5_takeOut 89 = .ok (.isub, 1) := by decide +kernel
theorem dX5_takeOut_90 : decode cX5_takeOut 90 = .ok (.putfield 86, 3) := by decide +kernel
theorem dX5_takeOut_93 : decode cX5_takeOut 93 = .ok (.aload_n 0, 1) := by decide +kernel
theorem dX5_takeOut_94 : decode cX5_takeOut 94 = .ok (.dup, 1) := by decide +kernel
theorem dX5_takeOut_95 : decode cX5_takeOut 95 = .ok (.getfield 42, 3) := by decide +kernel
theorem dX5_takeOut_98 : decode cX5_takeOut 98 = .ok (.iconst 1, 1) := by decide +kernel
theorem dX5_takeOut_99 : decode cX5_takeOut 99 = .ok (.iadd, 1) := by decide +kernel
theorem dX5_takeOut_100 : decode cX5_takeOut 100 = .ok (.putfield 42, 3) := by decide +kernel
theorem dX5_takeOut_103 : decode cX5_takeOut 103 = .ok (.aload_n 3, 1) := by decide +kernel
theorem dX5_takeOut_104 : decode cX5_takeOut 104 = .ok (.getfield 96, 3) := by decide +kernel
theorem dX5_takeOut_107 : decode cX5_takeOut 107 = .ok (.aload_n 0, 1) := by decide +kernel
theorem dX5_takeOut_108 : decode cX5_takeOut 108 = .ok (.getfield 42, 3) := by decide +kernel
theorem dX5_takeOut_111 : decode cX5_takeOut 111 = .ok (.iload_n 2, 1) := by decide +kernel
theorem dX5_takeOut_112 : decode cX5_takeOut 112 = .ok (.iconst 1, 1) := by decide +kernel
theorem dX5_takeOut_113 : decode cX5_takeOut 113 = .ok (.aload_n 0, 1) := by decide +kernel
theorem dX5_takeOut_114 : decode cX5_takeOut 114 = .ok (.getfield 33, 3) := by decide +kernel
theorem dX5_takeOut_117 : decode cX5_takeOut 117 = .ok (.invokevirtual 100, 3) := by decide +kernel
theorem dX5_takeOut_120 : decode cX5_takeOut 120 = .ok (.iconst 1, 1) := by decide +kernel
theorem dX5_takeOut_121 : decode cX5_takeOut 121 = .ok (.ireturn, 1) := by decide +kernel
theorem dX3_readMembers_0 : decode cX3_readMembers 0 = .ok (.aload_n 0, 1) := by decide +kernel
theorem dX3_readMembers_1 : decode cX3_readMembers 1 = .ok (.invokevirtual 35, 3) := by decide +kernel
theorem dX3_readMembers_4 : decode cX3_readMembers 4 = .ok (.aload_n 0, 1) := by decide +kernel
theorem dX3_readMembers_5 : decode cX3_readMembers 5 = .ok (.invokevirtual 118, 3) := by decide +kernel
theorem dX3_readMembers_8 : decode cX3_readMembers 8 = .ok (.istore_n 2, 1) := by decide +kernel
theorem dX3_readMembers_9 : decode cX3_readMembers 9 = .ok (.iload_n 2, 1) := by decide +kernel
theorem dX3_readMembers_10 : decode cX3_readMembers 10 = .ok (.iconst (-1), 1) := by decide +kernel
theorem dX3_readMembers_11 : decode cX3_readMembers 11 = .ok (.if_icmp .ne 5, 3) := by decide +kernel
theorem dX3_readMembers_14 : decode cX3_readMembers 14 = .ok (.iconst 0, 1) := by decide +kernel
theorem dX3_readMembers_15 : decode cX3_readMembers 15 = .ok (.ireturn, 1) := by decide +kernel
theorem dX3_readMembers_16 : decode cX3_readMembers 16 = .ok (.aload_n 0, 1) := by decide +kernel
theorem dX3_readMembers_17 : decode cX3_readMembers 17 = .ok (.invokevirtual 35, 3) := by decide +kernel
theorem dX3_readMembers_20 : decode cX3_readMembers 20 = .ok (.iconst 0, 1) := by decide +kernel
theorem dX3_readMembers_21 : decode cX3_readMembers 21 = .ok (.istore_n 3, 1) := by decide +kernel
theorem dX3_readMembers_22 : decode cX3_readMembers 22 = .ok (.iload_n 3, 1) := by decide +kernel
theorem dX3_readMembers_23 : decode cX3_readMembers 23 = .ok (.ifCond .eq 21, 3) := by decide +kernel
theorem dX3_readMembers_26 : decode cX3_readMembers 26 = .ok (.iload_n 3, 1) := by decide +kernel
theorem dX3_readMembers_27 : decode cX3_readMembers 27 = .ok (.aload_n 0, 1) := by decide +kernel
theorem dX3_readMembers_28 : decode cX3_readMembers 28 = .ok (.getfield 15, 3) := by decide +kernel
theorem dX3_readMembers_31 : decode cX3_readMembers 31 = .ok (.if_icmp .ge 83, 3) := by decide +kernel
theorem dX3_readMembers_34 : decode cX3_readMembers 34 = .ok (.aload_n 0, 1) := by decide +kernel
theorem dX3_readMembers_35 : decode cX3_readMembers 35 = .ok (.getfield 29, 3) := by decide +kernel
theorem dX3_readMembers_38 : decode cX3_readMembers 38 = .ok (.getstatic 122, 3) := by decide +kernel
theorem dX3_readMembers_41 : decode cX3_readMembers 41 = .ok (.if_acmp .ne 73, 3) := by decide +kernel
theorem dX3_readMembers_44 : decode cX3_readMembers 44 = .ok (.aload_n 0, 1) := by decide +kernel
theorem dX3_readMembers_45 : decode cX3_readMembers 45 = .ok (.iconst 0, 1) := by decide +kernel
theorem dX3_readMembers_46 : decode cX3_readMembers 46 = .ok (.aload_n 0, 1) := by decide +kernel
theorem dX3_readMembers_47 : decode cX3_readMembers 47 = .ok (.getfield 19, 3) := by decide +kernel
theorem dX3_readMembers_50 : decode cX3_readMembers 50 = .ok (.getfield 125, 3) := by decide +kernel
theorem dX3_readMembers_53 : decode cX3_readMembers 53 = .ok (.iconst 1, 1) := by decide +kernel
theorem dX3_readMembers_54 : decode cX3_readMembers 54 = .ok (.isub, 1) := by decide +kernel
theorem dX3_readMembers_55 : decode cX3_readMembers 55 = .ok (.invokevirtual 44, 3) := by decide +kernel
theorem dX3_readMembers_58 : decode cX3_readMembers 58 = .ok (.ifCond .ne 5, 3) := by decide +kernel
theorem dX3_readMembers_61 : decode cX3_readMembers 61 = .ok (.iconst 0, 1) := by decide +kernel
theorem dX3_readMembers_62 : decode cX3_readMembers 62 = .ok (.ireturn, 1) := by decide +kernel
theorem dX3_readMembers_63 : decode cX3_readMembers 63 = .ok (.iload_n 1, 1) := by decide +kernel
theorem dX3_readMembers_64 : decode cX3_readMembers 64 = .ok (.ifCond .eq 27, 3) := by decide +kernel
theorem dX3_readMembers_67 : decode cX3_readMembers 67 = .ok (.aload_n 0, 1) := by decide +kernel
theorem dX3_readMembers_68 : decode cX3_readMembers 68 = .ok (.getfield 19, 3) := by decide +kernel
theorem dX3_readMembers_71 : decode cX3_readMembers 71 = .ok (.aload_n 0, 1) := by decide +kernel
theorem dX3_readMembers_72 : decode cX3_readMembers 72 = .ok (.getfield 19, 3) := by decide +kernel
theorem dX3_readMembers_75 : decode cX3_readMembers 75 = .ok (.getfield 128, 3) := by decide +kernel
theorem dX3_readMembers_78 : decode cX3_readMembers 78 = .ok (.iload_n 2, 1) := by decide +kernel
theorem dX3_readMembers_79 : decode cX3_readMembers 79 = .ok (.aaload, 1) := by decide +kernel
theorem dX3_readMembers_80 : decode cX3_readMembers 80 = .ok (.aload_n 0, 1) := by decide +kernel
theorem dX3_readMembers_81 : decode cX3_readMembers 81 = .ok (.getfield 48, 3) := by decide +kernel
theorem dX3_readMembers_84 : decode cX3_readMembers 84 = .ok (.invokevirtual 131, 3) := by decide +kernel
theorem dX3_readMembers_87 : decode cX3_readMembers 87 = .ok (.pop, 1) := by decide +kernel
theorem dX3_readMembers_88 : decode cX3_readMembers 88 = .ok (.goto 16, 3) := by decide +kernel
theorem dX3_readMembers_91 : decode cX3_readMembers 91 = .ok (.aload_n 0, 1) := by decide +kernel
theorem dX3_readMembers_92 : decode cX3_readMembers 92 = .ok (.getfield 19, 3) := by decide +kernel
theorem dX3_readMembers_95 : decode cX3_readMembers 95 = .ok (.iload_n 2, 1) := by decide +kernel
theorem dX3_readMembers_96 : decode cX3_readMembers 96 = .ok (.aload_n 0, 1) := by decide +kernel
theorem dX3_readMembers_97 : decode cX3_readMembers 97 = .ok (.getfield 48, 3) := by decide +kernel
theorem dX3_readMembers_100 : decode cX3_readMembers 100 = .ok (.invokevirtual 135, 3) := by decide +kernel
theorem dX3_readMembers_103 : decode cX3_readMembers 103 = .ok (.pop, 1) := by decide +kernel
theorem dX3_readMembers_104 : decode cX3_readMembers 104 = .ok (.aload_n 0, 1) := by decide +kernel
theorem dX3_readMembers_105 : decode cX3_readMembers 105 = .ok (.invokevirtual 35, 3) := by decide +kernel
theorem dX3_readMembers_108 : decode cX3_readMembers 108 = .ok (.iinc 3 1, 3) := by decide +kernel
theorem dX3_readMembers_111 : decode cX3_readMembers 111 = .ok (.goto (-89), 3) := by decide +kernel
theorem dX3_readMembers_114 : decode cX3_readMembers 114 = .ok (.iconst 1, 1) := by decide +kernel
theorem dX3_readMembers_115 : decode cX3_readMembers 115 = .ok (.ireturn, 1) := by decide +kernel
theorem dX5_emptySet_0 : decode cX5_emptySet 0 = .ok (.aload_n 0, 1) := by decide +kernel
theorem dX5_emptySet_1 : decode cX5_emptySet 1 = .ok (.getfield 11, 3) := by decide +kernel
theorem dX5_emptySet_4 : decode cX5_emptySet 4 = .ok (.iload_n 1, 1) := by decide +kernel
theorem dX5_emptySet_5 : decode cX5_emptySet 5 = .ok (.aaload, 1) := by decide +kernel
theorem dX5_emptySet_6 : decode cX5_emptySet 6 = .ok (.astore_n 2, 1) := by decide +kernel
theorem dX5_emptySet_7 : decode cX5_emptySet 7 = .ok (.aload_n 2, 1) := by decide +kernel
theorem dX5_emptySet_8 : decode cX5_emptySet 8 = .ok (.getfield 86, 3) := by decide +kernel
theorem dX5_emptySet_11 : decode cX5_emptySet 11 = .ok (.ifCond .le 30, 3) := by decide +kernel
theorem dX5_emptySet_14 : decode cX5_emptySet 14 = .ok (.aload_n 0, 1) := by decide +kernel
theorem dX5_emptySet_15 : decode cX5_emptySet 15 = .ok (.dup, 1) := by decide +kernel
theorem dX5_emptySet_16 : decode cX5_emptySet 16 = .ok (.getfield 42, 3) := by decide +kernel
theorem dX5_emptySet_19 : decode cX5_emptySet 19 = .ok (.iconst 1, 1) := by decide +kernel
theorem dX5_emptySet_20 : decode cX5_emptySet 20 = .ok (.iadd, 1) := by decide +kernel
theorem dX5_emptySet_21 : decode cX5_emptySet 21 = .ok (.putfield 42, 3) := by decide +kernel
theorem dX5_emptySet_24 : decode cX5_emptySet 24 = .ok (.aload_n 2, 1) := by decide +kernel
theorem dX5_emptySet_25 : decode cX5_emptySet 25 = .ok (.getfield 96, 3) := by decide +kernel
theorem dX5_emptySet_28 : decode cX5_emptySet 28 = .ok (.aload_n 0, 1) := by decide +kernel
theorem dX5_emptySet_29 : decode cX5_emptySet 29 = .ok (.getfield 42, 3) := by decide +kernel
theorem dX5_emptySet_32 : decode cX5_emptySet 32 = .ok (.iconst (-1), 1) := by decide +kernel
theorem dX5_emptySet_33 : decode cX5_emptySet 33 = .ok (.iconst 2, 1) := by decide +kernel
theorem dX5_emptySet_34 : decode cX5_emptySet 34 = .ok (.aload_n 0, 1) := by decide +kernel
theorem dX5_emptySet_35 : decode cX5_emptySet 35 = .ok (.getfield 33, 3) := by decide +kernel
theorem dX5_emptySet_38 : decode cX5_emptySet 38 = .ok (.invokevirtual 100, 3) := by decide +kernel
theorem dX5_emptySet_41 : decode cX5_emptySet 41 = .ok (.aload_n 2, 1) := by decide +kernel
theorem dX5_emptySet_42 : decode cX5_emptySet 42 = .ok (.iconst 0, 1) := by decide +kernel
theorem dX5_emptySet_43 : decode cX5_emptySet 43 = .ok (.putfield 86, 3) := by decide +kernel
theorem dX5_emptySet_46 : decode cX5_emptySet 46 = .ok (.aload_n 2, 1) := by decide +kernel
theorem dX5_emptySet_47 : decode cX5_emptySet 47 = .ok (.dup, 1) := by decide +kernel
theorem dX5_emptySet_48 : decode cX5_emptySet 48 = .ok (.getfield 129, 3) := by decide +kernel
theorem dX5_emptySet_51 : decode cX5_emptySet 51 = .ok (.iconst 1, 1) := by decide +kernel
theorem dX5_emptySet_52 : decode cX5_emptySet 52 = .ok (.iadd, 1) := by decide +kernel
theorem dX5_emptySet_53 : decode cX5_emptySet 53 = .ok (.putfield 129, 3) := by decide +kernel
theorem dX5_emptySet_56 : decode cX5_emptySet 56 = .ok (.aload_n 0, 1) := by decide +kernel
theorem dX5_emptySet_57 : decode cX5_emptySet 57 = .ok (.dup, 1) := by decide +kernel
theorem dX5_emptySet_58 : decode cX5_emptySet 58 = .ok (.getfield 45, 3) := by decide +kernel
theorem dX5_emptySet_61 : decode cX5_emptySet 61 = .ok (.iconst 1, 1) := by decide +kernel
theorem dX5_emptySet_62 : decode cX5_emptySet 62 = .ok (.iadd, 1) := by decide +kernel
theorem dX5_emptySet_63 : decode cX5_emptySet 63 = .ok (.putfield 45, 3) := by decide +kernel
theorem dX5_emptySet_66 : decode cX5_emptySet 66 = .ok (.iconst 0, 1) := by decide +kernel
theorem dX5_emptySet_67 : decode cX5_emptySet 67 = .ok (.istore_n 3, 1) := by decide +kernel
theorem dX5_emptySet_68 : decode cX5_emptySet 68 = .ok (.iload_n 3, 1) := by decide +kernel
theorem dX5_emptySet_69 : decode cX5_emptySet 69 = .ok (.bipush 6, 2) := by decide +kernel
theorem dX5_emptySet_71 : decode cX5_emptySet 71 = .ok (.if_icmp .ge 32, 3) := by decide +kernel
theorem dX5_emptySet_74 : decode cX5_emptySet 74 = .ok (.aload_n 0, 1) := by decide +kernel
theorem dX5_emptySet_75 : decode cX5_emptySet 75 = .ok (.getfield 19, 3) := by decide +kernel
theorem dX5_emptySet_78 : decode cX5_emptySet 78 = .ok (.iload_n 3, 1) := by decide +kernel
theorem dX5_emptySet_79 : decode cX5_emptySet 79 = .ok (.aaload, 1) := by decide +kernel
theorem dX5_emptySet_80 : decode cX5_emptySet 80 = .ok (.iload_n 1, 1) := by decide +kernel
theorem dX5_emptySet_81 : decode cX5_emptySet 81 = .ok (.invokevirtual 117, 3) := by decide +kernel
theorem dX5_emptySet_84 : decode cX5_emptySet 84 = .ok (.ifCond .eq 13, 3) := by decide +kernel
theorem dX5_emptySet_87 : decode cX5_emptySet 87 = .ok (.aload_n 0, 1) := by decide +kernel
theorem dX5_emptySet_88 : decode cX5_emptySet 88 = .ok (.getfield 19, 3) := by decide +kernel
theorem dX5_emptySet_91 : decode cX5_emptySet 91 = .ok (.iload_n 3, 1) := by decide +kernel
theorem dX5_emptySet_92 : decode cX5_emptySet 92 = .ok (.aaload, 1) := by decide +kernel
theorem dX5_emptySet_93 : decode cX5_emptySet 93 = .ok (.iconst 0, 1) := by decide +kernel
theorem dX5_emptySet_94 : decode cX5_emptySet 94 = .ok (.putfield 52, 3) := by decide +kernel
theorem dX5_emptySet_97 : decode cX5_emptySet 97 = .ok (.iinc 3 1, 3) := by decide +kernel
theorem dX5_emptySet_100 : decode cX5_emptySet 100 = .ok (.goto (-32), 3) := by decide +kernel
theorem dX5_emptySet_103 : decode cX5_emptySet 103 = .ok (.return_, 1) := by decide +kernel
theorem dX3_readClear_0 : decode cX3_readClear 0 = .ok (.aload_n 0, 1) := by decide +kernel
theorem dX3_readClear_1 : decode cX3_readClear 1 = .ok (.invokevirtual 35, 3) := by decide +kernel
theorem dX3_readClear_4 : decode cX3_readClear 4 = .ok (.aload_n 0, 1) := by decide +kernel
theorem dX3_readClear_5 : decode cX3_readClear 5 = .ok (.invokevirtual 118, 3) := by decide +kernel
theorem dX3_readClear_8 : decode cX3_readClear 8 = .ok (.istore_n 1, 1) := by decide +kernel
theorem dX3_readClear_9 : decode cX3_readClear 9 = .ok (.iload_n 1, 1) := by decide +kernel
theorem dX3_readClear_10 : decode cX3_readClear 10 = .ok (.iconst (-1), 1) := by decide +kernel
theorem dX3_readClear_11 : decode cX3_readClear 11 = .ok (.if_icmp .ne 5, 3) := by decide +kernel
theorem dX3_readClear_14 : decode cX3_readClear 14 = .ok (.iconst 0, 1) := by decide +kernel
theorem dX3_readClear_15 : decode cX3_readClear 15 = .ok (.ireturn, 1) := by decide +kernel
theorem dX3_readClear_16 : decode cX3_readClear 16 = .ok (.aload_n 0, 1) := by decide +kernel
theorem dX3_readClear_17 : decode cX3_readClear 17 = .ok (.getfield 19, 3) := by decide +kernel
theorem dX3_readClear_20 : decode cX3_readClear 20 = .ok (.iload_n 1, 1) := by decide +kernel
theorem dX3_readClear_21 : decode cX3_readClear 21 = .ok (.invokevirtual 138, 3) := by decide +kernel
theorem dX3_readClear_24 : decode cX3_readClear 24 = .ok (.aload_n 0, 1) := by decide +kernel
theorem dX3_readClear_25 : decode cX3_readClear 25 = .ok (.invokevirtual 35, 3) := by decide +kernel
theorem dX3_readClear_28 : decode cX3_readClear 28 = .ok (.iconst 1, 1) := by decide +kernel
theorem dX3_readClear_29 : decode cX3_readClear 29 = .ok (.ireturn, 1) := by decide +kernel
theorem dX5_makeMark_0 : decode cX5_makeMark 0 = .ok (.aload_n 0, 1) := by decide +kernel
theorem dX5_makeMark_1 : decode cX5_makeMark 1 = .ok (.getfield 39, 3) := by decide +kernel
theorem dX5_makeMark_4 : decode cX5_makeMark 4 = .ok (.bipush 8, 2) := by decide +kernel
theorem dX5_makeMark_6 : decode cX5_makeMark 6 = .ok (.if_icmp .ge 26, 3) := by decide +kernel
theorem dX5_makeMark_9 : decode cX5_makeMark 9 = .ok (.aload_n 0, 1) := by decide +kernel
theorem dX5_makeMark_10 : decode cX5_makeMark 10 = .ok (.getfield 23, 3) := by decide +kernel
theorem dX5_makeMark_13 : decode cX5_makeMark 13 = .ok (.aload_n 0, 1) := by decide +kernel
theorem dX5_makeMark_14 : decode cX5_makeMark 14 = .ok (.getfield 39, 3) := by decide +kernel
theorem dX5_makeMark_17 : decode cX5_makeMark 17 = .ok (.aload_n 0, 1) := by decide +kernel
theorem dX5_makeMark_18 : decode cX5_makeMark 18 = .ok (.getfield 42, 3) := by decide +kernel
theorem dX5_makeMark_21 : decode cX5_makeMark 21 = .ok (.iastore, 1) := by decide +kernel
theorem dX5_makeMark_22 : decode cX5_makeMark 22 = .ok (.aload_n 0, 1) := by decide +kernel
theorem dX5_makeMark_23 : decode cX5_makeMark 23 = .ok (.dup, 1) := by decide +kernel
theorem dX5_makeMark_24 : decode cX5_makeMark 24 = .ok (.getfield 39, 3) := by decide +kernel
theorem dX5_makeMark_27 : decode cX5_makeMark 27 = .ok (.iconst 1, 1) := by decide +kernel
theorem dX5_makeMark_28 : decode cX5_makeMark 28 = .ok (.iadd, 1) := by decide +kernel
theorem dX5_makeMark_29 : decode cX5_makeMark 29 = .ok (.putfield 39, 3) := by decide +kernel
theorem dX5_makeMark_32 : decode cX5_makeMark 32 = .ok (.return_, 1) := by decide +kernel
theorem dX3_readMark_0 : decode cX3_readMark 0 = .ok (.aload_n 0, 1) := by decide +kernel
theorem dX3_readMark_1 : decode cX3_readMark 1 = .ok (.getfield 19, 3) := by decide +kernel
theorem dX3_readMark_4 : decode cX3_readMark 4 = .ok (.getfield 142, 3) := by decide +kernel
theorem dX3_readMark_7 : decode cX3_readMark 7 = .ok (.bipush 8, 2) := by decide +kernel
theorem dX3_readMark_9 : decode cX3_readMark 9 = .ok (.if_icmp .lt 9, 3) := by decide +kernel
theorem dX3_readMark_12 : decode cX3_readMark 12 = .ok (.aload_n 0, 1) := by decide +kernel
theorem dX3_readMark_13 : decode cX3_readMark 13 = .ok (.iconst 5, 1) := by decide +kernel
theorem dX3_readMark_14 : decode cX3_readMark 14 = .ok (.invokevirtual 90, 3) := by decide +kernel
theorem dX3_readMark_17 : decode cX3_readMark 17 = .ok (.ireturn, 1) := by decide +kernel
theorem dX3_readMark_18 : decode cX3_readMark 18 = .ok (.aload_n 0, 1) := by decide +kernel
theorem dX3_readMark_19 : decode cX3_readMark 19 = .ok (.getfield 19, 3) := by decide +kernel
theorem dX3_readMark_22 : decode cX3_readMark 22 = .ok (.invokevirtual 145, 3) := by decide +kernel
theorem dX3_readMark_25 : decode cX3_readMark 25 = .ok (.aload_n 0, 1) := by decide +kernel
theorem dX3_readMark_26 : decode cX3_readMark 26 = .ok (.invokevirtual 35, 3) := by decide +kernel
theorem dX3_readMark_29 : decode cX3_readMark 29 = .ok (.iconst 1, 1) := by decide +kernel
theorem dX3_readMark_30 : decode cX3_readMark 30 = .ok (.ireturn, 1) := by decide +kernel
theorem dX3_readStatement_0 : decode cX3_readStatement 0 = .ok (.aload_n 0, 1) := by decide +kernel
theorem dX3_readStatement_1 : decode cX3_readStatement 1 = .ok (.ldc 64, 2) := by decide +kernel
theorem dX3_readStatement_3 : decode cX3_readStatement 3 = .ok (.invokevirtual 66, 3) := by decide +kernel
theorem dX3_readStatement_6 : decode cX3_readStatement 6 = .ok (.ifCond .eq 8, 3) := by decide +kernel
theorem dX3_readStatement_9 : decode cX3_readStatement 9 = .ok (.aload_n 0, 1) := by decide +kernel
theorem dX3_readStatement_10 : decode cX3_readStatement 10 = .ok (.invokevirtual 69, 3) := by decide +kernel
theorem dX3_readStatement_13 : decode cX3_readStatement 13 = .ok (.ireturn, 1) := by decide +kernel
theorem dX3_readStatement_14 : decode cX3_readStatement 14 = .ok (.aload_n 0, 1) := by decide +kernel
theorem dX3_readStatement_15 : decode cX3_readStatement 15 = .ok (.ldc 72, 2) := by decide +kernel
theorem dX3_readStatement_17 : decode cX3_readStatement 17 = .ok (.invokevirtual 66, 3) := by decide +kernel
theorem dX3_readStatement_20 : decode cX3_readStatement 20 = .ok (.ifCond .eq 9, 3) := by decide +kernel
theorem dX3_readStatement_23 : decode cX3_readStatement 23 = .ok (.aload_n 0, 1) := by decide +kernel
theorem dX3_readStatement_24 : decode cX3_readStatement 24 = .ok (.iconst 1, 1) := by decide +kernel
theorem dX3_readStatement_25 : decode cX3_readStatement 25 = .ok (.invokevirtual 74, 3) := by decide +kernel
theorem dX3_readStatement_28 : decode cX3_readStatement 28 = .ok (.ireturn, 1) := by decide +kernel
theorem dX3_readStatement_29 : decode cX3_readStatement 29 = .ok (.aload_n 0, 1) := by decide +kernel
theorem dX3_readStatement_30 : decode cX3_readStatement 30 = .ok (.ldc 78, 2) := by decide +kernel
theorem dX3_readStatement_32 : decode cX3_readStatement 32 = .ok (.invokevirtual 66, 3) := by decide +kernel
theorem dX3_readStatement_35 : decode cX3_readStatement 35 = .ok (.ifCond .eq 9, 3) := by decide +kernel
theorem dX3_readStatement_38 : decode cX3_readStatement 38 = .ok (.aload_n 0, 1) := by decide +kernel
theorem dX3_readStatement_39 : decode cX3_readStatement 39 = .ok (.iconst 0, 1) := by decide +kernel
theorem dX3_readStatement_40 : decode cX3_readStatement 40 = .ok (.invokevirtual 74, 3) := by decide +kernel
theorem dX3_readStatement_43 : decode cX3_readStatement 43 = .ok (.ireturn, 1) := by decide +kernel
theorem dX3_readStatement_44 : decode cX3_readStatement 44 = .ok (.aload_n 0, 1) := by decide +kernel
theorem dX3_readStatement_45 : decode cX3_readStatement 45 = .ok (.ldc 80, 2) := by decide +kernel
theorem dX3_readStatement_47 : decode cX3_readStatement 47 = .ok (.invokevirtual 66, 3) := by decide +kernel
theorem dX3_readStatement_50 : decode cX3_readStatement 50 = .ok (.ifCond .eq 8, 3) := by decide +kernel
theorem dX3_readStatement_53 : decode cX3_readStatement 53 = .ok (.aload_n 0, 1) := by decide +kernel
theorem dX3_readStatement_54 : decode cX3_readStatement 54 = .ok (.invokevirtual 82, 3) := by decide +kernel
theorem dX3_readStatement_57 : decode cX3_readStatement 57 = .ok (.ireturn, 1) := by decide +kernel
theorem dX3_readStatement_58 : decode cX3_readStatement 58 = .ok (.aload_n 0, 1) := by decide +kernel
theorem dX3_readStatement_59 : decode cX3_readStatement 59 = .ok (.ldc 85, 2) := by decide +kernel
theorem dX3_readStatement_61 : decode cX3_readStatement 61 = .ok (.invokevirtual 66, 3) := by decide +kernel
theorem dX3_readStatement_64 : decode cX3_readStatement 64 = .ok (.ifCond .eq 8, 3) := by decide +kernel
theorem dX3_readStatement_67 : decode cX3_readStatement 67 = .ok (.aload_n 0, 1) := by decide +kernel
theorem dX3_readStatement_68 : decode cX3_readStatement 68 = .ok (.invokevirtual 87, 3) := by decide +kernel
theorem dX3_readStatement_71 : decode cX3_readStatement 71 = .ok (.ireturn, 1) := by decide +kernel
theorem dX3_readStatement_72 : decode cX3_readStatement 72 = .ok (.aload_n 0, 1) := by decide +kernel
theorem dX3_readStatement_73 : decode cX3_readStatement 73 = .ok (.iconst 1, 1) := by decide +kernel
theorem dX3_readStatement_74 : decode cX3_readStatement 74 = .ok (.invokevirtual 90, 3) := by decide +kernel
theorem dX3_readStatement_77 : decode cX3_readStatement 77 = .ok (.ireturn, 1) := by decide +kernel
theorem dX3_readText_0 : decode cX3_readText 0 = .ok (.aload_n 0, 1) := by decide +kernel
theorem dX3_readText_1 : decode cX3_readText 1 = .ok (.invokevirtual 35, 3) := by decide +kernel
theorem dX3_readText_4 : decode cX3_readText 4 = .ok (.aload_n 0, 1) := by decide +kernel
theorem dX3_readText_5 : decode cX3_readText 5 = .ok (.ldc 38, 2) := by decide +kernel
theorem dX3_readText_7 : decode cX3_readText 7 = .ok (.invokevirtual 40, 3) := by decide +kernel
theorem dX3_readText_10 : decode cX3_readText 10 = .ok (.ifCond .eq 13, 3) := by decide +kernel
theorem dX3_readText_13 : decode cX3_readText 13 = .ok (.aload_n 0, 1) := by decide +kernel
theorem dX3_readText_14 : decode cX3_readText 14 = .ok (.iconst 1, 1) := by decide +kernel
theorem dX3_readText_15 : decode cX3_readText 15 = .ok (.bipush 64, 2) := by decide +kernel
theorem dX3_readText_17 : decode cX3_readText 17 = .ok (.invokevirtual 44, 3) := by decide +kernel
theorem dX3_readText_20 : decode cX3_readText 20 = .ok (.ifCond .ne 5, 3) := by decide +kernel
theorem dX3_readText_23 : decode cX3_readText 23 = .ok (.iconst 0, 1) := by decide +kernel
theorem dX3_readText_24 : decode cX3_readText 24 = .ok (.ireturn, 1) := by decide +kernel
theorem dX3_readText_25 : decode cX3_readText 25 = .ok (.aload_n 0, 1) := by decide +kernel
theorem dX3_readText_26 : decode cX3_readText 26 = .ok (.getfield 48, 3) := by decide +kernel
theorem dX3_readText_29 : decode cX3_readText 29 = .ok (.istore_n 1, 1) := by decide +kernel
theorem dX3_readText_30 : decode cX3_readText 30 = .ok (.aload_n 0, 1) := by decide +kernel
theorem dX3_readText_31 : decode cX3_readText 31 = .ok (.invokevirtual 35, 3) := by decide +kernel
theorem dX3_readText_34 : decode cX3_readText 34 = .ok (.aload_n 0, 1) := by decide +kernel
theorem dX3_readText_35 : decode cX3_readText 35 = .ok (.iconst 1, 1) := by decide +kernel
theorem dX3_readText_36 : decode cX3_readText 36 = .ok (.bipush 60, 2) := by decide +kernel
theorem dX3_readText_38 : decode cX3_readText 38 = .ok (.invokevirtual 44, 3) := by decide +kernel
theorem dX3_readText_41 : decode cX3_readText 41 = .ok (.ifCond .ne 5, 3) := by decide +kernel
theorem dX3_readText_44 : decode cX3_readText 44 = .ok (.iconst 0, 1) := by decide +kernel
theorem dX3_readText_45 : decode cX3_readText 45 = .ok (.ireturn, 1) := by decide +kernel
theorem dX3_readText_46 : decode cX3_readText 46 = .ok (.aload_n 0, 1) := by decide +kernel
theorem dX3_readText_47 : decode cX3_readText 47 = .ok (.getfield 19, 3) := by decide +kernel
theorem dX3_readText_50 : decode cX3_readText 50 = .ok (.iload_n 1, 1) := by decide +kernel
theorem dX3_readText_51 : decode cX3_readText 51 = .ok (.aload_n 0, 1) := by decide +kernel
theorem dX3_readText_52 : decode cX3_readText 52 = .ok (.getfield 48, 3) := by decide +kernel
theorem dX3_readText_55 : decode cX3_readText 55 = .ok (.invokevirtual 51, 3) := by decide +kernel
theorem dX3_readText_58 : decode cX3_readText 58 = .ok (.aload_n 0, 1) := by decide +kernel
theorem dX3_readText_59 : decode cX3_readText 59 = .ok (.invokevirtual 35, 3) := by decide +kernel
theorem dX3_readText_62 : decode cX3_readText 62 = .ok (.aload_n 0, 1) := by decide +kernel
theorem dX3_readText_63 : decode cX3_readText 63 = .ok (.invokevirtual 57, 3) := by decide +kernel
theorem dX3_readText_66 : decode cX3_readText 66 = .ok (.istore_n 2, 1) := by decide +kernel
theorem dX3_readText_67 : decode cX3_readText 67 = .ok (.iconst 0, 1) := by decide +kernel
theorem dX3_readText_68 : decode cX3_readText 68 = .ok (.istore_n 3, 1) := by decide +kernel
theorem dX3_readText_69 : decode cX3_readText 69 = .ok (.iload_n 3, 1) := by decide +kernel
theorem dX3_readText_70 : decode cX3_readText 70 = .ok (.aload_n 0, 1) := by decide +kernel
theorem dX3_readText_71 : decode cX3_readText 71 = .ok (.getfield 15, 3) := by decide +kernel
theorem dX3_readText_74 : decode cX3_readText 74 = .ok (.if_icmp .ge 43, 3) := by decide +kernel
theorem dX3_readText_77 : decode cX3_readText 77 = .ok (.iload_n 2, 1) := by decide +kernel
theorem dX3_readText_78 : decode cX3_readText 78 = .ok (.ifCond .eq 39, 3) := by decide +kernel
theorem dX3_readText_81 : decode cX3_readText 81 = .ok (.aload_n 0, 1) := by decide +kernel
theorem dX3_readText_82 : decode cX3_readText 82 = .ok (.getfield 29, 3) := by decide +kernel
theorem dX3_readText_85 : decode cX3_readText 85 = .ok (.getstatic 23, 3) := by decide +kernel
theorem dX3_readText_88 : decode cX3_readText 88 = .ok (.if_acmp .eq 29, 3) := by decide +kernel
theorem dX3_readText_91 : decode cX3_readText 91 = .ok (.aload_n 0, 1) := by decide +kernel
theorem dX3_readText_92 : decode cX3_readText 92 = .ok (.invokevirtual 61, 3) := by decide +kernel
theorem dX3_readText_95 : decode cX3_readText 95 = .ok (.ifCond .eq 14, 3) := by decide +kernel
theorem dX3_readText_98 : decode cX3_readText 98 = .ok (.aload_n 0, 1) := by decide +kernel
theorem dX3_readText_99 : decode cX3_readText 99 = .ok (.invokevirtual 57, 3) := by decide +kernel
theorem dX3_readText_102 : decode cX3_readText 102 = .ok (.ifCond .eq 7, 3) := by decide +kernel
theorem dX3_readText_105 : decode cX3_readText 105 = .ok (.iconst 1, 1) := by decide +kernel
theorem dX3_readText_106 : decode cX3_readText 106 = .ok (.goto 4, 3) := by decide +kernel
theorem dX3_readText_109 : decode cX3_readText 109 = .ok (.iconst 0, 1) := by decide +kernel
theorem dX3_readText_110 : decode cX3_readText 110 = .ok (.istore_n 2, 1) := by decide +kernel
theorem dX3_readText_111 : decode cX3_readText 111 = .ok (.iinc 3 1, 3) := by decide +kernel
theorem dX3_readText_114 : decode cX3_readText 114 = .ok (.goto (-45), 3) := by decide +kernel
theorem dX3_readText_117 : decode cX3_readText 117 = .ok (.iload_n 2, 1) := by decide +kernel
theorem dX3_readText_118 : decode cX3_readText 118 = .ok (.ireturn, 1) := by decide +kernel
theorem dX4_init_0 : decode cX4_init 0 = .ok (.aload_n 0, 1) := by decide +kernel
theorem dX4_init_1 : decode cX4_init 1 = .ok (.invokespecial 3, 3) := by decide +kernel
theorem dX4_init_4 : decode cX4_init 4 = .ok (.aload_n 0, 1) := by decide +kernel
theorem dX4_init_5 : decode cX4_init 5 = .ok (.iconst 2, 1) := by decide +kernel
theorem dX4_init_6 : decode cX4_init 6 = .ok (.anewarray 9, 3) := by decide +kernel
theorem dX4_init_9 : decode cX4_init 9 = .ok (.putfield 11, 3) := by decide +kernel
theorem dX4_init_12 : decode cX4_init 12 = .ok (.aload_n 0, 1) := by decide +kernel
theorem dX4_init_13 : decode cX4_init 13 = .ok (.iconst 2, 1) := by decide +kernel
theorem dX4_init_14 : decode cX4_init 14 = .ok (.newarray .boolean, 2) := by decide +kernel
theorem dX4_init_16 : decode cX4_init 16 = .ok (.putfield 17, 3) := by decide +kernel
theorem dX4_init_19 : decode cX4_init 19 = .ok (.return_, 1) := by decide +kernel
theorem dX4_emptyAll_0 : decode cX4_emptyAll 0 = .ok (.iconst 0, 1) := by decide +kernel
theorem dX4_emptyAll_1 : decode cX4_emptyAll 1 = .ok (.istore_n 1, 1) := by decide +kernel
theorem dX4_emptyAll_2 : decode cX4_emptyAll 2 = .ok (.iload_n 1, 1) := by decide +kernel
theorem dX4_emptyAll_3 : decode cX4_emptyAll 3 = .ok (.iconst 2, 1) := by decide +kernel
theorem dX4_emptyAll_4 : decode cX4_emptyAll 4 = .ok (.if_icmp .ge 16, 3) := by decide +kernel
theorem dX4_emptyAll_7 : decode cX4_emptyAll 7 = .ok (.aload_n 0, 1) := by decide +kernel
theorem dX4_emptyAll_8 : decode cX4_emptyAll 8 = .ok (.getfield 17, 3) := by decide +kernel
theorem dX4_emptyAll_11 : decode cX4_emptyAll 11 = .ok (.iload_n 1, 1) := by decide +kernel
theorem dX4_emptyAll_12 : decode cX4_emptyAll 12 = .ok (.iconst 0, 1) := by decide +kernel
theorem dX4_emptyAll_13 : decode cX4_emptyAll 13 = .ok (.bastore, 1) := by decide +kernel
theorem dX4_emptyAll_14 : decode cX4_emptyAll 14 = .ok (.iinc 1 1, 3) := by decide +kernel
theorem dX4_emptyAll_17 : decode cX4_emptyAll 17 = .ok (.goto (-15), 3) := by decide +kernel
theorem dX4_emptyAll_20 : decode cX4_emptyAll 20 = .ok (.return_, 1) := by decide +kernel
theorem dX7_init_0 : decode cX7_init 0 = .ok (.aload_n 0, 1) := by decide +kernel
theorem dX7_init_1 : decode cX7_init 1 = .ok (.invokespecial 3, 3) := by decide +kernel
theorem dX7_init_4 : decode cX7_init 4 = .ok (.aload_n 0, 1) := by decide +kernel
theorem dX7_init_5 : decode cX7_init 5 = .ok (.bipush 64, 2) := by decide +kernel
theorem dX7_init_7 : decode cX7_init 7 = .ok (.newarray .int, 2) := by decide +kernel
theorem dX7_init_9 : decode cX7_init 9 = .ok (.putfield 9, 3) := by decide +kernel
theorem dX7_init_12 : decode cX7_init 12 = .ok (.aload_n 0, 1) := by decide +kernel
theorem dX7_init_13 : decode cX7_init 13 = .ok (.bipush 64, 2) := by decide +kernel
theorem dX7_init_15 : decode cX7_init 15 = .ok (.newarray .int, 2) := by decide +kernel
theorem dX7_init_17 : decode cX7_init 17 = .ok (.putfield 15, 3) := by decide +kernel
theorem dX7_init_20 : decode cX7_init 20 = .ok (.aload_n 0, 1) := by decide +kernel
theorem dX7_init_21 : decode cX7_init 21 = .ok (.bipush 64, 2) := by decide +kernel
theorem dX7_init_23 : decode cX7_init 23 = .ok (.newarray .int, 2) := by decide +kernel
theorem dX7_init_25 : decode cX7_init 25 = .ok (.putfield 18, 3) := by decide +kernel
theorem dX7_init_28 : decode cX7_init 28 = .ok (.aload_n 0, 1) := by decide +kernel
theorem dX7_init_29 : decode cX7_init 29 = .ok (.new 21, 3) := by decide +kernel
theorem dX7_init_32 : decode cX7_init 32 = .ok (.dup, 1) := by decide +kernel
theorem dX7_init_33 : decode cX7_init 33 = .ok (.invokespecial 23, 3) := by decide +kernel
theorem dX7_init_36 : decode cX7_init 36 = .ok (.putfield 24, 3) := by decide +kernel
theorem dX7_init_39 : decode cX7_init 39 = .ok (.aload_n 0, 1) := by decide +kernel
theorem dX7_init_40 : decode cX7_init 40 = .ok (.ldc 28, 2) := by decide +kernel
theorem dX7_init_42 : decode cX7_init 42 = .ok (.putfield 30, 3) := by decide +kernel
theorem dX7_init_45 : decode cX7_init 45 = .ok (.return_, 1) := by decide +kernel
theorem dX5_init_0 : decode cX5_init 0 = .ok (.aload_n 0, 1) := by decide +kernel
theorem dX5_init_1 : decode cX5_init 1 = .ok (.invokespecial 3, 3) := by decide +kernel
theorem dX5_init_4 : decode cX5_init 4 = .ok (.aload_n 0, 1) := by decide +kernel
theorem dX5_init_5 : decode cX5_init 5 = .ok (.iconst 5, 1) := by decide +kernel
theorem dX5_init_6 : decode cX5_init 6 = .ok (.anewarray 9, 3) := by decide +kernel
theorem dX5_init_9 : decode cX5_init 9 = .ok (.putfield 11, 3) := by decide +kernel
theorem dX5_init_12 : decode cX5_init 12 = .ok (.aload_n 0, 1) := by decide +kernel
theorem dX5_init_13 : decode cX5_init 13 = .ok (.bipush 6, 2) := by decide +kernel
theorem dX5_init_15 : decode cX5_init 15 = .ok (.anewarray 17, 3) := by decide +kernel
theorem dX5_init_18 : decode cX5_init 18 = .ok (.putfield 19, 3) := by decide +kernel
theorem dX5_init_21 : decode cX5_init 21 = .ok (.aload_n 0, 1) := by decide +kernel
theorem dX5_init_22 : decode cX5_init 22 = .ok (.bipush 8, 2) := by decide +kernel
theorem dX5_init_24 : decode cX5_init 24 = .ok (.newarray .int, 2) := by decide +kernel
theorem dX5_init_26 : decode cX5_init 26 = .ok (.putfield 23, 3) := by decide +kernel
theorem dX5_init_29 : decode cX5_init 29 = .ok (.iconst 0, 1) := by decide +kernel
theorem dX5_init_30 : decode cX5_init 30 = .ok (.istore_n 1, 1) := by decide +kernel
theorem dX5_init_31 : decode cX5_init 31 = .ok (.iload_n 1, 1) := by decide +kernel
theorem dX5_init_32 : decode cX5_init 32 = .ok (.iconst 5, 1) := by decide +kernel
theorem dX5_init_33 : decode cX5_init 33 = .ok (.if_icmp .ge 22, 3) := by decide +kernel
theorem dX5_init_36 : decode cX5_init 36 = .ok (.aload_n 0, 1) := by decide +kernel
theorem dX5_init_37 : decode cX5_init 37 = .ok (.getfield 11, 3) := by decide +kernel
theorem dX5_init_40 : decode cX5_init 40 = .ok (.iload_n 1, 1) := by decide +kernel
theorem dX5_init_41 : decode cX5_init 41 = .ok (.new 9, 3) := by decide +kernel
theorem dX5_init_44 : decode cX5_init 44 = .ok (.dup, 1) := by decide +kernel
theorem dX5_init_45 : decode cX5_init 45 = .ok (.invokespecial 27, 3) := by decide +kernel
theorem dX5_init_48 : decode cX5_init 48 = .ok (.aastore, 1) := by decide +kernel
theorem dX5_init_49 : decode cX5_init 49 = .ok (.iinc 1 1, 3) := by decide +kernel
theorem dX5_init_52 : decode cX5_init 52 = .ok (.goto (-21), 3) := by decide +kernel
theorem dX5_init_55 : decode cX5_init 55 = .ok (.iconst 0, 1) := by decide +kernel
theorem dX5_init_56 : decode cX5_init 56 = .ok (.istore_n 1, 1) := by decide +kernel
theorem dX5_init_57 : decode cX5_init 57 = .ok (.iload_n 1, 1) := by decide +kernel
theorem dX5_init_58 : decode cX5_init 58 = .ok (.bipush 6, 2) := by decide +kernel
theorem dX5_init_60 : decode cX5_init 60 = .ok (.if_icmp .ge 22, 3) := by decide +kernel
theorem dX5_init_63 : decode cX5_init 63 = .ok (.aload_n 0, 1) := by decide +kernel
theorem dX5_init_64 : decode cX5_init 64 = .ok (.getfield 19, 3) := by decide +kernel
theorem dX5_init_67 : decode cX5_init 67 = .ok (.iload_n 1, 1) := by decide +kernel
theorem dX5_init_68 : decode cX5_init 68 = .ok (.new 17, 3) := by decide +kernel
theorem dX5_init_71 : decode cX5_init 71 = .ok (.dup, 1) := by decide +kernel
theorem dX5_init_72 : decode cX5_init 72 = .ok (.invokespecial 28, 3) := by decide +kernel
theorem dX5_init_75 : decode cX5_init 75 = .ok (.aastore, 1) := by decide +kernel
theorem dX5_init_76 : decode cX5_init 76 = .ok (.iinc 1 1, 3) := by decide +kernel
theorem dX5_init_79 : decode cX5_init 79 = .ok (.goto (-22), 3) := by decide +kernel
theorem dX5_init_82 : decode cX5_init 82 = .ok (.return_, 1) := by decide +kernel
theorem dX7_copyFrom_0 : decode cX7_copyFrom 0 = .ok (.aload_n 0, 1) := by decide +kernel
theorem dX7_copyFrom_1 : decode cX7_copyFrom 1 = .ok (.aload_n 1, 1) := by decide +kernel
theorem dX7_copyFrom_2 : decode cX7_copyFrom 2 = .ok (.getfield 30, 3) := by decide +kernel
theorem dX7_copyFrom_5 : decode cX7_copyFrom 5 = .ok (.putfield 30, 3) := by decide +kernel
theorem dX7_copyFrom_8 : decode cX7_copyFrom 8 = .ok (.aload_n 0, 1) := by decide +kernel
theorem dX7_copyFrom_9 : decode cX7_copyFrom 9 = .ok (.aload_n 1, 1) := by decide +kernel
theorem dX7_copyFrom_10 : decode cX7_copyFrom 10 = .ok (.getfield 34, 3) := by decide +kernel
theorem dX7_copyFrom_13 : decode cX7_copyFrom 13 = .ok (.putfield 34, 3) := by decide +kernel
theorem dX7_copyFrom_16 : decode cX7_copyFrom 16 = .ok (.aload_n 0, 1) := by decide +kernel
theorem dX7_copyFrom_17 : decode cX7_copyFrom 17 = .ok (.aload_n 1, 1) := by decide +kernel
theorem dX7_copyFrom_18 : decode cX7_copyFrom 18 = .ok (.getfield 38, 3) := by decide +kernel
theorem dX7_copyFrom_21 : decode cX7_copyFrom 21 = .ok (.putfield 38, 3) := by decide +kernel
theorem dX7_copyFrom_24 : decode cX7_copyFrom 24 = .ok (.aload_n 1, 1) := by decide +kernel
theorem dX7_copyFrom_25 : decode cX7_copyFrom 25 = .ok (.getfield 9, 3) := by decide +kernel
theorem dX7_copyFrom_28 : decode cX7_copyFrom 28 = .ok (.iconst 0, 1) := by decide +kernel
theorem dX7_copyFrom_29 : decode cX7_copyFrom 29 = .ok (.aload_n 0, 1) := by decide +kernel
theorem dX7_copyFrom_30 : decode cX7_copyFrom 30 = .ok (.getfield 9, 3) := by decide +kernel
theorem dX7_copyFrom_33 : decode cX7_copyFrom 33 = .ok (.iconst 0, 1) := by decide +kernel
theorem dX7_copyFrom_34 : decode cX7_copyFrom 34 = .ok (.bipush 64, 2) := by decide +kernel
theorem dX7_copyFrom_36 : decode cX7_copyFrom 36 = .ok (.invokestatic 50, 3) := by decide +kernel
theorem dX7_copyFrom_39 : decode cX7_copyFrom 39 = .ok (.aload_n 1, 1) := by decide +kernel
theorem dX7_copyFrom_40 : decode cX7_copyFrom 40 = .ok (.getfield 15, 3) := by decide +kernel
theorem dX7_copyFrom_43 : decode cX7_copyFrom 43 = .ok (.iconst 0, 1) := by decide +kernel
theorem dX7_copyFrom_44 : decode cX7_copyFrom 44 = .ok (.aload_n 0, 1) := by decide +kernel
theorem dX7_copyFrom_45 : decode cX7_copyFrom 45 = .ok (.getfield 15, 3) := by decide +kernel
theorem dX7_copyFrom_48 : decode cX7_copyFrom 48 = .ok (.iconst 0, 1) := by decide +kernel
theorem dX7_copyFrom_49 : decode cX7_copyFrom 49 = .ok (.bipush 64, 2) := by decide +kernel
theorem dX7_copyFrom_51 : decode cX7_copyFrom 51 = .ok (.invokestatic 50, 3) := by decide +kernel
theorem dX7_copyFrom_54 : decode cX7_copyFrom 54 = .ok (.aload_n 1, 1) := by decide +kernel
theorem dX7_copyFrom_55 : decode cX7_copyFrom 55 = .ok (.getfield 18, 3) := by decide +kernel
theorem dX7_copyFrom_58 : decode cX7_copyFrom 58 = .ok (.iconst 0, 1) := by decide +kernel
theorem dX7_copyFrom_59 : decode cX7_copyFrom 59 = .ok (.aload_n 0, 1) := by decide +kernel
theorem dX7_copyFrom_60 : decode cX7_copyFrom 60 = .ok (.getfield 18, 3) := by decide +kernel
theorem dX7_copyFrom_63 : decode cX7_copyFrom 63 = .ok (.iconst 0, 1) := by decide +kernel
theorem dX7_copyFrom_64 : decode cX7_copyFrom 64 = .ok (.bipush 64, 2) := by decide +kernel
theorem dX7_copyFrom_66 : decode cX7_copyFrom 66 = .ok (.invokestatic 50, 3) := by decide +kernel
theorem dX7_copyFrom_69 : decode cX7_copyFrom 69 = .ok (.aload_n 0, 1) := by decide +kernel
theorem dX7_copyFrom_70 : decode cX7_copyFrom 70 = .ok (.getfield 24, 3) := by decide +kernel
theorem dX7_copyFrom_73 : decode cX7_copyFrom 73 = .ok (.aload_n 1, 1) := by decide +kernel
theorem dX7_copyFrom_74 : decode cX7_copyFrom 74 = .ok (.getfield 24, 3) := by decide +kernel
theorem dX7_copyFrom_77 : decode cX7_copyFrom 77 = .ok (.invokevirtual 56, 3) := by decide +kernel
theorem dX7_copyFrom_80 : decode cX7_copyFrom 80 = .ok (.return_, 1) := by decide +kernel
theorem dX5_copyFrom_0 : decode cX5_copyFrom 0 = .ok (.aload_n 0, 1) := by decide +kernel
theorem dX5_copyFrom_1 : decode cX5_copyFrom 1 = .ok (.aload_n 1, 1) := by decide +kernel
theorem dX5_copyFrom_2 : decode cX5_copyFrom 2 = .ok (.getfield 29, 3) := by decide +kernel
theorem dX5_copyFrom_5 : decode cX5_copyFrom 5 = .ok (.putfield 29, 3) := by decide +kernel
theorem dX5_copyFrom_8 : decode cX5_copyFrom 8 = .ok (.aload_n 0, 1) := by decide +kernel
theorem dX5_copyFrom_9 : decode cX5_copyFrom 9 = .ok (.aload_n 1, 1) := by decide +kernel
theorem dX5_copyFrom_10 : decode cX5_copyFrom 10 = .ok (.getfield 33, 3) := by decide +kernel
theorem dX5_copyFrom_13 : decode cX5_copyFrom 13 = .ok (.putfield 33, 3) := by decide +kernel
theorem dX5_copyFrom_16 : decode cX5_copyFrom 16 = .ok (.aload_n 0, 1) := by decide +kernel
theorem dX5_copyFrom_17 : decode cX5_copyFrom 17 = .ok (.aload_n 1, 1) := by decide +kernel
theorem dX5_copyFrom_18 : decode cX5_copyFrom 18 = .ok (.getfield 36, 3) := by decide +kernel
theorem dX5_copyFrom_21 : decode cX5_copyFrom 21 = .ok (.putfield 36, 3) := by decide +kernel
theorem dX5_copyFrom_24 : decode cX5_copyFrom 24 = .ok (.aload_n 0, 1) := by decide +kernel
theorem dX5_copyFrom_25 : decode cX5_copyFrom 25 = .ok (.aload_n 1, 1) := by decide +kernel
theorem dX5_copyFrom_26 : decode cX5_copyFrom 26 = .ok (.getfield 39, 3) := by decide +kernel
theorem dX5_copyFrom_29 : decode cX5_copyFrom 29 = .ok (.putfield 39, 3) := by decide +kernel
theorem dX5_copyFrom_32 : decode cX5_copyFrom 32 = .ok (.aload_n 0, 1) := by decide +kernel
theorem dX5_copyFrom_33 : decode cX5_copyFrom 33 = .ok (.aload_n 1, 1) := by decide +kernel
theorem dX5_copyFrom_34 : decode cX5_copyFrom 34 = .ok (.getfield 42, 3) := by decide +kernel
theorem dX5_copyFrom_37 : decode cX5_copyFrom 37 = .ok (.putfield 42, 3) := by decide +kernel
theorem dX5_copyFrom_40 : decode cX5_copyFrom 40 = .ok (.aload_n 0, 1) := by decide +kernel
theorem dX5_copyFrom_41 : decode cX5_copyFrom 41 = .ok (.aload_n 1, 1) := by decide +kernel
theorem dX5_copyFrom_42 : decode cX5_copyFrom 42 = .ok (.getfield 45, 3) := by decide +kernel
theorem dX5_copyFrom_45 : decode cX5_copyFrom 45 = .ok (.putfield 45, 3) := by decide +kernel
theorem dX5_copyFrom_48 : decode cX5_copyFrom 48 = .ok (.aload_n 1, 1) := by decide +kernel
theorem dX5_copyFrom_49 : decode cX5_copyFrom 49 = .ok (.getfield 23, 3) := by decide +kernel
theorem dX5_copyFrom_52 : decode cX5_copyFrom 52 = .ok (.iconst 0, 1) := by decide +kernel
theorem dX5_copyFrom_53 : decode cX5_copyFrom 53 = .ok (.aload_n 0, 1) := by decide +kernel
theorem dX5_copyFrom_54 : decode cX5_copyFrom 54 = .ok (.getfield 23, 3) := by decide +kernel
theorem dX5_copyFrom_57 : decode cX5_copyFrom 57 = .ok (.iconst 0, 1) := by decide +kernel
theorem dX5_copyFrom_58 : decode cX5_copyFrom 58 = .ok (.bipush 8, 2) := by decide +kernel
theorem dX5_copyFrom_60 : decode cX5_copyFrom 60 = .ok (.invokestatic 59, 3) := by decide +kernel
theorem dX5_copyFrom_63 : decode cX5_copyFrom 63 = .ok (.iconst 0, 1) := by decide +kernel
theorem dX5_copyFrom_64 : decode cX5_copyFrom 64 = .ok (.istore_n 2, 1) := by decide +kernel
theorem dX5_copyFrom_65 : decode cX5_copyFrom 65 = .ok (.iload_n 2, 1) := by decide +kernel
theorem dX5_copyFrom_66 : decode cX5_copyFrom 66 = .ok (.aload_n 0, 1) := by decide +kernel
theorem dX5_copyFrom_67 : decode cX5_copyFrom 67 = .ok (.getfield 36, 3) := by decide +kernel
theorem dX5_copyFrom_70 : decode cX5_copyFrom 70 = .ok (.if_icmp .ge 24, 3) := by decide +kernel
theorem dX5_copyFrom_73 : decode cX5_copyFrom 73 = .ok (.aload_n 0, 1) := by decide +kernel
theorem dX5_copyFrom_74 : decode cX5_copyFrom 74 = .ok (.getfield 11, 3) := by decide +kernel
theorem dX5_copyFrom_77 : decode cX5_copyFrom 77 = .ok (.iload_n 2, 1) := by decide +kernel
theorem dX5_copyFrom_78 : decode cX5_copyFrom 78 = .ok (.aaload, 1) := by decide +kernel
theorem dX5_copyFrom_79 : decode cX5_copyFrom 79 = .ok (.aload_n 1, 1) := by decide +kernel
theorem dX5_copyFrom_80 : decode cX5_copyFrom 80 = .ok (.getfield 11, 3) := by decide +kernel
theorem dX5_copyFrom_83 : decode cX5_copyFrom 83 = .ok (.iload_n 2, 1) := by decide +kernel
theorem dX5_copyFrom_84 : decode cX5_copyFrom 84 = .ok (.aaload, 1) := by decide +kernel
theorem dX5_copyFrom_85 : decode cX5_copyFrom 85 = .ok (.invokevirtual 65, 3) := by decide +kernel
theorem dX5_copyFrom_88 : decode cX5_copyFrom 88 = .ok (.iinc 2 1, 3) := by decide +kernel
theorem dX5_copyFrom_91 : decode cX5_copyFrom 91 = .ok (.goto (-26), 3) := by decide +kernel
theorem dX5_copyFrom_94 : decode cX5_copyFrom 94 = .ok (.iconst 0, 1) := by decide +kernel
theorem dX5_copyFrom_95 : decode cX5_copyFrom 95 = .ok (.istore_n 2, 1) := by decide +kernel
theorem dX5_copyFrom_96 : decode cX5_copyFrom 96 = .ok (.iload_n 2, 1) := by decide +kernel
theorem dX5_copyFrom_97 : decode cX5_copyFrom 97 = .ok (.bipush 6, 2) := by decide +kernel
theorem dX5_copyFrom_99 : decode cX5_copyFrom 99 = .ok (.if_icmp .ge 24, 3) := by decide +kernel
theorem dX5_copyFrom_102 : decode cX5_copyFrom 102 = .ok (.aload_n 0, 1) := by decide +kernel
theorem dX5_copyFrom_103 : decode cX5_copyFrom 103 = .ok (.getfield 19, 3) := by decide +kernel
theorem dX5_copyFrom_106 : decode cX5_copyFrom 106 = .ok (.iload_n 2, 1) := by decide +kernel
theorem dX5_copyFrom_107 : decode cX5_copyFrom 107 = .ok (.aaload, 1) := by decide +kernel
theorem dX5_copyFrom_108 : decode cX5_copyFrom 108 = .ok (.aload_n 1, 1) := by decide +kernel
theorem dX5_copyFrom_109 : decode cX5_copyFrom 109 = .ok (.getfield 19, 3) := by decide +kernel
theorem dX5_copyFrom_112 : decode cX5_copyFrom 112 = .ok (.iload_n 2, 1) := by decide +kernel
theorem dX5_copyFrom_113 : decode cX5_copyFrom 113 = .ok (.aaload, 1) := by decide +kernel
theorem dX5_copyFrom_114 : decode cX5_copyFrom 114 = .ok (.invokevirtual 69, 3) := by decide +kernel
theorem dX5_copyFrom_117 : decode cX5_copyFrom 117 = .ok (.iinc 2 1, 3) := by decide +kernel
theorem dX5_copyFrom_120 : decode cX5_copyFrom 120 = .ok (.goto (-24), 3) := by decide +kernel
theorem dX5_copyFrom_123 : decode cX5_copyFrom 123 = .ok (.return_, 1) := by decide +kernel
theorem dX5_hasNumber_0 : decode cX5_hasNumber 0 = .ok (.iload_n 1, 1) := by decide +kernel
theorem dX5_hasNumber_1 : decode cX5_hasNumber 1 = .ok (.ifCond .lt 15, 3) := by decide +kernel
theorem dX5_hasNumber_4 : decode cX5_hasNumber 4 = .ok (.iload_n 1, 1) := by decide +kernel
theorem dX5_hasNumber_5 : decode cX5_hasNumber 5 = .ok (.aload_n 0, 1) := by decide +kernel
theorem dX5_hasNumber_6 : decode cX5_hasNumber 6 = .ok (.getfield 29, 3) := by decide +kernel
theorem dX5_hasNumber_9 : decode cX5_hasNumber 9 = .ok (.if_icmp .ge 7, 3) := by decide +kernel
theorem dX5_hasNumber_12 : decode cX5_hasNumber 12 = .ok (.iconst 1, 1) := by decide +kernel
theorem dX5_hasNumber_13 : decode cX5_hasNumber 13 = .ok (.goto 4, 3) := by decide +kernel
theorem dX5_hasNumber_16 : decode cX5_hasNumber 16 = .ok (.iconst 0, 1) := by decide +kernel
theorem dX5_hasNumber_17 : decode cX5_hasNumber 17 = .ok (.ireturn, 1) := by decide +kernel
theorem dX5_keepCommon_0 : decode cX5_keepCommon 0 = .ok (.aload_n 0, 1) := by decide +kernel
theorem dX5_keepCommon_1 : decode cX5_keepCommon 1 = .ok (.getfield 11, 3) := by decide +kernel
theorem dX5_keepCommon_4 : decode cX5_keepCommon 4 = .ok (.iload_n 1, 1) := by decide +kernel
theorem dX5_keepCommon_5 : decode cX5_keepCommon 5 = .ok (.aaload, 1) := by decide +kernel
theorem dX5_keepCommon_6 : decode cX5_keepCommon 6 = .ok (.astore_n 3, 1) := by decide +kernel
theorem dX5_keepCommon_7 : decode cX5_keepCommon 7 = .ok (.iconst 0, 1) := by decide +kernel
theorem dX5_keepCommon_8 : decode cX5_keepCommon 8 = .ok (.istore 4, 2) := by decide +kernel
theorem dX5_keepCommon_10 : decode cX5_keepCommon 10 = .ok (.aload_n 3, 1) := by decide +kernel
theorem dX5_keepCommon_11 : decode cX5_keepCommon 11 = .ok (.getfield 86, 3) := by decide +kernel
theorem dX5_keepCommon_14 : decode cX5_keepCommon 14 = .ok (.iconst 1, 1) := by decide +kernel
theorem dX5_keepCommon_15 : decode cX5_keepCommon 15 = .ok (.isub, 1) := by decide +kernel
theorem dX5_keepCommon_16 : decode cX5_keepCommon 16 = .ok (.istore 5, 2) := by decide +kernel
theorem dX5_keepCommon_18 : decode cX5_keepCommon 18 = .ok (.iload 5, 2) := by decide +kernel
theorem dX5_keepCommon_20 : decode cX5_keepCommon 20 = .ok (.ifCond .lt 43, 3) := by decide +kernel
theorem dX5_keepCommon_23 : decode cX5_keepCommon 23 = .ok (.aload_n 3, 1) := by decide +kernel
theorem dX5_keepCommon_24 : decode cX5_keepCommon 24 = .ok (.getfield 123, 3) := by decide +kernel
theorem dX5_keepCommon_27 : decode cX5_keepCommon 27 = .ok (.iload 5, 2) := by decide +kernel
theorem dX5_keepCommon_29 : decode cX5_keepCommon 29 = .ok (.iaload, 1) := by decide +kernel
theorem dX5_keepCommon_30 : decode cX5_keepCommon 30 = .ok (.istore 6, 2) := by decide +kernel
theorem dX5_keepCommon_32 : decode cX5_keepCommon 32 = .ok (.aload_n 0, 1) := by decide +kernel
theorem dX5_keepCommon_33 : decode cX5_keepCommon 33 = .ok (.getfield 11, 3) := by decide +kernel
theorem dX5_keepCommon_36 : decode cX5_keepCommon 36 = .ok (.iload_n 2, 1) := by decide +kernel
theorem dX5_keepCommon_37 : decode cX5_keepCommon 37 = .ok (.aaload, 1) := by decide +kernel
theorem dX5_keepCommon_38 : decode cX5_keepCommon 38 = .ok (.iload 6, 2) := by decide +kernel
theorem dX5_keepCommon_40 : decode cX5_keepCommon 40 = .ok (.invokevirtual 82, 3) := by decide +kernel
theorem dX5_keepCommon_43 : decode cX5_keepCommon 43 = .ok (.ifCond .ne 14, 3) := by decide +kernel
theorem dX5_keepCommon_46 : decode cX5_keepCommon 46 = .ok (.aload_n 0, 1) := by decide +kernel
theorem dX5_keepCommon_47 : decode cX5_keepCommon 47 = .ok (.iload_n 1, 1) := by decide +kernel
theorem dX5_keepCommon_48 : decode cX5_keepCommon 48 = .ok (.iload 6, 2) := by decide +kernel
theorem dX5_keepCommon_50 : decode cX5_keepCommon 50 = .ok (.invokevirtual 132, 3) := by decide +kernel
theorem dX5_keepCommon_53 : decode cX5_keepCommon 53 = .ok (.pop, 1) := by decide +kernel
theorem dX5_keepCommon_54 : decode cX5_keepCommon 54 = .ok (.iinc 4 1, 3) := by decide +kernel
theorem dX5_keepCommon_57 : decode cX5_keepCommon 57 = .ok (.iinc 5 (-1), 3) := by decide +kernel
theorem dX5_keepCommon_60 : decode cX5_keepCommon 60 = .ok (.goto (-42), 3) := by decide +kernel
theorem dX5_keepCommon_63 : decode cX5_keepCommon 63 = .ok (.iload 4, 2) := by decide +kernel
theorem dX5_keepCommon_65 : decode cX5_keepCommon 65 = .ok (.ireturn, 1) := by decide +kernel
theorem dX5_bringAll_0 : decode cX5_bringAll 0 = .ok (.aload_n 0, 1) := by decide +kernel
theorem dX5_bringAll_1 : decode cX5_bringAll 1 = .ok (.getfield 11, 3) := by decide +kernel
theorem dX5_bringAll_4 : decode cX5_bringAll 4 = .ok (.iload_n 2, 1) := by decide +kernel
theorem dX5_bringAll_5 : decode cX5_bringAll 5 = .ok (.aaload, 1) := by decide +kernel
theorem dX5_bringAll_6 : decode cX5_bringAll 6 = .ok (.astore_n 3, 1) := by decide +kernel
theorem dX5_bringAll_7 : decode cX5_bringAll 7 = .ok (.iconst 0, 1) := by decide +kernel
theorem dX5_bringAll_8 : decode cX5_bringAll 8 = .ok (.istore 4, 2) := by decide +kernel
theorem dX5_bringAll_10 : decode cX5_bringAll 10 = .ok (.iconst 0, 1) := by decide +kernel
theorem dX5_bringAll_11 : decode cX5_bringAll 11 = .ok (.istore 5, 2) := by decide +kernel
theorem dX5_bringAll_13 : decode cX5_bringAll 13 = .ok (.iload 5, 2) := by decide +kernel
theorem dX5_bringAll_15 : decode cX5_bringAll 15 = .ok (.aload_n 3, 1) := by decide +kernel
theorem dX5_bringAll_16 : decode cX5_bringAll 16 = .ok (.getfield 86, 3) := by decide +kernel
theorem dX5_bringAll_19 : decode cX5_bringAll 19 = .ok (.if_icmp .ge 32, 3) := by decide +kernel
theorem dX5_bringAll_22 : decode cX5_bringAll 22 = .ok (.aload_n 0, 1) := by decide +kernel
theorem dX5_bringAll_23 : decode cX5_bringAll 23 = .ok (.aload_n 0, 1) := by decide +kernel
theorem dX5_bringAll_24 : decode cX5_bringAll 24 = .ok (.getfield 11, 3) := by decide +kernel
theorem dX5_bringAll_27 : decode cX5_bringAll 27 = .ok (.iload_n 1, 1) := by decide +kernel
theorem dX5_bringAll_28 : decode cX5_bringAll 28 = .ok (.aaload, 1) := by decide +kernel
theorem dX5_bringAll_29 : decode cX5_bringAll 29 = .ok (.aload_n 3, 1) := by decide +kernel
theorem dX5_bringAll_30 : decode cX5_bringAll 30 = .ok (.getfield 123, 3) := by decide +kernel
theorem dX5_bringAll_33 : decode cX5_bringAll 33 = .ok (.iload 5, 2) := by decide +kernel
theorem dX5_bringAll_35 : decode cX5_bringAll 35 = .ok (.iaload, 1) := by decide +kernel
theorem dX5_bringAll_36 : decode cX5_bringAll 36 = .ok (.invokevirtual 135, 3) := by decide +kernel
theorem dX5_bringAll_39 : decode cX5_bringAll 39 = .ok (.ifCond .eq 6, 3) := by decide +kernel
theorem dX5_bringAll_42 : decode cX5_bringAll 42 = .ok (.iinc 4 1, 3) := by decide +kernel
theorem dX5_bringAll_45 : decode cX5_bringAll 45 = .ok (.iinc 5 1, 3) := by decide +kernel
theorem dX5_bringAll_48 : decode cX5_bringAll 48 = .ok (.goto (-35), 3) := by decide +kernel
theorem dX5_bringAll_51 : decode cX5_bringAll 51 = .ok (.iload 4, 2) := by decide +kernel
theorem dX5_bringAll_53 : decode cX5_bringAll 53 = .ok (.ireturn, 1) := by decide +kernel
theorem dX5_freeCursor_0 : decode cX5_freeCursor 0 = .ok (.iconst 0, 1) := by decide +kernel
theorem dX5_freeCursor_1 : decode cX5_freeCursor 1 = .ok (.istore_n 1, 1) := by decide +kernel
theorem dX5_freeCursor_2 : decode cX5_freeCursor 2 = .ok (.iload_n 1, 1) := by decide +kernel
theorem dX5_freeCursor_3 : decode cX5_freeCursor 3 = .ok (.bipush 6, 2) := by decide +kernel
theorem dX5_freeCursor_5 : decode cX5_freeCursor 5 = .ok (.if_icmp .ge 23, 3) := by decide +kernel
theorem dX5_freeCursor_8 : decode cX5_freeCursor 8 = .ok (.aload_n 0, 1) := by decide +kernel
theorem dX5_freeCursor_9 : decode cX5_freeCursor 9 = .ok (.getfield 19, 3) := by decide +kernel
theorem dX5_freeCursor_12 : decode cX5_freeCursor 12 = .ok (.iload_n 1, 1) := by decide +kernel
theorem dX5_freeCursor_13 : decode cX5_freeCursor 13 = .ok (.aaload, 1) := by decide +kernel
theorem dX5_freeCursor_14 : decode cX5_freeCursor 14 = .ok (.getfield 48, 3) := by decide +kernel
theorem dX5_freeCursor_17 : decode cX5_freeCursor 17 = .ok (.ifCond .ne 5, 3) := by decide +kernel
theorem dX5_freeCursor_20 : decode cX5_freeCursor 20 = .ok (.iload_n 1, 1) := by decide +kernel
theorem dX5_freeCursor_21 : decode cX5_freeCursor 21 = .ok (.ireturn, 1) := by decide +kernel
theorem dX5_freeCursor_22 : decode cX5_freeCursor 22 = .ok (.iinc 1 1, 3) := by decide +kernel
theorem dX5_freeCursor_25 : decode cX5_freeCursor 25 = .ok (.goto (-23), 3) := by decide +kernel
theorem dX5_freeCursor_28 : decode cX5_freeCursor 28 = .ok (.iconst (-1), 1) := by decide +kernel
theorem dX5_freeCursor_29 : decode cX5_freeCursor 29 = .ok (.ireturn, 1) := by decide +kernel
theorem dX5_countCursors_0 : decode cX5_countCursors 0 = .ok (.iconst 0, 1) := by decide +kernel
theorem dX5_countCursors_1 : decode cX5_countCursors 1 = .ok (.istore_n 1, 1) := by decide +kernel
theorem dX5_countCursors_2 : decode cX5_countCursors 2 = .ok (.iconst 0, 1) := by decide +kernel
theorem dX5_countCursors_3 : decode cX5_countCursors 3 = .ok (.istore_n 2, 1) := by decide +kernel
theorem dX5_countCursors_4 : decode cX5_countCursors 4 = .ok (.iload_n 2, 1) := by decide +kernel
theorem dX5_countCursors_5 : decode cX5_countCursors 5 = .ok (.bipush 6, 2) := by decide +kernel
theorem dX5_countCursors_7 : decode cX5_countCursors 7 = .ok (.if_icmp .ge 29, 3) := by decide +kernel
theorem dX5_countCursors_10 : decode cX5_countCursors 10 = .ok (.iload_n 1, 1) := by decide +kernel
theorem dX5_countCursors_11 : decode cX5_countCursors 11 = .ok (.aload_n 0, 1) := by decide +kernel
theorem dX5_countCursors_12 : decode cX5_countCursors 12 = .ok (.getfield 19, 3) := by decide +kernel
theorem dX5_countCursors_15 : decode cX5_countCursors 15 = .ok (.iload_n 2, 1) := by decide +kernel
theorem dX5_countCursors_16 : decode cX5_countCursors 16 = .ok (.aaload, 1) := by decide +kernel
theorem dX5_countCursors_17 : decode cX5_countCursors 17 = .ok (.getfield 48, 3) := by decide +kernel
theorem dX5_countCursors_20 : decode cX5_countCursors 20 = .ok (.ifCond .eq 7, 3) := by decide +kernel
theorem dX5_countCursors_23 : decode cX5_countCursors 23 = .ok (.iconst 1, 1) := by decide +kernel
theorem dX5_countCursors_24 : decode cX5_countCursors 24 = .ok (.goto 4, 3) := by decide +kernel
theorem dX5_countCursors_27 : decode cX5_countCursors 27 = .ok (.iconst 0, 1) := by decide +kernel
theorem dX5_countCursors_28 : decode cX5_countCursors 28 = .ok (.iadd, 1) := by decide +kernel
theorem dX5_countCursors_29 : decode cX5_countCursors 29 = .ok (.istore_n 1, 1) := by decide +kernel
theorem dX5_countCursors_30 : decode cX5_countCursors 30 = .ok (.iinc 2 1, 3) := by decide +kernel
theorem dX5_countCursors_33 : decode cX5_countCursors 33 = .ok (.goto (-29), 3) := by decide +kernel
theorem dX5_countCursors_36 : decode cX5_countCursors 36 = .ok (.iload_n 1, 1) := by decide +kernel
theorem dX5_countCursors_37 : decode cX5_countCursors 37 = .ok (.ireturn, 1) := by decide +kernel
theorem dX5_countOpenCursors_0 : decode cX5_countOpenCursors 0 = .ok (.iconst 0, 1) := by decide +kernel
theorem dX5_countOpenCursors_1 : decode cX5_countOpenCursors 1 = .ok (.istore_n 2, 1) := by decide +kernel
theorem dX5_countOpenCursors_2 : decode cX5_countOpenCursors 2 = .ok (.iconst 0, 1) := by decide +kernel
theorem dX5_countOpenCursors_3 : decode cX5_countOpenCursors 3 = .ok (.istore_n 3, 1) := by decide +kernel
theorem dX5_countOpenCursors_4 : decode cX5_countOpenCursors 4 = .ok (.iload_n 3, 1) := by decide +kernel
theorem dX5_countOpenCursors_5 : decode cX5_countOpenCursors 5 = .ok (.bipush 6, 2) := by decide +kernel
theorem dX5_countOpenCursors_7 : decode cX5_countOpenCursors 7 = .ok (.if_icmp .ge 30, 3) := by decide +kernel
theorem dX5_countOpenCursors_10 : decode cX5_countOpenCursors 10 = .ok (.iload_n 2, 1) := by decide +kernel
theorem dX5_countOpenCursors_11 : decode cX5_countOpenCursors 11 = .ok (.aload_n 0, 1) := by decide +kernel
theorem dX5_countOpenCursors_12 : decode cX5_countOpenCursors 12 = .ok (.getfield 19, 3) := by decide +kernel
theorem dX5_countOpenCursors_15 : decode cX5_countOpenCursors 15 = .ok (.iload_n 3, 1) := by decide +kernel
theorem dX5_countOpenCursors_16 : decode cX5_countOpenCursors 16 = .ok (.aaload, 1) := by decide +kernel
theorem dX5_countOpenCursors_17 : decode cX5_countOpenCursors 17 = .ok (.iload_n 1, 1) := by decide +kernel
theorem dX5_countOpenCursors_18 : decode cX5_countOpenCursors 18 = .ok (.invokevirtual 117, 3) := by decide +kernel
theorem dX5_countOpenCursors_21 : decode cX5_countOpenCursors 21 = .ok (.ifCond .eq 7, 3) := by decide +kernel
theorem dX5_countOpenCursors_24 : decode cX5_countOpenCursors 24 = .ok (.iconst 1, 1) := by decide +kernel
theorem dX5_countOpenCursors_25 : decode cX5_countOpenCursors 25 = .ok (.goto 4, 3) := by decide +kernel
theorem dX5_countOpenCursors_28 : decode cX5_countOpenCursors 28 = .ok (.iconst 0, 1) := by decide +kernel
theorem dX5_countOpenCursors_29 : decode cX5_countOpenCursors 29 = .ok (.iadd, 1) := by decide +kernel
theorem dX5_countOpenCursors_30 : decode cX5_countOpenCursors 30 = .ok (.istore_n 2, 1) := by decide +kernel
theorem dX5_countOpenCursors_31 : decode cX5_countOpenCursors 31 = .ok (.iinc 3 1, 3) := by decide +kernel
theorem dX5_countOpenCursors_34 : decode cX5_countOpenCursors 34 = .ok (.goto (-30), 3) := by decide +kernel
theorem dX5_countOpenCursors_37 : decode cX5_countOpenCursors 37 = .ok (.iload_n 2, 1) := by decide +kernel
theorem dX5_countOpenCursors_38 : decode cX5_countOpenCursors 38 = .ok (.ireturn, 1) := by decide +kernel
theorem dX7_stampAt_0 : decode cX7_stampAt 0 = .ok (.aload_n 0, 1) := by decide +kernel
theorem dX7_stampAt_1 : decode cX7_stampAt 1 = .ok (.getfield 18, 3) := by decide +kernel
theorem dX7_stampAt_4 : decode cX7_stampAt 4 = .ok (.aload_n 0, 1) := by decide +kernel
theorem dX7_stampAt_5 : decode cX7_stampAt 5 = .ok (.getfield 9, 3) := by decide +kernel
theorem dX7_stampAt_8 : decode cX7_stampAt 8 = .ok (.iload_n 1, 1) := by decide +kernel
theorem dX7_stampAt_9 : decode cX7_stampAt 9 = .ok (.iaload, 1) := by decide +kernel
theorem dX7_stampAt_10 : decode cX7_stampAt 10 = .ok (.iaload, 1) := by decide +kernel
theorem dX7_stampAt_11 : decode cX7_stampAt 11 = .ok (.ireturn, 1) := by decide +kernel
theorem dX5_countAhead_0 : decode cX5_countAhead 0 = .ok (.iconst 0, 1) := by decide +kernel
theorem dX5_countAhead_1 : decode cX5_countAhead 1 = .ok (.istore_n 2, 1) := by decide +kernel
theorem dX5_countAhead_2 : decode cX5_countAhead 2 = .ok (.aload_n 0, 1) := by decide +kernel
theorem dX5_countAhead_3 : decode cX5_countAhead 3 = .ok (.getfield 11, 3) := by decide +kernel
theorem dX5_countAhead_6 : decode cX5_countAhead 6 = .ok (.aload_n 1, 1) := by decide +kernel
theorem dX5_countAhead_7 : decode cX5_countAhead 7 = .ok (.getfield 139, 3) := by decide +kernel
theorem dX5_countAhead_10 : decode cX5_countAhead 10 = .ok (.aaload, 1) := by decide +kernel
theorem dX5_countAhead_11 : decode cX5_countAhead 11 = .ok (.astore_n 3, 1) := by decide +kernel
theorem dX5_countAhead_12 : decode cX5_countAhead 12 = .ok (.aload_n 1, 1) := by decide +kernel
theorem dX5_countAhead_13 : decode cX5_countAhead 13 = .ok (.getfield 120, 3) := by decide +kernel
theorem dX5_countAhead_16 : decode cX5_countAhead 16 = .ok (.istore 4, 2) := by decide +kernel
theorem dX5_countAhead_18 : decode cX5_countAhead 18 = .ok (.aload_n 1, 1) := by decide +kernel
theorem dX5_countAhead_19 : decode cX5_countAhead 19 = .ok (.getfield 52, 3) := by decide +kernel
theorem dX5_countAhead_22 : decode cX5_countAhead 22 = .ok (.ifCond .eq 39, 3) := by decide +kernel
theorem dX5_countAhead_25 : decode cX5_countAhead 25 = .ok (.iload 4, 2) := by decide +kernel
theorem dX5_countAhead_27 : decode cX5_countAhead 27 = .ok (.aload_n 3, 1) := by decide +kernel
theorem dX5_countAhead_28 : decode cX5_countAhead 28 = .ok (.getfield 86, 3) := by decide +kernel
theorem dX5_countAhead_31 : decode cX5_countAhead 31 = .ok (.if_icmp .ge 30, 3) := by decide +kernel
theorem dX5_countAhead_34 : decode cX5_countAhead 34 = .ok (.iload_n 2, 1) := by decide +kernel
theorem dX5_countAhead_35 : decode cX5_countAhead 35 = .ok (.aload_n 1, 1) := by decide +kernel
theorem dX5_countAhead_36 : decode cX5_countAhead 36 = .ok (.aload_n 3, 1) := by decide +kernel
theorem dX5_countAhead_37 : decode cX5_countAhead 37 = .ok (.iload 4, 2) := by decide +kernel
theorem dX5_countAhead_39 : decode cX5_countAhead 39 = .ok (.invokevirtual 142, 3) := by decide +kernel
theorem dX5_countAhead_42 : decode cX5_countAhead 42 = .ok (.invokevirtual 145, 3) := by decide +kernel
theorem dX5_countAhead_45 : decode cX5_countAhead 45 = .ok (.ifCond .eq 7, 3) := by decide +kernel
theorem dX5_countAhead_48 : decode cX5_countAhead 48 = .ok (.iconst 1, 1) := by decide +kernel
theorem dX5_countAhead_49 : decode cX5_countAhead 49 = .ok (.goto 4, 3) := by decide +kernel
theorem dX5_countAhead_52 : decode cX5_countAhead 52 = .ok (.iconst 0, 1) := by decide +kernel
theorem dX5_countAhead_53 : decode cX5_countAhead 53 = .ok (.iadd, 1) := by decide +kernel
theorem dX5_countAhead_54 : decode cX5_countAhead 54 = .ok (.istore_n 2, 1) := by decide +kernel
theorem dX5_countAhead_55 : decode cX5_countAhead 55 = .ok (.iinc 4 1, 3) := by decide +kernel
theorem dX5_countAhead_58 : decode cX5_countAhead 58 = .ok (.goto (-40), 3) := by decide +kernel
theorem dX5_countAhead_61 : decode cX5_countAhead 61 = .ok (.iload_n 2, 1) := by decide +kernel
theorem dX5_countAhead_62 : decode cX5_countAhead 62 = .ok (.ireturn, 1) := by decide +kernel
theorem dX5_meetNext_0 : decode cX5_meetNext 0 = .ok (.aload_n 0, 1) := by decide +kernel
theorem dX5_meetNext_1 : decode cX5_meetNext 1 = .ok (.getfield 11, 3) := by decide +kernel
theorem dX5_meetNext_4 : decode cX5_meetNext 4 = .ok (.aload_n 1, 1) := by decide +kernel
theorem dX5_meetNext_5 : decode cX5_meetNext 5 = .ok (.getfield 139, 3) := by decide +kernel
theorem dX5_meetNext_8 : decode cX5_meetNext 8 = .ok (.aaload, 1) := by decide +kernel
theorem dX5_meetNext_9 : decode cX5_meetNext 9 = .ok (.astore_n 2, 1) := by decide +kernel
theorem dX5_meetNext_10 : decode cX5_meetNext 10 = .ok (.aload_n 1, 1) := by decide +kernel
theorem dX5_meetNext_11 : decode cX5_meetNext 11 = .ok (.getfield 120, 3) := by decide +kernel
theorem dX5_meetNext_14 : decode cX5_meetNext 14 = .ok (.istore_n 3, 1) := by decide +kernel
theorem dX5_meetNext_15 : decode cX5_meetNext 15 = .ok (.iload_n 3, 1) := by decide +kernel
theorem dX5_meetNext_16 : decode cX5_meetNext 16 = .ok (.aload_n 2, 1) := by decide +kernel
theorem dX5_meetNext_17 : decode cX5_meetNext 17 = .ok (.getfield 86, 3) := by decide +kernel
theorem dX5_meetNext_20 : decode cX5_meetNext 20 = .ok (.if_icmp .ge 63, 3) := by decide +kernel
theorem dX5_meetNext_23 : decode cX5_meetNext 23 = .ok (.aload_n 1, 1) := by decide +kernel
theorem dX5_meetNext_24 : decode cX5_meetNext 24 = .ok (.iload_n 3, 1) := by decide +kernel
theorem dX5_meetNext_25 : decode cX5_meetNext 25 = .ok (.iconst 1, 1) := by decide +kernel
theorem dX5_meetNext_26 : decode cX5_meetNext 26 = .ok (.iadd, 1) := by decide +kernel
theorem dX5_meetNext_27 : decode cX5_meetNext 27 = .ok (.putfield 120, 3) := by decide +kernel
theorem dX5_meetNext_30 : decode cX5_meetNext 30 = .ok (.aload_n 0, 1) := by decide +kernel
theorem dX5_meetNext_31 : decode cX5_meetNext 31 = .ok (.dup, 1) := by decide +kernel
theorem dX5_meetNext_32 : decode cX5_meetNext 32 = .ok (.getfield 45, 3) := by decide +kernel
theorem dX5_meetNext_35 : decode cX5_meetNext 35 = .ok (.iconst 1, 1) := by decide +kernel
theorem dX5_meetNext_36 : decode cX5_meetNext 36 = .ok (.iadd, 1) := by decide +kernel
theorem dX5_meetNext_37 : decode cX5_meetNext 37 = .ok (.putfield 45, 3) := by decide +kernel
theorem dX5_meetNext_40 : decode cX5_meetNext 40 = .ok (.aload_n 1, 1) := by decide +kernel
theorem dX5_meetNext_41 : decode cX5_meetNext 41 = .ok (.aload_n 2, 1) := by decide +kernel
theorem dX5_meetNext_42 : decode cX5_meetNext 42 = .ok (.iload_n 3, 1) := by decide +kernel
theorem dX5_meetNext_43 : decode cX5_meetNext 43 = .ok (.invokevirtual 142, 3) := by decide +kernel
theorem dX5_meetNext_46 : decode cX5_meetNext 46 = .ok (.invokevirtual 145, 3) := by decide +kernel
theorem dX5_meetNext_49 : decode cX5_meetNext 49 = .ok (.ifCond .eq 28, 3) := by decide +kernel
theorem dX5_meetNext_52 : decode cX5_meetNext 52 = .ok (.aload_n 1, 1) := by decide +kernel
theorem dX5_meetNext_53 : decode cX5_meetNext 53 = .ok (.dup, 1) := by decide +kernel
theorem dX5_meetNext_54 : decode cX5_meetNext 54 = .ok (.getfield 148, 3) := by decide +kernel
theorem dX5_meetNext_57 : decode cX5_meetNext 57 = .ok (.iconst 1, 1) := by decide +kernel
theorem dX5_meetNext_58 : decode cX5_meetNext 58 = .ok (.iadd, 1) := by decide +kernel
theorem dX5_meetNext_59 : decode cX5_meetNext 59 = .ok (.putfield 148, 3) := by decide +kernel
theorem dX5_meetNext_62 : decode cX5_meetNext 62 = .ok (.aload_n 1, 1) := by decide +kernel
theorem dX5_meetNext_63 : decode cX5_meetNext 63 = .ok (.aload_n 2, 1) := by decide +kernel
theorem dX5_meetNext_64 : decode cX5_meetNext 64 = .ok (.getfield 123, 3) := by decide +kernel
theorem dX5_meetNext_67 : decode cX5_meetNext 67 = .ok (.iload_n 3, 1) := by decide +kernel
theorem dX5_meetNext_68 : decode cX5_meetNext 68 = .ok (.iaload, 1) := by decide +kernel
theorem dX5_meetNext_69 : decode cX5_meetNext 69 = .ok (.putfield 151, 3) := by decide +kernel
theorem dX5_meetNext_72 : decode cX5_meetNext 72 = .ok (.aload_n 1, 1) := by decide +kernel
theorem dX5_meetNext_73 : decode cX5_meetNext 73 = .ok (.getfield 151, 3) := by decide +kernel
theorem dX5_meetNext_76 : decode cX5_meetNext 76 = .ok (.ireturn, 1) := by decide +kernel
theorem dX5_meetNext_77 : decode cX5_meetNext 77 = .ok (.iinc 3 1, 3) := by decide +kernel
theorem dX5_meetNext_80 : decode cX5_meetNext 80 = .ok (.goto (-65), 3) := by decide +kernel
theorem dX5_meetNext_83 : decode cX5_meetNext 83 = .ok (.aload_n 1, 1) := by decide +kernel
theorem dX5_meetNext_84 : decode cX5_meetNext 84 = .ok (.iconst 0, 1) := by decide +kernel
theorem dX5_meetNext_85 : decode cX5_meetNext 85 = .ok (.putfield 52, 3) := by decide +kernel
theorem dX5_meetNext_88 : decode cX5_meetNext 88 = .ok (.iconst (-1), 1) := by decide +kernel
theorem dX5_meetNext_89 : decode cX5_meetNext 89 = .ok (.ireturn, 1) := by decide +kernel
theorem dX7_bits_0 : decode cX7_bits 0 = .ok (.lconst 0, 1) := by decide +kernel
theorem dX7_bits_1 : decode cX7_bits 1 = .ok (.lstore_n 1, 1) := by decide +kernel
theorem dX7_bits_2 : decode cX7_bits 2 = .ok (.iconst 0, 1) := by decide +kernel
theorem dX7_bits_3 : decode cX7_bits 3 = .ok (.istore_n 3, 1) := by decide +kernel
theorem dX7_bits_4 : decode cX7_bits 4 = .ok (.iload_n 3, 1) := by decide +kernel
theorem dX7_bits_5 : decode cX7_bits 5 = .ok (.aload_n 0, 1) := by decide +kernel
theorem dX7_bits_6 : decode cX7_bits 6 = .ok (.getfield 34, 3) := by decide +kernel
theorem dX7_bits_9 : decode cX7_bits 9 = .ok (.if_icmp .ge 20, 3) := by decide +kernel
theorem dX7_bits_12 : decode cX7_bits 12 = .ok (.lload_n 1, 1) := by decide +kernel
theorem dX7_bits_13 : decode cX7_bits 13 = .ok (.lconst 1, 1) := by decide +kernel
theorem dX7_bits_14 : decode cX7_bits 14 = .ok (.aload_n 0, 1) := by decide +kernel
theorem dX7_bits_15 : decode cX7_bits 15 = .ok (.getfield 9, 3) := by decide +kernel
theorem dX7_bits_18 : decode cX7_bits 18 = .ok (.iload_n 3, 1) := by decide +kernel
theorem dX7_bits_19 : decode cX7_bits 19 = .ok (.iaload, 1) := by decide +kernel
theorem dX7_bits_20 : decode cX7_bits 20 = .ok (.lshl, 1) := by decide +kernel
theorem dX7_bits_21 : decode cX7_bits 21 = .ok (.lor, 1) := by decide +kernel
theorem dX7_bits_22 : decode cX7_bits 22 = .ok (.lstore_n 1, 1) := by decide +kernel
theorem dX7_bits_23 : decode cX7_bits 23 = .ok (.iinc 3 1, 3) := by decide +kernel
theorem dX7_bits_26 : decode cX7_bits 26 = .ok (.goto (-22), 3) := by decide +kernel
theorem dX7_bits_29 : decode cX7_bits 29 = .ok (.lload_n 1, 1) := by decide +kernel
theorem dX7_bits_30 : decode cX7_bits 30 = .ok (.lreturn, 1) := by decide +kernel
theorem dX8_init_0 : decode cX8_init 0 = .ok (.aload_n 0, 1) := by decide +kernel
theorem dX8_init_1 : decode cX8_init 1 = .ok (.invokespecial 3, 3) := by decide +kernel
theorem dX8_init_4 : decode cX8_init 4 = .ok (.aload_n 0, 1) := by decide +kernel
theorem dX8_init_5 : decode cX8_init 5 = .ok (.bipush 10, 2) := by decide +kernel
theorem dX8_init_7 : decode cX8_init 7 = .ok (.anewarray 9, 3) := by decide +kernel
theorem dX8_init_10 : decode cX8_init 10 = .ok (.putfield 11, 3) := by decide +kernel
theorem dX8_init_13 : decode cX8_init 13 = .ok (.return_, 1) := by decide +kernel
theorem dX8_remember_0 : decode cX8_remember 0 = .ok (.aload_n 0, 1) := by decide +kernel
theorem dX8_remember_1 : decode cX8_remember 1 = .ok (.getfield 11, 3) := by decide +kernel
theorem dX8_remember_4 : decode cX8_remember 4 = .ok (.aload_n 0, 1) := by decide +kernel
theorem dX8_remember_5 : decode cX8_remember 5 = .ok (.getfield 17, 3) := by decide +kernel
theorem dX8_remember_8 : decode cX8_remember 8 = .ok (.aaload, 1) := by decide +kernel
theorem dX8_remember_9 : decode cX8_remember 9 = .ok (.ifnonnull 19, 3) := by decide +kernel
theorem dX8_remember_12 : decode cX8_remember 12 = .ok (.aload_n 0, 1) := by decide +kernel
theorem dX8_remember_13 : decode cX8_remember 13 = .ok (.getfield 11, 3) := by decide +kernel
theorem dX8_remember_16 : decode cX8_remember 16 = .ok (.aload_n 0, 1) := by decide +kernel
theorem dX8_remember_17 : decode cX8_remember 17 = .ok (.getfield 17, 3) := by decide +kernel
theorem dX8_remember_20 : decode cX8_remember 20 = .ok (.new 9, 3) := by decide +kernel
theorem dX8_remember_23 : decode cX8_remember 23 = .ok (.dup, 1) := by decide +kernel
theorem dX8_remember_24 : decode cX8_remember 24 = .ok (.invokespecial 21, 3) := by decide +kernel
theorem dX8_remember_27 : decode cX8_remember 27 = .ok (.aastore, 1) := by decide +kernel
theorem dX8_remember_28 : decode cX8_remember 28 = .ok (.aload_n 0, 1) := by decide +kernel
theorem dX8_remember_29 : decode cX8_remember 29 = .ok (.getfield 11, 3) := by decide +kernel
theorem dX8_remember_32 : decode cX8_remember 32 = .ok (.aload_n 0, 1) := by decide +kernel
theorem dX8_remember_33 : decode cX8_remember 33 = .ok (.getfield 17, 3) := by decide +kernel
theorem dX8_remember_36 : decode cX8_remember 36 = .ok (.aaload, 1) := by decide +kernel
theorem dX8_remember_37 : decode cX8_remember 37 = .ok (.aload_n 1, 1) := by decide +kernel
theorem dX8_remember_38 : decode cX8_remember 38 = .ok (.invokevirtual 22, 3) := by decide +kernel
theorem dX8_remember_41 : decode cX8_remember 41 = .ok (.aload_n 0, 1) := by decide +kernel
theorem dX8_remember_42 : decode cX8_remember 42 = .ok (.aload_n 0, 1) := by decide +kernel
theorem dX8_remember_43 : decode cX8_remember 43 = .ok (.getfield 17, 3) := by decide +kernel
theorem dX8_remember_46 : decode cX8_remember 46 = .ok (.iconst 1, 1) := by decide +kernel
theorem dX8_remember_47 : decode cX8_remember 47 = .ok (.iadd, 1) := by decide +kernel
theorem dX8_remember_48 : decode cX8_remember 48 = .ok (.bipush 10, 2) := by decide +kernel
theorem dX8_remember_50 : decode cX8_remember 50 = .ok (.irem, 1) := by decide +kernel
theorem dX8_remember_51 : decode cX8_remember 51 = .ok (.putfield 17, 3) := by decide +kernel
theorem dX8_remember_54 : decode cX8_remember 54 = .ok (.aload_n 0, 1) := by decide +kernel
theorem dX8_remember_55 : decode cX8_remember 55 = .ok (.aload_n 0, 1) := by decide +kernel
theorem dX8_remember_56 : decode cX8_remember 56 = .ok (.getfield 26, 3) := by decide +kernel
theorem dX8_remember_59 : decode cX8_remember 59 = .ok (.iconst 1, 1) := by decide +kernel
theorem dX8_remember_60 : decode cX8_remember 60 = .ok (.iadd, 1) := by decide +kernel
theorem dX8_remember_61 : decode cX8_remember 61 = .ok (.bipush 10, 2) := by decide +kernel
theorem dX8_remember_63 : decode cX8_remember 63 = .ok (.invokestatic 29, 3) := by decide +kernel
theorem dX8_remember_66 : decode cX8_remember 66 = .ok (.putfield 26, 3) := by decide +kernel
theorem dX8_remember_69 : decode cX8_remember 69 = .ok (.return_, 1) := by decide +kernel
theorem dX8_forgetAll_0 : decode cX8_forgetAll 0 = .ok (.aload_n 0, 1) := by decide +kernel
theorem dX8_forgetAll_1 : decode cX8_forgetAll 1 = .ok (.iconst 0, 1) := by decide +kernel
theorem dX8_forgetAll_2 : decode cX8_forgetAll 2 = .ok (.putfield 26, 3) := by decide +kernel
theorem dX8_forgetAll_5 : decode cX8_forgetAll 5 = .ok (.return_, 1) := by decide +kernel
theorem dX9_init_0 : decode cX9_init 0 = .ok (.aload_n 0, 1) := by decide +kernel
theorem dX9_init_1 : decode cX9_init 1 = .ok (.invokespecial 1, 3) := by decide +kernel
theorem dX9_init_4 : decode cX9_init 4 = .ok (.aload_n 0, 1) := by decide +kernel
theorem dX9_init_5 : decode cX9_init 5 = .ok (.new 7, 3) := by decide +kernel
theorem dX9_init_8 : decode cX9_init 8 = .ok (.dup, 1) := by decide +kernel
theorem dX9_init_9 : decode cX9_init 9 = .ok (.invokespecial 9, 3) := by decide +kernel
theorem dX9_init_12 : decode cX9_init 12 = .ok (.putfield 10, 3) := by decide +kernel
theorem dX9_init_15 : decode cX9_init 15 = .ok (.aload_n 0, 1) := by decide +kernel
theorem dX9_init_16 : decode cX9_init 16 = .ok (.new 16, 3) := by decide +kernel
theorem dX9_init_19 : decode cX9_init 19 = .ok (.dup, 1) := by decide +kernel
theorem dX9_init_20 : decode cX9_init 20 = .ok (.invokespecial 18, 3) := by decide +kernel
theorem dX9_init_23 : decode cX9_init 23 = .ok (.putfield 19, 3) := by decide +kernel
theorem dX9_init_26 : decode cX9_init 26 = .ok (.aload_n 0, 1) := by decide +kernel
theorem dX9_init_27 : decode cX9_init 27 = .ok (.new 23, 3) := by decide +kernel
theorem dX9_init_30 : decode cX9_init 30 = .ok (.dup, 1) := by decide +kernel
theorem dX9_init_31 : decode cX9_init 31 = .ok (.invokespecial 25, 3) := by decide +kernel
theorem dX9_init_34 : decode cX9_init 34 = .ok (.putfield 26, 3) := by decide +kernel
theorem dX9_init_37 : decode cX9_init 37 = .ok (.aload_n 0, 1) := by decide +kernel
theorem dX9_init_38 : decode cX9_init 38 = .ok (.new 30, 3) := by decide +kernel
theorem dX9_init_41 : decode cX9_init 41 = .ok (.dup, 1) := by decide +kernel
theorem dX9_init_42 : decode cX9_init 42 = .ok (.invokespecial 32, 3) := by decide +kernel
theorem dX9_init_45 : decode cX9_init 45 = .ok (.putfield 33, 3) := by decide +kernel
theorem dX9_init_48 : decode cX9_init 48 = .ok (.aload_n 0, 1) := by decide +kernel
theorem dX9_init_49 : decode cX9_init 49 = .ok (.new 30, 3) := by decide +kernel
theorem dX9_init_52 : decode cX9_init 52 = .ok (.dup, 1) := by decide +kernel
theorem dX9_init_53 : decode cX9_init 53 = .ok (.invokespecial 32, 3) := by decide +kernel
theorem dX9_init_56 : decode cX9_init 56 = .ok (.putfield 37, 3) := by decide +kernel
theorem dX9_init_59 : decode cX9_init 59 = .ok (.aload_n 0, 1) := by decide +kernel
theorem dX9_init_60 : decode cX9_init 60 = .ok (.iconst (-1), 1) := by decide +kernel
theorem dX9_init_61 : decode cX9_init 61 = .ok (.putfield 40, 3) := by decide +kernel
theorem dX9_init_64 : decode cX9_init 64 = .ok (.aload_n 0, 1) := by decide +kernel
theorem dX9_init_65 : decode cX9_init 65 = .ok (.getfield 33, 3) := by decide +kernel
theorem dX9_init_68 : decode cX9_init 68 = .ok (.iconst 1, 1) := by decide +kernel
theorem dX9_init_69 : decode cX9_init 69 = .ok (.iconst 1, 1) := by decide +kernel
theorem dX9_init_70 : decode cX9_init 70 = .ok (.invokevirtual 44, 3) := by decide +kernel
theorem dX9_init_73 : decode cX9_init 73 = .ok (.return_, 1) := by decide +kernel
theorem dX9_append_0 : decode cX9_append 0 = .ok (.aload_n 0, 1) := by decide +kernel
theorem dX9_append_1 : decode cX9_append 1 = .ok (.getfield 10, 3) := by decide +kernel
theorem dX9_append_4 : decode cX9_append 4 = .ok (.getfield 48, 3) := by decide +kernel
theorem dX9_append_7 : decode cX9_append 7 = .ok (.bipush 20, 2) := by decide +kernel
theorem dX9_append_9 : decode cX9_append 9 = .ok (.iadd, 1) := by decide +kernel
theorem dX9_append_10 : decode cX9_append 10 = .ok (.sipush 600, 3) := by decide +kernel
theorem dX9_append_13 : decode cX9_append 13 = .ok (.if_icmp .le 5, 3) := by decide +kernel
theorem dX9_append_16 : decode cX9_append 16 = .ok (.iconst (-1), 1) := by decide +kernel
theorem dX9_append_17 : decode cX9_append 17 = .ok (.ireturn, 1) := by decide +kernel
theorem dX9_append_18 : decode cX9_append 18 = .ok (.aload_n 0, 1) := by decide +kernel
theorem dX9_append_19 : decode cX9_append 19 = .ok (.getfield 10, 3) := by decide +kernel
theorem dX9_append_22 : decode cX9_append 22 = .ok (.iload_n 1, 1) := by decide +kernel
theorem dX9_append_23 : decode cX9_append 23 = .ok (.invokevirtual 51, 3) := by decide +kernel
theorem dX9_append_26 : decode cX9_append 26 = .ok (.aload_n 0, 1) := by decide +kernel
theorem dX9_append_27 : decode cX9_append 27 = .ok (.getfield 10, 3) := by decide +kernel
theorem dX9_append_30 : decode cX9_append 30 = .ok (.iload_n 2, 1) := by decide +kernel
theorem dX9_append_31 : decode cX9_append 31 = .ok (.invokevirtual 51, 3) := by decide +kernel
theorem dX9_append_34 : decode cX9_append 34 = .ok (.aload_n 0, 1) := by decide +kernel
theorem dX9_append_35 : decode cX9_append 35 = .ok (.getfield 10, 3) := by decide +kernel
theorem dX9_append_38 : decode cX9_append 38 = .ok (.iload_n 3, 1) := by decide +kernel
theorem dX9_append_39 : decode cX9_append 39 = .ok (.invokevirtual 51, 3) := by decide +kernel
theorem dX9_append_42 : decode cX9_append 42 = .ok (.aload_n 0, 1) := by decide +kernel
theorem dX9_append_43 : decode cX9_append 43 = .ok (.getfield 10, 3) := by decide +kernel
theorem dX9_append_46 : decode cX9_append 46 = .ok (.iload 4, 2) := by decide +kernel
theorem dX9_append_48 : decode cX9_append 48 = .ok (.invokevirtual 51, 3) := by decide +kernel
theorem dX9_append_51 : decode cX9_append 51 = .ok (.aload_n 0, 1) := by decide +kernel
theorem dX9_append_52 : decode cX9_append 52 = .ok (.getfield 10, 3) := by decide +kernel
theorem dX9_append_55 : decode cX9_append 55 = .ok (.iload 5, 2) := by decide +kernel
theorem dX9_append_57 : decode cX9_append 57 = .ok (.invokevirtual 51, 3) := by decide +kernel
theorem dX9_append_60 : decode cX9_append 60 = .ok (.aload_n 0, 1) := by decide +kernel
theorem dX9_append_61 : decode cX9_append 61 = .ok (.getfield 10, 3) := by decide +kernel
theorem dX9_append_64 : decode cX9_append 64 = .ok (.getfield 48, 3) := by decide +kernel
theorem dX9_append_67 : decode cX9_append 67 = .ok (.ireturn, 1) := by decide +kernel
theorem dX9_beginWithDraft_0 : decode cX9_beginWithDraft 0 = .ok (.aload_n 0, 1) := by decide +kernel
theorem dX9_beginWithDraft_1 : decode cX9_beginWithDraft 1 = .ok (.getfield 33, 3) := by decide +kernel
theorem dX9_beginWithDraft_4 : decode cX9_beginWithDraft 4 = .ok (.astore_n 1, 1) := by decide +kernel
theorem dX9_beginWithDraft_5 : decode cX9_beginWithDraft 5 = .ok (.aload_n 0, 1) := by decide +kernel
theorem dX9_beginWithDraft_6 : decode cX9_beginWithDraft 6 = .ok (.aload_n 0, 1) := by decide +kernel
theorem dX9_beginWithDraft_7 : decode cX9_beginWithDraft 7 = .ok (.getfield 37, 3) := by decide +kernel
theorem dX9_beginWithDraft_10 : decode cX9_beginWithDraft 10 = .ok (.putfield 33, 3) := by decide +kernel
theorem dX9_beginWithDraft_13 : decode cX9_beginWithDraft 13 = .ok (.aload_n 0, 1) := by decide +kernel
theorem dX9_beginWithDraft_14 : decode cX9_beginWithDraft 14 = .ok (.aload_n 1, 1) := by decide +kernel
theorem dX9_beginWithDraft_15 : decode cX9_beginWithDraft 15 = .ok (.putfield 37, 3) := by decide +kernel
theorem dX9_beginWithDraft_18 : decode cX9_beginWithDraft 18 = .ok (.aload_n 0, 1) := by decide +kernel
theorem dX9_beginWithDraft_19 : decode cX9_beginWithDraft 19 = .ok (.getfield 19, 3) := by decide +kernel
theorem dX9_beginWithDraft_22 : decode cX9_beginWithDraft 22 = .ok (.invokevirtual 78, 3) := by decide +kernel
theorem dX9_beginWithDraft_25 : decode cX9_beginWithDraft 25 = .ok (.aload_n 0, 1) := by decide +kernel
theorem dX9_beginWithDraft_26 : decode cX9_beginWithDraft 26 = .ok (.getfield 26, 3) := by decide +kernel
theorem dX9_beginWithDraft_29 : decode cX9_beginWithDraft 29 = .ok (.invokevirtual 81, 3) := by decide +kernel
theorem dX9_beginWithDraft_32 : decode cX9_beginWithDraft 32 = .ok (.return_, 1) := by decide +kernel
theorem dX9_parse_0 : decode cX9_parse 0 = .ok (.iload_n 1, 1) := by decide +kernel
theorem dX9_parse_1 : decode cX9_parse 1 = .ok (.ifCond .lt 14, 3) := by decide +kernel
theorem dX9_parse_4 : decode cX9_parse 4 = .ok (.iload_n 1, 1) := by decide +kernel
theorem dX9_parse_5 : decode cX9_parse 5 = .ok (.aload_n 0, 1) := by decide +kernel
theorem dX9_parse_6 : decode cX9_parse 6 = .ok (.getfield 10, 3) := by decide +kernel
theorem dX9_parse_9 : decode cX9_parse 9 = .ok (.getfield 48, 3) := by decide +kernel
theorem dX9_parse_12 : decode cX9_parse 12 = .ok (.if_icmp .le 13, 3) := by decide +kernel
theorem dX9_parse_15 : decode cX9_parse 15 = .ok (.new 55, 3) := by decide +kernel
theorem dX9_parse_18 : decode cX9_parse 18 = .ok (.dup, 1) := by decide +kernel
theorem dX9_parse_19 : decode cX9_parse 19 = .ok (.ldc 57, 2) := by decide +kernel
theorem dX9_parse_21 : decode cX9_parse 21 = .ok (.invokespecial 59, 3) := by decide +kernel
theorem dX9_parse_24 : decode cX9_parse 24 = .ok (.athrow, 1) := by decide +kernel
theorem dX9_parse_25 : decode cX9_parse 25 = .ok (.new 62, 3) := by decide +kernel
theorem dX9_parse_28 : decode cX9_parse 28 = .ok (.dup, 1) := by decide +kernel
theorem dX9_parse_29 : decode cX9_parse 29 = .ok (.aload_n 0, 1) := by decide +kernel
theorem dX9_parse_30 : decode cX9_parse 30 = .ok (.getfield 10, 3) := by decide +kernel
theorem dX9_parse_33 : decode cX9_parse 33 = .ok (.iload_n 1, 1) := by decide +kernel
theorem dX9_parse_34 : decode cX9_parse 34 = .ok (.aload_n 0, 1) := by decide +kernel
theorem dX9_parse_35 : decode cX9_parse 35 = .ok (.getfield 37, 3) := by decide +kernel
theorem dX9_parse_38 : decode cX9_parse 38 = .ok (.invokespecial 64, 3) := by decide +kernel
theorem dX9_parse_41 : decode cX9_parse 41 = .ok (.astore_n 2, 1) := by decide +kernel
theorem dX9_parse_42 : decode cX9_parse 42 = .ok (.aload_n 2, 1) := by decide +kernel
theorem dX9_parse_43 : decode cX9_parse 43 = .ok (.invokevirtual 67, 3) := by decide +kernel
theorem dX9_parse_46 : decode cX9_parse 46 = .ok (.istore_n 3, 1) := by decide +kernel
theorem dX9_parse_47 : decode cX9_parse 47 = .ok (.aload_n 0, 1) := by decide +kernel
theorem dX9_parse_48 : decode cX9_parse 48 = .ok (.getfield 10, 3) := by decide +kernel
theorem dX9_parse_51 : decode cX9_parse 51 = .ok (.iconst 0, 1) := by decide +kernel
theorem dX9_parse_52 : decode cX9_parse 52 = .ok (.putfield 48, 3) := by decide +kernel
theorem dX9_parse_55 : decode cX9_parse 55 = .ok (.aload_n 0, 1) := by decide +kernel
theorem dX9_parse_56 : decode cX9_parse 56 = .ok (.aload_n 2, 1) := by decide +kernel
theorem dX9_parse_57 : decode cX9_parse 57 = .ok (.getfield 71, 3) := by decide +kernel
theorem dX9_parse_60 : decode cX9_parse 60 = .ok (.putfield 40, 3) := by decide +kernel
theorem dX9_parse_63 : decode cX9_parse 63 = .ok (.iload_n 3, 1) := by decide +kernel
theorem dX9_parse_64 : decode cX9_parse 64 = .ok (.ifCond .eq 7, 3) := by decide +kernel
theorem dX9_parse_67 : decode cX9_parse 67 = .ok (.aload_n 0, 1) := by decide +kernel
theorem dX9_parse_68 : decode cX9_parse 68 = .ok (.invokevirtual 72, 3) := by decide +kernel
theorem dX9_parse_71 : decode cX9_parse 71 = .ok (.aload_n 2, 1) := by decide +kernel
theorem dX9_parse_72 : decode cX9_parse 72 = .ok (.getfield 75, 3) := by decide +kernel
theorem dX9_parse_75 : decode cX9_parse 75 = .ok (.ireturn, 1) := by decide +kernel
theorem dX9_size_0 : decode cX9_size 0 = .ok (.iload_n 1, 1) := by decide +kernel
theorem dX9_size_1 : decode cX9_size 1 = .ok (.tableswitch 111 0 7 #[47, 55, 63, 71, 79, 87, 95, 103], 47) := by decide +kernel
theorem dX9_size_48 : decode cX9_size 48 = .ok (.aload_n 0, 1) := by decide +kernel
theorem dX9_size_49 : decode cX9_size 49 = .ok (.getfield 33, 3) := by decide +kernel
theorem dX9_size_52 : decode cX9_size 52 = .ok (.getfield 84, 3) := by decide +kernel
theorem dX9_size_55 : decode cX9_size 55 = .ok (.ireturn, 1) := by decide +kernel
theorem dX9_size_56 : decode cX9_size 56 = .ok (.aload_n 0, 1) := by decide +kernel
theorem dX9_size_57 : decode cX9_size 57 = .ok (.getfield 33, 3) := by decide +kernel
theorem dX9_size_60 : decode cX9_size 60 = .ok (.getfield 87, 3) := by decide +kernel
theorem dX9_size_63 : decode cX9_size 63 = .ok (.ireturn, 1) := by decide +kernel
theorem dX9_size_64 : decode cX9_size 64 = .ok (.aload_n 0, 1) := by decide +kernel
theorem dX9_size_65 : decode cX9_size 65 = .ok (.getfield 33, 3) := by decide +kernel
theorem dX9_size_68 : decode cX9_size 68 = .ok (.getfield 90, 3) := by decide +kernel
theorem dX9_size_71 : decode cX9_size 71 = .ok (.ireturn, 1) := by decide +kernel
theorem dX9_size_72 : decode cX9_size 72 = .ok (.aload_n 0, 1) := by decide +kernel
theorem dX9_size_73 : decode cX9_size 73 = .ok (.getfield 33, 3) := by decide +kernel
theorem dX9_size_76 : decode cX9_size 76 = .ok (.getfield 93, 3) := by decide +kernel
theorem dX9_size_79 : decode cX9_size 79 = .ok (.ireturn, 1) := by decide +kernel
theorem dX9_size_80 : decode cX9_size 80 = .ok (.aload_n 0, 1) := by decide +kernel
theorem dX9_size_81 : decode cX9_size 81 = .ok (.getfield 33, 3) := by decide +kernel
theorem dX9_size_84 : decode cX9_size 84 = .ok (.getfield 96, 3) := by decide +kernel
theorem dX9_size_87 : decode cX9_size 87 = .ok (.ireturn, 1) := by decide +kernel
theorem dX9_size_88 : decode cX9_size 88 = .ok (.aload_n 0, 1) := by decide +kernel
theorem dX9_size_89 : decode cX9_size 89 = .ok (.getfield 33, 3) := by decide +kernel
theorem dX9_size_92 : decode cX9_size 92 = .ok (.invokevirtual 99, 3) := by decide +kernel
theorem dX9_size_95 : decode cX9_size 95 = .ok (.ireturn, 1) := by decide +kernel
theorem dX9_size_96 : decode cX9_size 96 = .ok (.aload_n 0, 1) := by decide +kernel
theorem dX9_size_97 : decode cX9_size 97 = .ok (.getfield 33, 3) := by decide +kernel
theorem dX9_size_100 : decode cX9_size 100 = .ok (.getfield 103, 3) := by decide +kernel
theorem dX9_size_103 : decode cX9_size 103 = .ok (.ireturn, 1) := by decide +kernel
theorem dX9_size_104 : decode cX9_size 104 = .ok (.aload_n 0, 1) := by decide +kernel
theorem dX9_size_105 : decode cX9_size 105 = .ok (.getfield 19, 3) := by decide +kernel
theorem dX9_size_108 : decode cX9_size 108 = .ok (.getfield 106, 3) := by decide +kernel
theorem dX9_size_111 : decode cX9_size 111 = .ok (.ireturn, 1) := by decide +kernel
theorem dX9_size_112 : decode cX9_size 112 = .ok (.new 55, 3) := by decide +kernel
theorem dX9_size_115 : decode cX9_size 115 = .ok (.dup, 1) := by decide +kernel
theorem dX9_size_116 : decode cX9_size 116 = .ok (.ldc 109, 2) := by decide +kernel
theorem dX9_size_118 : decode cX9_size 118 = .ok (.invokespecial 59, 3) := by decide +kernel
theorem dX9_size_121 : decode cX9_size 121 = .ok (.athrow, 1) := by decide +kernel
theorem dX9_marked_0 : decode cX9_marked 0 = .ok (.iload_n 1, 1) := by decide +kernel
theorem dX9_marked_1 : decode cX9_marked 1 = .ok (.ifCond .lt 26, 3) := by decide +kernel
theorem dX9_marked_4 : decode cX9_marked 4 = .ok (.iload_n 1, 1) := by decide +kernel
theorem dX9_marked_5 : decode cX9_marked 5 = .ok (.aload_n 0, 1) := by decide +kernel
theorem dX9_marked_6 : decode cX9_marked 6 = .ok (.getfield 33, 3) := by decide +kernel
theorem dX9_marked_9 : decode cX9_marked 9 = .ok (.getfield 96, 3) := by decide +kernel
theorem dX9_marked_12 : decode cX9_marked 12 = .ok (.if_icmp .ge 15, 3) := by decide +kernel
theorem dX9_marked_15 : decode cX9_marked 15 = .ok (.aload_n 0, 1) := by decide +kernel
theorem dX9_marked_16 : decode cX9_marked 16 = .ok (.getfield 33, 3) := by decide +kernel
theorem dX9_marked_19 : decode cX9_marked 19 = .ok (.getfield 118, 3) := by decide +kernel
theorem dX9_marked_22 : decode cX9_marked 22 = .ok (.iload_n 1, 1) := by decide +kernel
theorem dX9_marked_23 : decode cX9_marked 23 = .ok (.iaload, 1) := by decide +kernel
theorem dX9_marked_24 : decode cX9_marked 24 = .ok (.goto 4, 3) := by decide +kernel
theorem dX9_marked_27 : decode cX9_marked 27 = .ok (.iconst (-1), 1) := by decide +kernel
theorem dX9_marked_28 : decode cX9_marked 28 = .ok (.ireturn, 1) := by decide +kernel
theorem dX9_checkSet_0 : decode cX9_checkSet 0 = .ok (.iload_n 1, 1) := by decide +kernel
theorem dX9_checkSet_1 : decode cX9_checkSet 1 = .ok (.ifCond .lt 14, 3) := by decide +kernel
theorem dX9_checkSet_4 : decode cX9_checkSet 4 = .ok (.iload_n 1, 1) := by decide +kernel
theorem dX9_checkSet_5 : decode cX9_checkSet 5 = .ok (.aload_n 0, 1) := by decide +kernel
theorem dX9_checkSet_6 : decode cX9_checkSet 6 = .ok (.getfield 33, 3) := by decide +kernel
theorem dX9_checkSet_9 : decode cX9_checkSet 9 = .ok (.getfield 84, 3) := by decide +kernel
theorem dX9_checkSet_12 : decode cX9_checkSet 12 = .ok (.if_icmp .lt 14, 3) := by decide +kernel
theorem dX9_checkSet_15 : decode cX9_checkSet 15 = .ok (.new 320, 3) := by decide +kernel
theorem dX9_checkSet_18 : decode cX9_checkSet 18 = .ok (.dup, 1) := by decide +kernel
theorem dX9_checkSet_19 : decode cX9_checkSet 19 = .ok (.ldc_w 322, 3) := by decide +kernel
theorem dX9_checkSet_22 : decode cX9_checkSet 22 = .ok (.invokespecial 324, 3) := by decide +kernel
theorem dX9_checkSet_25 : decode cX9_checkSet 25 = .ok (.athrow, 1) := by decide +kernel
theorem dX9_checkSet_26 : decode cX9_checkSet 26 = .ok (.return_, 1) := by decide +kernel
theorem dX9_rowsOf_0 : decode cX9_rowsOf 0 = .ok (.aload_n 0, 1) := by decide +kernel
theorem dX9_rowsOf_1 : decode cX9_rowsOf 1 = .ok (.iload_n 1, 1) := by decide +kernel
theorem dX9_rowsOf_2 : decode cX9_rowsOf 2 = .ok (.invokevirtual 247, 3) := by decide +kernel
theorem dX9_rowsOf_5 : decode cX9_rowsOf 5 = .ok (.aload_n 0, 1) := by decide +kernel
theorem dX9_rowsOf_6 : decode cX9_rowsOf 6 = .ok (.getfield 33, 3) := by decide +kernel
theorem dX9_rowsOf_9 : decode cX9_rowsOf 9 = .ok (.getfield 283, 3) := by decide +kernel
theorem dX9_rowsOf_12 : decode cX9_rowsOf 12 = .ok (.iload_n 1, 1) := by decide +kernel
theorem dX9_rowsOf_13 : decode cX9_rowsOf 13 = .ok (.aaload, 1) := by decide +kernel
theorem dX9_rowsOf_14 : decode cX9_rowsOf 14 = .ok (.areturn, 1) := by decide +kernel
theorem dX9_set_0 : decode cX9_set 0 = .ok (.aload_n 0, 1) := by decide +kernel
theorem dX9_set_1 : decode cX9_set 1 = .ok (.iload_n 1, 1) := by decide +kernel
theorem dX9_set_2 : decode cX9_set 2 = .ok (.invokevirtual 122, 3) := by decide +kernel
theorem dX9_set_5 : decode cX9_set 5 = .ok (.astore_n 3, 1) := by decide +kernel
theorem dX9_set_6 : decode cX9_set 6 = .ok (.iload_n 2, 1) := by decide +kernel
theorem dX9_set_7 : decode cX9_set 7 = .ok (.tableswitch 68 0 4 #[33, 38, 43, 51, 59], 33) := by decide +kernel
theorem dX9_set_40 : decode cX9_set 40 = .ok (.aload_n 3, 1) := by decide +kernel
theorem dX9_set_41 : decode cX9_set 41 = .ok (.getfield 126, 3) := by decide +kernel
theorem dX9_set_44 : decode cX9_set 44 = .ok (.ireturn, 1) := by decide +kernel
theorem dX9_set_45 : decode cX9_set 45 = .ok (.aload_n 3, 1) := by decide +kernel
theorem dX9_set_46 : decode cX9_set 46 = .ok (.getfield 131, 3) := by decide +kernel
theorem dX9_set_49 : decode cX9_set 49 = .ok (.ireturn, 1) := by decide +kernel
theorem dX9_set_50 : decode cX9_set 50 = .ok (.aload_n 3, 1) := by decide +kernel
theorem dX9_set_51 : decode cX9_set 51 = .ok (.getfield 134, 3) := by decide +kernel
theorem dX9_set_54 : decode cX9_set 54 = .ok (.getfield 138, 3) := by decide +kernel
theorem dX9_set_57 : decode cX9_set 57 = .ok (.ireturn, 1) := by decide +kernel
theorem dX9_set_58 : decode cX9_set 58 = .ok (.aload_n 3, 1) := by decide +kernel
theorem dX9_set_59 : decode cX9_set 59 = .ok (.getfield 134, 3) := by decide +kernel
theorem dX9_set_62 : decode cX9_set 62 = .ok (.getfield 143, 3) := by decide +kernel
theorem dX9_set_65 : decode cX9_set 65 = .ok (.ireturn, 1) := by decide +kernel
theorem dX9_set_66 : decode cX9_set 66 = .ok (.aload_n 0, 1) := by decide +kernel
theorem dX9_set_67 : decode cX9_set 67 = .ok (.getfield 33, 3) := by decide +kernel
theorem dX9_set_70 : decode cX9_set 70 = .ok (.iload_n 1, 1) := by decide +kernel
theorem dX9_set_71 : decode cX9_set 71 = .ok (.invokevirtual 144, 3) := by decide +kernel
theorem dX9_set_74 : decode cX9_set 74 = .ok (.ireturn, 1) := by decide +kernel
theorem dX9_set_75 : decode cX9_set 75 = .ok (.new 55, 3) := by decide +kernel
theorem dX9_set_78 : decode cX9_set 78 = .ok (.dup, 1) := by decide +kernel
theorem dX9_set_79 : decode cX9_set 79 = .ok (.ldc 109, 2) := by decide +kernel
theorem dX9_set_81 : decode cX9_set 81 = .ok (.invokespecial 59, 3) := by decide +kernel
theorem dX9_set_84 : decode cX9_set 84 = .ok (.athrow, 1) := by decide +kernel
theorem dX9_cell_0 : decode cX9_cell 0 = .ok (.aload_n 0, 1) := by decide +kernel
theorem dX9_cell_1 : decode cX9_cell 1 = .ok (.iload_n 1, 1) := by decide +kernel
theorem dX9_cell_2 : decode cX9_cell 2 = .ok (.invokevirtual 122, 3) := by decide +kernel
theorem dX9_cell_5 : decode cX9_cell 5 = .ok (.astore 4, 2) := by decide +kernel
theorem dX9_cell_7 : decode cX9_cell 7 = .ok (.aload_n 0, 1) := by decide +kernel
theorem dX9_cell_8 : decode cX9_cell 8 = .ok (.getfield 33, 3) := by decide +kernel
theorem dX9_cell_11 : decode cX9_cell 11 = .ok (.iload_n 2, 1) := by decide +kernel
theorem dX9_cell_12 : decode cX9_cell 12 = .ok (.invokevirtual 148, 3) := by decide +kernel
theorem dX9_cell_15 : decode cX9_cell 15 = .ok (.ifCond .ne 13, 3) := by decide +kernel
theorem dX9_cell_18 : decode cX9_cell 18 = .ok (.new 55, 3) := by decide +kernel
theorem dX9_cell_21 : decode cX9_cell 21 = .ok (.dup, 1) := by decide +kernel
theorem dX9_cell_22 : decode cX9_cell 22 = .ok (.ldc 152, 2) := by decide +kernel
theorem dX9_cell_24 : decode cX9_cell 24 = .ok (.invokespecial 59, 3) := by decide +kernel
theorem dX9_cell_27 : decode cX9_cell 27 = .ok (.athrow, 1) := by decide +kernel
theorem dX9_cell_28 : decode cX9_cell 28 = .ok (.iload_n 3, 1) := by decide +kernel
theorem dX9_cell_29 : decode cX9_cell 29 = .ok (.ifCond .eq 13, 3) := by decide +kernel
theorem dX9_cell_32 : decode cX9_cell 32 = .ok (.aload 4, 2) := by decide +kernel
theorem dX9_cell_34 : decode cX9_cell 34 = .ok (.getfield 154, 3) := by decide +kernel
theorem dX9_cell_37 : decode cX9_cell 37 = .ok (.iload_n 2, 1) := by decide +kernel
theorem dX9_cell_38 : decode cX9_cell 38 = .ok (.iaload, 1) := by decide +kernel
theorem dX9_cell_39 : decode cX9_cell 39 = .ok (.goto 10, 3) := by decide +kernel
theorem dX9_cell_42 : decode cX9_cell 42 = .ok (.aload 4, 2) := by decide +kernel
theorem dX9_cell_44 : decode cX9_cell 44 = .ok (.getfield 157, 3) := by decide +kernel
theorem dX9_cell_47 : decode cX9_cell 47 = .ok (.iload_n 2, 1) := by decide +kernel
theorem dX9_cell_48 : decode cX9_cell 48 = .ok (.iaload, 1) := by decide +kernel
theorem dX9_cell_49 : decode cX9_cell 49 = .ok (.ireturn, 1) := by decide +kernel
theorem dX9_place_0 : decode cX9_place 0 = .ok (.aload_n 0, 1) := by decide +kernel
theorem dX9_place_1 : decode cX9_place 1 = .ok (.iload_n 1, 1) := by decide +kernel
theorem dX9_place_2 : decode cX9_place 2 = .ok (.invokevirtual 122, 3) := by decide +kernel
theorem dX9_place_5 : decode cX9_place 5 = .ok (.iload_n 2, 1) := by decide +kernel
theorem dX9_place_6 : decode cX9_place 6 = .ok (.invokevirtual 160, 3) := by decide +kernel
theorem dX9_place_9 : decode cX9_place 9 = .ok (.ireturn, 1) := by decide +kernel
theorem dX9_stampOf_0 : decode cX9_stampOf 0 = .ok (.aload_n 0, 1) := by decide +kernel
theorem dX9_stampOf_1 : decode cX9_stampOf 1 = .ok (.iload_n 1, 1) := by decide +kernel
theorem dX9_stampOf_2 : decode cX9_stampOf 2 = .ok (.invokevirtual 122, 3) := by decide +kernel
theorem dX9_stampOf_5 : decode cX9_stampOf 5 = .ok (.astore_n 3, 1) := by decide +kernel
theorem dX9_stampOf_6 : decode cX9_stampOf 6 = .ok (.aload_n 3, 1) := by decide +kernel
theorem dX9_stampOf_7 : decode cX9_stampOf 7 = .ok (.iload_n 2, 1) := by decide +kernel
theorem dX9_stampOf_8 : decode cX9_stampOf 8 = .ok (.invokevirtual 163, 3) := by decide +kernel
theorem dX9_stampOf_11 : decode cX9_stampOf 11 = .ok (.ifCond .eq 12, 3) := by decide +kernel
theorem dX9_stampOf_14 : decode cX9_stampOf 14 = .ok (.aload_n 3, 1) := by decide +kernel
theorem dX9_stampOf_15 : decode cX9_stampOf 15 = .ok (.getfield 166, 3) := by decide +kernel
theorem dX9_stampOf_18 : decode cX9_stampOf 18 = .ok (.iload_n 2, 1) := by decide +kernel
theorem dX9_stampOf_19 : decode cX9_stampOf 19 = .ok (.iaload, 1) := by decide +kernel
theorem dX9_stampOf_20 : decode cX9_stampOf 20 = .ok (.goto 4, 3) := by decide +kernel
theorem dX9_stampOf_23 : decode cX9_stampOf 23 = .ok (.iconst (-1), 1) := by decide +kernel
theorem dX9_stampOf_24 : decode cX9_stampOf 24 = .ok (.ireturn, 1) := by decide +kernel
theorem dX9_event_0 : decode cX9_event 0 = .ok (.aload_n 0, 1) := by decide +kernel
theorem dX9_event_1 : decode cX9_event 1 = .ok (.iload_n 1, 1) := by decide +kernel
theorem dX9_event_2 : decode cX9_event 2 = .ok (.invokevirtual 122, 3) := by decide +kernel
theorem dX9_event_5 : decode cX9_event 5 = .ok (.getfield 134, 3) := by decide +kernel
theorem dX9_event_8 : decode cX9_event 8 = .ok (.astore 4, 2) := by decide +kernel
theorem dX9_event_10 : decode cX9_event 10 = .ok (.iload_n 3, 1) := by decide +kernel
theorem dX9_event_11 : decode cX9_event 11 = .ok (.ifCond .lt 8, 3) := by decide +kernel
theorem dX9_event_14 : decode cX9_event 14 = .ok (.iload_n 3, 1) := by decide +kernel
theorem dX9_event_15 : decode cX9_event 15 = .ok (.iconst 2, 1) := by decide +kernel
theorem dX9_event_16 : decode cX9_event 16 = .ok (.if_icmp .le 13, 3) := by decide +kernel
theorem dX9_event_19 : decode cX9_event 19 = .ok (.new 55, 3) := by decide +kernel
theorem dX9_event_22 : decode cX9_event 22 = .ok (.dup, 1) := by decide +kernel
theorem dX9_event_23 : decode cX9_event 23 = .ok (.ldc 169, 2) := by decide +kernel
theorem dX9_event_25 : decode cX9_event 25 = .ok (.invokespecial 59, 3) := by decide +kernel
theorem dX9_event_28 : decode cX9_event 28 = .ok (.athrow, 1) := by decide +kernel
theorem dX9_event_29 : decode cX9_event 29 = .ok (.iload_n 2, 1) := by decide +kernel
theorem dX9_event_30 : decode cX9_event 30 = .ok (.ifCond .lt 12, 3) := by decide +kernel
theorem dX9_event_33 : decode cX9_event 33 = .ok (.iload_n 2, 1) := by decide +kernel
theorem dX9_event_34 : decode cX9_event 34 = .ok (.aload 4, 2) := by decide +kernel
theorem dX9_event_36 : decode cX9_event 36 = .ok (.getfield 143, 3) := by decide +kernel
theorem dX9_event_39 : decode cX9_event 39 = .ok (.if_icmp .lt 5, 3) := by decide +kernel
theorem dX9_event_42 : decode cX9_event 42 = .ok (.iconst (-1), 1) := by decide +kernel
theorem dX9_event_43 : decode cX9_event 43 = .ok (.ireturn, 1) := by decide +kernel
theorem dX9_event_44 : decode cX9_event 44 = .ok (.iload_n 3, 1) := by decide +kernel
theorem dX9_event_45 : decode cX9_event 45 = .ok (.ifCond .ne 11, 3) := by decide +kernel
theorem dX9_event_48 : decode cX9_event 48 = .ok (.aload 4, 2) := by decide +kernel
theorem dX9_event_50 : decode cX9_event 50 = .ok (.getfield 171, 3) := by decide +kernel
theorem dX9_event_53 : decode cX9_event 53 = .ok (.iload_n 2, 1) := by decide +kernel
theorem dX9_event_54 : decode cX9_event 54 = .ok (.iaload, 1) := by decide +kernel
theorem dX9_event_55 : decode cX9_event 55 = .ok (.ireturn, 1) := by decide +kernel
theorem dX9_event_56 : decode cX9_event 56 = .ok (.iload_n 3, 1) := by decide +kernel
theorem dX9_event_57 : decode cX9_event 57 = .ok (.iconst 1, 1) := by decide +kernel
theorem dX9_event_58 : decode cX9_event 58 = .ok (.if_icmp .ne 13, 3) := by decide +kernel
theorem dX9_event_61 : decode cX9_event 61 = .ok (.aload 4, 2) := by decide +kernel
theorem dX9_event_63 : decode cX9_event 63 = .ok (.getfield 172, 3) := by decide +kernel
theorem dX9_event_66 : decode cX9_event 66 = .ok (.iload_n 2, 1) := by decide +kernel
theorem dX9_event_67 : decode cX9_event 67 = .ok (.iaload, 1) := by decide +kernel
theorem dX9_event_68 : decode cX9_event 68 = .ok (.goto 10, 3) := by decide +kernel
theorem dX9_event_71 : decode cX9_event 71 = .ok (.aload 4, 2) := by decide +kernel
theorem dX9_event_73 : decode cX9_event 73 = .ok (.getfield 175, 3) := by decide +kernel
theorem dX9_event_76 : decode cX9_event 76 = .ok (.iload_n 2, 1) := by decide +kernel
theorem dX9_event_77 : decode cX9_event 77 = .ok (.iaload, 1) := by decide +kernel
theorem dX9_event_78 : decode cX9_event 78 = .ok (.ireturn, 1) := by decide +kernel
theorem dX9_checkStamp_0 : decode cX9_checkStamp 0 = .ok (.iload_n 2, 1) := by decide +kernel
theorem dX9_checkStamp_1 : decode cX9_checkStamp 1 = .ok (.aload_n 1, 1) := by decide +kernel
theorem dX9_checkStamp_2 : decode cX9_checkStamp 2 = .ok (.getfield 138, 3) := by decide +kernel
theorem dX9_checkStamp_5 : decode cX9_checkStamp 5 = .ok (.if_icmp .lt 14, 3) := by decide +kernel
theorem dX9_checkStamp_8 : decode cX9_checkStamp 8 = .ok (.iload_n 2, 1) := by decide +kernel
theorem dX9_checkStamp_9 : decode cX9_checkStamp 9 = .ok (.aload_n 0, 1) := by decide +kernel
theorem dX9_checkStamp_10 : decode cX9_checkStamp 10 = .ok (.getfield 33, 3) := by decide +kernel
theorem dX9_checkStamp_13 : decode cX9_checkStamp 13 = .ok (.getfield 93, 3) := by decide +kernel
theorem dX9_checkStamp_16 : decode cX9_checkStamp 16 = .ok (.if_icmp .le 14, 3) := by decide +kernel
theorem dX9_checkStamp_19 : decode cX9_checkStamp 19 = .ok (.new 55, 3) := by decide +kernel
theorem dX9_checkStamp_22 : decode cX9_checkStamp 22 = .ok (.dup, 1) := by decide +kernel
theorem dX9_checkStamp_23 : decode cX9_checkStamp 23 = .ok (.ldc_w 329, 3) := by decide +kernel
theorem dX9_checkStamp_26 : decode cX9_checkStamp 26 = .ok (.invokespecial 59, 3) := by decide +kernel
theorem dX9_checkStamp_29 : decode cX9_checkStamp 29 = .ok (.athrow, 1) := by decide +kernel
theorem dX9_checkStamp_30 : decode cX9_checkStamp 30 = .ok (.return_, 1) := by decide +kernel
theorem dX9_at_0 : decode cX9_at 0 = .ok (.aload_n 0, 1) := by decide +kernel
theorem dX9_at_1 : decode cX9_at 1 = .ok (.iload_n 1, 1) := by decide +kernel
theorem dX9_at_2 : decode cX9_at 2 = .ok (.invokevirtual 122, 3) := by decide +kernel
theorem dX9_at_5 : decode cX9_at 5 = .ok (.getfield 134, 3) := by decide +kernel
theorem dX9_at_8 : decode cX9_at 8 = .ok (.astore_n 3, 1) := by decide +kernel
theorem dX9_at_9 : decode cX9_at 9 = .ok (.aload_n 0, 1) := by decide +kernel
theorem dX9_at_10 : decode cX9_at 10 = .ok (.aload_n 3, 1) := by decide +kernel
theorem dX9_at_11 : decode cX9_at 11 = .ok (.iload_n 2, 1) := by decide +kernel
theorem dX9_at_12 : decode cX9_at 12 = .ok (.invokevirtual 178, 3) := by decide +kernel
theorem dX9_at_15 : decode cX9_at 15 = .ok (.aload_n 3, 1) := by decide +kernel
theorem dX9_at_16 : decode cX9_at 16 = .ok (.iload_n 2, 1) := by decide +kernel
theorem dX9_at_17 : decode cX9_at 17 = .ok (.invokevirtual 182, 3) := by decide +kernel
theorem dX9_at_20 : decode cX9_at 20 = .ok (.lreturn, 1) := by decide +kernel
theorem dX9_differs_0 : decode cX9_differs 0 = .ok (.aload_n 0, 1) := by decide +kernel
theorem dX9_differs_1 : decode cX9_differs 1 = .ok (.iload_n 1, 1) := by decide +kernel
theorem dX9_differs_2 : decode cX9_differs 2 = .ok (.invokevirtual 122, 3) := by decide +kernel
theorem dX9_differs_5 : decode cX9_differs 5 = .ok (.getfield 134, 3) := by decide +kernel
theorem dX9_differs_8 : decode cX9_differs 8 = .ok (.astore 5, 2) := by decide +kernel
theorem dX9_differs_10 : decode cX9_differs 10 = .ok (.aload_n 0, 1) := by decide +kernel
theorem dX9_differs_11 : decode cX9_differs 11 = .ok (.aload 5, 2) := by decide +kernel
theorem dX9_differs_13 : decode cX9_differs 13 = .ok (.iload_n 2, 1) := by decide +kernel
theorem dX9_differs_14 : decode cX9_differs 14 = .ok (.invokevirtual 178, 3) := by decide +kernel
theorem dX9_differs_17 : decode cX9_differs 17 = .ok (.aload_n 0, 1) := by decide +kernel
theorem dX9_differs_18 : decode cX9_differs 18 = .ok (.aload 5, 2) := by decide +kernel
theorem dX9_differs_20 : decode cX9_differs 20 = .ok (.iload_n 3, 1) := by decide +kernel
theorem dX9_differs_21 : decode cX9_differs 21 = .ok (.invokevirtual 178, 3) := by decide +kernel
theorem dX9_differs_24 : decode cX9_differs 24 = .ok (.aload 5, 2) := by decide +kernel
theorem dX9_differs_26 : decode cX9_differs 26 = .ok (.iload_n 2, 1) := by decide +kernel
theorem dX9_differs_27 : decode cX9_differs 27 = .ok (.invokevirtual 182, 3) := by decide +kernel
theorem dX9_differs_30 : decode cX9_differs 30 = .ok (.lstore 6, 2) := by decide +kernel
theorem dX9_differs_32 : decode cX9_differs 32 = .ok (.aload 5, 2) := by decide +kernel
theorem dX9_differs_34 : decode cX9_differs 34 = .ok (.iload_n 3, 1) := by decide +kernel
theorem dX9_differs_35 : decode cX9_differs 35 = .ok (.invokevirtual 182, 3) := by decide +kernel
theorem dX9_differs_38 : decode cX9_differs 38 = .ok (.lstore 8, 2) := by decide +kernel
theorem dX9_differs_40 : decode cX9_differs 40 = .ok (.iload 4, 2) := by decide +kernel
theorem dX9_differs_42 : decode cX9_differs 42 = .ok (.ifCond .eq 15, 3) := by decide +kernel
theorem dX9_differs_45 : decode cX9_differs 45 = .ok (.lload 8, 2) := by decide +kernel
theorem dX9_differs_47 : decode cX9_differs 47 = .ok (.lload 6, 2) := by decide +kernel
theorem dX9_differs_49 : decode cX9_differs 49 = .ok (.ldc2_w 186, 3) := by decide +kernel
theorem dX9_differs_52 : decode cX9_differs 52 = .ok (.lxor, 1) := by decide +kernel
theorem dX9_differs_53 : decode cX9_differs 53 = .ok (.land, 1) := by decide +kernel
theorem dX9_differs_54 : decode cX9_differs 54 = .ok (.goto 12, 3) := by decide +kernel
theorem dX9_differs_57 : decode cX9_differs 57 = .ok (.lload 6, 2) := by decide +kernel
theorem dX9_differs_59 : decode cX9_differs 59 = .ok (.lload 8, 2) := by decide +kernel
theorem dX9_differs_61 : decode cX9_differs 61 = .ok (.ldc2_w 186, 3) := by decide +kernel
theorem dX9_differs_64 : decode cX9_differs 64 = .ok (.lxor, 1) := by decide +kernel
theorem dX9_differs_65 : decode cX9_differs 65 = .ok (.land, 1) := by decide +kernel
theorem dX9_differs_66 : decode cX9_differs 66 = .ok (.invokestatic 188, 3) := by decide +kernel
theorem dX9_differs_69 : decode cX9_differs 69 = .ok (.ireturn, 1) := by decide +kernel
theorem dX9_checkNumber_0 : decode cX9_checkNumber 0 = .ok (.aload_n 0, 1) := by decide +kernel
theorem dX9_checkNumber_1 : decode cX9_checkNumber 1 = .ok (.getfield 33, 3) := by decide +kernel
theorem dX9_checkNumber_4 : decode cX9_checkNumber 4 = .ok (.iload_n 1, 1) := by decide +kernel
theorem dX9_checkNumber_5 : decode cX9_checkNumber 5 = .ok (.invokevirtual 148, 3) := by decide +kernel
theorem dX9_checkNumber_8 : decode cX9_checkNumber 8 = .ok (.ifCond .ne 14, 3) := by decide +kernel
theorem dX9_checkNumber_11 : decode cX9_checkNumber 11 = .ok (.new 55, 3) := by decide +kernel
theorem dX9_checkNumber_14 : decode cX9_checkNumber 14 = .ok (.dup, 1) := by decide +kernel
theorem dX9_checkNumber_15 : decode cX9_checkNumber 15 = .ok (.ldc_w 327, 3) := by decide +kernel
theorem dX9_checkNumber_18 : decode cX9_checkNumber 18 = .ok (.invokespecial 59, 3) := by decide +kernel
theorem dX9_checkNumber_21 : decode cX9_checkNumber 21 = .ok (.athrow, 1) := by decide +kernel
theorem dX9_checkNumber_22 : decode cX9_checkNumber 22 = .ok (.return_, 1) := by decide +kernel
theorem dX9_since_0 : decode cX9_since 0 = .ok (.aload_n 0, 1) := by decide +kernel
theorem dX9_since_1 : decode cX9_since 1 = .ok (.iload_n 1, 1) := by decide +kernel
theorem dX9_since_2 : decode cX9_since 2 = .ok (.invokevirtual 122, 3) := by decide +kernel
theorem dX9_since_5 : decode cX9_since 5 = .ok (.getfield 134, 3) := by decide +kernel
theorem dX9_since_8 : decode cX9_since 8 = .ok (.astore_n 3, 1) := by decide +kernel
theorem dX9_since_9 : decode cX9_since 9 = .ok (.aload_n 0, 1) := by decide +kernel
theorem dX9_since_10 : decode cX9_since 10 = .ok (.iload_n 2, 1) := by decide +kernel
theorem dX9_since_11 : decode cX9_since 11 = .ok (.invokevirtual 194, 3) := by decide +kernel
theorem dX9_since_14 : decode cX9_since 14 = .ok (.aload_n 3, 1) := by decide +kernel
theorem dX9_since_15 : decode cX9_since 15 = .ok (.iload_n 2, 1) := by decide +kernel
theorem dX9_since_16 : decode cX9_since 16 = .ok (.invokevirtual 197, 3) := by decide +kernel
theorem dX9_since_19 : decode cX9_since 19 = .ok (.ireturn, 1) := by decide +kernel
theorem dX9_fullest_0 : decode cX9_fullest 0 = .ok (.aload_n 0, 1) := by decide +kernel
theorem dX9_fullest_1 : decode cX9_fullest 1 = .ok (.iload_n 1, 1) := by decide +kernel
theorem dX9_fullest_2 : decode cX9_fullest 2 = .ok (.invokevirtual 122, 3) := by decide +kernel
theorem dX9_fullest_5 : decode cX9_fullest 5 = .ok (.getfield 134, 3) := by decide +kernel
theorem dX9_fullest_8 : decode cX9_fullest 8 = .ok (.invokevirtual 200, 3) := by decide +kernel
theorem dX9_fullest_11 : decode cX9_fullest 11 = .ok (.ireturn, 1) := by decide +kernel
theorem dX9_cursorOf_0 : decode cX9_cursorOf 0 = .ok (.iload_n 1, 1) := by decide +kernel
theorem dX9_cursorOf_1 : decode cX9_cursorOf 1 = .ok (.ifCond .lt 24, 3) := by decide +kernel
theorem dX9_cursorOf_4 : decode cX9_cursorOf 4 = .ok (.iload_n 1, 1) := by decide +kernel
theorem dX9_cursorOf_5 : decode cX9_cursorOf 5 = .ok (.bipush 6, 2) := by decide +kernel
theorem dX9_cursorOf_7 : decode cX9_cursorOf 7 = .ok (.if_icmp .ge 18, 3) := by decide +kernel
theorem dX9_cursorOf_10 : decode cX9_cursorOf 10 = .ok (.aload_n 0, 1) := by decide +kernel
theorem dX9_cursorOf_11 : decode cX9_cursorOf 11 = .ok (.getfield 33, 3) := by decide +kernel
theorem dX9_cursorOf_14 : decode cX9_cursorOf 14 = .ok (.getfield 270, 3) := by decide +kernel
theorem dX9_cursorOf_17 : decode cX9_cursorOf 17 = .ok (.iload_n 1, 1) := by decide +kernel
theorem dX9_cursorOf_18 : decode cX9_cursorOf 18 = .ok (.aaload, 1) := by decide +kernel
theorem dX9_cursorOf_19 : decode cX9_cursorOf 19 = .ok (.getfield 277, 3) := by decide +kernel
theorem dX9_cursorOf_22 : decode cX9_cursorOf 22 = .ok (.ifCond .ne 14, 3) := by decide +kernel
theorem dX9_cursorOf_25 : decode cX9_cursorOf 25 = .ok (.new 320, 3) := by decide +kernel
theorem dX9_cursorOf_28 : decode cX9_cursorOf 28 = .ok (.dup, 1) := by decide +kernel
theorem dX9_cursorOf_29 : decode cX9_cursorOf 29 = .ok (.ldc_w 325, 3) := by decide +kernel
theorem dX9_cursorOf_32 : decode cX9_cursorOf 32 = .ok (.invokespecial 324, 3) := by decide +kernel
theorem dX9_cursorOf_35 : decode cX9_cursorOf 35 = .ok (.athrow, 1) := by decide +kernel
theorem dX9_cursorOf_36 : decode cX9_cursorOf 36 = .ok (.aload_n 0, 1) := by decide +kernel
theorem dX9_cursorOf_37 : decode cX9_cursorOf 37 = .ok (.getfield 33, 3) := by decide +kernel
theorem dX9_cursorOf_40 : decode cX9_cursorOf 40 = .ok (.getfield 270, 3) := by decide +kernel
theorem dX9_cursorOf_43 : decode cX9_cursorOf 43 = .ok (.iload_n 1, 1) := by decide +kernel
theorem dX9_cursorOf_44 : decode cX9_cursorOf 44 = .ok (.aaload, 1) := by decide +kernel
theorem dX9_cursorOf_45 : decode cX9_cursorOf 45 = .ok (.areturn, 1) := by decide +kernel
theorem dX9_cursor_0 : decode cX9_cursor 0 = .ok (.aload_n 0, 1) := by decide +kernel
theorem dX9_cursor_1 : decode cX9_cursor 1 = .ok (.iload_n 1, 1) := by decide +kernel
theorem dX9_cursor_2 : decode cX9_cursor 2 = .ok (.invokevirtual 203, 3) := by decide +kernel
theorem dX9_cursor_5 : decode cX9_cursor 5 = .ok (.astore_n 3, 1) := by decide +kernel
theorem dX9_cursor_6 : decode cX9_cursor 6 = .ok (.iload_n 2, 1) := by decide +kernel
theorem dX9_cursor_7 : decode cX9_cursor 7 = .ok (.tableswitch 92 0 6 #[41, 46, 51, 64, 77, 82, 87], 41) := by decide +kernel
theorem dX9_cursor_48 : decode cX9_cursor 48 = .ok (.aload_n 3, 1) := by decide +kernel
theorem dX9_cursor_49 : decode cX9_cursor 49 = .ok (.getfield 207, 3) := by decide +kernel
theorem dX9_cursor_52 : decode cX9_cursor 52 = .ok (.ireturn, 1) := by decide +kernel
theorem dX9_cursor_53 : decode cX9_cursor 53 = .ok (.aload_n 3, 1) := by decide +kernel
theorem dX9_cursor_54 : decode cX9_cursor 54 = .ok (.getfield 212, 3) := by decide +kernel
theorem dX9_cursor_57 : decode cX9_cursor 57 = .ok (.ireturn, 1) := by decide +kernel
theorem dX9_cursor_58 : decode cX9_cursor 58 = .ok (.aload_n 3, 1) := by decide +kernel
theorem dX9_cursor_59 : decode cX9_cursor 59 = .ok (.getfield 215, 3) := by decide +kernel
theorem dX9_cursor_62 : decode cX9_cursor 62 = .ok (.ifCond .eq 7, 3) := by decide +kernel
theorem dX9_cursor_65 : decode cX9_cursor 65 = .ok (.iconst 1, 1) := by decide +kernel
theorem dX9_cursor_66 : decode cX9_cursor 66 = .ok (.goto 4, 3) := by decide +kernel
theorem dX9_cursor_69 : decode cX9_cursor 69 = .ok (.iconst 0, 1) := by decide +kernel
theorem dX9_cursor_70 : decode cX9_cursor 70 = .ok (.ireturn, 1) := by decide +kernel
theorem dX9_cursor_71 : decode cX9_cursor 71 = .ok (.aload_n 3, 1) := by decide +kernel
theorem dX9_cursor_72 : decode cX9_cursor 72 = .ok (.getfield 219, 3) := by decide +kernel
theorem dX9_cursor_75 : decode cX9_cursor 75 = .ok (.ifCond .eq 7, 3) := by decide +kernel
theorem dX9_cursor_78 : decode cX9_cursor 78 = .ok (.iconst 1, 1) := by decide +kernel
theorem dX9_cursor_79 : decode cX9_cursor 79 = .ok (.goto 4, 3) := by decide +kernel
theorem dX9_cursor_82 : decode cX9_cursor 82 = .ok (.iconst 0, 1) := by decide +kernel
theorem dX9_cursor_83 : decode cX9_cursor 83 = .ok (.ireturn, 1) := by decide +kernel
theorem dX9_cursor_84 : decode cX9_cursor 84 = .ok (.aload_n 3, 1) := by decide +kernel
theorem dX9_cursor_85 : decode cX9_cursor 85 = .ok (.getfield 222, 3) := by decide +kernel
theorem dX9_cursor_88 : decode cX9_cursor 88 = .ok (.ireturn, 1) := by decide +kernel
theorem dX9_cursor_89 : decode cX9_cursor 89 = .ok (.aload_n 3, 1) := by decide +kernel
theorem dX9_cursor_90 : decode cX9_cursor 90 = .ok (.getfield 225, 3) := by decide +kernel
theorem dX9_cursor_93 : decode cX9_cursor 93 = .ok (.ireturn, 1) := by decide +kernel
theorem dX9_cursor_94 : decode cX9_cursor 94 = .ok (.aload_n 3, 1) := by decide +kernel
theorem dX9_cursor_95 : decode cX9_cursor 95 = .ok (.getfield 228, 3) := by decide +kernel
theorem dX9_cursor_98 : decode cX9_cursor 98 = .ok (.ireturn, 1) := by decide +kernel
theorem dX9_cursor_99 : decode cX9_cursor 99 = .ok (.new 55, 3) := by decide +kernel
theorem dX9_cursor_102 : decode cX9_cursor 102 = .ok (.dup, 1) := by decide +kernel
theorem dX9_cursor_103 : decode cX9_cursor 103 = .ok (.ldc 109, 2) := by decide +kernel
theorem dX9_cursor_105 : decode cX9_cursor 105 = .ok (.invokespecial 59, 3) := by decide +kernel
theorem dX9_cursor_108 : decode cX9_cursor 108 = .ok (.athrow, 1) := by decide +kernel
theorem dX9_ahead_0 : decode cX9_ahead 0 = .ok (.aload_n 0, 1) := by decide +kernel
theorem dX9_ahead_1 : decode cX9_ahead 1 = .ok (.getfield 33, 3) := by decide +kernel
theorem dX9_ahead_4 : decode cX9_ahead 4 = .ok (.aload_n 0, 1) := by decide +kernel
theorem dX9_ahead_5 : decode cX9_ahead 5 = .ok (.iload_n 1, 1) := by decide +kernel
theorem dX9_ahead_6 : decode cX9_ahead 6 = .ok (.invokevirtual 203, 3) := by decide +kernel
theorem dX9_ahead_9 : decode cX9_ahead 9 = .ok (.invokevirtual 231, 3) := by decide +kernel
theorem dX9_ahead_12 : decode cX9_ahead 12 = .ok (.ireturn, 1) := by decide +kernel
theorem dX9_common_0 : decode cX9_common 0 = .ok (.aload_n 0, 1) := by decide +kernel
theorem dX9_common_1 : decode cX9_common 1 = .ok (.iload_n 1, 1) := by decide +kernel
theorem dX9_common_2 : decode cX9_common 2 = .ok (.invokevirtual 122, 3) := by decide +kernel
theorem dX9_common_5 : decode cX9_common 5 = .ok (.invokevirtual 235, 3) := by decide +kernel
theorem dX9_common_8 : decode cX9_common 8 = .ok (.lstore_n 3, 1) := by decide +kernel
theorem dX9_common_9 : decode cX9_common 9 = .ok (.lload_n 3, 1) := by decide +kernel
theorem dX9_common_10 : decode cX9_common 10 = .ok (.aload_n 0, 1) := by decide +kernel
theorem dX9_common_11 : decode cX9_common 11 = .ok (.iload_n 2, 1) := by decide +kernel
theorem dX9_common_12 : decode cX9_common 12 = .ok (.invokevirtual 122, 3) := by decide +kernel
theorem dX9_common_15 : decode cX9_common 15 = .ok (.invokevirtual 235, 3) := by decide +kernel
theorem dX9_common_18 : decode cX9_common 18 = .ok (.land, 1) := by decide +kernel
theorem dX9_common_19 : decode cX9_common 19 = .ok (.invokestatic 188, 3) := by decide +kernel
theorem dX9_common_22 : decode cX9_common 22 = .ok (.ireturn, 1) := by decide +kernel
theorem dX9_isWithin_0 : decode cX9_isWithin 0 = .ok (.aload_n 0, 1) := by decide +kernel
theorem dX9_isWithin_1 : decode cX9_isWithin 1 = .ok (.iload_n 1, 1) := by decide +kernel
theorem dX9_isWithin_2 : decode cX9_isWithin 2 = .ok (.invokevirtual 122, 3) := by decide +kernel
theorem dX9_isWithin_5 : decode cX9_isWithin 5 = .ok (.invokevirtual 235, 3) := by decide +kernel
theorem dX9_isWithin_8 : decode cX9_isWithin 8 = .ok (.lstore_n 3, 1) := by decide +kernel
theorem dX9_isWithin_9 : decode cX9_isWithin 9 = .ok (.lload_n 3, 1) := by decide +kernel
theorem dX9_isWithin_10 : decode cX9_isWithin 10 = .ok (.aload_n 0, 1) := by decide +kernel
theorem dX9_isWithin_11 : decode cX9_isWithin 11 = .ok (.iload_n 2, 1) := by decide +kernel
theorem dX9_isWithin_12 : decode cX9_isWithin 12 = .ok (.invokevirtual 122, 3) := by decide +kernel
theorem dX9_isWithin_15 : decode cX9_isWithin 15 = .ok (.invokevirtual 235, 3) := by decide +kernel
theorem dX9_isWithin_18 : decode cX9_isWithin 18 = .ok (.ldc2_w 186, 3) := by decide +kernel
theorem dX9_isWithin_21 : decode cX9_isWithin 21 = .ok (.lxor, 1) := by decide +kernel
theorem dX9_isWithin_22 : decode cX9_isWithin 22 = .ok (.land, 1) := by decide +kernel
theorem dX9_isWithin_23 : decode cX9_isWithin 23 = .ok (.lconst 0, 1) := by decide +kernel
theorem dX9_isWithin_24 : decode cX9_isWithin 24 = .ok (.lcmp, 1) := by decide +kernel
theorem dX9_isWithin_25 : decode cX9_isWithin 25 = .ok (.ifCond .ne 7, 3) := by decide +kernel
theorem dX9_isWithin_28 : decode cX9_isWithin 28 = .ok (.iconst 1, 1) := by decide +kernel
theorem dX9_isWithin_29 : decode cX9_isWithin 29 = .ok (.goto 4, 3) := by decide +kernel
theorem dX9_isWithin_32 : decode cX9_isWithin 32 = .ok (.iconst 0, 1) := by decide +kernel
theorem dX9_isWithin_33 : decode cX9_isWithin 33 = .ok (.ireturn, 1) := by decide +kernel
theorem dX9_likeness_0 : decode cX9_likeness 0 = .ok (.aload_n 0, 1) := by decide +kernel
theorem dX9_likeness_1 : decode cX9_likeness 1 = .ok (.iload_n 1, 1) := by decide +kernel
theorem dX9_likeness_2 : decode cX9_likeness 2 = .ok (.invokevirtual 122, 3) := by decide +kernel
theorem dX9_likeness_5 : decode cX9_likeness 5 = .ok (.invokevirtual 235, 3) := by decide +kernel
theorem dX9_likeness_8 : decode cX9_likeness 8 = .ok (.lstore_n 3, 1) := by decide +kernel
theorem dX9_likeness_9 : decode cX9_likeness 9 = .ok (.aload_n 0, 1) := by decide +kernel
theorem dX9_likeness_10 : decode cX9_likeness 10 = .ok (.iload_n 2, 1) := by decide +kernel
theorem dX9_likeness_11 : decode cX9_likeness 11 = .ok (.invokevirtual 122, 3) := by decide +kernel
theorem dX9_likeness_14 : decode cX9_likeness 14 = .ok (.invokevirtual 235, 3) := by decide +kernel
theorem dX9_likeness_17 : decode cX9_likeness 17 = .ok (.lstore 5, 2) := by decide +kernel
theorem dX9_likeness_19 : decode cX9_likeness 19 = .ok (.lload_n 3, 1) := by decide +kernel
theorem dX9_likeness_20 : decode cX9_likeness 20 = .ok (.lload 5, 2) := by decide +kernel
theorem dX9_likeness_22 : decode cX9_likeness 22 = .ok (.lor, 1) := by decide +kernel
theorem dX9_likeness_23 : decode cX9_likeness 23 = .ok (.invokestatic 188, 3) := by decide +kernel
theorem dX9_likeness_26 : decode cX9_likeness 26 = .ok (.istore 7, 2) := by decide +kernel
theorem dX9_likeness_28 : decode cX9_likeness 28 = .ok (.iload 7, 2) := by decide +kernel
theorem dX9_likeness_30 : decode cX9_likeness 30 = .ok (.ifCond .ne 5, 3) := by decide +kernel
theorem dX9_likeness_33 : decode cX9_likeness 33 = .ok (.dconst 1, 1) := by decide +kernel
theorem dX9_likeness_34 : decode cX9_likeness 34 = .ok (.dreturn, 1) := by decide +kernel
theorem dX9_likeness_35 : decode cX9_likeness 35 = .ok (.lload_n 3, 1) := by decide +kernel
theorem dX9_likeness_36 : decode cX9_likeness 36 = .ok (.lload 5, 2) := by decide +kernel
theorem dX9_likeness_38 : decode cX9_likeness 38 = .ok (.land, 1) := by decide +kernel
theorem dX9_likeness_39 : decode cX9_likeness 39 = .ok (.invokestatic 188, 3) := by decide +kernel
theorem dX9_likeness_42 : decode cX9_likeness 42 = .ok (.i2d, 1) := by decide +kernel
theorem dX9_likeness_43 : decode cX9_likeness 43 = .ok (.iload 7, 2) := by decide +kernel
theorem dX9_likeness_45 : decode cX9_likeness 45 = .ok (.i2d, 1) := by decide +kernel
theorem dX9_likeness_46 : decode cX9_likeness 46 = .ok (.ddiv, 1) := by decide +kernel
theorem dX9_likeness_47 : decode cX9_likeness 47 = .ok (.dreturn, 1) := by decide +kernel
theorem dX9_add_0 : decode cX9_add 0 = .ok (.aload_n 0, 1) := by decide +kernel
theorem dX9_add_1 : decode cX9_add 1 = .ok (.iload_n 1, 1) := by decide +kernel
theorem dX9_add_2 : decode cX9_add 2 = .ok (.invokevirtual 122, 3) := by decide +kernel
theorem dX9_add_5 : decode cX9_add 5 = .ok (.astore_n 3, 1) := by decide +kernel
theorem dX9_add_6 : decode cX9_add 6 = .ok (.aload_n 0, 1) := by decide +kernel
theorem dX9_add_7 : decode cX9_add 7 = .ok (.iload_n 2, 1) := by decide +kernel
theorem dX9_add_8 : decode cX9_add 8 = .ok (.invokevirtual 194, 3) := by decide +kernel
theorem dX9_add_11 : decode cX9_add 11 = .ok (.aload_n 0, 1) := by decide +kernel
theorem dX9_add_12 : decode cX9_add 12 = .ok (.getfield 19, 3) := by decide +kernel
theorem dX9_add_15 : decode cX9_add 15 = .ok (.aload_n 0, 1) := by decide +kernel
theorem dX9_add_16 : decode cX9_add 16 = .ok (.getfield 33, 3) := by decide +kernel
theorem dX9_add_19 : decode cX9_add 19 = .ok (.invokevirtual 239, 3) := by decide +kernel
theorem dX9_add_22 : decode cX9_add 22 = .ok (.aload_n 0, 1) := by decide +kernel
theorem dX9_add_23 : decode cX9_add 23 = .ok (.getfield 33, 3) := by decide +kernel
theorem dX9_add_26 : decode cX9_add 26 = .ok (.aload_n 3, 1) := by decide +kernel
theorem dX9_add_27 : decode cX9_add 27 = .ok (.iload_n 2, 1) := by decide +kernel
theorem dX9_add_28 : decode cX9_add 28 = .ok (.invokevirtual 243, 3) := by decide +kernel
theorem dX9_add_31 : decode cX9_add 31 = .ok (.pop, 1) := by decide +kernel
theorem dX9_add_32 : decode cX9_add 32 = .ok (.aload_n 3, 1) := by decide +kernel
theorem dX9_add_33 : decode cX9_add 33 = .ok (.iload_n 2, 1) := by decide +kernel
theorem dX9_add_34 : decode cX9_add 34 = .ok (.invokevirtual 160, 3) := by decide +kernel
theorem dX9_add_37 : decode cX9_add 37 = .ok (.ireturn, 1) := by decide +kernel
theorem dX9_remove_0 : decode cX9_remove 0 = .ok (.aload_n 0, 1) := by decide +kernel
theorem dX9_remove_1 : decode cX9_remove 1 = .ok (.iload_n 1, 1) := by decide +kernel
theorem dX9_remove_2 : decode cX9_remove 2 = .ok (.invokevirtual 247, 3) := by decide +kernel
theorem dX9_remove_5 : decode cX9_remove 5 = .ok (.aload_n 0, 1) := by decide +kernel
theorem dX9_remove_6 : decode cX9_remove 6 = .ok (.iload_n 2, 1) := by decide +kernel
theorem dX9_remove_7 : decode cX9_remove 7 = .ok (.invokevirtual 194, 3) := by decide +kernel
theorem dX9_remove_10 : decode cX9_remove 10 = .ok (.aload_n 0, 1) := by decide +kernel
theorem dX9_remove_11 : decode cX9_remove 11 = .ok (.getfield 19, 3) := by decide +kernel
theorem dX9_remove_14 : decode cX9_remove 14 = .ok (.aload_n 0, 1) := by decide +kernel
theorem dX9_remove_15 : decode cX9_remove 15 = .ok (.getfield 33, 3) := by decide +kernel
theorem dX9_remove_18 : decode cX9_remove 18 = .ok (.invokevirtual 239, 3) := by decide +kernel
theorem dX9_remove_21 : decode cX9_remove 21 = .ok (.aload_n 0, 1) := by decide +kernel
theorem dX9_remove_22 : decode cX9_remove 22 = .ok (.getfield 33, 3) := by decide +kernel
theorem dX9_remove_25 : decode cX9_remove 25 = .ok (.iload_n 1, 1) := by decide +kernel
theorem dX9_remove_26 : decode cX9_remove 26 = .ok (.iload_n 2, 1) := by decide +kernel
theorem dX9_remove_27 : decode cX9_remove 27 = .ok (.invokevirtual 250, 3) := by decide +kernel
theorem dX9_remove_30 : decode cX9_remove 30 = .ok (.ireturn, 1) := by decide +kernel
theorem dX9_clear_0 : decode cX9_clear 0 = .ok (.aload_n 0, 1) := by decide +kernel
theorem dX9_clear_1 : decode cX9_clear 1 = .ok (.iload_n 1, 1) := by decide +kernel
theorem dX9_clear_2 : decode cX9_clear 2 = .ok (.invokevirtual 122, 3) := by decide +kernel
theorem dX9_clear_5 : decode cX9_clear 5 = .ok (.getfield 126, 3) := by decide +kernel
theorem dX9_clear_8 : decode cX9_clear 8 = .ok (.istore_n 2, 1) := by decide +kernel
theorem dX9_clear_9 : decode cX9_clear 9 = .ok (.aload_n 0, 1) := by decide +kernel
theorem dX9_clear_10 : decode cX9_clear 10 = .ok (.getfield 19, 3) := by decide +kernel
theorem dX9_clear_13 : decode cX9_clear 13 = .ok (.aload_n 0, 1) := by decide +kernel
theorem dX9_clear_14 : decode cX9_clear 14 = .ok (.getfield 33, 3) := by decide +kernel
theorem dX9_clear_17 : decode cX9_clear 17 = .ok (.invokevirtual 239, 3) := by decide +kernel
theorem dX9_clear_20 : decode cX9_clear 20 = .ok (.aload_n 0, 1) := by decide +kernel
theorem dX9_clear_21 : decode cX9_clear 21 = .ok (.getfield 33, 3) := by decide +kernel
theorem dX9_clear_24 : decode cX9_clear 24 = .ok (.iload_n 1, 1) := by decide +kernel
theorem dX9_clear_25 : decode cX9_clear 25 = .ok (.invokevirtual 254, 3) := by decide +kernel
theorem dX9_clear_28 : decode cX9_clear 28 = .ok (.iload_n 2, 1) := by decide +kernel
theorem dX9_clear_29 : decode cX9_clear 29 = .ok (.ireturn, 1) := by decide +kernel
theorem dX9_mark_0 : decode cX9_mark 0 = .ok (.aload_n 0, 1) := by decide +kernel
theorem dX9_mark_1 : decode cX9_mark 1 = .ok (.getfield 33, 3) := by decide +kernel
theorem dX9_mark_4 : decode cX9_mark 4 = .ok (.getfield 96, 3) := by decide +kernel
theorem dX9_mark_7 : decode cX9_mark 7 = .ok (.bipush 8, 2) := by decide +kernel
theorem dX9_mark_9 : decode cX9_mark 9 = .ok (.if_icmp .lt 14, 3) := by decide +kernel
theorem dX9_mark_12 : decode cX9_mark 12 = .ok (.new 257, 3) := by decide +kernel
theorem dX9_mark_15 : decode cX9_mark 15 = .ok (.dup, 1) := by decide +kernel
theorem dX9_mark_16 : decode cX9_mark 16 = .ok (.ldc_w 259, 3) := by decide +kernel
theorem dX9_mark_19 : decode cX9_mark 19 = .ok (.invokespecial 261, 3) := by decide +kernel
theorem dX9_mark_22 : decode cX9_mark 22 = .ok (.athrow, 1) := by decide +kernel
theorem dX9_mark_23 : decode cX9_mark 23 = .ok (.aload_n 0, 1) := by decide +kernel
theorem dX9_mark_24 : decode cX9_mark 24 = .ok (.getfield 19, 3) := by decide +kernel
theorem dX9_mark_27 : decode cX9_mark 27 = .ok (.aload_n 0, 1) := by decide +kernel
theorem dX9_mark_28 : decode cX9_mark 28 = .ok (.getfield 33, 3) := by decide +kernel
theorem dX9_mark_31 : decode cX9_mark 31 = .ok (.invokevirtual 239, 3) := by decide +kernel
theorem dX9_mark_34 : decode cX9_mark 34 = .ok (.aload_n 0, 1) := by decide +kernel
theorem dX9_mark_35 : decode cX9_mark 35 = .ok (.getfield 33, 3) := by decide +kernel
theorem dX9_mark_38 : decode cX9_mark 38 = .ok (.invokevirtual 262, 3) := by decide +kernel
theorem dX9_mark_41 : decode cX9_mark 41 = .ok (.aload_n 0, 1) := by decide +kernel
theorem dX9_mark_42 : decode cX9_mark 42 = .ok (.getfield 33, 3) := by decide +kernel
theorem dX9_mark_45 : decode cX9_mark 45 = .ok (.getfield 96, 3) := by decide +kernel
theorem dX9_mark_48 : decode cX9_mark 48 = .ok (.iconst 1, 1) := by decide +kernel
theorem dX9_mark_49 : decode cX9_mark 49 = .ok (.isub, 1) := by decide +kernel
theorem dX9_mark_50 : decode cX9_mark 50 = .ok (.ireturn, 1) := by decide +kernel
theorem dX9_open_0 : decode cX9_open 0 = .ok (.aload_n 0, 1) := by decide +kernel
theorem dX9_open_1 : decode cX9_open 1 = .ok (.iload_n 1, 1) := by decide +kernel
theorem dX9_open_2 : decode cX9_open 2 = .ok (.invokevirtual 247, 3) := by decide +kernel
theorem dX9_open_5 : decode cX9_open 5 = .ok (.aload_n 0, 1) := by decide +kernel
theorem dX9_open_6 : decode cX9_open 6 = .ok (.getfield 33, 3) := by decide +kernel
theorem dX9_open_9 : decode cX9_open 9 = .ok (.invokevirtual 265, 3) := by decide +kernel
theorem dX9_open_12 : decode cX9_open 12 = .ok (.istore_n 3, 1) := by decide +kernel
theorem dX9_open_13 : decode cX9_open 13 = .ok (.iload_n 3, 1) := by decide +kernel
theorem dX9_open_14 : decode cX9_open 14 = .ok (.iconst (-1), 1) := by decide +kernel
theorem dX9_open_15 : decode cX9_open 15 = .ok (.if_icmp .ne 14, 3) := by decide +kernel
theorem dX9_open_18 : decode cX9_open 18 = .ok (.new 257, 3) := by decide +kernel
theorem dX9_open_21 : decode cX9_open 21 = .ok (.dup, 1) := by decide +kernel
theorem dX9_open_22 : decode cX9_open 22 = .ok (.ldc_w 268, 3) := by decide +kernel
theorem dX9_open_25 : decode cX9_open 25 = .ok (.invokespecial 261, 3) := by decide +kernel
theorem dX9_open_28 : decode cX9_open 28 = .ok (.athrow, 1) := by decide +kernel
theorem dX9_open_29 : decode cX9_open 29 = .ok (.aload_n 0, 1) := by decide +kernel
theorem dX9_open_30 : decode cX9_open 30 = .ok (.getfield 19, 3) := by decide +kernel
theorem dX9_open_33 : decode cX9_open 33 = .ok (.aload_n 0, 1) := by decide +kernel
theorem dX9_open_34 : decode cX9_open 34 = .ok (.getfield 33, 3) := by decide +kernel
theorem dX9_open_37 : decode cX9_open 37 = .ok (.invokevirtual 239, 3) := by decide +kernel
theorem dX9_open_40 : decode cX9_open 40 = .ok (.aload_n 0, 1) := by decide +kernel
theorem dX9_open_41 : decode cX9_open 41 = .ok (.getfield 33, 3) := by decide +kernel
theorem dX9_open_44 : decode cX9_open 44 = .ok (.getfield 270, 3) := by decide +kernel
theorem dX9_open_47 : decode cX9_open 47 = .ok (.iload_n 3, 1) := by decide +kernel
theorem dX9_open_48 : decode cX9_open 48 = .ok (.aaload, 1) := by decide +kernel
theorem dX9_open_49 : decode cX9_open 49 = .ok (.iload_n 1, 1) := by decide +kernel
theorem dX9_open_50 : decode cX9_open 50 = .ok (.iload_n 2, 1) := by decide +kernel
theorem dX9_open_51 : decode cX9_open 51 = .ok (.aload_n 0, 1) := by decide +kernel
theorem dX9_open_52 : decode cX9_open 52 = .ok (.getfield 33, 3) := by decide +kernel
theorem dX9_open_55 : decode cX9_open 55 = .ok (.getfield 93, 3) := by decide +kernel
theorem dX9_open_58 : decode cX9_open 58 = .ok (.invokevirtual 274, 3) := by decide +kernel
theorem dX9_open_61 : decode cX9_open 61 = .ok (.iload_n 3, 1) := by decide +kernel
theorem dX9_open_62 : decode cX9_open 62 = .ok (.ireturn, 1) := by decide +kernel
theorem dX9_close_0 : decode cX9_close 0 = .ok (.aload_n 0, 1) := by decide +kernel
theorem dX9_close_1 : decode cX9_close 1 = .ok (.iload_n 1, 1) := by decide +kernel
theorem dX9_close_2 : decode cX9_close 2 = .ok (.invokevirtual 203, 3) := by decide +kernel
theorem dX9_close_5 : decode cX9_close 5 = .ok (.astore_n 2, 1) := by decide +kernel
theorem dX9_close_6 : decode cX9_close 6 = .ok (.aload_n 0, 1) := by decide +kernel
theorem dX9_close_7 : decode cX9_close 7 = .ok (.getfield 19, 3) := by decide +kernel
theorem dX9_close_10 : decode cX9_close 10 = .ok (.aload_n 0, 1) := by decide +kernel
theorem dX9_close_11 : decode cX9_close 11 = .ok (.getfield 33, 3) := by decide +kernel
theorem dX9_close_14 : decode cX9_close 14 = .ok (.invokevirtual 239, 3) := by decide +kernel
theorem dX9_close_17 : decode cX9_close 17 = .ok (.aload_n 2, 1) := by decide +kernel
theorem dX9_close_18 : decode cX9_close 18 = .ok (.iconst 0, 1) := by decide +kernel
theorem dX9_close_19 : decode cX9_close 19 = .ok (.putfield 277, 3) := by decide +kernel
theorem dX9_close_22 : decode cX9_close 22 = .ok (.aload_n 2, 1) := by decide +kernel
theorem dX9_close_23 : decode cX9_close 23 = .ok (.iconst 0, 1) := by decide +kernel
theorem dX9_close_24 : decode cX9_close 24 = .ok (.putfield 215, 3) := by decide +kernel
theorem dX9_close_27 : decode cX9_close 27 = .ok (.aload_n 2, 1) := by decide +kernel
theorem dX9_close_28 : decode cX9_close 28 = .ok (.getfield 225, 3) := by decide +kernel
theorem dX9_close_31 : decode cX9_close 31 = .ok (.ireturn, 1) := by decide +kernel
theorem dX9_step_0 : decode cX9_step 0 = .ok (.aload_n 0, 1) := by decide +kernel
theorem dX9_step_1 : decode cX9_step 1 = .ok (.iload_n 1, 1) := by decide +kernel
theorem dX9_step_2 : decode cX9_step 2 = .ok (.invokevirtual 203, 3) := by decide +kernel
theorem dX9_step_5 : decode cX9_step 5 = .ok (.astore_n 2, 1) := by decide +kernel
theorem dX9_step_6 : decode cX9_step 6 = .ok (.aload_n 0, 1) := by decide +kernel
theorem dX9_step_7 : decode cX9_step 7 = .ok (.getfield 19, 3) := by decide +kernel
theorem dX9_step_10 : decode cX9_step 10 = .ok (.aload_n 0, 1) := by decide +kernel
theorem dX9_step_11 : decode cX9_step 11 = .ok (.getfield 33, 3) := by decide +kernel
theorem dX9_step_14 : decode cX9_step 14 = .ok (.invokevirtual 239, 3) := by decide +kernel
theorem dX9_step_17 : decode cX9_step 17 = .ok (.aload_n 2, 1) := by decide +kernel
theorem dX9_step_18 : decode cX9_step 18 = .ok (.getfield 215, 3) := by decide +kernel
theorem dX9_step_21 : decode cX9_step 21 = .ok (.ifCond .eq 14, 3) := by decide +kernel
theorem dX9_step_24 : decode cX9_step 24 = .ok (.aload_n 0, 1) := by decide +kernel
theorem dX9_step_25 : decode cX9_step 25 = .ok (.getfield 33, 3) := by decide +kernel
theorem dX9_step_28 : decode cX9_step 28 = .ok (.aload_n 2, 1) := by decide +kernel
theorem dX9_step_29 : decode cX9_step 29 = .ok (.invokevirtual 280, 3) := by decide +kernel
theorem dX9_step_32 : decode cX9_step 32 = .ok (.goto 4, 3) := by decide +kernel
theorem dX9_step_35 : decode cX9_step 35 = .ok (.iconst (-1), 1) := by decide +kernel
theorem dX9_step_36 : decode cX9_step 36 = .ok (.ireturn, 1) := by decide +kernel
theorem dX9_removeMet_0 : decode cX9_removeMet 0 = .ok (.aload_n 0, 1) := by decide +kernel
theorem dX9_removeMet_1 : decode cX9_removeMet 1 = .ok (.iload_n 1, 1) := by decide +kernel
theorem dX9_removeMet_2 : decode cX9_removeMet 2 = .ok (.invokevirtual 203, 3) := by decide +kernel
theorem dX9_removeMet_5 : decode cX9_removeMet 5 = .ok (.astore_n 2, 1) := by decide +kernel
theorem dX9_removeMet_6 : decode cX9_removeMet 6 = .ok (.aload_n 2, 1) := by decide +kernel
theorem dX9_removeMet_7 : decode cX9_removeMet 7 = .ok (.getfield 228, 3) := by decide +kernel
theorem dX9_removeMet_10 : decode cX9_removeMet 10 = .ok (.istore_n 3, 1) := by decide +kernel
theorem dX9_removeMet_11 : decode cX9_removeMet 11 = .ok (.aload_n 2, 1) := by decide +kernel
theorem dX9_removeMet_12 : decode cX9_removeMet 12 = .ok (.getfield 215, 3) := by decide +kernel
theorem dX9_removeMet_15 : decode cX9_removeMet 15 = .ok (.ifCond .eq 22, 3) := by decide +kernel
theorem dX9_removeMet_18 : decode cX9_removeMet 18 = .ok (.aload_n 0, 1) := by decide +kernel
theorem dX9_removeMet_19 : decode cX9_removeMet 19 = .ok (.getfield 33, 3) := by decide +kernel
theorem dX9_removeMet_22 : decode cX9_removeMet 22 = .ok (.getfield 283, 3) := by decide +kernel
theorem dX9_removeMet_25 : decode cX9_removeMet 25 = .ok (.aload_n 2, 1) := by decide +kernel
theorem dX9_removeMet_26 : decode cX9_removeMet 26 = .ok (.getfield 207, 3) := by decide +kernel
theorem dX9_removeMet_29 : decode cX9_removeMet 29 = .ok (.aaload, 1) := by decide +kernel
theorem dX9_removeMet_30 : decode cX9_removeMet 30 = .ok (.iload_n 3, 1) := by decide +kernel
theorem dX9_removeMet_31 : decode cX9_removeMet 31 = .ok (.invokevirtual 163, 3) := by decide +kernel
theorem dX9_removeMet_34 : decode cX9_removeMet 34 = .ok (.ifCond .ne 14, 3) := by decide +kernel
theorem dX9_removeMet_37 : decode cX9_removeMet 37 = .ok (.new 257, 3) := by decide +kernel
theorem dX9_removeMet_40 : decode cX9_removeMet 40 = .ok (.dup, 1) := by decide +kernel
theorem dX9_removeMet_41 : decode cX9_removeMet 41 = .ok (.ldc_w 287, 3) := by decide +kernel
theorem dX9_removeMet_44 : decode cX9_removeMet 44 = .ok (.invokespecial 261, 3) := by decide +kernel
theorem dX9_removeMet_47 : decode cX9_removeMet 47 = .ok (.athrow, 1) := by decide +kernel
theorem dX9_removeMet_48 : decode cX9_removeMet 48 = .ok (.aload_n 0, 1) := by decide +kernel
theorem dX9_removeMet_49 : decode cX9_removeMet 49 = .ok (.getfield 19, 3) := by decide +kernel
theorem dX9_removeMet_52 : decode cX9_removeMet 52 = .ok (.aload_n 0, 1) := by decide +kernel
theorem dX9_removeMet_53 : decode cX9_removeMet 53 = .ok (.getfield 33, 3) := by decide +kernel
theorem dX9_removeMet_56 : decode cX9_removeMet 56 = .ok (.invokevirtual 239, 3) := by decide +kernel
theorem dX9_removeMet_59 : decode cX9_removeMet 59 = .ok (.aload_n 0, 1) := by decide +kernel
theorem dX9_removeMet_60 : decode cX9_removeMet 60 = .ok (.getfield 33, 3) := by decide +kernel
theorem dX9_removeMet_63 : decode cX9_removeMet 63 = .ok (.aload_n 2, 1) := by decide +kernel
theorem dX9_removeMet_64 : decode cX9_removeMet 64 = .ok (.getfield 207, 3) := by decide +kernel
theorem dX9_removeMet_67 : decode cX9_removeMet 67 = .ok (.iload_n 3, 1) := by decide +kernel
theorem dX9_removeMet_68 : decode cX9_removeMet 68 = .ok (.invokevirtual 250, 3) := by decide +kernel
theorem dX9_removeMet_71 : decode cX9_removeMet 71 = .ok (.pop, 1) := by decide +kernel
theorem dX9_removeMet_72 : decode cX9_removeMet 72 = .ok (.iload_n 3, 1) := by decide +kernel
theorem dX9_removeMet_73 : decode cX9_removeMet 73 = .ok (.ireturn, 1) := by decide +kernel
theorem dX9_keep_0 : decode cX9_keep 0 = .ok (.aload_n 0, 1) := by decide +kernel
theorem dX9_keep_1 : decode cX9_keep 1 = .ok (.iload_n 1, 1) := by decide +kernel
theorem dX9_keep_2 : decode cX9_keep 2 = .ok (.invokevirtual 247, 3) := by decide +kernel
theorem dX9_keep_5 : decode cX9_keep 5 = .ok (.aload_n 0, 1) := by decide +kernel
theorem dX9_keep_6 : decode cX9_keep 6 = .ok (.iload_n 2, 1) := by decide +kernel
theorem dX9_keep_7 : decode cX9_keep 7 = .ok (.invokevirtual 247, 3) := by decide +kernel
theorem dX9_keep_10 : decode cX9_keep 10 = .ok (.aload_n 0, 1) := by decide +kernel
theorem dX9_keep_11 : decode cX9_keep 11 = .ok (.getfield 19, 3) := by decide +kernel
theorem dX9_keep_14 : decode cX9_keep 14 = .ok (.aload_n 0, 1) := by decide +kernel
theorem dX9_keep_15 : decode cX9_keep 15 = .ok (.getfield 33, 3) := by decide +kernel
theorem dX9_keep_18 : decode cX9_keep 18 = .ok (.invokevirtual 239, 3) := by decide +kernel
theorem dX9_keep_21 : decode cX9_keep 21 = .ok (.aload_n 0, 1) := by decide +kernel
theorem dX9_keep_22 : decode cX9_keep 22 = .ok (.getfield 33, 3) := by decide +kernel
theorem dX9_keep_25 : decode cX9_keep 25 = .ok (.iload_n 1, 1) := by decide +kernel
theorem dX9_keep_26 : decode cX9_keep 26 = .ok (.iload_n 2, 1) := by decide +kernel
theorem dX9_keep_27 : decode cX9_keep 27 = .ok (.invokevirtual 289, 3) := by decide +kernel
theorem dX9_keep_30 : decode cX9_keep 30 = .ok (.ireturn, 1) := by decide +kernel
theorem dX9_unite_0 : decode cX9_unite 0 = .ok (.aload_n 0, 1) := by decide +kernel
theorem dX9_unite_1 : decode cX9_unite 1 = .ok (.iload_n 1, 1) := by decide +kernel
theorem dX9_unite_2 : decode cX9_unite 2 = .ok (.invokevirtual 247, 3) := by decide +kernel
theorem dX9_unite_5 : decode cX9_unite 5 = .ok (.aload_n 0, 1) := by decide +kernel
theorem dX9_unite_6 : decode cX9_unite 6 = .ok (.iload_n 2, 1) := by decide +kernel
theorem dX9_unite_7 : decode cX9_unite 7 = .ok (.invokevirtual 247, 3) := by decide +kernel
theorem dX9_unite_10 : decode cX9_unite 10 = .ok (.aload_n 0, 1) := by decide +kernel
theorem dX9_unite_11 : decode cX9_unite 11 = .ok (.getfield 19, 3) := by decide +kernel
theorem dX9_unite_14 : decode cX9_unite 14 = .ok (.aload_n 0, 1) := by decide +kernel
theorem dX9_unite_15 : decode cX9_unite 15 = .ok (.getfield 33, 3) := by decide +kernel
theorem dX9_unite_18 : decode cX9_unite 18 = .ok (.invokevirtual 239, 3) := by decide +kernel
theorem dX9_unite_21 : decode cX9_unite 21 = .ok (.aload_n 0, 1) := by decide +kernel
theorem dX9_unite_22 : decode cX9_unite 22 = .ok (.getfield 33, 3) := by decide +kernel
theorem dX9_unite_25 : decode cX9_unite 25 = .ok (.iload_n 1, 1) := by decide +kernel
theorem dX9_unite_26 : decode cX9_unite 26 = .ok (.iload_n 2, 1) := by decide +kernel
theorem dX9_unite_27 : decode cX9_unite 27 = .ok (.invokevirtual 293, 3) := by decide +kernel
theorem dX9_unite_30 : decode cX9_unite 30 = .ok (.ireturn, 1) := by decide +kernel
theorem dX10_init_0 : decode cX10_init 0 = .ok (.aload_n 0, 1) := by decide +kernel
theorem dX10_init_1 : decode cX10_init 1 = .ok (.invokespecial 1, 3) := by decide +kernel
theorem dX10_init_4 : decode cX10_init 4 = .ok (.aload_n 0, 1) := by decide +kernel
theorem dX10_init_5 : decode cX10_init 5 = .ok (.bipush 64, 2) := by decide +kernel
theorem dX10_init_7 : decode cX10_init 7 = .ok (.newarray .int, 2) := by decide +kernel
theorem dX10_init_9 : decode cX10_init 9 = .ok (.putfield 7, 3) := by decide +kernel
theorem dX10_init_12 : decode cX10_init 12 = .ok (.aload_n 0, 1) := by decide +kernel
theorem dX10_init_13 : decode cX10_init 13 = .ok (.bipush 64, 2) := by decide +kernel
theorem dX10_init_15 : decode cX10_init 15 = .ok (.newarray .int, 2) := by decide +kernel
theorem dX10_init_17 : decode cX10_init 17 = .ok (.putfield 13, 3) := by decide +kernel
theorem dX10_init_20 : decode cX10_init 20 = .ok (.aload_n 0, 1) := by decide +kernel
theorem dX10_init_21 : decode cX10_init 21 = .ok (.bipush 64, 2) := by decide +kernel
theorem dX10_init_23 : decode cX10_init 23 = .ok (.newarray .int, 2) := by decide +kernel
theorem dX10_init_25 : decode cX10_init 25 = .ok (.putfield 16, 3) := by decide +kernel
theorem dX10_init_28 : decode cX10_init 28 = .ok (.aload_n 0, 1) := by decide +kernel
theorem dX10_init_29 : decode cX10_init 29 = .ok (.sipush 2000, 3) := by decide +kernel
theorem dX10_init_32 : decode cX10_init 32 = .ok (.newarray .int, 2) := by decide +kernel
theorem dX10_init_34 : decode cX10_init 34 = .ok (.putfield 19, 3) := by decide +kernel
theorem dX10_init_37 : decode cX10_init 37 = .ok (.aload_n 0, 1) := by decide +kernel
theorem dX10_init_38 : decode cX10_init 38 = .ok (.sipush 2000, 3) := by decide +kernel
theorem dX10_init_41 : decode cX10_init 41 = .ok (.newarray .int, 2) := by decide +kernel
theorem dX10_init_43 : decode cX10_init 43 = .ok (.putfield 22, 3) := by decide +kernel
theorem dX10_init_46 : decode cX10_init 46 = .ok (.aload_n 0, 1) := by decide +kernel
theorem dX10_init_47 : decode cX10_init 47 = .ok (.sipush 2000, 3) := by decide +kernel
theorem dX10_init_50 : decode cX10_init 50 = .ok (.newarray .int, 2) := by decide +kernel
theorem dX10_init_52 : decode cX10_init 52 = .ok (.putfield 25, 3) := by decide +kernel
theorem dX10_init_55 : decode cX10_init 55 = .ok (.aload_n 0, 1) := by decide +kernel
theorem dX10_init_56 : decode cX10_init 56 = .ok (.sipush 2001, 3) := by decide +kernel
theorem dX10_init_59 : decode cX10_init 59 = .ok (.newarray .long, 2) := by decide +kernel
theorem dX10_init_61 : decode cX10_init 61 = .ok (.putfield 28, 3) := by decide +kernel
theorem dX10_init_64 : decode cX10_init 64 = .ok (.return_, 1) := by decide +kernel
theorem dX10_has_0 : decode cX10_has 0 = .ok (.aload_n 0, 1) := by decide +kernel
theorem dX10_has_1 : decode cX10_has 1 = .ok (.getfield 13, 3) := by decide +kernel
theorem dX10_has_4 : decode cX10_has 4 = .ok (.iload_n 1, 1) := by decide +kernel
theorem dX10_has_5 : decode cX10_has 5 = .ok (.iaload, 1) := by decide +kernel
theorem dX10_has_6 : decode cX10_has 6 = .ok (.aload_n 0, 1) := by decide +kernel
theorem dX10_has_7 : decode cX10_has 7 = .ok (.getfield 32, 3) := by decide +kernel
theorem dX10_has_10 : decode cX10_has 10 = .ok (.if_icmp .ge 22, 3) := by decide +kernel
theorem dX10_has_13 : decode cX10_has 13 = .ok (.aload_n 0, 1) := by decide +kernel
theorem dX10_has_14 : decode cX10_has 14 = .ok (.getfield 7, 3) := by decide +kernel
theorem dX10_has_17 : decode cX10_has 17 = .ok (.aload_n 0, 1) := by decide +kernel
theorem dX10_has_18 : decode cX10_has 18 = .ok (.getfield 13, 3) := by decide +kernel
theorem dX10_has_21 : decode cX10_has 21 = .ok (.iload_n 1, 1) := by decide +kernel
theorem dX10_has_22 : decode cX10_has 22 = .ok (.iaload, 1) := by decide +kernel
theorem dX10_has_23 : decode cX10_has 23 = .ok (.iaload, 1) := by decide +kernel
theorem dX10_has_24 : decode cX10_has 24 = .ok (.iload_n 1, 1) := by decide +kernel
theorem dX10_has_25 : decode cX10_has 25 = .ok (.if_icmp .ne 7, 3) := by decide +kernel
theorem dX10_has_28 : decode cX10_has 28 = .ok (.iconst 1, 1) := by decide +kernel
theorem dX10_has_29 : decode cX10_has 29 = .ok (.goto 4, 3) := by decide +kernel
theorem dX10_has_32 : decode cX10_has 32 = .ok (.iconst 0, 1) := by decide +kernel
theorem dX10_has_33 : decode cX10_has 33 = .ok (.ireturn, 1) := by decide +kernel
theorem dX10_bits_0 : decode cX10_bits 0 = .ok (.lconst 0, 1) := by decide +kernel
theorem dX10_bits_1 : decode cX10_bits 1 = .ok (.lstore_n 1, 1) := by decide +kernel
theorem dX10_bits_2 : decode cX10_bits 2 = .ok (.iconst 0, 1) := by decide +kernel
theorem dX10_bits_3 : decode cX10_bits 3 = .ok (.istore_n 3, 1) := by decide +kernel
theorem dX10_bits_4 : decode cX10_bits 4 = .ok (.iload_n 3, 1) := by decide +kernel
theorem dX10_bits_5 : decode cX10_bits 5 = .ok (.aload_n 0, 1) := by decide +kernel
theorem dX10_bits_6 : decode cX10_bits 6 = .ok (.getfield 32, 3) := by decide +kernel
theorem dX10_bits_9 : decode cX10_bits 9 = .ok (.if_icmp .ge 20, 3) := by decide +kernel
theorem dX10_bits_12 : decode cX10_bits 12 = .ok (.lload_n 1, 1) := by decide +kernel
theorem dX10_bits_13 : decode cX10_bits 13 = .ok (.lconst 1, 1) := by decide +kernel
theorem dX10_bits_14 : decode cX10_bits 14 = .ok (.aload_n 0, 1) := by decide +kernel
theorem dX10_bits_15 : decode cX10_bits 15 = .ok (.getfield 7, 3) := by decide +kernel
theorem dX10_bits_18 : decode cX10_bits 18 = .ok (.iload_n 3, 1) := by decide +kernel
theorem dX10_bits_19 : decode cX10_bits 19 = .ok (.iaload, 1) := by decide +kernel
theorem dX10_bits_20 : decode cX10_bits 20 = .ok (.lshl, 1) := by decide +kernel
theorem dX10_bits_21 : decode cX10_bits 21 = .ok (.lor, 1) := by decide +kernel
theorem dX10_bits_22 : decode cX10_bits 22 = .ok (.lstore_n 1, 1) := by decide +kernel
theorem dX10_bits_23 : decode cX10_bits 23 = .ok (.iinc 3 1, 3) := by decide +kernel
theorem dX10_bits_26 : decode cX10_bits 26 = .ok (.goto (-22), 3) := by decide +kernel
theorem dX10_bits_29 : decode cX10_bits 29 = .ok (.lload_n 1, 1) := by decide +kernel
theorem dX10_bits_30 : decode cX10_bits 30 = .ok (.lreturn, 1) := by decide +kernel
theorem dX10_note_0 : decode cX10_note 0 = .ok (.aload_n 0, 1) := by decide +kernel
theorem dX10_note_1 : decode cX10_note 1 = .ok (.getfield 19, 3) := by decide +kernel
theorem dX10_note_4 : decode cX10_note 4 = .ok (.aload_n 0, 1) := by decide +kernel
theorem dX10_note_5 : decode cX10_note 5 = .ok (.getfield 36, 3) := by decide +kernel
theorem dX10_note_8 : decode cX10_note 8 = .ok (.iload_n 1, 1) := by decide +kernel
theorem dX10_note_9 : decode cX10_note 9 = .ok (.iastore, 1) := by decide +kernel
theorem dX10_note_10 : decode cX10_note 10 = .ok (.aload_n 0, 1) := by decide +kernel
theorem dX10_note_11 : decode cX10_note 11 = .ok (.getfield 22, 3) := by decide +kernel
theorem dX10_note_14 : decode cX10_note 14 = .ok (.aload_n 0, 1) := by decide +kernel
theorem dX10_note_15 : decode cX10_note 15 = .ok (.getfield 36, 3) := by decide +kernel
theorem dX10_note_18 : decode cX10_note 18 = .ok (.iload_n 2, 1) := by decide +kernel
theorem dX10_note_19 : decode cX10_note 19 = .ok (.iastore, 1) := by decide +kernel
theorem dX10_note_20 : decode cX10_note 20 = .ok (.aload_n 0, 1) := by decide +kernel
theorem dX10_note_21 : decode cX10_note 21 = .ok (.getfield 25, 3) := by decide +kernel
theorem dX10_note_24 : decode cX10_note 24 = .ok (.aload_n 0, 1) := by decide +kernel
theorem dX10_note_25 : decode cX10_note 25 = .ok (.getfield 36, 3) := by decide +kernel
theorem dX10_note_28 : decode cX10_note 28 = .ok (.iload_n 3, 1) := by decide +kernel
theorem dX10_note_29 : decode cX10_note 29 = .ok (.iastore, 1) := by decide +kernel
theorem dX10_note_30 : decode cX10_note 30 = .ok (.aload_n 0, 1) := by decide +kernel
theorem dX10_note_31 : decode cX10_note 31 = .ok (.dup, 1) := by decide +kernel
theorem dX10_note_32 : decode cX10_note 32 = .ok (.getfield 36, 3) := by decide +kernel
theorem dX10_note_35 : decode cX10_note 35 = .ok (.iconst 1, 1) := by decide +kernel
theorem dX10_note_36 : decode cX10_note 36 = .ok (.iadd, 1) := by decide +kernel
theorem dX10_note_37 : decode cX10_note 37 = .ok (.putfield 36, 3) := by decide +kernel
theorem dX10_note_40 : decode cX10_note 40 = .ok (.aload_n 0, 1) := by decide +kernel
theorem dX10_note_41 : decode cX10_note 41 = .ok (.getfield 28, 3) := by decide +kernel
theorem dX10_note_44 : decode cX10_note 44 = .ok (.aload_n 0, 1) := by decide +kernel
theorem dX10_note_45 : decode cX10_note 45 = .ok (.getfield 36, 3) := by decide +kernel
theorem dX10_note_48 : decode cX10_note 48 = .ok (.aload_n 0, 1) := by decide +kernel
theorem dX10_note_49 : decode cX10_note 49 = .ok (.invokevirtual 39, 3) := by decide +kernel
theorem dX10_note_52 : decode cX10_note 52 = .ok (.lastore, 1) := by decide +kernel
theorem dX10_note_53 : decode cX10_note 53 = .ok (.return_, 1) := by decide +kernel
theorem dX10_kept_0 : decode cX10_kept 0 = .ok (.aload_n 0, 1) := by decide +kernel
theorem dX10_kept_1 : decode cX10_kept 1 = .ok (.getfield 36, 3) := by decide +kernel
theorem dX10_kept_4 : decode cX10_kept 4 = .ok (.iload_n 1, 1) := by decide +kernel
theorem dX10_kept_5 : decode cX10_kept 5 = .ok (.invokestatic 43, 3) := by decide +kernel
theorem dX10_kept_8 : decode cX10_kept 8 = .ok (.ireturn, 1) := by decide +kernel
theorem dX10_first_0 : decode cX10_first 0 = .ok (.aload_n 0, 1) := by decide +kernel
theorem dX10_first_1 : decode cX10_first 1 = .ok (.getfield 36, 3) := by decide +kernel
theorem dX10_first_4 : decode cX10_first 4 = .ok (.iload_n 1, 1) := by decide +kernel
theorem dX10_first_5 : decode cX10_first 5 = .ok (.if_icmp .le 19, 3) := by decide +kernel
theorem dX10_first_8 : decode cX10_first 8 = .ok (.aload_n 0, 1) := by decide +kernel
theorem dX10_first_9 : decode cX10_first 9 = .ok (.getfield 19, 3) := by decide +kernel
theorem dX10_first_12 : decode cX10_first 12 = .ok (.aload_n 0, 1) := by decide +kernel
theorem dX10_first_13 : decode cX10_first 13 = .ok (.getfield 36, 3) := by decide +kernel
theorem dX10_first_16 : decode cX10_first 16 = .ok (.iload_n 1, 1) := by decide +kernel
theorem dX10_first_17 : decode cX10_first 17 = .ok (.isub, 1) := by decide +kernel
theorem dX10_first_18 : decode cX10_first 18 = .ok (.iconst 1, 1) := by decide +kernel
theorem dX10_first_19 : decode cX10_first 19 = .ok (.isub, 1) := by decide +kernel
theorem dX10_first_20 : decode cX10_first 20 = .ok (.iaload, 1) := by decide +kernel
theorem dX10_first_21 : decode cX10_first 21 = .ok (.goto 4, 3) := by decide +kernel
theorem dX10_first_24 : decode cX10_first 24 = .ok (.iconst 0, 1) := by decide +kernel
theorem dX10_first_25 : decode cX10_first 25 = .ok (.ireturn, 1) := by decide +kernel
theorem dX10_at_0 : decode cX10_at 0 = .ok (.aload_n 0, 1) := by decide +kernel
theorem dX10_at_1 : decode cX10_at 1 = .ok (.getfield 36, 3) := by decide +kernel
theorem dX10_at_4 : decode cX10_at 4 = .ok (.istore_n 2, 1) := by decide +kernel
theorem dX10_at_5 : decode cX10_at 5 = .ok (.iload_n 2, 1) := by decide +kernel
theorem dX10_at_6 : decode cX10_at 6 = .ok (.ifCond .le 21, 3) := by decide +kernel
theorem dX10_at_9 : decode cX10_at 9 = .ok (.aload_n 0, 1) := by decide +kernel
theorem dX10_at_10 : decode cX10_at 10 = .ok (.getfield 19, 3) := by decide +kernel
theorem dX10_at_13 : decode cX10_at 13 = .ok (.iload_n 2, 1) := by decide +kernel
theorem dX10_at_14 : decode cX10_at 14 = .ok (.iconst 1, 1) := by decide +kernel
theorem dX10_at_15 : decode cX10_at 15 = .ok (.isub, 1) := by decide +kernel
theorem dX10_at_16 : decode cX10_at 16 = .ok (.iaload, 1) := by decide +kernel
theorem dX10_at_17 : decode cX10_at 17 = .ok (.iload_n 1, 1) := by decide +kernel
theorem dX10_at_18 : decode cX10_at 18 = .ok (.if_icmp .le 9, 3) := by decide +kernel
theorem dX10_at_21 : decode cX10_at 21 = .ok (.iinc 2 (-1), 3) := by decide +kernel
theorem dX10_at_24 : decode cX10_at 24 = .ok (.goto (-19), 3) := by decide +kernel
theorem dX10_at_27 : decode cX10_at 27 = .ok (.aload_n 0, 1) := by decide +kernel
theorem dX10_at_28 : decode cX10_at 28 = .ok (.getfield 28, 3) := by decide +kernel
theorem dX10_at_31 : decode cX10_at 31 = .ok (.iload_n 2, 1) := by decide +kernel
theorem dX10_at_32 : decode cX10_at 32 = .ok (.laload, 1) := by decide +kernel
theorem dX10_at_33 : decode cX10_at 33 = .ok (.lreturn, 1) := by decide +kernel
theorem dX11_init_0 : decode cX11_init 0 = .ok (.aload_n 0, 1) := by decide +kernel
theorem dX11_init_1 : decode cX11_init 1 = .ok (.invokespecial 1, 3) := by decide +kernel
theorem dX11_init_4 : decode cX11_init 4 = .ok (.aload_n 0, 1) := by decide +kernel
theorem dX11_init_5 : decode cX11_init 5 = .ok (.iconst (-1), 1) := by decide +kernel
theorem dX11_init_6 : decode cX11_init 6 = .ok (.putfield 7, 3) := by decide +kernel
theorem dX11_init_9 : decode cX11_init 9 = .ok (.aload_n 0, 1) := by decide +kernel
theorem dX11_init_10 : decode cX11_init 10 = .ok (.iconst 1, 1) := by decide +kernel
theorem dX11_init_11 : decode cX11_init 11 = .ok (.putfield 13, 3) := by decide +kernel
theorem dX11_init_14 : decode cX11_init 14 = .ok (.return_, 1) := by decide +kernel
theorem dX11_meets_0 : decode cX11_meets 0 = .ok (.aload_n 0, 1) := by decide +kernel
theorem dX11_meets_1 : decode cX11_meets 1 = .ok (.getfield 17, 3) := by decide +kernel
theorem dX11_meets_4 : decode cX11_meets 4 = .ok (.ifCond .eq 19, 3) := by decide +kernel
theorem dX11_meets_7 : decode cX11_meets 7 = .ok (.aload_n 0, 1) := by decide +kernel
theorem dX11_meets_8 : decode cX11_meets 8 = .ok (.getfield 20, 3) := by decide +kernel
theorem dX11_meets_11 : decode cX11_meets 11 = .ok (.getfield 24, 3) := by decide +kernel
theorem dX11_meets_14 : decode cX11_meets 14 = .ok (.iload_n 1, 1) := by decide +kernel
theorem dX11_meets_15 : decode cX11_meets 15 = .ok (.iaload, 1) := by decide +kernel
theorem dX11_meets_16 : decode cX11_meets 16 = .ok (.aload_n 0, 1) := by decide +kernel
theorem dX11_meets_17 : decode cX11_meets 17 = .ok (.getfield 30, 3) := by decide +kernel
theorem dX11_meets_20 : decode cX11_meets 20 = .ok (.if_icmp .gt 7, 3) := by decide +kernel
theorem dX11_meets_23 : decode cX11_meets 23 = .ok (.iconst 1, 1) := by decide +kernel
theorem dX11_meets_24 : decode cX11_meets 24 = .ok (.goto 4, 3) := by decide +kernel
theorem dX11_meets_27 : decode cX11_meets 27 = .ok (.iconst 0, 1) := by decide +kernel
theorem dX11_meets_28 : decode cX11_meets 28 = .ok (.ireturn, 1) := by decide +kernel
theorem dX12_init_0 : decode cX12_init 0 = .ok (.aload_n 0, 1) := by decide +kernel
theorem dX12_init_1 : decode cX12_init 1 = .ok (.invokespecial 1, 3) := by decide +kernel
theorem dX12_init_4 : decode cX12_init 4 = .ok (.aload_n 0, 1) := by decide +kernel
theorem dX12_init_5 : decode cX12_init 5 = .ok (.iconst 5, 1) := by decide +kernel
theorem dX12_init_6 : decode cX12_init 6 = .ok (.anewarray 7, 3) := by decide +kernel
theorem dX12_init_9 : decode cX12_init 9 = .ok (.dup, 1) := by decide +kernel
theorem dX12_init_10 : decode cX12_init 10 = .ok (.iconst 0, 1) := by decide +kernel
theorem dX12_init_11 : decode cX12_init 11 = .ok (.new 7, 3) := by decide +kernel
theorem dX12_init_14 : decode cX12_init 14 = .ok (.dup, 1) := by decide +kernel
theorem dX12_init_15 : decode cX12_init 15 = .ok (.invokespecial 9, 3) := by decide +kernel
theorem dX12_init_18 : decode cX12_init 18 = .ok (.aastore, 1) := by decide +kernel
theorem dX12_init_19 : decode cX12_init 19 = .ok (.dup, 1) := by decide +kernel
theorem dX12_init_20 : decode cX12_init 20 = .ok (.iconst 1, 1) := by decide +kernel
theorem dX12_init_21 : decode cX12_init 21 = .ok (.new 7, 3) := by decide +kernel
theorem dX12_init_24 : decode cX12_init 24 = .ok (.dup, 1) := by decide +kernel
theorem dX12_init_25 : decode cX12_init 25 = .ok (.invokespecial 9, 3) := by decide +kernel
theorem dX12_init_28 : decode cX12_init 28 = .ok (.aastore, 1) := by decide +kernel
theorem dX12_init_29 : decode cX12_init 29 = .ok (.dup, 1) := by decide +kernel
theorem dX12_init_30 : decode cX12_init 30 = .ok (.iconst 2, 1) := by decide +kernel
theorem dX12_init_31 : decode cX12_init 31 = .ok (.new 7, 3) := by decide +kernel
theorem dX12_init_34 : decode cX12_init 34 = .ok (.dup, 1) := by decide +kernel
theorem dX12_init_35 : decode cX12_init 35 = .ok (.invokespecial 9, 3) := by decide +kernel
theorem dX12_init_38 : decode cX12_init 38 = .ok (.aastore, 1) := by decide +kernel
theorem dX12_init_39 : decode cX12_init 39 = .ok (.dup, 1) := by decide +kernel
theorem dX12_init_40 : decode cX12_init 40 = .ok (.iconst 3, 1) := by decide +kernel
theorem dX12_init_41 : decode cX12_init 41 = .ok (.new 7, 3) := by decide +kernel
theorem dX12_init_44 : decode cX12_init 44 = .ok (.dup, 1) := by decide +kernel
theorem dX12_init_45 : decode cX12_init 45 = .ok (.invokespecial 9, 3) := by decide +kernel
theorem dX12_init_48 : decode cX12_init 48 = .ok (.aastore, 1) := by decide +kernel
theorem dX12_init_49 : decode cX12_init 49 = .ok (.dup, 1) := by decide +kernel
theorem dX12_init_50 : decode cX12_init 50 = .ok (.iconst 4, 1) := by decide +kernel
theorem dX12_init_51 : decode cX12_init 51 = .ok (.new 7, 3) := by decide +kernel
theorem dX12_init_54 : decode cX12_init 54 = .ok (.dup, 1) := by decide +kernel
theorem dX12_init_55 : decode cX12_init 55 = .ok (.invokespecial 9, 3) := by decide +kernel
theorem dX12_init_58 : decode cX12_init 58 = .ok (.aastore, 1) := by decide +kernel
theorem dX12_init_59 : decode cX12_init 59 = .ok (.putfield 10, 3) := by decide +kernel
theorem dX12_init_62 : decode cX12_init 62 = .ok (.aload_n 0, 1) := by decide +kernel
theorem dX12_init_63 : decode cX12_init 63 = .ok (.bipush 6, 2) := by decide +kernel
theorem dX12_init_65 : decode cX12_init 65 = .ok (.anewarray 16, 3) := by decide +kernel
theorem dX12_init_68 : decode cX12_init 68 = .ok (.putfield 18, 3) := by decide +kernel
theorem dX12_init_71 : decode cX12_init 71 = .ok (.aload_n 0, 1) := by decide +kernel
theorem dX12_init_72 : decode cX12_init 72 = .ok (.bipush 8, 2) := by decide +kernel
theorem dX12_init_74 : decode cX12_init 74 = .ok (.newarray .int, 2) := by decide +kernel
theorem dX12_init_76 : decode cX12_init 76 = .ok (.putfield 22, 3) := by decide +kernel
theorem dX12_init_79 : decode cX12_init 79 = .ok (.return_, 1) := by decide +kernel
theorem dX12_put_0 : decode cX12_put 0 = .ok (.aload_n 1, 1) := by decide +kernel
theorem dX12_put_1 : decode cX12_put 1 = .ok (.getfield 26, 3) := by decide +kernel
theorem dX12_put_4 : decode cX12_put 4 = .ok (.iload_n 3, 1) := by decide +kernel
theorem dX12_put_5 : decode cX12_put 5 = .ok (.iload_n 2, 1) := by decide +kernel
theorem dX12_put_6 : decode cX12_put 6 = .ok (.iastore, 1) := by decide +kernel
theorem dX12_put_7 : decode cX12_put 7 = .ok (.aload_n 1, 1) := by decide +kernel
theorem dX12_put_8 : decode cX12_put 8 = .ok (.getfield 29, 3) := by decide +kernel
theorem dX12_put_11 : decode cX12_put 11 = .ok (.iload_n 2, 1) := by decide +kernel
theorem dX12_put_12 : decode cX12_put 12 = .ok (.iload_n 3, 1) := by decide +kernel
theorem dX12_put_13 : decode cX12_put 13 = .ok (.iastore, 1) := by decide +kernel
theorem dX12_put_14 : decode cX12_put 14 = .ok (.aload_n 0, 1) := by decide +kernel
theorem dX12_put_15 : decode cX12_put 15 = .ok (.dup, 1) := by decide +kernel
theorem dX12_put_16 : decode cX12_put 16 = .ok (.getfield 32, 3) := by decide +kernel
theorem dX12_put_19 : decode cX12_put 19 = .ok (.iconst 2, 1) := by decide +kernel
theorem dX12_put_20 : decode cX12_put 20 = .ok (.iadd, 1) := by decide +kernel
theorem dX12_put_21 : decode cX12_put 21 = .ok (.putfield 32, 3) := by decide +kernel
theorem dX12_put_24 : decode cX12_put 24 = .ok (.return_, 1) := by decide +kernel
theorem dX12_add_0 : decode cX12_add 0 = .ok (.aload_n 1, 1) := by decide +kernel
theorem dX12_add_1 : decode cX12_add 1 = .ok (.iload_n 2, 1) := by decide +kernel
theorem dX12_add_2 : decode cX12_add 2 = .ok (.invokevirtual 36, 3) := by decide +kernel
theorem dX12_add_5 : decode cX12_add 5 = .ok (.ifCond .eq 4, 3) := by decide +kernel
theorem dX12_add_8 : decode cX12_add 8 = .ok (.return_, 1) := by decide +kernel
theorem dX12_add_9 : decode cX12_add 9 = .ok (.aload_n 0, 1) := by decide +kernel
theorem dX12_add_10 : decode cX12_add 10 = .ok (.aload_n 1, 1) := by decide +kernel
theorem dX12_add_11 : decode cX12_add 11 = .ok (.iload_n 2, 1) := by decide +kernel
theorem dX12_add_12 : decode cX12_add 12 = .ok (.aload_n 1, 1) := by decide +kernel
theorem dX12_add_13 : decode cX12_add 13 = .ok (.getfield 40, 3) := by decide +kernel
theorem dX12_add_16 : decode cX12_add 16 = .ok (.invokevirtual 43, 3) := by decide +kernel
theorem dX12_add_19 : decode cX12_add 19 = .ok (.aload_n 1, 1) := by decide +kernel
theorem dX12_add_20 : decode cX12_add 20 = .ok (.dup, 1) := by decide +kernel
theorem dX12_add_21 : decode cX12_add 21 = .ok (.getfield 40, 3) := by decide +kernel
theorem dX12_add_24 : decode cX12_add 24 = .ok (.iconst 1, 1) := by decide +kernel
theorem dX12_add_25 : decode cX12_add 25 = .ok (.iadd, 1) := by decide +kernel
theorem dX12_add_26 : decode cX12_add 26 = .ok (.putfield 40, 3) := by decide +kernel
theorem dX12_add_29 : decode cX12_add 29 = .ok (.aload_n 0, 1) := by decide +kernel
theorem dX12_add_30 : decode cX12_add 30 = .ok (.dup, 1) := by decide +kernel
theorem dX12_add_31 : decode cX12_add 31 = .ok (.getfield 47, 3) := by decide +kernel
theorem dX12_add_34 : decode cX12_add 34 = .ok (.iconst 1, 1) := by decide +kernel
theorem dX12_add_35 : decode cX12_add 35 = .ok (.iadd, 1) := by decide +kernel
theorem dX12_add_36 : decode cX12_add 36 = .ok (.putfield 47, 3) := by decide +kernel
theorem dX12_add_39 : decode cX12_add 39 = .ok (.aload_n 1, 1) := by decide +kernel
theorem dX12_add_40 : decode cX12_add 40 = .ok (.getfield 50, 3) := by decide +kernel
theorem dX12_add_43 : decode cX12_add 43 = .ok (.iload_n 2, 1) := by decide +kernel
theorem dX12_add_44 : decode cX12_add 44 = .ok (.aload_n 0, 1) := by decide +kernel
theorem dX12_add_45 : decode cX12_add 45 = .ok (.getfield 47, 3) := by decide +kernel
theorem dX12_add_48 : decode cX12_add 48 = .ok (.iastore, 1) := by decide +kernel
theorem dX12_add_49 : decode cX12_add 49 = .ok (.aload_n 1, 1) := by decide +kernel
theorem dX12_add_50 : decode cX12_add 50 = .ok (.aload_n 0, 1) := by decide +kernel
theorem dX12_add_51 : decode cX12_add 51 = .ok (.getfield 47, 3) := by decide +kernel
theorem dX12_add_54 : decode cX12_add 54 = .ok (.iload_n 2, 1) := by decide +kernel
theorem dX12_add_55 : decode cX12_add 55 = .ok (.iconst 0, 1) := by decide +kernel
theorem dX12_add_56 : decode cX12_add 56 = .ok (.invokevirtual 53, 3) := by decide +kernel
theorem dX12_add_59 : decode cX12_add 59 = .ok (.return_, 1) := by decide +kernel
theorem dX12_remove_0 : decode cX12_remove 0 = .ok (.aload_n 1, 1) := by decide +kernel
theorem dX12_remove_1 : decode cX12_remove 1 = .ok (.iload_n 2, 1) := by decide +kernel
theorem dX12_remove_2 : decode cX12_remove 2 = .ok (.invokevirtual 36, 3) := by decide +kernel
theorem dX12_remove_5 : decode cX12_remove 5 = .ok (.ifCond .ne 5, 3) := by decide +kernel
theorem dX12_remove_8 : decode cX12_remove 8 = .ok (.iconst 0, 1) := by decide +kernel
theorem dX12_remove_9 : decode cX12_remove 9 = .ok (.ireturn, 1) := by decide +kernel
theorem dX12_remove_10 : decode cX12_remove 10 = .ok (.aload_n 1, 1) := by decide +kernel
theorem dX12_remove_11 : decode cX12_remove 11 = .ok (.getfield 29, 3) := by decide +kernel
theorem dX12_remove_14 : decode cX12_remove 14 = .ok (.iload_n 2, 1) := by decide +kernel
theorem dX12_remove_15 : decode cX12_remove 15 = .ok (.iaload, 1) := by decide +kernel
theorem dX12_remove_16 : decode cX12_remove 16 = .ok (.istore_n 3, 1) := by decide +kernel
theorem dX12_remove_17 : decode cX12_remove 17 = .ok (.bipush 6, 2) := by decide +kernel
theorem dX12_remove_19 : decode cX12_remove 19 = .ok (.newarray .boolean, 2) := by decide +kernel
theorem dX12_remove_21 : decode cX12_remove 21 = .ok (.astore 4, 2) := by decide +kernel
theorem dX12_remove_23 : decode cX12_remove 23 = .ok (.iconst 0, 1) := by decide +kernel
theorem dX12_remove_24 : decode cX12_remove 24 = .ok (.istore 5, 2) := by decide +kernel
theorem dX12_remove_26 : decode cX12_remove 26 = .ok (.iload 5, 2) := by decide +kernel
theorem dX12_remove_28 : decode cX12_remove 28 = .ok (.bipush 6, 2) := by decide +kernel
theorem dX12_remove_30 : decode cX12_remove 30 = .ok (.if_icmp .ge 192, 3) := by decide +kernel
theorem dX12_remove_33 : decode cX12_remove 33 = .ok (.iconst (-1), 1) := by decide +kernel
theorem dX12_remove_34 : decode cX12_remove 34 = .ok (.istore 6, 2) := by decide +kernel
theorem dX12_remove_36 : decode cX12_remove 36 = .ok (.iconst 5, 1) := by decide +kernel
theorem dX12_remove_37 : decode cX12_remove 37 = .ok (.istore 7, 2) := by decide +kernel
theorem dX12_remove_39 : decode cX12_remove 39 = .ok (.iload 7, 2) := by decide +kernel
theorem dX12_remove_41 : decode cX12_remove 41 = .ok (.ifCond .lt 98, 3) := by decide +kernel
theorem dX12_remove_44 : decode cX12_remove 44 = .ok (.aload_n 0, 1) := by decide +kernel
theorem dX12_remove_45 : decode cX12_remove 45 = .ok (.getfield 18, 3) := by decide +kernel
theorem dX12_remove_48 : decode cX12_remove 48 = .ok (.iload 7, 2) := by decide +kernel
theorem dX12_remove_50 : decode cX12_remove 50 = .ok (.aaload, 1) := by decide +kernel
theorem dX12_remove_51 : decode cX12_remove 51 = .ok (.ifnull 42, 3) := by decide +kernel
theorem dX12_remove_54 : decode cX12_remove 54 = .ok (.aload_n 0, 1) := by decide +kernel
theorem dX12_remove_55 : decode cX12_remove 55 = .ok (.getfield 18, 3) := by decide +kernel
theorem dX12_remove_58 : decode cX12_remove 58 = .ok (.iload 7, 2) := by decide +kernel
theorem dX12_remove_60 : decode cX12_remove 60 = .ok (.aaload, 1) := by decide +kernel
theorem dX12_remove_61 : decode cX12_remove 61 = .ok (.getfield 57, 3) := by decide +kernel
theorem dX12_remove_64 : decode cX12_remove 64 = .ok (.ifCond .eq 29, 3) := by decide +kernel
theorem dX12_remove_67 : decode cX12_remove 67 = .ok (.aload_n 0, 1) := by decide +kernel
theorem dX12_remove_68 : decode cX12_remove 68 = .ok (.getfield 18, 3) := by decide +kernel
theorem dX12_remove_71 : decode cX12_remove 71 = .ok (.iload 7, 2) := by decide +kernel
theorem dX12_remove_73 : decode cX12_remove 73 = .ok (.aaload, 1) := by decide +kernel
theorem dX12_remove_74 : decode cX12_remove 74 = .ok (.getfield 61, 3) := by decide +kernel
theorem dX12_remove_77 : decode cX12_remove 77 = .ok (.aload_n 1, 1) := by decide +kernel
theorem dX12_remove_78 : decode cX12_remove 78 = .ok (.if_acmp .ne 15, 3) := by decide +kernel
theorem dX12_remove_81 : decode cX12_remove 81 = .ok (.aload 4, 2) := by decide +kernel
theorem dX12_remove_83 : decode cX12_remove 83 = .ok (.iload 7, 2) := by decide +kernel
theorem dX12_remove_85 : decode cX12_remove 85 = .ok (.baload, 1) := by decide +kernel
theorem dX12_remove_86 : decode cX12_remove 86 = .ok (.ifCond .ne 7, 3) := by decide +kernel
theorem dX12_remove_89 : decode cX12_remove 89 = .ok (.iconst 1, 1) := by decide +kernel
theorem dX12_remove_90 : decode cX12_remove 90 = .ok (.goto 4, 3) := by decide +kernel
theorem dX12_remove_93 : decode cX12_remove 93 = .ok (.iconst 0, 1) := by decide +kernel
theorem dX12_remove_94 : decode cX12_remove 94 = .ok (.istore 8, 2) := by decide +kernel
theorem dX12_remove_96 : decode cX12_remove 96 = .ok (.iload 8, 2) := by decide +kernel
theorem dX12_remove_98 : decode cX12_remove 98 = .ok (.ifCond .eq 35, 3) := by decide +kernel
theorem dX12_remove_101 : decode cX12_remove 101 = .ok (.iload 6, 2) := by decide +kernel
theorem dX12_remove_103 : decode cX12_remove 103 = .ok (.ifCond .lt 26, 3) := by decide +kernel
theorem dX12_remove_106 : decode cX12_remove 106 = .ok (.aload_n 0, 1) := by decide +kernel
theorem dX12_remove_107 : decode cX12_remove 107 = .ok (.getfield 18, 3) := by decide +kernel
theorem dX12_remove_110 : decode cX12_remove 110 = .ok (.iload 7, 2) := by decide +kernel
theorem dX12_remove_112 : decode cX12_remove 112 = .ok (.aaload, 1) := by decide +kernel
theorem dX12_remove_113 : decode cX12_remove 113 = .ok (.getfield 65, 3) := by decide +kernel
theorem dX12_remove_116 : decode cX12_remove 116 = .ok (.aload_n 0, 1) := by decide +kernel
theorem dX12_remove_117 : decode cX12_remove 117 = .ok (.getfield 18, 3) := by decide +kernel
theorem dX12_remove_120 : decode cX12_remove 120 = .ok (.iload 6, 2) := by decide +kernel
theorem dX12_remove_122 : decode cX12_remove 122 = .ok (.aaload, 1) := by decide +kernel
theorem dX12_remove_123 : decode cX12_remove 123 = .ok (.getfield 65, 3) := by decide +kernel
theorem dX12_remove_126 : decode cX12_remove 126 = .ok (.if_icmp .gt 7, 3) := by decide +kernel
theorem dX12_remove_129 : decode cX12_remove 129 = .ok (.iload 7, 2) := by decide +kernel
theorem dX12_remove_131 : decode cX12_remove 131 = .ok (.istore 6, 2) := by decide +kernel
theorem dX12_remove_133 : decode cX12_remove 133 = .ok (.iinc 7 (-1), 3) := by decide +kernel
theorem dX12_remove_136 : decode cX12_remove 136 = .ok (.goto (-97), 3) := by decide +kernel
theorem dX12_remove_139 : decode cX12_remove 139 = .ok (.iload 6, 2) := by decide +kernel
theorem dX12_remove_141 : decode cX12_remove 141 = .ok (.ifCond .ge 6, 3) := by decide +kernel
theorem dX12_remove_144 : decode cX12_remove 144 = .ok (.goto 78, 3) := by decide +kernel
theorem dX12_remove_147 : decode cX12_remove 147 = .ok (.aload 4, 2) := by decide +kernel
theorem dX12_remove_149 : decode cX12_remove 149 = .ok (.iload 6, 2) := by decide +kernel
theorem dX12_remove_151 : decode cX12_remove 151 = .ok (.iconst 1, 1) := by decide +kernel
theorem dX12_remove_152 : decode cX12_remove 152 = .ok (.bastore, 1) := by decide +kernel
theorem dX12_remove_153 : decode cX12_remove 153 = .ok (.aload_n 0, 1) := by decide +kernel
theorem dX12_remove_154 : decode cX12_remove 154 = .ok (.getfield 18, 3) := by decide +kernel
theorem dX12_remove_157 : decode cX12_remove 157 = .ok (.iload 6, 2) := by decide +kernel
theorem dX12_remove_159 : decode cX12_remove 159 = .ok (.aaload, 1) := by decide +kernel
theorem dX12_remove_160 : decode cX12_remove 160 = .ok (.astore 7, 2) := by decide +kernel
theorem dX12_remove_162 : decode cX12_remove 162 = .ok (.aload 7, 2) := by decide +kernel
theorem dX12_remove_164 : decode cX12_remove 164 = .ok (.getfield 65, 3) := by decide +kernel
theorem dX12_remove_167 : decode cX12_remove 167 = .ok (.iload_n 3, 1) := by decide +kernel
theorem dX12_remove_168 : decode cX12_remove 168 = .ok (.if_icmp .gt 6, 3) := by decide +kernel
theorem dX12_remove_171 : decode cX12_remove 171 = .ok (.goto 45, 3) := by decide +kernel
theorem dX12_remove_174 : decode cX12_remove 174 = .ok (.aload 7, 2) := by decide +kernel
theorem dX12_remove_176 : decode cX12_remove 176 = .ok (.dup, 1) := by decide +kernel
theorem dX12_remove_177 : decode cX12_remove 177 = .ok (.getfield 65, 3) := by decide +kernel
theorem dX12_remove_180 : decode cX12_remove 180 = .ok (.iconst 1, 1) := by decide +kernel
theorem dX12_remove_181 : decode cX12_remove 181 = .ok (.isub, 1) := by decide +kernel
theorem dX12_remove_182 : decode cX12_remove 182 = .ok (.putfield 65, 3) := by decide +kernel
theorem dX12_remove_185 : decode cX12_remove 185 = .ok (.aload 7, 2) := by decide +kernel
theorem dX12_remove_187 : decode cX12_remove 187 = .ok (.getfield 65, 3) := by decide +kernel
theorem dX12_remove_190 : decode cX12_remove 190 = .ok (.iload_n 3, 1) := by decide +kernel
theorem dX12_remove_191 : decode cX12_remove 191 = .ok (.if_icmp .eq 19, 3) := by decide +kernel
theorem dX12_remove_194 : decode cX12_remove 194 = .ok (.aload_n 0, 1) := by decide +kernel
theorem dX12_remove_195 : decode cX12_remove 195 = .ok (.aload_n 1, 1) := by decide +kernel
theorem dX12_remove_196 : decode cX12_remove 196 = .ok (.aload_n 1, 1) := by decide +kernel
theorem dX12_remove_197 : decode cX12_remove 197 = .ok (.getfield 26, 3) := by decide +kernel
theorem dX12_remove_200 : decode cX12_remove 200 = .ok (.aload 7, 2) := by decide +kernel
theorem dX12_remove_202 : decode cX12_remove 202 = .ok (.getfield 65, 3) := by decide +kernel
theorem dX12_remove_205 : decode cX12_remove 205 = .ok (.iaload, 1) := by decide +kernel
theorem dX12_remove_206 : decode cX12_remove 206 = .ok (.iload_n 3, 1) := by decide +kernel
theorem dX12_remove_207 : decode cX12_remove 207 = .ok (.invokevirtual 43, 3) := by decide +kernel
theorem dX12_remove_210 : decode cX12_remove 210 = .ok (.aload 7, 2) := by decide +kernel
theorem dX12_remove_212 : decode cX12_remove 212 = .ok (.getfield 65, 3) := by decide +kernel
theorem dX12_remove_215 : decode cX12_remove 215 = .ok (.istore_n 3, 1) := by decide +kernel
theorem dX12_remove_216 : decode cX12_remove 216 = .ok (.iinc 5 1, 3) := by decide +kernel
theorem dX12_remove_219 : decode cX12_remove 219 = .ok (.goto (-193), 3) := by decide +kernel
theorem dX12_remove_222 : decode cX12_remove 222 = .ok (.aload_n 1, 1) := by decide +kernel
theorem dX12_remove_223 : decode cX12_remove 223 = .ok (.dup, 1) := by decide +kernel
theorem dX12_remove_224 : decode cX12_remove 224 = .ok (.getfield 40, 3) := by decide +kernel
theorem dX12_remove_227 : decode cX12_remove 227 = .ok (.iconst 1, 1) := by decide +kernel
theorem dX12_remove_228 : decode cX12_remove 228 = .ok (.isub, 1) := by decide +kernel
theorem dX12_remove_229 : decode cX12_remove 229 = .ok (.putfield 40, 3) := by decide +kernel
theorem dX12_remove_232 : decode cX12_remove 232 = .ok (.aload_n 1, 1) := by decide +kernel
theorem dX12_remove_233 : decode cX12_remove 233 = .ok (.getfield 40, 3) := by decide +kernel
theorem dX12_remove_236 : decode cX12_remove 236 = .ok (.iload_n 3, 1) := by decide +kernel
theorem dX12_remove_237 : decode cX12_remove 237 = .ok (.if_icmp .eq 18, 3) := by decide +kernel
theorem dX12_remove_240 : decode cX12_remove 240 = .ok (.aload_n 0, 1) := by decide +kernel
theorem dX12_remove_241 : decode cX12_remove 241 = .ok (.aload_n 1, 1) := by decide +kernel
theorem dX12_remove_242 : decode cX12_remove 242 = .ok (.aload_n 1, 1) := by decide +kernel
theorem dX12_remove_243 : decode cX12_remove 243 = .ok (.getfield 26, 3) := by decide +kernel
theorem dX12_remove_246 : decode cX12_remove 246 = .ok (.aload_n 1, 1) := by decide +kernel
theorem dX12_remove_247 : decode cX12_remove 247 = .ok (.getfield 40, 3) := by decide +kernel
theorem dX12_remove_250 : decode cX12_remove 250 = .ok (.iaload, 1) := by decide +kernel
theorem dX12_remove_251 : decode cX12_remove 251 = .ok (.iload_n 3, 1) := by decide +kernel
theorem dX12_remove_252 : decode cX12_remove 252 = .ok (.invokevirtual 43, 3) := by decide +kernel
theorem dX12_remove_255 : decode cX12_remove 255 = .ok (.aload_n 0, 1) := by decide +kernel
theorem dX12_remove_256 : decode cX12_remove 256 = .ok (.dup, 1) := by decide +kernel
theorem dX12_remove_257 : decode cX12_remove 257 = .ok (.getfield 47, 3) := by decide +kernel
theorem dX12_remove_260 : decode cX12_remove 260 = .ok (.iconst 1, 1) := by decide +kernel
theorem dX12_remove_261 : decode cX12_remove 261 = .ok (.iadd, 1) := by decide +kernel
theorem dX12_remove_262 : decode cX12_remove 262 = .ok (.putfield 47, 3) := by decide +kernel
theorem dX12_remove_265 : decode cX12_remove 265 = .ok (.aload_n 1, 1) := by decide +kernel
theorem dX12_remove_266 : decode cX12_remove 266 = .ok (.aload_n 0, 1) := by decide +kernel
theorem dX12_remove_267 : decode cX12_remove 267 = .ok (.getfield 47, 3) := by decide +kernel
theorem dX12_remove_270 : decode cX12_remove 270 = .ok (.iload_n 2, 1) := by decide +kernel
theorem dX12_remove_271 : decode cX12_remove 271 = .ok (.iconst 1, 1) := by decide +kernel
theorem dX12_remove_272 : decode cX12_remove 272 = .ok (.invokevirtual 53, 3) := by decide +kernel
theorem dX12_remove_275 : decode cX12_remove 275 = .ok (.iconst 1, 1) := by decide +kernel
theorem dX12_remove_276 : decode cX12_remove 276 = .ok (.ireturn, 1) := by decide +kernel
theorem dX12_clear_0 : decode cX12_clear 0 = .ok (.aload_n 1, 1) := by decide +kernel
theorem dX12_clear_1 : decode cX12_clear 1 = .ok (.getfield 40, 3) := by decide +kernel
theorem dX12_clear_4 : decode cX12_clear 4 = .ok (.istore_n 2, 1) := by decide +kernel
theorem dX12_clear_5 : decode cX12_clear 5 = .ok (.aload_n 0, 1) := by decide +kernel
theorem dX12_clear_6 : decode cX12_clear 6 = .ok (.dup, 1) := by decide +kernel
theorem dX12_clear_7 : decode cX12_clear 7 = .ok (.getfield 32, 3) := by decide +kernel
theorem dX12_clear_10 : decode cX12_clear 10 = .ok (.iconst 1, 1) := by decide +kernel
theorem dX12_clear_11 : decode cX12_clear 11 = .ok (.iadd, 1) := by decide +kernel
theorem dX12_clear_12 : decode cX12_clear 12 = .ok (.putfield 32, 3) := by decide +kernel
theorem dX12_clear_15 : decode cX12_clear 15 = .ok (.aload_n 1, 1) := by decide +kernel
theorem dX12_clear_16 : decode cX12_clear 16 = .ok (.iconst 0, 1) := by decide +kernel
theorem dX12_clear_17 : decode cX12_clear 17 = .ok (.putfield 40, 3) := by decide +kernel
theorem dX12_clear_20 : decode cX12_clear 20 = .ok (.aload_n 1, 1) := by decide +kernel
theorem dX12_clear_21 : decode cX12_clear 21 = .ok (.dup, 1) := by decide +kernel
theorem dX12_clear_22 : decode cX12_clear 22 = .ok (.getfield 68, 3) := by decide +kernel
theorem dX12_clear_25 : decode cX12_clear 25 = .ok (.iconst 1, 1) := by decide +kernel
theorem dX12_clear_26 : decode cX12_clear 26 = .ok (.iadd, 1) := by decide +kernel
theorem dX12_clear_27 : decode cX12_clear 27 = .ok (.putfield 68, 3) := by decide +kernel
theorem dX12_clear_30 : decode cX12_clear 30 = .ok (.iload_n 2, 1) := by decide +kernel
theorem dX12_clear_31 : decode cX12_clear 31 = .ok (.ifCond .le 23, 3) := by decide +kernel
theorem dX12_clear_34 : decode cX12_clear 34 = .ok (.aload_n 0, 1) := by decide +kernel
theorem dX12_clear_35 : decode cX12_clear 35 = .ok (.dup, 1) := by decide +kernel
theorem dX12_clear_36 : decode cX12_clear 36 = .ok (.getfield 47, 3) := by decide +kernel
theorem dX12_clear_39 : decode cX12_clear 39 = .ok (.iconst 1, 1) := by decide +kernel
theorem dX12_clear_40 : decode cX12_clear 40 = .ok (.iadd, 1) := by decide +kernel
theorem dX12_clear_41 : decode cX12_clear 41 = .ok (.putfield 47, 3) := by decide +kernel
theorem dX12_clear_44 : decode cX12_clear 44 = .ok (.aload_n 1, 1) := by decide +kernel
theorem dX12_clear_45 : decode cX12_clear 45 = .ok (.aload_n 0, 1) := by decide +kernel
theorem dX12_clear_46 : decode cX12_clear 46 = .ok (.getfield 47, 3) := by decide +kernel
theorem dX12_clear_49 : decode cX12_clear 49 = .ok (.iconst (-1), 1) := by decide +kernel
theorem dX12_clear_50 : decode cX12_clear 50 = .ok (.iconst 2, 1) := by decide +kernel
theorem dX12_clear_51 : decode cX12_clear 51 = .ok (.invokevirtual 53, 3) := by decide +kernel
theorem dX12_clear_54 : decode cX12_clear 54 = .ok (.iconst 0, 1) := by decide +kernel
theorem dX12_clear_55 : decode cX12_clear 55 = .ok (.istore_n 3, 1) := by decide +kernel
theorem dX12_clear_56 : decode cX12_clear 56 = .ok (.iload_n 3, 1) := by decide +kernel
theorem dX12_clear_57 : decode cX12_clear 57 = .ok (.bipush 6, 2) := by decide +kernel
theorem dX12_clear_59 : decode cX12_clear 59 = .ok (.if_icmp .ge 41, 3) := by decide +kernel
theorem dX12_clear_62 : decode cX12_clear 62 = .ok (.aload_n 0, 1) := by decide +kernel
theorem dX12_clear_63 : decode cX12_clear 63 = .ok (.getfield 18, 3) := by decide +kernel
theorem dX12_clear_66 : decode cX12_clear 66 = .ok (.iload_n 3, 1) := by decide +kernel
theorem dX12_clear_67 : decode cX12_clear 67 = .ok (.aaload, 1) := by decide +kernel
theorem dX12_clear_68 : decode cX12_clear 68 = .ok (.ifnull 26, 3) := by decide +kernel
theorem dX12_clear_71 : decode cX12_clear 71 = .ok (.aload_n 0, 1) := by decide +kernel
theorem dX12_clear_72 : decode cX12_clear 72 = .ok (.getfield 18, 3) := by decide +kernel
theorem dX12_clear_75 : decode cX12_clear 75 = .ok (.iload_n 3, 1) := by decide +kernel
theorem dX12_clear_76 : decode cX12_clear 76 = .ok (.aaload, 1) := by decide +kernel
theorem dX12_clear_77 : decode cX12_clear 77 = .ok (.getfield 61, 3) := by decide +kernel
theorem dX12_clear_80 : decode cX12_clear 80 = .ok (.aload_n 1, 1) := by decide +kernel
theorem dX12_clear_81 : decode cX12_clear 81 = .ok (.if_acmp .ne 13, 3) := by decide +kernel
theorem dX12_clear_84 : decode cX12_clear 84 = .ok (.aload_n 0, 1) := by decide +kernel
theorem dX12_clear_85 : decode cX12_clear 85 = .ok (.getfield 18, 3) := by decide +kernel
theorem dX12_clear_88 : decode cX12_clear 88 = .ok (.iload_n 3, 1) := by decide +kernel
theorem dX12_clear_89 : decode cX12_clear 89 = .ok (.aaload, 1) := by decide +kernel
theorem dX12_clear_90 : decode cX12_clear 90 = .ok (.iconst 0, 1) := by decide +kernel
theorem dX12_clear_91 : decode cX12_clear 91 = .ok (.putfield 57, 3) := by decide +kernel
theorem dX12_clear_94 : decode cX12_clear 94 = .ok (.iinc 3 1, 3) := by decide +kernel
theorem dX12_clear_97 : decode cX12_clear 97 = .ok (.goto (-41), 3) := by decide +kernel
theorem dX12_clear_100 : decode cX12_clear 100 = .ok (.iload_n 2, 1) := by decide +kernel
theorem dX12_clear_101 : decode cX12_clear 101 = .ok (.ireturn, 1) := by decide +kernel
theorem dX12_step_0 : decode cX12_step 0 = .ok (.aload_n 1, 1) := by decide +kernel
theorem dX12_step_1 : decode cX12_step 1 = .ok (.getfield 57, 3) := by decide +kernel
theorem dX12_step_4 : decode cX12_step 4 = .ok (.ifCond .eq 75, 3) := by decide +kernel
theorem dX12_step_7 : decode cX12_step 7 = .ok (.aload_n 1, 1) := by decide +kernel
theorem dX12_step_8 : decode cX12_step 8 = .ok (.getfield 65, 3) := by decide +kernel
theorem dX12_step_11 : decode cX12_step 11 = .ok (.aload_n 1, 1) := by decide +kernel
theorem dX12_step_12 : decode cX12_step 12 = .ok (.getfield 61, 3) := by decide +kernel
theorem dX12_step_15 : decode cX12_step 15 = .ok (.getfield 40, 3) := by decide +kernel
theorem dX12_step_18 : decode cX12_step 18 = .ok (.if_icmp .ge 61, 3) := by decide +kernel
theorem dX12_step_21 : decode cX12_step 21 = .ok (.aload_n 1, 1) := by decide +kernel
theorem dX12_step_22 : decode cX12_step 22 = .ok (.getfield 61, 3) := by decide +kernel
theorem dX12_step_25 : decode cX12_step 25 = .ok (.getfield 26, 3) := by decide +kernel
theorem dX12_step_28 : decode cX12_step 28 = .ok (.aload_n 1, 1) := by decide +kernel
theorem dX12_step_29 : decode cX12_step 29 = .ok (.dup, 1) := by decide +kernel
theorem dX12_step_30 : decode cX12_step 30 = .ok (.getfield 65, 3) := by decide +kernel
theorem dX12_step_33 : decode cX12_step 33 = .ok (.dup_x1, 1) := by decide +kernel
theorem dX12_step_34 : decode cX12_step 34 = .ok (.iconst 1, 1) := by decide +kernel
theorem dX12_step_35 : decode cX12_step 35 = .ok (.iadd, 1) := by decide +kernel
theorem dX12_step_36 : decode cX12_step 36 = .ok (.putfield 65, 3) := by decide +kernel
theorem dX12_step_39 : decode cX12_step 39 = .ok (.iaload, 1) := by decide +kernel
theorem dX12_step_40 : decode cX12_step 40 = .ok (.istore_n 2, 1) := by decide +kernel
theorem dX12_step_41 : decode cX12_step 41 = .ok (.aload_n 0, 1) := by decide +kernel
theorem dX12_step_42 : decode cX12_step 42 = .ok (.dup, 1) := by decide +kernel
theorem dX12_step_43 : decode cX12_step 43 = .ok (.getfield 32, 3) := by decide +kernel
theorem dX12_step_46 : decode cX12_step 46 = .ok (.iconst 1, 1) := by decide +kernel
theorem dX12_step_47 : decode cX12_step 47 = .ok (.iadd, 1) := by decide +kernel
theorem dX12_step_48 : decode cX12_step 48 = .ok (.putfield 32, 3) := by decide +kernel
theorem dX12_step_51 : decode cX12_step 51 = .ok (.aload_n 1, 1) := by decide +kernel
theorem dX12_step_52 : decode cX12_step 52 = .ok (.iload_n 2, 1) := by decide +kernel
theorem dX12_step_53 : decode cX12_step 53 = .ok (.invokevirtual 71, 3) := by decide +kernel
theorem dX12_step_56 : decode cX12_step 56 = .ok (.ifCond .ne 6, 3) := by decide +kernel
theorem dX12_step_59 : decode cX12_step 59 = .ok (.goto (-59), 3) := by decide +kernel
theorem dX12_step_62 : decode cX12_step 62 = .ok (.aload_n 1, 1) := by decide +kernel
theorem dX12_step_63 : decode cX12_step 63 = .ok (.dup, 1) := by decide +kernel
theorem dX12_step_64 : decode cX12_step 64 = .ok (.getfield 74, 3) := by decide +kernel
theorem dX12_step_67 : decode cX12_step 67 = .ok (.iconst 1, 1) := by decide +kernel
theorem dX12_step_68 : decode cX12_step 68 = .ok (.iadd, 1) := by decide +kernel
theorem dX12_step_69 : decode cX12_step 69 = .ok (.putfield 74, 3) := by decide +kernel
theorem dX12_step_72 : decode cX12_step 72 = .ok (.aload_n 1, 1) := by decide +kernel
theorem dX12_step_73 : decode cX12_step 73 = .ok (.iload_n 2, 1) := by decide +kernel
theorem dX12_step_74 : decode cX12_step 74 = .ok (.putfield 77, 3) := by decide +kernel
theorem dX12_step_77 : decode cX12_step 77 = .ok (.iload_n 2, 1) := by decide +kernel
theorem dX12_step_78 : decode cX12_step 78 = .ok (.ireturn, 1) := by decide +kernel
theorem dX12_step_79 : decode cX12_step 79 = .ok (.aload_n 1, 1) := by decide +kernel
theorem dX12_step_80 : decode cX12_step 80 = .ok (.iconst 0, 1) := by decide +kernel
theorem dX12_step_81 : decode cX12_step 81 = .ok (.putfield 57, 3) := by decide +kernel
theorem dX12_step_84 : decode cX12_step 84 = .ok (.iconst (-1), 1) := by decide +kernel
theorem dX12_step_85 : decode cX12_step 85 = .ok (.ireturn, 1) := by decide +kernel
theorem dX12_cursors_0 : decode cX12_cursors 0 = .ok (.iconst 0, 1) := by decide +kernel
theorem dX12_cursors_1 : decode cX12_cursors 1 = .ok (.istore_n 1, 1) := by decide +kernel
theorem dX12_cursors_2 : decode cX12_cursors 2 = .ok (.iconst 0, 1) := by decide +kernel
theorem dX12_cursors_3 : decode cX12_cursors 3 = .ok (.istore_n 2, 1) := by decide +kernel
theorem dX12_cursors_4 : decode cX12_cursors 4 = .ok (.iload_n 2, 1) := by decide +kernel
theorem dX12_cursors_5 : decode cX12_cursors 5 = .ok (.bipush 6, 2) := by decide +kernel
theorem dX12_cursors_7 : decode cX12_cursors 7 = .ok (.if_icmp .ge 26, 3) := by decide +kernel
theorem dX12_cursors_10 : decode cX12_cursors 10 = .ok (.iload_n 1, 1) := by decide +kernel
theorem dX12_cursors_11 : decode cX12_cursors 11 = .ok (.aload_n 0, 1) := by decide +kernel
theorem dX12_cursors_12 : decode cX12_cursors 12 = .ok (.getfield 18, 3) := by decide +kernel
theorem dX12_cursors_15 : decode cX12_cursors 15 = .ok (.iload_n 2, 1) := by decide +kernel
theorem dX12_cursors_16 : decode cX12_cursors 16 = .ok (.aaload, 1) := by decide +kernel
theorem dX12_cursors_17 : decode cX12_cursors 17 = .ok (.ifnonnull 7, 3) := by decide +kernel
theorem dX12_cursors_20 : decode cX12_cursors 20 = .ok (.iconst 0, 1) := by decide +kernel
theorem dX12_cursors_21 : decode cX12_cursors 21 = .ok (.goto 4, 3) := by decide +kernel
theorem dX12_cursors_24 : decode cX12_cursors 24 = .ok (.iconst 1, 1) := by decide +kernel
theorem dX12_cursors_25 : decode cX12_cursors 25 = .ok (.iadd, 1) := by decide +kernel
theorem dX12_cursors_26 : decode cX12_cursors 26 = .ok (.istore_n 1, 1) := by decide +kernel
theorem dX12_cursors_27 : decode cX12_cursors 27 = .ok (.iinc 2 1, 3) := by decide +kernel
theorem dX12_cursors_30 : decode cX12_cursors 30 = .ok (.goto (-26), 3) := by decide +kernel
theorem dX12_cursors_33 : decode cX12_cursors 33 = .ok (.iload_n 1, 1) := by decide +kernel
theorem dX12_cursors_34 : decode cX12_cursors 34 = .ok (.ireturn, 1) := by decide +kernel
theorem dL_feeds_0 : decode cL_feeds 0 = .ok (.iconst 0, 1) := by decide +kernel
theorem dL_feeds_1 : decode cL_feeds 1 = .ok (.istore_n 2, 1) := by decide +kernel
theorem dL_feeds_2 : decode cL_feeds 2 = .ok (.iconst 0, 1) := by decide +kernel
theorem dL_feeds_3 : decode cL_feeds 3 = .ok (.istore_n 3, 1) := by decide +kernel
theorem dL_feeds_4 : decode cL_feeds 4 = .ok (.iload_n 3, 1) := by decide +kernel
theorem dL_feeds_5 : decode cL_feeds 5 = .ok (.aload_n 1, 1) := by decide +kernel
theorem dL_feeds_6 : decode cL_feeds 6 = .ok (.invokevirtual 7, 3) := by decide +kernel
theorem dL_feeds_9 : decode cL_feeds 9 = .ok (.if_icmp .ge 105, 3) := by decide +kernel
theorem dL_feeds_12 : decode cL_feeds 12 = .ok (.iconst 5, 1) := by decide +kernel
theorem dL_feeds_13 : decode cL_feeds 13 = .ok (.newarray .int, 2) := by decide +kernel
theorem dL_feeds_15 : decode cL_feeds 15 = .ok (.astore 4, 2) := by decide +kernel
theorem dL_feeds_17 : decode cL_feeds 17 = .ok (.iconst 0, 1) := by decide +kernel
theorem dL_feeds_18 : decode cL_feeds 18 = .ok (.istore 5, 2) := by decide +kernel
theorem dL_feeds_20 : decode cL_feeds 20 = .ok (.iload 5, 2) := by decide +kernel
theorem dL_feeds_22 : decode cL_feeds 22 = .ok (.bipush 20, 2) := by decide +kernel
theorem dL_feeds_24 : decode cL_feeds 24 = .ok (.if_icmp .ge 51, 3) := by decide +kernel
theorem dL_feeds_27 : decode cL_feeds 27 = .ok (.aload 4, 2) := by decide +kernel
theorem dL_feeds_29 : decode cL_feeds 29 = .ok (.iload 5, 2) := by decide +kernel
theorem dL_feeds_31 : decode cL_feeds 31 = .ok (.iconst 4, 1) := by decide +kernel
theorem dL_feeds_32 : decode cL_feeds 32 = .ok (.idiv, 1) := by decide +kernel
theorem dL_feeds_33 : decode cL_feeds 33 = .ok (.aload 4, 2) := by decide +kernel
theorem dL_feeds_35 : decode cL_feeds 35 = .ok (.iload 5, 2) := by decide +kernel
theorem dL_feeds_37 : decode cL_feeds 37 = .ok (.iconst 4, 1) := by decide +kernel
theorem dL_feeds_38 : decode cL_feeds 38 = .ok (.idiv, 1) := by decide +kernel
theorem dL_feeds_39 : decode cL_feeds 39 = .ok (.iaload, 1) := by decide +kernel
theorem dL_feeds_40 : decode cL_feeds 40 = .ok (.bipush 8, 2) := by decide +kernel
theorem dL_feeds_42 : decode cL_feeds 42 = .ok (.ishl, 1) := by decide +kernel
theorem dL_feeds_43 : decode cL_feeds 43 = .ok (.iload_n 3, 1) := by decide +kernel
theorem dL_feeds_44 : decode cL_feeds 44 = .ok (.iload 5, 2) := by decide +kernel
theorem dL_feeds_46 : decode cL_feeds 46 = .ok (.iadd, 1) := by decide +kernel
theorem dL_feeds_47 : decode cL_feeds 47 = .ok (.aload_n 1, 1) := by decide +kernel
theorem dL_feeds_48 : decode cL_feeds 48 = .ok (.invokevirtual 7, 3) := by decide +kernel
theorem dL_feeds_51 : decode cL_feeds 51 = .ok (.if_icmp .ge 14, 3) := by decide +kernel
theorem dL_feeds_54 : decode cL_feeds 54 = .ok (.aload_n 1, 1) := by decide +kernel
theorem dL_feeds_55 : decode cL_feeds 55 = .ok (.iload_n 3, 1) := by decide +kernel
theorem dL_feeds_56 : decode cL_feeds 56 = .ok (.iload 5, 2) := by decide +kernel
theorem dL_feeds_58 : decode cL_feeds 58 = .ok (.iadd, 1) := by decide +kernel
theorem dL_feeds_59 : decode cL_feeds 59 = .ok (.invokevirtual 13, 3) := by decide +kernel
theorem dL_feeds_62 : decode cL_feeds 62 = .ok (.goto 5, 3) := by decide +kernel
theorem dL_feeds_65 : decode cL_feeds 65 = .ok (.bipush 32, 2) := by decide +kernel
theorem dL_feeds_67 : decode cL_feeds 67 = .ok (.ior, 1) := by decide +kernel
theorem dL_feeds_68 : decode cL_feeds 68 = .ok (.iastore, 1) := by decide +kernel
theorem dL_feeds_69 : decode cL_feeds 69 = .ok (.iinc 5 1, 3) := by decide +kernel
theorem dL_feeds_72 : decode cL_feeds 72 = .ok (.goto (-52), 3) := by decide +kernel
theorem dL_feeds_75 : decode cL_feeds 75 = .ok (.iinc 2 20, 3) := by decide +kernel
theorem dL_feeds_78 : decode cL_feeds 78 = .ok (.aload_n 0, 1) := by decide +kernel
theorem dL_feeds_79 : decode cL_feeds 79 = .ok (.aload 4, 2) := by decide +kernel
theorem dL_feeds_81 : decode cL_feeds 81 = .ok (.iconst 0, 1) := by decide +kernel
theorem dL_feeds_82 : decode cL_feeds 82 = .ok (.iaload, 1) := by decide +kernel
theorem dL_feeds_83 : decode cL_feeds 83 = .ok (.aload 4, 2) := by decide +kernel
theorem dL_feeds_85 : decode cL_feeds 85 = .ok (.iconst 1, 1) := by decide +kernel
theorem dL_feeds_86 : decode cL_feeds 86 = .ok (.iaload, 1) := by decide +kernel
theorem dL_feeds_87 : decode cL_feeds 87 = .ok (.aload 4, 2) := by decide +kernel
theorem dL_feeds_89 : decode cL_feeds 89 = .ok (.iconst 2, 1) := by decide +kernel
theorem dL_feeds_90 : decode cL_feeds 90 = .ok (.iaload, 1) := by decide +kernel
theorem dL_feeds_91 : decode cL_feeds 91 = .ok (.aload 4, 2) := by decide +kernel
theorem dL_feeds_93 : decode cL_feeds 93 = .ok (.iconst 3, 1) := by decide +kernel
theorem dL_feeds_94 : decode cL_feeds 94 = .ok (.iaload, 1) := by decide +kernel
theorem dL_feeds_95 : decode cL_feeds 95 = .ok (.aload 4, 2) := by decide +kernel
theorem dL_feeds_97 : decode cL_feeds 97 = .ok (.iconst 4, 1) := by decide +kernel
theorem dL_feeds_98 : decode cL_feeds 98 = .ok (.iaload, 1) := by decide +kernel
theorem dL_feeds_99 : decode cL_feeds 99 = .ok (.invokevirtual 17, 3) := by decide +kernel
theorem dL_feeds_102 : decode cL_feeds 102 = .ok (.iload_n 2, 1) := by decide +kernel
theorem dL_feeds_103 : decode cL_feeds 103 = .ok (.if_icmp .eq 5, 3) := by decide +kernel
theorem dL_feeds_106 : decode cL_feeds 106 = .ok (.iconst 0, 1) := by decide +kernel
theorem dL_feeds_107 : decode cL_feeds 107 = .ok (.ireturn, 1) := by decide +kernel
theorem dL_feeds_108 : decode cL_feeds 108 = .ok (.iinc 3 20, 3) := by decide +kernel
theorem dL_feeds_111 : decode cL_feeds 111 = .ok (.goto (-107), 3) := by decide +kernel
theorem dL_feeds_114 : decode cL_feeds 114 = .ok (.iconst 1, 1) := by decide +kernel
theorem dL_feeds_115 : decode cL_feeds 115 = .ok (.ireturn, 1) := by decide +kernel
theorem dL_draw_0 : decode cL_draw 0 = .ok (.aload_n 0, 1) := by decide +kernel
theorem dL_draw_1 : decode cL_draw 1 = .ok (.iconst 0, 1) := by decide +kernel
theorem dL_draw_2 : decode cL_draw 2 = .ok (.aload_n 0, 1) := by decide +kernel
theorem dL_draw_3 : decode cL_draw 3 = .ok (.iconst 0, 1) := by decide +kernel
theorem dL_draw_4 : decode cL_draw 4 = .ok (.iaload, 1) := by decide +kernel
theorem dL_draw_5 : decode cL_draw 5 = .ok (.ldc 23, 2) := by decide +kernel
theorem dL_draw_7 : decode cL_draw 7 = .ok (.imul, 1) := by decide +kernel
theorem dL_draw_8 : decode cL_draw 8 = .ok (.ldc 24, 2) := by decide +kernel
theorem dL_draw_10 : decode cL_draw 10 = .ok (.iadd, 1) := by decide +kernel
theorem dL_draw_11 : decode cL_draw 11 = .ok (.iastore, 1) := by decide +kernel
theorem dL_draw_12 : decode cL_draw 12 = .ok (.aload_n 0, 1) := by decide +kernel
theorem dL_draw_13 : decode cL_draw 13 = .ok (.iconst 0, 1) := by decide +kernel
theorem dL_draw_14 : decode cL_draw 14 = .ok (.iaload, 1) := by decide +kernel
theorem dL_draw_15 : decode cL_draw 15 = .ok (.bipush 8, 2) := by decide +kernel
theorem dL_draw_17 : decode cL_draw 17 = .ok (.iushr, 1) := by decide +kernel
theorem dL_draw_18 : decode cL_draw 18 = .ok (.iload_n 1, 1) := by decide +kernel
theorem dL_draw_19 : decode cL_draw 19 = .ok (.irem, 1) := by decide +kernel
theorem dL_draw_20 : decode cL_draw 20 = .ok (.ireturn, 1) := by decide +kernel
theorem dJ5_inflateIfNeededFor_a7421_0 : decode cJ5_inflateIfNeededFor_a7421 0 = .ok (.getstatic 18, 3) := by decide +kernel
theorem dJ5_inflateIfNeededFor_a7421_3 : decode cJ5_inflateIfNeededFor_a7421 3 = .ok (.ifCond .eq 18, 3) := by decide +kernel
theorem dJ5_inflateIfNeededFor_a7421_6 : decode cJ5_inflateIfNeededFor_a7421 6 = .ok (.aload_n 0, 1) := by decide +kernel
theorem dJ5_inflateIfNeededFor_a7421_7 : decode cJ5_inflateIfNeededFor_a7421 7 = .ok (.getfield 22, 3) := by decide +kernel
theorem dJ5_inflateIfNeededFor_a7421_10 : decode cJ5_inflateIfNeededFor_a7421 10 = .ok (.aload_n 1, 1) := by decide +kernel
theorem dJ5_inflateIfNeededFor_a7421_11 : decode cJ5_inflateIfNeededFor_a7421 11 = .ok (.invokevirtual 40, 3) := by decide +kernel
theorem dJ5_inflateIfNeededFor_a7421_14 : decode cJ5_inflateIfNeededFor_a7421 14 = .ok (.if_icmp .eq 7, 3) := by decide +kernel
theorem dJ5_inflateIfNeededFor_a7421_17 : decode cJ5_inflateIfNeededFor_a7421 17 = .ok (.aload_n 0, 1) := by decide +kernel
theorem dJ5_inflateIfNeededFor_a7421_18 : decode cJ5_inflateIfNeededFor_a7421 18 = .ok (.invokevirtual 195, 3) := by decide +kernel
theorem dJ5_inflateIfNeededFor_a7421_21 : decode cJ5_inflateIfNeededFor_a7421 21 = .ok (.return_, 1) := by decide +kernel
theorem dJ0_getBytes_840e7_0 : decode cJ0_getBytes_840e7 0 = .ok (.aload_n 0, 1) := by decide +kernel
theorem dJ0_getBytes_840e7_1 : decode cJ0_getBytes_840e7 1 = .ok (.invokevirtual 335, 3) := by decide +kernel
theorem dJ0_getBytes_840e7_4 : decode cJ0_getBytes_840e7 4 = .ok (.iload_n 3, 1) := by decide +kernel
theorem dJ0_getBytes_840e7_5 : decode cJ0_getBytes_840e7 5 = .ok (.if_icmp .ne 23, 3) := by decide +kernel
theorem dJ0_getBytes_840e7_8 : decode cJ0_getBytes_840e7 8 = .ok (.aload_n 0, 1) := by decide +kernel
theorem dJ0_getBytes_840e7_9 : decode cJ0_getBytes_840e7 9 = .ok (.getfield 9, 3) := by decide +kernel
theorem dJ0_getBytes_840e7_12 : decode cJ0_getBytes_840e7 12 = .ok (.iconst 0, 1) := by decide +kernel
theorem dJ0_getBytes_840e7_13 : decode cJ0_getBytes_840e7 13 = .ok (.aload_n 1, 1) := by decide +kernel
theorem dJ0_getBytes_840e7_14 : decode cJ0_getBytes_840e7 14 = .ok (.iload_n 2, 1) := by decide +kernel
theorem dJ0_getBytes_840e7_15 : decode cJ0_getBytes_840e7 15 = .ok (.iload_n 3, 1) := by decide +kernel
theorem dJ0_getBytes_840e7_16 : decode cJ0_getBytes_840e7 16 = .ok (.ishl, 1) := by decide +kernel
theorem dJ0_getBytes_840e7_17 : decode cJ0_getBytes_840e7 17 = .ok (.aload_n 0, 1) := by decide +kernel
theorem dJ0_getBytes_840e7_18 : decode cJ0_getBytes_840e7 18 = .ok (.getfield 9, 3) := by decide +kernel
theorem dJ0_getBytes_840e7_21 : decode cJ0_getBytes_840e7 21 = .ok (.arraylength, 1) := by decide +kernel
theorem dJ0_getBytes_840e7_22 : decode cJ0_getBytes_840e7 22 = .ok (.invokestatic 212, 3) := by decide +kernel
theorem dJ0_getBytes_840e7_25 : decode cJ0_getBytes_840e7 25 = .ok (.goto 18, 3) := by decide +kernel
theorem dJ0_getBytes_840e7_28 : decode cJ0_getBytes_840e7 28 = .ok (.aload_n 0, 1) := by decide +kernel
theorem dJ0_getBytes_840e7_29 : decode cJ0_getBytes_840e7 29 = .ok (.getfield 9, 3) := by decide +kernel
theorem dJ0_getBytes_840e7_32 : decode cJ0_getBytes_840e7 32 = .ok (.iconst 0, 1) := by decide +kernel
theorem dJ0_getBytes_840e7_33 : decode cJ0_getBytes_840e7 33 = .ok (.aload_n 1, 1) := by decide +kernel
theorem dJ0_getBytes_840e7_34 : decode cJ0_getBytes_840e7 34 = .ok (.iload_n 2, 1) := by decide +kernel
theorem dJ0_getBytes_840e7_35 : decode cJ0_getBytes_840e7 35 = .ok (.aload_n 0, 1) := by decide +kernel
theorem dJ0_getBytes_840e7_36 : decode cJ0_getBytes_840e7 36 = .ok (.getfield 9, 3) := by decide +kernel
theorem dJ0_getBytes_840e7_39 : decode cJ0_getBytes_840e7 39 = .ok (.arraylength, 1) := by decide +kernel
theorem dJ0_getBytes_840e7_40 : decode cJ0_getBytes_840e7 40 = .ok (.invokestatic 106, 3) := by decide +kernel
theorem dJ0_getBytes_840e7_43 : decode cJ0_getBytes_840e7 43 = .ok (.return_, 1) := by decide +kernel
theorem dJ5_putStringAt_47b60_0 : decode cJ5_putStringAt_47b60 0 = .ok (.aload_n 0, 1) := by decide +kernel
theorem dJ5_putStringAt_47b60_1 : decode cJ5_putStringAt_47b60 1 = .ok (.aload_n 2, 1) := by decide +kernel
theorem dJ5_putStringAt_47b60_2 : decode cJ5_putStringAt_47b60 2 = .ok (.invokevirtual 397, 3) := by decide +kernel
theorem dJ5_putStringAt_47b60_5 : decode cJ5_putStringAt_47b60 5 = .ok (.aload_n 2, 1) := by decide +kernel
theorem dJ5_putStringAt_47b60_6 : decode cJ5_putStringAt_47b60 6 = .ok (.aload_n 0, 1) := by decide +kernel
theorem dJ5_putStringAt_47b60_7 : decode cJ5_putStringAt_47b60 7 = .ok (.getfield 15, 3) := by decide +kernel
theorem dJ5_putStringAt_47b60_10 : decode cJ5_putStringAt_47b60 10 = .ok (.iload_n 1, 1) := by decide +kernel
theorem dJ5_putStringAt_47b60_11 : decode cJ5_putStringAt_47b60 11 = .ok (.aload_n 0, 1) := by decide +kernel
theorem dJ5_putStringAt_47b60_12 : decode cJ5_putStringAt_47b60 12 = .ok (.getfield 22, 3) := by decide +kernel
theorem dJ5_putStringAt_47b60_15 : decode cJ5_putStringAt_47b60 15 = .ok (.invokevirtual 399, 3) := by decide +kernel
theorem dJ5_putStringAt_47b60_18 : decode cJ5_putStringAt_47b60 18 = .ok (.return_, 1) := by decide +kernel
theorem dJ5_append_cf1ce_0 : decode cJ5_append_cf1ce 0 = .ok (.aload_n 1, 1) := by decide +kernel
theorem dJ5_append_cf1ce_1 : decode cJ5_append_cf1ce 1 = .ok (.ifnonnull 8, 3) := by decide +kernel
theorem dJ5_append_cf1ce_4 : decode cJ5_append_cf1ce 4 = .ok (.aload_n 0, 1) := by decide +kernel
theorem dJ5_append_cf1ce_5 : decode cJ5_append_cf1ce 5 = .ok (.invokevirtual 204, 3) := by decide +kernel
theorem dJ5_append_cf1ce_8 : decode cJ5_append_cf1ce 8 = .ok (.areturn, 1) := by decide +kernel
theorem dJ5_append_cf1ce_9 : decode cJ5_append_cf1ce 9 = .ok (.aload_n 1, 1) := by decide +kernel
theorem dJ5_append_cf1ce_10 : decode cJ5_append_cf1ce 10 = .ok (.invokevirtual 32, 3) := by decide +kernel
theorem dJ5_append_cf1ce_13 : decode cJ5_append_cf1ce 13 = .ok (.istore_n 2, 1) := by decide +kernel
theorem dJ5_append_cf1ce_14 : decode cJ5_append_cf1ce 14 = .ok (.aload_n 0, 1) := by decide +kernel
theorem dJ5_append_cf1ce_15 : decode cJ5_append_cf1ce 15 = .ok (.aload_n 0, 1) := by decide +kernel
theorem dJ5_append_cf1ce_16 : decode cJ5_append_cf1ce 16 = .ok (.getfield 79, 3) := by decide +kernel
theorem dJ5_append_cf1ce_19 : decode cJ5_append_cf1ce 19 = .ok (.iload_n 2, 1) := by decide +kernel
theorem dJ5_append_cf1ce_20 : decode cJ5_append_cf1ce 20 = .ok (.iadd, 1) := by decide +kernel
theorem dJ5_append_cf1ce_21 : decode cJ5_append_cf1ce 21 = .ok (.invokevirtual 100, 3) := by decide +kernel
theorem dJ5_append_cf1ce_24 : decode cJ5_append_cf1ce 24 = .ok (.aload_n 0, 1) := by decide +kernel
theorem dJ5_append_cf1ce_25 : decode cJ5_append_cf1ce 25 = .ok (.aload_n 0, 1) := by decide +kernel
theorem dJ5_append_cf1ce_26 : decode cJ5_append_cf1ce 26 = .ok (.getfield 79, 3) := by decide +kernel
theorem dJ5_append_cf1ce_29 : decode cJ5_append_cf1ce 29 = .ok (.aload_n 1, 1) := by decide +kernel
theorem dJ5_append_cf1ce_30 : decode cJ5_append_cf1ce 30 = .ok (.invokevirtual 208, 3) := by decide +kernel
theorem dJ5_append_cf1ce_33 : decode cJ5_append_cf1ce 33 = .ok (.aload_n 0, 1) := by decide +kernel
theorem dJ5_append_cf1ce_34 : decode cJ5_append_cf1ce 34 = .ok (.dup, 1) := by decide +kernel
theorem dJ5_append_cf1ce_35 : decode cJ5_append_cf1ce 35 = .ok (.getfield 79, 3) := by decide +kernel
theorem dJ5_append_cf1ce_38 : decode cJ5_append_cf1ce 38 = .ok (.iload_n 2, 1) := by decide +kernel
theorem dJ5_append_cf1ce_39 : decode cJ5_append_cf1ce 39 = .ok (.iadd, 1) := by decide +kernel
theorem dJ5_append_cf1ce_40 : decode cJ5_append_cf1ce 40 = .ok (.putfield 79, 3) := by decide +kernel
theorem dJ5_append_cf1ce_43 : decode cJ5_append_cf1ce 43 = .ok (.aload_n 0, 1) := by decide +kernel
theorem dJ5_append_cf1ce_44 : decode cJ5_append_cf1ce 44 = .ok (.areturn, 1) := by decide +kernel
theorem dJ4_append_15ec4_0 : decode cJ4_append_15ec4 0 = .ok (.aload_n 0, 1) := by decide +kernel
theorem dJ4_append_15ec4_1 : decode cJ4_append_15ec4 1 = .ok (.aload_n 1, 1) := by decide +kernel
theorem dJ4_append_15ec4_2 : decode cJ4_append_15ec4 2 = .ok (.invokespecial 29, 3) := by decide +kernel
theorem dJ4_append_15ec4_5 : decode cJ4_append_15ec4 5 = .ok (.pop, 1) := by decide +kernel
theorem dJ4_append_15ec4_6 : decode cJ4_append_15ec4 6 = .ok (.aload_n 0, 1) := by decide +kernel
theorem dJ4_append_15ec4_7 : decode cJ4_append_15ec4 7 = .ok (.areturn, 1) := by decide +kernel
theorem dJ6_stringSize_0f7a4_0 : decode cJ6_stringSize_0f7a4 0 = .ok (.iconst 1, 1) := by decide +kernel
theorem dJ6_stringSize_0f7a4_1 : decode cJ6_stringSize_0f7a4 1 = .ok (.istore_n 1, 1) := by decide +kernel
theorem dJ6_stringSize_0f7a4_2 : decode cJ6_stringSize_0f7a4 2 = .ok (.iload_n 0, 1) := by decide +kernel
theorem dJ6_stringSize_0f7a4_3 : decode cJ6_stringSize_0f7a4 3 = .ok (.ifCond .lt 8, 3) := by decide +kernel
theorem dJ6_stringSize_0f7a4_6 : decode cJ6_stringSize_0f7a4 6 = .ok (.iconst 0, 1) := by decide +kernel
theorem dJ6_stringSize_0f7a4_7 : decode cJ6_stringSize_0f7a4 7 = .ok (.istore_n 1, 1) := by decide +kernel
theorem dJ6_stringSize_0f7a4_8 : decode cJ6_stringSize_0f7a4 8 = .ok (.iload_n 0, 1) := by decide +kernel
theorem dJ6_stringSize_0f7a4_9 : decode cJ6_stringSize_0f7a4 9 = .ok (.ineg, 1) := by decide +kernel
theorem dJ6_stringSize_0f7a4_10 : decode cJ6_stringSize_0f7a4 10 = .ok (.istore_n 0, 1) := by decide +kernel
theorem dJ6_stringSize_0f7a4_11 : decode cJ6_stringSize_0f7a4 11 = .ok (.bipush (-10), 2) := by decide +kernel
theorem dJ6_stringSize_0f7a4_13 : decode cJ6_stringSize_0f7a4 13 = .ok (.istore_n 2, 1) := by decide +kernel
theorem dJ6_stringSize_0f7a4_14 : decode cJ6_stringSize_0f7a4 14 = .ok (.iconst 1, 1) := by decide +kernel
theorem dJ6_stringSize_0f7a4_15 : decode cJ6_stringSize_0f7a4 15 = .ok (.istore_n 3, 1) := by decide +kernel
theorem dJ6_stringSize_0f7a4_16 : decode cJ6_stringSize_0f7a4 16 = .ok (.iload_n 3, 1) := by decide +kernel
theorem dJ6_stringSize_0f7a4_17 : decode cJ6_stringSize_0f7a4 17 = .ok (.bipush 10, 2) := by decide +kernel
theorem dJ6_stringSize_0f7a4_19 : decode cJ6_stringSize_0f7a4 19 = .ok (.if_icmp .ge 23, 3) := by decide +kernel
theorem dJ6_stringSize_0f7a4_22 : decode cJ6_stringSize_0f7a4 22 = .ok (.iload_n 0, 1) := by decide +kernel
theorem dJ6_stringSize_0f7a4_23 : decode cJ6_stringSize_0f7a4 23 = .ok (.iload_n 2, 1) := by decide +kernel
theorem dJ6_stringSize_0f7a4_24 : decode cJ6_stringSize_0f7a4 24 = .ok (.if_icmp .le 7, 3) := by decide +kernel
theorem dJ6_stringSize_0f7a4_27 : decode cJ6_stringSize_0f7a4 27 = .ok (.iload_n 3, 1) := by decide +kernel
theorem dJ6_stringSize_0f7a4_28 : decode cJ6_stringSize_0f7a4 28 = .ok (.iload_n 1, 1) := by decide +kernel
theorem dJ6_stringSize_0f7a4_29 : decode cJ6_stringSize_0f7a4 29 = .ok (.iadd, 1) := by decide +kernel
theorem dJ6_stringSize_0f7a4_30 : decode cJ6_stringSize_0f7a4 30 = .ok (.ireturn, 1) := by decide +kernel
theorem dJ6_stringSize_0f7a4_31 : decode cJ6_stringSize_0f7a4 31 = .ok (.bipush 10, 2) := by decide +kernel
theorem dJ6_stringSize_0f7a4_33 : decode cJ6_stringSize_0f7a4 33 = .ok (.iload_n 2, 1) := by decide +kernel
theorem dJ6_stringSize_0f7a4_34 : decode cJ6_stringSize_0f7a4 34 = .ok (.imul, 1) := by decide +kernel
theorem dJ6_stringSize_0f7a4_35 : decode cJ6_stringSize_0f7a4 35 = .ok (.istore_n 2, 1) := by decide +kernel
theorem dJ6_stringSize_0f7a4_36 : decode cJ6_stringSize_0f7a4 36 = .ok (.iinc 3 1, 3) := by decide +kernel
theorem dJ6_stringSize_0f7a4_39 : decode cJ6_stringSize_0f7a4 39 = .ok (.goto (-23), 3) := by decide +kernel
theorem dJ6_stringSize_0f7a4_42 : decode cJ6_stringSize_0f7a4 42 = .ok (.bipush 10, 2) := by decide +kernel
theorem dJ6_stringSize_0f7a4_44 : decode cJ6_stringSize_0f7a4 44 = .ok (.iload_n 1, 1) := by decide +kernel
theorem dJ6_stringSize_0f7a4_45 : decode cJ6_stringSize_0f7a4 45 = .ok (.iadd, 1) := by decide +kernel
theorem dJ6_stringSize_0f7a4_46 : decode cJ6_stringSize_0f7a4 46 = .ok (.ireturn, 1) := by decide +kernel
theorem dJ6_getChars_ba4f3_0 : decode cJ6_getChars_ba4f3 0 = .ok (.iload_n 1, 1) := by decide +kernel
theorem dJ6_getChars_ba4f3_1 : decode cJ6_getChars_ba4f3 1 = .ok (.istore 5, 2) := by decide +kernel
theorem dJ6_getChars_ba4f3_3 : decode cJ6_getChars_ba4f3 3 = .ok (.iload_n 0, 1) := by decide +kernel
theorem dJ6_getChars_ba4f3_4 : decode cJ6_getChars_ba4f3 4 = .ok (.ifCond .ge 7, 3) := by decide +kernel
theorem dJ6_getChars_ba4f3_7 : decode cJ6_getChars_ba4f3 7 = .ok (.iconst 1, 1) := by decide +kernel
theorem dJ6_getChars_ba4f3_8 : decode cJ6_getChars_ba4f3 8 = .ok (.goto 4, 3) := by decide +kernel
theorem dJ6_getChars_ba4f3_11 : decode cJ6_getChars_ba4f3 11 = .ok (.iconst 0, 1) := by decide +kernel
theorem dJ6_getChars_ba4f3_12 : decode cJ6_getChars_ba4f3 12 = .ok (.istore 6, 2) := by decide +kernel
theorem dJ6_getChars_ba4f3_14 : decode cJ6_getChars_ba4f3 14 = .ok (.iload 6, 2) := by decide +kernel
theorem dJ6_getChars_ba4f3_16 : decode cJ6_getChars_ba4f3 16 = .ok (.ifCond .ne 6, 3) := by decide +kernel
theorem dJ6_getChars_ba4f3_19 : decode cJ6_getChars_ba4f3 19 = .ok (.iload_n 0, 1) := by decide +kernel
theorem dJ6_getChars_ba4f3_20 : decode cJ6_getChars_ba4f3 20 = .ok (.ineg, 1) := by decide +kernel
theorem dJ6_getChars_ba4f3_21 : decode cJ6_getChars_ba4f3 21 = .ok (.istore_n 0, 1) := by decide +kernel
theorem dJ6_getChars_ba4f3_22 : decode cJ6_getChars_ba4f3 22 = .ok (.iload_n 0, 1) := by decide +kernel
theorem dJ6_getChars_ba4f3_23 : decode cJ6_getChars_ba4f3 23 = .ok (.bipush (-100), 2) := by decide +kernel
theorem dJ6_getChars_ba4f3_25 : decode cJ6_getChars_ba4f3 25 = .ok (.if_icmp .gt 47, 3) := by decide +kernel
theorem dJ6_getChars_ba4f3_28 : decode cJ6_getChars_ba4f3 28 = .ok (.iload_n 0, 1) := by decide +kernel
theorem dJ6_getChars_ba4f3_29 : decode cJ6_getChars_ba4f3 29 = .ok (.bipush 100, 2) := by decide +kernel
theorem dJ6_getChars_ba4f3_31 : decode cJ6_getChars_ba4f3 31 = .ok (.idiv, 1) := by decide +kernel
theorem dJ6_getChars_ba4f3_32 : decode cJ6_getChars_ba4f3 32 = .ok (.istore_n 3, 1) := by decide +kernel
theorem dJ6_getChars_ba4f3_33 : decode cJ6_getChars_ba4f3 33 = .ok (.iload_n 3, 1) := by decide +kernel
theorem dJ6_getChars_ba4f3_34 : decode cJ6_getChars_ba4f3 34 = .ok (.bipush 100, 2) := by decide +kernel
theorem dJ6_getChars_ba4f3_36 : decode cJ6_getChars_ba4f3 36 = .ok (.imul, 1) := by decide +kernel
theorem dJ6_getChars_ba4f3_37 : decode cJ6_getChars_ba4f3 37 = .ok (.iload_n 0, 1) := by decide +kernel
theorem dJ6_getChars_ba4f3_38 : decode cJ6_getChars_ba4f3 38 = .ok (.isub, 1) := by decide +kernel
theorem dJ6_getChars_ba4f3_39 : decode cJ6_getChars_ba4f3 39 = .ok (.istore 4, 2) := by decide +kernel
theorem dJ6_getChars_ba4f3_41 : decode cJ6_getChars_ba4f3 41 = .ok (.iload_n 3, 1) := by decide +kernel
theorem dJ6_getChars_ba4f3_42 : decode cJ6_getChars_ba4f3 42 = .ok (.istore_n 0, 1) := by decide +kernel
theorem dJ6_getChars_ba4f3_43 : decode cJ6_getChars_ba4f3 43 = .ok (.aload_n 2, 1) := by decide +kernel
theorem dJ6_getChars_ba4f3_44 : decode cJ6_getChars_ba4f3 44 = .ok (.iinc 5 (-1), 3) := by decide +kernel
theorem dJ6_getChars_ba4f3_47 : decode cJ6_getChars_ba4f3 47 = .ok (.iload 5, 2) := by decide +kernel
theorem dJ6_getChars_ba4f3_49 : decode cJ6_getChars_ba4f3 49 = .ok (.getstatic 83, 3) := by decide +kernel
theorem dJ6_getChars_ba4f3_52 : decode cJ6_getChars_ba4f3 52 = .ok (.iload 4, 2) := by decide +kernel
theorem dJ6_getChars_ba4f3_54 : decode cJ6_getChars_ba4f3 54 = .ok (.baload, 1) := by decide +kernel
theorem dJ6_getChars_ba4f3_55 : decode cJ6_getChars_ba4f3 55 = .ok (.bastore, 1) := by decide +kernel
theorem dJ6_getChars_ba4f3_56 : decode cJ6_getChars_ba4f3 56 = .ok (.aload_n 2, 1) := by decide +kernel
theorem dJ6_getChars_ba4f3_57 : decode cJ6_getChars_ba4f3 57 = .ok (.iinc 5 (-1), 3) := by decide +kernel
theorem dJ6_getChars_ba4f3_60 : decode cJ6_getChars_ba4f3 60 = .ok (.iload 5, 2) := by decide +kernel
theorem dJ6_getChars_ba4f3_62 : decode cJ6_getChars_ba4f3 62 = .ok (.getstatic 87, 3) := by decide +kernel
theorem dJ6_getChars_ba4f3_65 : decode cJ6_getChars_ba4f3 65 = .ok (.iload 4, 2) := by decide +kernel
theorem dJ6_getChars_ba4f3_67 : decode cJ6_getChars_ba4f3 67 = .ok (.baload, 1) := by decide +kernel
theorem dJ6_getChars_ba4f3_68 : decode cJ6_getChars_ba4f3 68 = .ok (.bastore, 1) := by decide +kernel
theorem dJ6_getChars_ba4f3_69 : decode cJ6_getChars_ba4f3 69 = .ok (.goto (-47), 3) := by decide +kernel
theorem dJ6_getChars_ba4f3_72 : decode cJ6_getChars_ba4f3 72 = .ok (.aload_n 2, 1) := by decide +kernel
theorem dJ6_getChars_ba4f3_73 : decode cJ6_getChars_ba4f3 73 = .ok (.iinc 5 (-1), 3) := by decide +kernel
theorem dJ6_getChars_ba4f3_76 : decode cJ6_getChars_ba4f3 76 = .ok (.iload 5, 2) := by decide +kernel
theorem dJ6_getChars_ba4f3_78 : decode cJ6_getChars_ba4f3 78 = .ok (.getstatic 83, 3) := by decide +kernel
theorem dJ6_getChars_ba4f3_81 : decode cJ6_getChars_ba4f3 81 = .ok (.iload_n 0, 1) := by decide +kernel
theorem dJ6_getChars_ba4f3_82 : decode cJ6_getChars_ba4f3 82 = .ok (.ineg, 1) := by decide +kernel
theorem dJ6_getChars_ba4f3_83 : decode cJ6_getChars_ba4f3 83 = .ok (.baload, 1) := by decide +kernel
theorem dJ6_getChars_ba4f3_84 : decode cJ6_getChars_ba4f3 84 = .ok (.bastore, 1) := by decide +kernel
theorem dJ6_getChars_ba4f3_85 : decode cJ6_getChars_ba4f3 85 = .ok (.iload_n 0, 1) := by decide +kernel
theorem dJ6_getChars_ba4f3_86 : decode cJ6_getChars_ba4f3 86 = .ok (.bipush (-9), 2) := by decide +kernel
theorem dJ6_getChars_ba4f3_88 : decode cJ6_getChars_ba4f3 88 = .ok (.if_icmp .ge 16, 3) := by decide +kernel
theorem dJ6_getChars_ba4f3_91 : decode cJ6_getChars_ba4f3 91 = .ok (.aload_n 2, 1) := by decide +kernel
theorem dJ6_getChars_ba4f3_92 : decode cJ6_getChars_ba4f3 92 = .ok (.iinc 5 (-1), 3) := by decide +kernel
theorem dJ6_getChars_ba4f3_95 : decode cJ6_getChars_ba4f3 95 = .ok (.iload 5, 2) := by decide +kernel
theorem dJ6_getChars_ba4f3_97 : decode cJ6_getChars_ba4f3 97 = .ok (.getstatic 87, 3) := by decide +kernel
theorem dJ6_getChars_ba4f3_100 : decode cJ6_getChars_ba4f3 100 = .ok (.iload_n 0, 1) := by decide +kernel
theorem dJ6_getChars_ba4f3_101 : decode cJ6_getChars_ba4f3 101 = .ok (.ineg, 1) := by decide +kernel
theorem dJ6_getChars_ba4f3_102 : decode cJ6_getChars_ba4f3 102 = .ok (.baload, 1) := by decide +kernel
theorem dJ6_getChars_ba4f3_103 : decode cJ6_getChars_ba4f3 103 = .ok (.bastore, 1) := by decide +kernel
theorem dJ6_getChars_ba4f3_104 : decode cJ6_getChars_ba4f3 104 = .ok (.iload 6, 2) := by decide +kernel
theorem dJ6_getChars_ba4f3_106 : decode cJ6_getChars_ba4f3 106 = .ok (.ifCond .eq 12, 3) := by decide +kernel
theorem dJ6_getChars_ba4f3_109 : decode cJ6_getChars_ba4f3 109 = .ok (.aload_n 2, 1) := by decide +kernel
theorem dJ6_getChars_ba4f3_110 : decode cJ6_getChars_ba4f3 110 = .ok (.iinc 5 (-1), 3) := by decide +kernel
theorem dJ6_getChars_ba4f3_113 : decode cJ6_getChars_ba4f3 113 = .ok (.iload 5, 2) := by decide +kernel
theorem dJ6_getChars_ba4f3_115 : decode cJ6_getChars_ba4f3 115 = .ok (.bipush 45, 2) := by decide +kernel
theorem dJ6_getChars_ba4f3_117 : decode cJ6_getChars_ba4f3 117 = .ok (.bastore, 1) := by decide +kernel
theorem dJ6_getChars_ba4f3_118 : decode cJ6_getChars_ba4f3 118 = .ok (.iload 5, 2) := by decide +kernel
theorem dJ6_getChars_ba4f3_120 : decode cJ6_getChars_ba4f3 120 = .ok (.ireturn, 1) := by decide +kernel
theorem dJ5_append_c97b9_0 : decode cJ5_append_c97b9 0 = .ok (.aload_n 0, 1) := by decide +kernel
theorem dJ5_append_c97b9_1 : decode cJ5_append_c97b9 1 = .ok (.getfield 79, 3) := by decide +kernel
theorem dJ5_append_c97b9_4 : decode cJ5_append_c97b9 4 = .ok (.istore_n 2, 1) := by decide +kernel
theorem dJ5_append_c97b9_5 : decode cJ5_append_c97b9 5 = .ok (.iload_n 2, 1) := by decide +kernel
theorem dJ5_append_c97b9_6 : decode cJ5_append_c97b9 6 = .ok (.iload_n 1, 1) := by decide +kernel
theorem dJ5_append_c97b9_7 : decode cJ5_append_c97b9 7 = .ok (.invokestatic 245, 3) := by decide +kernel
theorem dJ5_append_c97b9_10 : decode cJ5_append_c97b9 10 = .ok (.iadd, 1) := by decide +kernel
theorem dJ5_append_c97b9_11 : decode cJ5_append_c97b9 11 = .ok (.istore_n 3, 1) := by decide +kernel
theorem dJ5_append_c97b9_12 : decode cJ5_append_c97b9 12 = .ok (.aload_n 0, 1) := by decide +kernel
theorem dJ5_append_c97b9_13 : decode cJ5_append_c97b9 13 = .ok (.iload_n 3, 1) := by decide +kernel
theorem dJ5_append_c97b9_14 : decode cJ5_append_c97b9 14 = .ok (.invokevirtual 100, 3) := by decide +kernel
theorem dJ5_append_c97b9_17 : decode cJ5_append_c97b9 17 = .ok (.aload_n 0, 1) := by decide +kernel
theorem dJ5_append_c97b9_18 : decode cJ5_append_c97b9 18 = .ok (.invokevirtual 83, 3) := by decide +kernel
theorem dJ5_append_c97b9_21 : decode cJ5_append_c97b9 21 = .ok (.ifCond .eq 16, 3) := by decide +kernel
theorem dJ5_append_c97b9_24 : decode cJ5_append_c97b9 24 = .ok (.iload_n 1, 1) := by decide +kernel
theorem dJ5_append_c97b9_25 : decode cJ5_append_c97b9 25 = .ok (.iload_n 3, 1) := by decide +kernel
theorem dJ5_append_c97b9_26 : decode cJ5_append_c97b9 26 = .ok (.aload_n 0, 1) := by decide +kernel
theorem dJ5_append_c97b9_27 : decode cJ5_append_c97b9 27 = .ok (.getfield 15, 3) := by decide +kernel
theorem dJ5_append_c97b9_30 : decode cJ5_append_c97b9 30 = .ok (.invokestatic 248, 3) := by decide +kernel
theorem dJ5_append_c97b9_33 : decode cJ5_append_c97b9 33 = .ok (.pop, 1) := by decide +kernel
theorem dJ5_append_c97b9_34 : decode cJ5_append_c97b9 34 = .ok (.goto 14, 3) := by decide +kernel
theorem dJ5_append_c97b9_37 : decode cJ5_append_c97b9 37 = .ok (.iload_n 1, 1) := by decide +kernel
theorem dJ5_append_c97b9_38 : decode cJ5_append_c97b9 38 = .ok (.iload_n 2, 1) := by decide +kernel
theorem dJ5_append_c97b9_39 : decode cJ5_append_c97b9 39 = .ok (.iload_n 3, 1) := by decide +kernel
theorem dJ5_append_c97b9_40 : decode cJ5_append_c97b9 40 = .ok (.aload_n 0, 1) := by decide +kernel
theorem dJ5_append_c97b9_41 : decode cJ5_append_c97b9 41 = .ok (.getfield 15, 3) := by decide +kernel
theorem dJ5_append_c97b9_44 : decode cJ5_append_c97b9 44 = .ok (.invokestatic 251, 3) := by decide +kernel
theorem dJ5_append_c97b9_47 : decode cJ5_append_c97b9 47 = .ok (.pop, 1) := by decide +kernel
theorem dJ5_append_c97b9_48 : decode cJ5_append_c97b9 48 = .ok (.aload_n 0, 1) := by decide +kernel
theorem dJ5_append_c97b9_49 : decode cJ5_append_c97b9 49 = .ok (.iload_n 3, 1) := by decide +kernel
theorem dJ5_append_c97b9_50 : decode cJ5_append_c97b9 50 = .ok (.putfield 79, 3) := by decide +kernel
theorem dJ5_append_c97b9_53 : decode cJ5_append_c97b9 53 = .ok (.aload_n 0, 1) := by decide +kernel
theorem dJ5_append_c97b9_54 : decode cJ5_append_c97b9 54 = .ok (.areturn, 1) := by decide +kernel
theorem dJ4_append_bf812_0 : decode cJ4_append_bf812 0 = .ok (.aload_n 0, 1) := by decide +kernel
theorem dJ4_append_bf812_1 : decode cJ4_append_bf812 1 = .ok (.iload_n 1, 1) := by decide +kernel
theorem dJ4_append_bf812_2 : decode cJ4_append_bf812 2 = .ok (.invokespecial 53, 3) := by decide +kernel
theorem dJ4_append_bf812_5 : decode cJ4_append_bf812 5 = .ok (.pop, 1) := by decide +kernel
theorem dJ4_append_bf812_6 : decode cJ4_append_bf812 6 = .ok (.aload_n 0, 1) := by decide +kernel
theorem dJ4_append_bf812_7 : decode cJ4_append_bf812 7 = .ok (.areturn, 1) := by decide +kernel
theorem dJ4_append_cf1ce_0 : decode cJ4_append_cf1ce 0 = .ok (.aload_n 0, 1) := by decide +kernel
theorem dJ4_append_cf1ce_1 : decode cJ4_append_cf1ce 1 = .ok (.aload_n 1, 1) := by decide +kernel
theorem dJ4_append_cf1ce_2 : decode cJ4_append_cf1ce 2 = .ok (.invokevirtual 23, 3) := by decide +kernel
theorem dJ4_append_cf1ce_5 : decode cJ4_append_cf1ce 5 = .ok (.areturn, 1) := by decide +kernel
theorem dJ5_init_a7421_0 : decode cJ5_init_a7421 0 = .ok (.aload_n 0, 1) := by decide +kernel
theorem dJ5_init_a7421_1 : decode cJ5_init_a7421 1 = .ok (.invokespecial 3, 3) := by decide +kernel
theorem dJ5_init_a7421_4 : decode cJ5_init_a7421 4 = .ok (.aload_n 1, 1) := by decide +kernel
theorem dJ5_init_a7421_5 : decode cJ5_init_a7421 5 = .ok (.invokevirtual 32, 3) := by decide +kernel
theorem dJ5_init_a7421_8 : decode cJ5_init_a7421 8 = .ok (.istore_n 2, 1) := by decide +kernel
theorem dJ5_init_a7421_9 : decode cJ5_init_a7421 9 = .ok (.iload_n 2, 1) := by decide +kernel
theorem dJ5_init_a7421_10 : decode cJ5_init_a7421 10 = .ok (.ldc 38, 2) := by decide +kernel
theorem dJ5_init_a7421_12 : decode cJ5_init_a7421 12 = .ok (.if_icmp .ge 10, 3) := by decide +kernel
theorem dJ5_init_a7421_15 : decode cJ5_init_a7421 15 = .ok (.iload_n 2, 1) := by decide +kernel
theorem dJ5_init_a7421_16 : decode cJ5_init_a7421 16 = .ok (.bipush 16, 2) := by decide +kernel
theorem dJ5_init_a7421_18 : decode cJ5_init_a7421 18 = .ok (.iadd, 1) := by decide +kernel
theorem dJ5_init_a7421_19 : decode cJ5_init_a7421 19 = .ok (.goto 5, 3) := by decide +kernel
theorem dJ5_init_a7421_22 : decode cJ5_init_a7421 22 = .ok (.ldc 39, 2) := by decide +kernel
theorem dJ5_init_a7421_24 : decode cJ5_init_a7421 24 = .ok (.istore_n 3, 1) := by decide +kernel
theorem dJ5_init_a7421_25 : decode cJ5_init_a7421 25 = .ok (.aload_n 1, 1) := by decide +kernel
theorem dJ5_init_a7421_26 : decode cJ5_init_a7421 26 = .ok (.invokevirtual 40, 3) := by decide +kernel
theorem dJ5_init_a7421_29 : decode cJ5_init_a7421 29 = .ok (.istore 4, 2) := by decide +kernel
theorem dJ5_init_a7421_31 : decode cJ5_init_a7421 31 = .ok (.aload_n 0, 1) := by decide +kernel
theorem dJ5_init_a7421_32 : decode cJ5_init_a7421 32 = .ok (.iload 4, 2) := by decide +kernel
theorem dJ5_init_a7421_34 : decode cJ5_init_a7421 34 = .ok (.putfield 22, 3) := by decide +kernel
theorem dJ5_init_a7421_37 : decode cJ5_init_a7421 37 = .ok (.aload_n 0, 1) := by decide +kernel
theorem dJ5_init_a7421_38 : decode cJ5_init_a7421 38 = .ok (.iload 4, 2) := by decide +kernel
theorem dJ5_init_a7421_40 : decode cJ5_init_a7421 40 = .ok (.ifCond .ne 9, 3) := by decide +kernel
theorem dJ5_init_a7421_43 : decode cJ5_init_a7421 43 = .ok (.iload_n 3, 1) := by decide +kernel
theorem dJ5_init_a7421_44 : decode cJ5_init_a7421 44 = .ok (.newarray .byte, 2) := by decide +kernel
theorem dJ5_init_a7421_46 : decode cJ5_init_a7421 46 = .ok (.goto 7, 3) := by decide +kernel
theorem dJ5_init_a7421_49 : decode cJ5_init_a7421 49 = .ok (.iload_n 3, 1) := by decide +kernel
theorem dJ5_init_a7421_50 : decode cJ5_init_a7421 50 = .ok (.invokestatic 26, 3) := by decide +kernel
theorem dJ5_init_a7421_53 : decode cJ5_init_a7421 53 = .ok (.putfield 15, 3) := by decide +kernel
theorem dJ5_init_a7421_56 : decode cJ5_init_a7421 56 = .ok (.aload_n 0, 1) := by decide +kernel
theorem dJ5_init_a7421_57 : decode cJ5_init_a7421 57 = .ok (.aload_n 1, 1) := by decide +kernel
theorem dJ5_init_a7421_58 : decode cJ5_init_a7421 58 = .ok (.invokevirtual 43, 3) := by decide +kernel
theorem dJ5_init_a7421_61 : decode cJ5_init_a7421 61 = .ok (.pop, 1) := by decide +kernel
theorem dJ5_init_a7421_62 : decode cJ5_init_a7421 62 = .ok (.return_, 1) := by decide +kernel
theorem dJ4_init_a7421_0 : decode cJ4_init_a7421 0 = .ok (.aload_n 0, 1) := by decide +kernel
theorem dJ4_init_a7421_1 : decode cJ4_init_a7421 1 = .ok (.aload_n 1, 1) := by decide +kernel
theorem dJ4_init_a7421_2 : decode cJ4_init_a7421 2 = .ok (.invokespecial 7, 3) := by decide +kernel
theorem dJ4_init_a7421_5 : decode cJ4_init_a7421 5 = .ok (.return_, 1) := by decide +kernel
theorem dL_changes_0 : decode cL_changes 0 = .ok (.aload_n 2, 1) := by decide +kernel
theorem dL_changes_1 : decode cL_changes 1 = .ok (.aload_n 1, 1) := by decide +kernel
theorem dL_changes_2 : decode cL_changes 2 = .ok (.getfield 46, 3) := by decide +kernel
theorem dL_changes_5 : decode cL_changes 5 = .ok (.invokestatic 35, 3) := by decide +kernel
theorem dL_changes_8 : decode cL_changes 8 = .ok (.istore_n 3, 1) := by decide +kernel
theorem dL_changes_9 : decode cL_changes 9 = .ok (.aload_n 1, 1) := by decide +kernel
theorem dL_changes_10 : decode cL_changes 10 = .ok (.getfield 80, 3) := by decide +kernel
theorem dL_changes_13 : decode cL_changes 13 = .ok (.iload_n 3, 1) := by decide +kernel
theorem dL_changes_14 : decode cL_changes 14 = .ok (.aaload, 1) := by decide +kernel
theorem dL_changes_15 : decode cL_changes 15 = .ok (.astore 4, 2) := by decide +kernel
theorem dL_changes_17 : decode cL_changes 17 = .ok (.aload_n 2, 1) := by decide +kernel
theorem dL_changes_18 : decode cL_changes 18 = .ok (.aload_n 1, 1) := by decide +kernel
theorem dL_changes_19 : decode cL_changes 19 = .ok (.getfield 39, 3) := by decide +kernel
theorem dL_changes_22 : decode cL_changes 22 = .ok (.invokestatic 35, 3) := by decide +kernel
theorem dL_changes_25 : decode cL_changes 25 = .ok (.istore 5, 2) := by decide +kernel
theorem dL_changes_27 : decode cL_changes 27 = .ok (.aload_n 2, 1) := by decide +kernel
theorem dL_changes_28 : decode cL_changes 28 = .ok (.bipush 6, 2) := by decide +kernel
theorem dL_changes_30 : decode cL_changes 30 = .ok (.invokestatic 35, 3) := by decide +kernel
theorem dL_changes_33 : decode cL_changes 33 = .ok (.istore 6, 2) := by decide +kernel
theorem dL_changes_35 : decode cL_changes 35 = .ok (.aload_n 2, 1) := by decide +kernel
theorem dL_changes_36 : decode cL_changes 36 = .ok (.bipush 14, 2) := by decide +kernel
theorem dL_changes_38 : decode cL_changes 38 = .ok (.invokestatic 35, 3) := by decide +kernel
theorem dL_changes_41 : decode cL_changes 41 = .ok (.tableswitch 636 0 12 #[67, 97, 145, 145, 254, 311, 311, 311, 347, 430, 430, 454, 546], 67) := by decide +kernel
theorem dL_changes_108 : decode cL_changes 108 = .ok (.aload_n 2, 1) := by decide +kernel
theorem dL_changes_109 : decode cL_changes 109 = .ok (.iconst 2, 1) := by decide +kernel
theorem dL_changes_110 : decode cL_changes 110 = .ok (.invokestatic 35, 3) := by decide +kernel
theorem dL_changes_113 : decode cL_changes 113 = .ok (.ifCond .le 5, 3) := by decide +kernel
theorem dL_changes_116 : decode cL_changes 116 = .ok (.iconst 1, 1) := by decide +kernel
theorem dL_changes_117 : decode cL_changes 117 = .ok (.ireturn, 1) := by decide +kernel
theorem dL_changes_118 : decode cL_changes 118 = .ok (.aload_n 0, 1) := by decide +kernel
theorem dL_changes_119 : decode cL_changes 119 = .ok (.iload_n 3, 1) := by decide +kernel
theorem dL_changes_120 : decode cL_changes 120 = .ok (.invokevirtual 275, 3) := by decide +kernel
theorem dL_changes_123 : decode cL_changes 123 = .ok (.aload_n 1, 1) := by decide +kernel
theorem dL_changes_124 : decode cL_changes 124 = .ok (.aload 4, 2) := by decide +kernel
theorem dL_changes_126 : decode cL_changes 126 = .ok (.invokevirtual 278, 3) := by decide +kernel
theorem dL_changes_129 : decode cL_changes 129 = .ok (.if_icmp .ne 7, 3) := by decide +kernel
theorem dL_changes_132 : decode cL_changes 132 = .ok (.iconst 1, 1) := by decide +kernel
theorem dL_changes_133 : decode cL_changes 133 = .ok (.goto 4, 3) := by decide +kernel
theorem dL_changes_136 : decode cL_changes 136 = .ok (.iconst 0, 1) := by decide +kernel
theorem dL_changes_137 : decode cL_changes 137 = .ok (.ireturn, 1) := by decide +kernel
theorem dL_changes_138 : decode cL_changes 138 = .ok (.aload_n 1, 1) := by decide +kernel
theorem dL_changes_139 : decode cL_changes 139 = .ok (.getfield 96, 3) := by decide +kernel
theorem dL_changes_142 : decode cL_changes 142 = .ok (.bipush 8, 2) := by decide +kernel
theorem dL_changes_144 : decode cL_changes 144 = .ok (.if_icmp .ne 5, 3) := by decide +kernel
theorem dL_changes_147 : decode cL_changes 147 = .ok (.iconst 1, 1) := by decide +kernel
theorem dL_changes_148 : decode cL_changes 148 = .ok (.ireturn, 1) := by decide +kernel
theorem dL_changes_149 : decode cL_changes 149 = .ok (.aload_n 1, 1) := by decide +kernel
theorem dL_changes_150 : decode cL_changes 150 = .ok (.getfield 92, 3) := by decide +kernel
theorem dL_changes_153 : decode cL_changes 153 = .ok (.aload_n 1, 1) := by decide +kernel
theorem dL_changes_154 : decode cL_changes 154 = .ok (.getfield 96, 3) := by decide +kernel
theorem dL_changes_157 : decode cL_changes 157 = .ok (.aload_n 1, 1) := by decide +kernel
theorem dL_changes_158 : decode cL_changes 158 = .ok (.getfield 99, 3) := by decide +kernel
theorem dL_changes_161 : decode cL_changes 161 = .ok (.iastore, 1) := by decide +kernel
theorem dL_changes_162 : decode cL_changes 162 = .ok (.aload_n 0, 1) := by decide +kernel
theorem dL_changes_163 : decode cL_changes 163 = .ok (.invokevirtual 281, 3) := by decide +kernel
theorem dL_changes_166 : decode cL_changes 166 = .ok (.aload_n 1, 1) := by decide +kernel
theorem dL_changes_167 : decode cL_changes 167 = .ok (.dup, 1) := by decide +kernel
theorem dL_changes_168 : decode cL_changes 168 = .ok (.getfield 96, 3) := by decide +kernel
theorem dL_changes_171 : decode cL_changes 171 = .ok (.dup_x1, 1) := by decide +kernel
theorem dL_changes_172 : decode cL_changes 172 = .ok (.iconst 1, 1) := by decide +kernel
theorem dL_changes_173 : decode cL_changes 173 = .ok (.iadd, 1) := by decide +kernel
theorem dL_changes_174 : decode cL_changes 174 = .ok (.putfield 96, 3) := by decide +kernel
theorem dL_changes_177 : decode cL_changes 177 = .ok (.if_icmp .ne 7, 3) := by decide +kernel
theorem dL_changes_180 : decode cL_changes 180 = .ok (.iconst 1, 1) := by decide +kernel
theorem dL_changes_181 : decode cL_changes 181 = .ok (.goto 4, 3) := by decide +kernel
theorem dL_changes_184 : decode cL_changes 184 = .ok (.iconst 0, 1) := by decide +kernel
theorem dL_changes_185 : decode cL_changes 185 = .ok (.ireturn, 1) := by decide +kernel
theorem dL_changes_186 : decode cL_changes 186 = .ok (.aload_n 1, 1) := by decide +kernel
theorem dL_changes_187 : decode cL_changes 187 = .ok (.invokevirtual 220, 3) := by decide +kernel
theorem dL_changes_190 : decode cL_changes 190 = .ok (.bipush 6, 2) := by decide +kernel
theorem dL_changes_192 : decode cL_changes 192 = .ok (.if_icmp .ne 5, 3) := by decide +kernel
theorem dL_changes_195 : decode cL_changes 195 = .ok (.iconst 1, 1) := by decide +kernel
theorem dL_changes_196 : decode cL_changes 196 = .ok (.ireturn, 1) := by decide +kernel
theorem dL_changes_197 : decode cL_changes 197 = .ok (.iconst 0, 1) := by decide +kernel
theorem dL_changes_198 : decode cL_changes 198 = .ok (.istore 7, 2) := by decide +kernel
theorem dL_changes_200 : decode cL_changes 200 = .ok (.aload_n 1, 1) := by decide +kernel
theorem dL_changes_201 : decode cL_changes 201 = .ok (.getfield 124, 3) := by decide +kernel
theorem dL_changes_204 : decode cL_changes 204 = .ok (.iload 7, 2) := by decide +kernel
theorem dL_changes_206 : decode cL_changes 206 = .ok (.aaload, 1) := by decide +kernel
theorem dL_changes_207 : decode cL_changes 207 = .ok (.ifnull 9, 3) := by decide +kernel
theorem dL_changes_210 : decode cL_changes 210 = .ok (.iinc 7 1, 3) := by decide +kernel
theorem dL_changes_213 : decode cL_changes 213 = .ok (.goto (-13), 3) := by decide +kernel
theorem dL_changes_216 : decode cL_changes 216 = .ok (.new 129, 3) := by decide +kernel
theorem dL_changes_219 : decode cL_changes 219 = .ok (.dup, 1) := by decide +kernel
theorem dL_changes_220 : decode cL_changes 220 = .ok (.invokespecial 283, 3) := by decide +kernel
theorem dL_changes_223 : decode cL_changes 223 = .ok (.astore 8, 2) := by decide +kernel
theorem dL_changes_225 : decode cL_changes 225 = .ok (.aload 8, 2) := by decide +kernel
theorem dL_changes_227 : decode cL_changes 227 = .ok (.aload 4, 2) := by decide +kernel
theorem dL_changes_229 : decode cL_changes 229 = .ok (.putfield 128, 3) := by decide +kernel
theorem dL_changes_232 : decode cL_changes 232 = .ok (.aload 8, 2) := by decide +kernel
theorem dL_changes_234 : decode cL_changes 234 = .ok (.iload_n 3, 1) := by decide +kernel
theorem dL_changes_235 : decode cL_changes 235 = .ok (.putfield 195, 3) := by decide +kernel
theorem dL_changes_238 : decode cL_changes 238 = .ok (.aload 8, 2) := by decide +kernel
theorem dL_changes_240 : decode cL_changes 240 = .ok (.aload_n 1, 1) := by decide +kernel
theorem dL_changes_241 : decode cL_changes 241 = .ok (.getfield 99, 3) := by decide +kernel
theorem dL_changes_244 : decode cL_changes 244 = .ok (.putfield 203, 3) := by decide +kernel
theorem dL_changes_247 : decode cL_changes 247 = .ok (.aload 8, 2) := by decide +kernel
theorem dL_changes_249 : decode cL_changes 249 = .ok (.aload_n 2, 1) := by decide +kernel
theorem dL_changes_250 : decode cL_changes 250 = .ok (.iconst 2, 1) := by decide +kernel
theorem dL_changes_251 : decode cL_changes 251 = .ok (.invokestatic 35, 3) := by decide +kernel
theorem dL_changes_254 : decode cL_changes 254 = .ok (.ifCond .ne 7, 3) := by decide +kernel
theorem dL_changes_257 : decode cL_changes 257 = .ok (.iconst 1, 1) := by decide +kernel
theorem dL_changes_258 : decode cL_changes 258 = .ok (.goto 4, 3) := by decide +kernel
theorem dL_changes_261 : decode cL_changes 261 = .ok (.iconst 0, 1) := by decide +kernel
theorem dL_changes_262 : decode cL_changes 262 = .ok (.putfield 200, 3) := by decide +kernel
theorem dL_changes_265 : decode cL_changes 265 = .ok (.aload_n 1, 1) := by decide +kernel
theorem dL_changes_266 : decode cL_changes 266 = .ok (.getfield 124, 3) := by decide +kernel
theorem dL_changes_269 : decode cL_changes 269 = .ok (.iload 7, 2) := by decide +kernel
theorem dL_changes_271 : decode cL_changes 271 = .ok (.aload 8, 2) := by decide +kernel
theorem dL_changes_273 : decode cL_changes 273 = .ok (.aastore, 1) := by decide +kernel
theorem dL_changes_274 : decode cL_changes 274 = .ok (.aload_n 0, 1) := by decide +kernel
theorem dL_changes_275 : decode cL_changes 275 = .ok (.iload_n 3, 1) := by decide +kernel
theorem dL_changes_276 : decode cL_changes 276 = .ok (.aload 8, 2) := by decide +kernel
theorem dL_changes_278 : decode cL_changes 278 = .ok (.getfield 200, 3) := by decide +kernel
theorem dL_changes_281 : decode cL_changes 281 = .ok (.invokevirtual 284, 3) := by decide +kernel
theorem dL_changes_284 : decode cL_changes 284 = .ok (.iload 7, 2) := by decide +kernel
theorem dL_changes_286 : decode cL_changes 286 = .ok (.if_icmp .ne 7, 3) := by decide +kernel
theorem dL_changes_289 : decode cL_changes 289 = .ok (.iconst 1, 1) := by decide +kernel
theorem dL_changes_290 : decode cL_changes 290 = .ok (.goto 4, 3) := by decide +kernel
theorem dL_changes_293 : decode cL_changes 293 = .ok (.iconst 0, 1) := by decide +kernel
theorem dL_changes_294 : decode cL_changes 294 = .ok (.ireturn, 1) := by decide +kernel
theorem dL_changes_295 : decode cL_changes 295 = .ok (.aload_n 1, 1) := by decide +kernel
theorem dL_changes_296 : decode cL_changes 296 = .ok (.getfield 124, 3) := by decide +kernel
theorem dL_changes_299 : decode cL_changes 299 = .ok (.iload 6, 2) := by decide +kernel
theorem dL_changes_301 : decode cL_changes 301 = .ok (.aaload, 1) := by decide +kernel
theorem dL_changes_302 : decode cL_changes 302 = .ok (.ifnull 11, 3) := by decide +kernel
theorem dL_changes_305 : decode cL_changes 305 = .ok (.aload_n 2, 1) := by decide +kernel
theorem dL_changes_306 : decode cL_changes 306 = .ok (.iconst 2, 1) := by decide +kernel
theorem dL_changes_307 : decode cL_changes 307 = .ok (.invokestatic 35, 3) := by decide +kernel
theorem dL_changes_310 : decode cL_changes 310 = .ok (.ifCond .le 5, 3) := by decide +kernel
theorem dL_changes_313 : decode cL_changes 313 = .ok (.iconst 1, 1) := by decide +kernel
theorem dL_changes_314 : decode cL_changes 314 = .ok (.ireturn, 1) := by decide +kernel
theorem dL_changes_315 : decode cL_changes 315 = .ok (.aload_n 1, 1) := by decide +kernel
theorem dL_changes_316 : decode cL_changes 316 = .ok (.getfield 124, 3) := by decide +kernel
theorem dL_changes_319 : decode cL_changes 319 = .ok (.iload 6, 2) := by decide +kernel
theorem dL_changes_321 : decode cL_changes 321 = .ok (.aaload, 1) := by decide +kernel
theorem dL_changes_322 : decode cL_changes 322 = .ok (.getfield 206, 3) := by decide +kernel
theorem dL_changes_325 : decode cL_changes 325 = .ok (.istore 7, 2) := by decide +kernel
theorem dL_changes_327 : decode cL_changes 327 = .ok (.aload_n 1, 1) := by decide +kernel
theorem dL_changes_328 : decode cL_changes 328 = .ok (.getfield 124, 3) := by decide +kernel
theorem dL_changes_331 : decode cL_changes 331 = .ok (.iload 6, 2) := by decide +kernel
theorem dL_changes_333 : decode cL_changes 333 = .ok (.aconst_null, 1) := by decide +kernel
theorem dL_changes_334 : decode cL_changes 334 = .ok (.aastore, 1) := by decide +kernel
theorem dL_changes_335 : decode cL_changes 335 = .ok (.aload_n 0, 1) := by decide +kernel
theorem dL_changes_336 : decode cL_changes 336 = .ok (.iload 6, 2) := by decide +kernel
theorem dL_changes_338 : decode cL_changes 338 = .ok (.invokevirtual 287, 3) := by decide +kernel
theorem dL_changes_341 : decode cL_changes 341 = .ok (.iload 7, 2) := by decide +kernel
theorem dL_changes_343 : decode cL_changes 343 = .ok (.if_icmp .ne 7, 3) := by decide +kernel
theorem dL_changes_346 : decode cL_changes 346 = .ok (.iconst 1, 1) := by decide +kernel
theorem dL_changes_347 : decode cL_changes 347 = .ok (.goto 4, 3) := by decide +kernel
theorem dL_changes_350 : decode cL_changes 350 = .ok (.iconst 0, 1) := by decide +kernel
theorem dL_changes_351 : decode cL_changes 351 = .ok (.ireturn, 1) := by decide +kernel
theorem dL_changes_352 : decode cL_changes 352 = .ok (.aload_n 1, 1) := by decide +kernel
theorem dL_changes_353 : decode cL_changes 353 = .ok (.getfield 124, 3) := by decide +kernel
theorem dL_changes_356 : decode cL_changes 356 = .ok (.iload 6, 2) := by decide +kernel
theorem dL_changes_358 : decode cL_changes 358 = .ok (.aaload, 1) := by decide +kernel
theorem dL_changes_359 : decode cL_changes 359 = .ok (.ifnull 23, 3) := by decide +kernel
theorem dL_changes_362 : decode cL_changes 362 = .ok (.aload_n 0, 1) := by decide +kernel
theorem dL_changes_363 : decode cL_changes 363 = .ok (.iload 6, 2) := by decide +kernel
theorem dL_changes_365 : decode cL_changes 365 = .ok (.invokevirtual 290, 3) := by decide +kernel
theorem dL_changes_368 : decode cL_changes 368 = .ok (.aload_n 1, 1) := by decide +kernel
theorem dL_changes_369 : decode cL_changes 369 = .ok (.aload_n 1, 1) := by decide +kernel
theorem dL_changes_370 : decode cL_changes 370 = .ok (.getfield 124, 3) := by decide +kernel
theorem dL_changes_373 : decode cL_changes 373 = .ok (.iload 6, 2) := by decide +kernel
theorem dL_changes_375 : decode cL_changes 375 = .ok (.aaload, 1) := by decide +kernel
theorem dL_changes_376 : decode cL_changes 376 = .ok (.invokevirtual 293, 3) := by decide +kernel
theorem dL_changes_379 : decode cL_changes 379 = .ok (.if_icmp .ne 7, 3) := by decide +kernel
theorem dL_changes_382 : decode cL_changes 382 = .ok (.iconst 1, 1) := by decide +kernel
theorem dL_changes_383 : decode cL_changes 383 = .ok (.goto 4, 3) := by decide +kernel
theorem dL_changes_386 : decode cL_changes 386 = .ok (.iconst 0, 1) := by decide +kernel
theorem dL_changes_387 : decode cL_changes 387 = .ok (.ireturn, 1) := by decide +kernel
theorem dL_changes_388 : decode cL_changes 388 = .ok (.aload_n 1, 1) := by decide +kernel
theorem dL_changes_389 : decode cL_changes 389 = .ok (.getfield 124, 3) := by decide +kernel
theorem dL_changes_392 : decode cL_changes 392 = .ok (.iload 6, 2) := by decide +kernel
theorem dL_changes_394 : decode cL_changes 394 = .ok (.aaload, 1) := by decide +kernel
theorem dL_changes_395 : decode cL_changes 395 = .ok (.astore 7, 2) := by decide +kernel
theorem dL_changes_397 : decode cL_changes 397 = .ok (.aload 7, 2) := by decide +kernel
theorem dL_changes_399 : decode cL_changes 399 = .ok (.ifnull 35, 3) := by decide +kernel
theorem dL_changes_402 : decode cL_changes 402 = .ok (.aload 7, 2) := by decide +kernel
theorem dL_changes_404 : decode cL_changes 404 = .ok (.getfield 134, 3) := by decide +kernel
theorem dL_changes_407 : decode cL_changes 407 = .ok (.ifCond .eq 27, 3) := by decide +kernel
theorem dL_changes_410 : decode cL_changes 410 = .ok (.aload 7, 2) := by decide +kernel
theorem dL_changes_412 : decode cL_changes 412 = .ok (.getfield 209, 3) := by decide +kernel
theorem dL_changes_415 : decode cL_changes 415 = .ok (.ifCond .lt 19, 3) := by decide +kernel
theorem dL_changes_418 : decode cL_changes 418 = .ok (.aload 7, 2) := by decide +kernel
theorem dL_changes_420 : decode cL_changes 420 = .ok (.getfield 128, 3) := by decide +kernel
theorem dL_changes_423 : decode cL_changes 423 = .ok (.aload 7, 2) := by decide +kernel
theorem dL_changes_425 : decode cL_changes 425 = .ok (.getfield 209, 3) := by decide +kernel
theorem dL_changes_428 : decode cL_changes 428 = .ok (.invokevirtual 169, 3) := by decide +kernel
theorem dL_changes_431 : decode cL_changes 431 = .ok (.ifCond .ne 5, 3) := by decide +kernel
theorem dL_changes_434 : decode cL_changes 434 = .ok (.iconst 1, 1) := by decide +kernel
theorem dL_changes_435 : decode cL_changes 435 = .ok (.ireturn, 1) := by decide +kernel
theorem dL_changes_436 : decode cL_changes 436 = .ok (.aload_n 1, 1) := by decide +kernel
theorem dL_changes_437 : decode cL_changes 437 = .ok (.aload 7, 2) := by decide +kernel
theorem dL_changes_439 : decode cL_changes 439 = .ok (.getfield 128, 3) := by decide +kernel
theorem dL_changes_442 : decode cL_changes 442 = .ok (.aload 7, 2) := by decide +kernel
theorem dL_changes_444 : decode cL_changes 444 = .ok (.getfield 209, 3) := by decide +kernel
theorem dL_changes_447 : decode cL_changes 447 = .ok (.invokevirtual 88, 3) := by decide +kernel
theorem dL_changes_450 : decode cL_changes 450 = .ok (.pop, 1) := by decide +kernel
theorem dL_changes_451 : decode cL_changes 451 = .ok (.aload_n 0, 1) := by decide +kernel
theorem dL_changes_452 : decode cL_changes 452 = .ok (.iload 6, 2) := by decide +kernel
theorem dL_changes_454 : decode cL_changes 454 = .ok (.invokevirtual 296, 3) := by decide +kernel
theorem dL_changes_457 : decode cL_changes 457 = .ok (.aload 7, 2) := by decide +kernel
theorem dL_changes_459 : decode cL_changes 459 = .ok (.getfield 209, 3) := by decide +kernel
theorem dL_changes_462 : decode cL_changes 462 = .ok (.if_icmp .ne 7, 3) := by decide +kernel
theorem dL_changes_465 : decode cL_changes 465 = .ok (.iconst 1, 1) := by decide +kernel
theorem dL_changes_466 : decode cL_changes 466 = .ok (.goto 4, 3) := by decide +kernel
theorem dL_changes_469 : decode cL_changes 469 = .ok (.iconst 0, 1) := by decide +kernel
theorem dL_changes_470 : decode cL_changes 470 = .ok (.ireturn, 1) := by decide +kernel
theorem dL_changes_471 : decode cL_changes 471 = .ok (.aload_n 0, 1) := by decide +kernel
theorem dL_changes_472 : decode cL_changes 472 = .ok (.iload_n 3, 1) := by decide +kernel
theorem dL_changes_473 : decode cL_changes 473 = .ok (.iload 5, 2) := by decide +kernel
theorem dL_changes_475 : decode cL_changes 475 = .ok (.invokevirtual 299, 3) := by decide +kernel
theorem dL_changes_478 : decode cL_changes 478 = .ok (.aload_n 1, 1) := by decide +kernel
theorem dL_changes_479 : decode cL_changes 479 = .ok (.aload 4, 2) := by decide +kernel
theorem dL_changes_481 : decode cL_changes 481 = .ok (.iload 5, 2) := by decide +kernel
theorem dL_changes_483 : decode cL_changes 483 = .ok (.invokevirtual 88, 3) := by decide +kernel
theorem dL_changes_486 : decode cL_changes 486 = .ok (.if_icmp .ne 7, 3) := by decide +kernel
theorem dL_changes_489 : decode cL_changes 489 = .ok (.iconst 1, 1) := by decide +kernel
theorem dL_changes_490 : decode cL_changes 490 = .ok (.goto 4, 3) := by decide +kernel
theorem dL_changes_493 : decode cL_changes 493 = .ok (.iconst 0, 1) := by decide +kernel
theorem dL_changes_494 : decode cL_changes 494 = .ok (.ireturn, 1) := by decide +kernel
theorem dL_changes_495 : decode cL_changes 495 = .ok (.aload_n 2, 1) := by decide +kernel
theorem dL_changes_496 : decode cL_changes 496 = .ok (.aload_n 1, 1) := by decide +kernel
theorem dL_changes_497 : decode cL_changes 497 = .ok (.getfield 46, 3) := by decide +kernel
theorem dL_changes_500 : decode cL_changes 500 = .ok (.invokestatic 35, 3) := by decide +kernel
theorem dL_changes_503 : decode cL_changes 503 = .ok (.istore 7, 2) := by decide +kernel
theorem dL_changes_505 : decode cL_changes 505 = .ok (.iconst 0, 1) := by decide +kernel
theorem dL_changes_506 : decode cL_changes 506 = .ok (.istore 8, 2) := by decide +kernel
theorem dL_changes_508 : decode cL_changes 508 = .ok (.aload 4, 2) := by decide +kernel
theorem dL_changes_510 : decode cL_changes 510 = .ok (.getfield 143, 3) := by decide +kernel
theorem dL_changes_513 : decode cL_changes 513 = .ok (.iconst 1, 1) := by decide +kernel
theorem dL_changes_514 : decode cL_changes 514 = .ok (.isub, 1) := by decide +kernel
theorem dL_changes_515 : decode cL_changes 515 = .ok (.istore 9, 2) := by decide +kernel
theorem dL_changes_517 : decode cL_changes 517 = .ok (.iload 9, 2) := by decide +kernel
theorem dL_changes_519 : decode cL_changes 519 = .ok (.ifCond .lt 50, 3) := by decide +kernel
theorem dL_changes_522 : decode cL_changes 522 = .ok (.aload_n 1, 1) := by decide +kernel
theorem dL_changes_523 : decode cL_changes 523 = .ok (.getfield 80, 3) := by decide +kernel
theorem dL_changes_526 : decode cL_changes 526 = .ok (.iload 7, 2) := by decide +kernel
theorem dL_changes_528 : decode cL_changes 528 = .ok (.aaload, 1) := by decide +kernel
theorem dL_changes_529 : decode cL_changes 529 = .ok (.aload 4, 2) := by decide +kernel
theorem dL_changes_531 : decode cL_changes 531 = .ok (.getfield 160, 3) := by decide +kernel
theorem dL_changes_534 : decode cL_changes 534 = .ok (.iload 9, 2) := by decide +kernel
theorem dL_changes_536 : decode cL_changes 536 = .ok (.iaload, 1) := by decide +kernel
theorem dL_changes_537 : decode cL_changes 537 = .ok (.invokevirtual 169, 3) := by decide +kernel
theorem dL_changes_540 : decode cL_changes 540 = .ok (.ifCond .ne 23, 3) := by decide +kernel
theorem dL_changes_543 : decode cL_changes 543 = .ok (.aload_n 1, 1) := by decide +kernel
theorem dL_changes_544 : decode cL_changes 544 = .ok (.aload 4, 2) := by decide +kernel
theorem dL_changes_546 : decode cL_changes 546 = .ok (.aload 4, 2) := by decide +kernel
theorem dL_changes_548 : decode cL_changes 548 = .ok (.getfield 160, 3) := by decide +kernel
theorem dL_changes_551 : decode cL_changes 551 = .ok (.iload 9, 2) := by decide +kernel
theorem dL_changes_553 : decode cL_changes 553 = .ok (.iaload, 1) := by decide +kernel
theorem dL_changes_554 : decode cL_changes 554 = .ok (.invokevirtual 88, 3) := by decide +kernel
theorem dL_changes_557 : decode cL_changes 557 = .ok (.ifCond .eq 6, 3) := by decide +kernel
theorem dL_changes_560 : decode cL_changes 560 = .ok (.iinc 8 1, 3) := by decide +kernel
theorem dL_changes_563 : decode cL_changes 563 = .ok (.iinc 9 (-1), 3) := by decide +kernel
theorem dL_changes_566 : decode cL_changes 566 = .ok (.goto (-49), 3) := by decide +kernel
theorem dL_changes_569 : decode cL_changes 569 = .ok (.aload_n 0, 1) := by decide +kernel
theorem dL_changes_570 : decode cL_changes 570 = .ok (.iload_n 3, 1) := by decide +kernel
theorem dL_changes_571 : decode cL_changes 571 = .ok (.iload 7, 2) := by decide +kernel
theorem dL_changes_573 : decode cL_changes 573 = .ok (.invokevirtual 301, 3) := by decide +kernel
theorem dL_changes_576 : decode cL_changes 576 = .ok (.iload 8, 2) := by decide +kernel
theorem dL_changes_578 : decode cL_changes 578 = .ok (.if_icmp .ne 7, 3) := by decide +kernel
theorem dL_changes_581 : decode cL_changes 581 = .ok (.iconst 1, 1) := by decide +kernel
theorem dL_changes_582 : decode cL_changes 582 = .ok (.goto 4, 3) := by decide +kernel
theorem dL_changes_585 : decode cL_changes 585 = .ok (.iconst 0, 1) := by decide +kernel
theorem dL_changes_586 : decode cL_changes 586 = .ok (.ireturn, 1) := by decide +kernel
theorem dL_changes_587 : decode cL_changes 587 = .ok (.aload_n 2, 1) := by decide +kernel
theorem dL_changes_588 : decode cL_changes 588 = .ok (.aload_n 1, 1) := by decide +kernel
theorem dL_changes_589 : decode cL_changes 589 = .ok (.getfield 46, 3) := by decide +kernel
theorem dL_changes_592 : decode cL_changes 592 = .ok (.invokestatic 35, 3) := by decide +kernel
theorem dL_changes_595 : decode cL_changes 595 = .ok (.istore 7, 2) := by decide +kernel
theorem dL_changes_597 : decode cL_changes 597 = .ok (.aload 4, 2) := by decide +kernel
theorem dL_changes_599 : decode cL_changes 599 = .ok (.getfield 143, 3) := by decide +kernel
theorem dL_changes_602 : decode cL_changes 602 = .ok (.istore 8, 2) := by decide +kernel
theorem dL_changes_604 : decode cL_changes 604 = .ok (.iconst 0, 1) := by decide +kernel
theorem dL_changes_605 : decode cL_changes 605 = .ok (.istore 9, 2) := by decide +kernel
theorem dL_changes_607 : decode cL_changes 607 = .ok (.iload 9, 2) := by decide +kernel
theorem dL_changes_609 : decode cL_changes 609 = .ok (.aload_n 1, 1) := by decide +kernel
theorem dL_changes_610 : decode cL_changes 610 = .ok (.getfield 80, 3) := by decide +kernel
theorem dL_changes_613 : decode cL_changes 613 = .ok (.iload 7, 2) := by decide +kernel
theorem dL_changes_615 : decode cL_changes 615 = .ok (.aaload, 1) := by decide +kernel
theorem dL_changes_616 : decode cL_changes 616 = .ok (.getfield 143, 3) := by decide +kernel
theorem dL_changes_619 : decode cL_changes 619 = .ok (.if_icmp .ge 34, 3) := by decide +kernel
theorem dL_changes_622 : decode cL_changes 622 = .ok (.iload 7, 2) := by decide +kernel
theorem dL_changes_624 : decode cL_changes 624 = .ok (.iload_n 3, 1) := by decide +kernel
theorem dL_changes_625 : decode cL_changes 625 = .ok (.if_icmp .eq 28, 3) := by decide +kernel
theorem dL_changes_628 : decode cL_changes 628 = .ok (.aload_n 1, 1) := by decide +kernel
theorem dL_changes_629 : decode cL_changes 629 = .ok (.aload 4, 2) := by decide +kernel
theorem dL_changes_631 : decode cL_changes 631 = .ok (.aload_n 1, 1) := by decide +kernel
theorem dL_changes_632 : decode cL_changes 632 = .ok (.getfield 80, 3) := by decide +kernel
theorem dL_changes_635 : decode cL_changes 635 = .ok (.iload 7, 2) := by decide +kernel
theorem dL_changes_637 : decode cL_changes 637 = .ok (.aaload, 1) := by decide +kernel
theorem dL_changes_638 : decode cL_changes 638 = .ok (.getfield 160, 3) := by decide +kernel
theorem dL_changes_641 : decode cL_changes 641 = .ok (.iload 9, 2) := by decide +kernel
theorem dL_changes_643 : decode cL_changes 643 = .ok (.iaload, 1) := by decide +kernel
theorem dL_changes_644 : decode cL_changes 644 = .ok (.invokevirtual 84, 3) := by decide +kernel
theorem dL_changes_647 : decode cL_changes 647 = .ok (.iinc 9 1, 3) := by decide +kernel
theorem dL_changes_650 : decode cL_changes 650 = .ok (.goto (-43), 3) := by decide +kernel
theorem dL_changes_653 : decode cL_changes 653 = .ok (.aload_n 0, 1) := by decide +kernel
theorem dL_changes_654 : decode cL_changes 654 = .ok (.iload_n 3, 1) := by decide +kernel
theorem dL_changes_655 : decode cL_changes 655 = .ok (.iload 7, 2) := by decide +kernel
theorem dL_changes_657 : decode cL_changes 657 = .ok (.invokevirtual 304, 3) := by decide +kernel
theorem dL_changes_660 : decode cL_changes 660 = .ok (.aload 4, 2) := by decide +kernel
theorem dL_changes_662 : decode cL_changes 662 = .ok (.getfield 143, 3) := by decide +kernel
theorem dL_changes_665 : decode cL_changes 665 = .ok (.iload 8, 2) := by decide +kernel
theorem dL_changes_667 : decode cL_changes 667 = .ok (.isub, 1) := by decide +kernel
theorem dL_changes_668 : decode cL_changes 668 = .ok (.if_icmp .ne 7, 3) := by decide +kernel
theorem dL_changes_671 : decode cL_changes 671 = .ok (.iconst 1, 1) := by decide +kernel
theorem dL_changes_672 : decode cL_changes 672 = .ok (.goto 4, 3) := by decide +kernel
theorem dL_changes_675 : decode cL_changes 675 = .ok (.iconst 0, 1) := by decide +kernel
theorem dL_changes_676 : decode cL_changes 676 = .ok (.ireturn, 1) := by decide +kernel
theorem dL_changes_677 : decode cL_changes 677 = .ok (.aload_n 1, 1) := by decide +kernel
theorem dL_changes_678 : decode cL_changes 678 = .ok (.aload 4, 2) := by decide +kernel
theorem dL_changes_680 : decode cL_changes 680 = .ok (.iload 5, 2) := by decide +kernel
theorem dL_changes_682 : decode cL_changes 682 = .ok (.invokevirtual 84, 3) := by decide +kernel
theorem dL_changes_685 : decode cL_changes 685 = .ok (.aload_n 0, 1) := by decide +kernel
theorem dL_changes_686 : decode cL_changes 686 = .ok (.iload_n 3, 1) := by decide +kernel
theorem dL_changes_687 : decode cL_changes 687 = .ok (.iload 5, 2) := by decide +kernel
theorem dL_changes_689 : decode cL_changes 689 = .ok (.invokevirtual 307, 3) := by decide +kernel
theorem dL_changes_692 : decode cL_changes 692 = .ok (.aload 4, 2) := by decide +kernel
theorem dL_changes_694 : decode cL_changes 694 = .ok (.getfield 163, 3) := by decide +kernel
theorem dL_changes_697 : decode cL_changes 697 = .ok (.iload 5, 2) := by decide +kernel
theorem dL_changes_699 : decode cL_changes 699 = .ok (.iaload, 1) := by decide +kernel
theorem dL_changes_700 : decode cL_changes 700 = .ok (.if_icmp .ne 7, 3) := by decide +kernel
theorem dL_changes_703 : decode cL_changes 703 = .ok (.iconst 1, 1) := by decide +kernel
theorem dL_changes_704 : decode cL_changes 704 = .ok (.goto 4, 3) := by decide +kernel
theorem dL_changes_707 : decode cL_changes 707 = .ok (.iconst 0, 1) := by decide +kernel
theorem dL_changes_708 : decode cL_changes 708 = .ok (.ireturn, 1) := by decide +kernel
theorem dL_state_0 : decode cL_state 0 = .ok (.iconst 0, 1) := by decide +kernel
theorem dL_state_1 : decode cL_state 1 = .ok (.istore_n 2, 1) := by decide +kernel
theorem dL_state_2 : decode cL_state 2 = .ok (.iload_n 2, 1) := by decide +kernel
theorem dL_state_3 : decode cL_state 3 = .ok (.aload_n 1, 1) := by decide +kernel
theorem dL_state_4 : decode cL_state 4 = .ok (.getfield 46, 3) := by decide +kernel
theorem dL_state_7 : decode cL_state 7 = .ok (.if_icmp .ge 405, 3) := by decide +kernel
theorem dL_state_10 : decode cL_state 10 = .ok (.aload_n 1, 1) := by decide +kernel
theorem dL_state_11 : decode cL_state 11 = .ok (.getfield 80, 3) := by decide +kernel
theorem dL_state_14 : decode cL_state 14 = .ok (.iload_n 2, 1) := by decide +kernel
theorem dL_state_15 : decode cL_state 15 = .ok (.aaload, 1) := by decide +kernel
theorem dL_state_16 : decode cL_state 16 = .ok (.astore_n 3, 1) := by decide +kernel
theorem dL_state_17 : decode cL_state 17 = .ok (.iconst 0, 1) := by decide +kernel
theorem dL_state_18 : decode cL_state 18 = .ok (.istore 4, 2) := by decide +kernel
theorem dL_state_20 : decode cL_state 20 = .ok (.iconst 0, 1) := by decide +kernel
theorem dL_state_21 : decode cL_state 21 = .ok (.istore 5, 2) := by decide +kernel
theorem dL_state_23 : decode cL_state 23 = .ok (.iload 5, 2) := by decide +kernel
theorem dL_state_25 : decode cL_state 25 = .ok (.bipush 6, 2) := by decide +kernel
theorem dL_state_27 : decode cL_state 27 = .ok (.if_icmp .ge 56, 3) := by decide +kernel
theorem dL_state_30 : decode cL_state 30 = .ok (.iload 4, 2) := by decide +kernel
theorem dL_state_32 : decode cL_state 32 = .ok (.aload_n 1, 1) := by decide +kernel
theorem dL_state_33 : decode cL_state 33 = .ok (.getfield 124, 3) := by decide +kernel
theorem dL_state_36 : decode cL_state 36 = .ok (.iload 5, 2) := by decide +kernel
theorem dL_state_38 : decode cL_state 38 = .ok (.aaload, 1) := by decide +kernel
theorem dL_state_39 : decode cL_state 39 = .ok (.ifnull 34, 3) := by decide +kernel
theorem dL_state_42 : decode cL_state 42 = .ok (.aload_n 1, 1) := by decide +kernel
theorem dL_state_43 : decode cL_state 43 = .ok (.getfield 124, 3) := by decide +kernel
theorem dL_state_46 : decode cL_state 46 = .ok (.iload 5, 2) := by decide +kernel
theorem dL_state_48 : decode cL_state 48 = .ok (.aaload, 1) := by decide +kernel
theorem dL_state_49 : decode cL_state 49 = .ok (.getfield 128, 3) := by decide +kernel
theorem dL_state_52 : decode cL_state 52 = .ok (.aload_n 3, 1) := by decide +kernel
theorem dL_state_53 : decode cL_state 53 = .ok (.if_acmp .ne 20, 3) := by decide +kernel
theorem dL_state_56 : decode cL_state 56 = .ok (.aload_n 1, 1) := by decide +kernel
theorem dL_state_57 : decode cL_state 57 = .ok (.getfield 124, 3) := by decide +kernel
theorem dL_state_60 : decode cL_state 60 = .ok (.iload 5, 2) := by decide +kernel
theorem dL_state_62 : decode cL_state 62 = .ok (.aaload, 1) := by decide +kernel
theorem dL_state_63 : decode cL_state 63 = .ok (.getfield 134, 3) := by decide +kernel
theorem dL_state_66 : decode cL_state 66 = .ok (.ifCond .eq 7, 3) := by decide +kernel
theorem dL_state_69 : decode cL_state 69 = .ok (.iconst 1, 1) := by decide +kernel
theorem dL_state_70 : decode cL_state 70 = .ok (.goto 4, 3) := by decide +kernel
theorem dL_state_73 : decode cL_state 73 = .ok (.iconst 0, 1) := by decide +kernel
theorem dL_state_74 : decode cL_state 74 = .ok (.iadd, 1) := by decide +kernel
theorem dL_state_75 : decode cL_state 75 = .ok (.istore 4, 2) := by decide +kernel
theorem dL_state_77 : decode cL_state 77 = .ok (.iinc 5 1, 3) := by decide +kernel
theorem dL_state_80 : decode cL_state 80 = .ok (.goto (-57), 3) := by decide +kernel
theorem dL_state_83 : decode cL_state 83 = .ok (.aload_n 3, 1) := by decide +kernel
theorem dL_state_84 : decode cL_state 84 = .ok (.aload_n 1, 1) := by decide +kernel
theorem dL_state_85 : decode cL_state 85 = .ok (.getfield 43, 3) := by decide +kernel
theorem dL_state_88 : decode cL_state 88 = .ok (.invokevirtual 138, 3) := by decide +kernel
theorem dL_state_91 : decode cL_state 91 = .ok (.istore 5, 2) := by decide +kernel
theorem dL_state_93 : decode cL_state 93 = .ok (.iconst 5, 1) := by decide +kernel
theorem dL_state_94 : decode cL_state 94 = .ok (.newarray .int, 2) := by decide +kernel
theorem dL_state_96 : decode cL_state 96 = .ok (.dup, 1) := by decide +kernel
theorem dL_state_97 : decode cL_state 97 = .ok (.iconst 0, 1) := by decide +kernel
theorem dL_state_98 : decode cL_state 98 = .ok (.aload_n 3, 1) := by decide +kernel
theorem dL_state_99 : decode cL_state 99 = .ok (.getfield 143, 3) := by decide +kernel
theorem dL_state_102 : decode cL_state 102 = .ok (.iastore, 1) := by decide +kernel
theorem dL_state_103 : decode cL_state 103 = .ok (.dup, 1) := by decide +kernel
theorem dL_state_104 : decode cL_state 104 = .ok (.iconst 1, 1) := by decide +kernel
theorem dL_state_105 : decode cL_state 105 = .ok (.aload_n 3, 1) := by decide +kernel
theorem dL_state_106 : decode cL_state 106 = .ok (.getfield 146, 3) := by decide +kernel
theorem dL_state_109 : decode cL_state 109 = .ok (.iastore, 1) := by decide +kernel
theorem dL_state_110 : decode cL_state 110 = .ok (.dup, 1) := by decide +kernel
theorem dL_state_111 : decode cL_state 111 = .ok (.iconst 2, 1) := by decide +kernel
theorem dL_state_112 : decode cL_state 112 = .ok (.aload_n 3, 1) := by decide +kernel
theorem dL_state_113 : decode cL_state 113 = .ok (.aload_n 1, 1) := by decide +kernel
theorem dL_state_114 : decode cL_state 114 = .ok (.getfield 43, 3) := by decide +kernel
theorem dL_state_117 : decode cL_state 117 = .ok (.invokevirtual 149, 3) := by decide +kernel
theorem dL_state_120 : decode cL_state 120 = .ok (.iastore, 1) := by decide +kernel
theorem dL_state_121 : decode cL_state 121 = .ok (.dup, 1) := by decide +kernel
theorem dL_state_122 : decode cL_state 122 = .ok (.iconst 3, 1) := by decide +kernel
theorem dL_state_123 : decode cL_state 123 = .ok (.iload 5, 2) := by decide +kernel
theorem dL_state_125 : decode cL_state 125 = .ok (.iastore, 1) := by decide +kernel
theorem dL_state_126 : decode cL_state 126 = .ok (.dup, 1) := by decide +kernel
theorem dL_state_127 : decode cL_state 127 = .ok (.iconst 4, 1) := by decide +kernel
theorem dL_state_128 : decode cL_state 128 = .ok (.iload 4, 2) := by decide +kernel
theorem dL_state_130 : decode cL_state 130 = .ok (.iastore, 1) := by decide +kernel
theorem dL_state_131 : decode cL_state 131 = .ok (.astore 6, 2) := by decide +kernel
theorem dL_state_133 : decode cL_state 133 = .ok (.iconst 0, 1) := by decide +kernel
theorem dL_state_134 : decode cL_state 134 = .ok (.istore 7, 2) := by decide +kernel
theorem dL_state_136 : decode cL_state 136 = .ok (.iload 7, 2) := by decide +kernel
theorem dL_state_138 : decode cL_state 138 = .ok (.iconst 5, 1) := by decide +kernel
theorem dL_state_139 : decode cL_state 139 = .ok (.if_icmp .ge 26, 3) := by decide +kernel
theorem dL_state_142 : decode cL_state 142 = .ok (.aload_n 0, 1) := by decide +kernel
theorem dL_state_143 : decode cL_state 143 = .ok (.iload_n 2, 1) := by decide +kernel
theorem dL_state_144 : decode cL_state 144 = .ok (.iload 7, 2) := by decide +kernel
theorem dL_state_146 : decode cL_state 146 = .ok (.invokevirtual 152, 3) := by decide +kernel
theorem dL_state_149 : decode cL_state 149 = .ok (.aload 6, 2) := by decide +kernel
theorem dL_state_151 : decode cL_state 151 = .ok (.iload 7, 2) := by decide +kernel
theorem dL_state_153 : decode cL_state 153 = .ok (.iaload, 1) := by decide +kernel
theorem dL_state_154 : decode cL_state 154 = .ok (.if_icmp .eq 5, 3) := by decide +kernel
theorem dL_state_157 : decode cL_state 157 = .ok (.iconst 0, 1) := by decide +kernel
theorem dL_state_158 : decode cL_state 158 = .ok (.ireturn, 1) := by decide +kernel
theorem dL_state_159 : decode cL_state 159 = .ok (.iinc 7 1, 3) := by decide +kernel
theorem dL_state_162 : decode cL_state 162 = .ok (.goto (-26), 3) := by decide +kernel
theorem dL_state_165 : decode cL_state 165 = .ok (.iconst 0, 1) := by decide +kernel
theorem dL_state_166 : decode cL_state 166 = .ok (.istore 7, 2) := by decide +kernel
theorem dL_state_168 : decode cL_state 168 = .ok (.iload 7, 2) := by decide +kernel
theorem dL_state_170 : decode cL_state 170 = .ok (.aload_n 1, 1) := by decide +kernel
theorem dL_state_171 : decode cL_state 171 = .ok (.getfield 39, 3) := by decide +kernel
theorem dL_state_174 : decode cL_state 174 = .ok (.if_icmp .ge 107, 3) := by decide +kernel
theorem dL_state_177 : decode cL_state 177 = .ok (.aload_n 0, 1) := by decide +kernel
theorem dL_state_178 : decode cL_state 178 = .ok (.iload_n 2, 1) := by decide +kernel
theorem dL_state_179 : decode cL_state 179 = .ok (.iload 7, 2) := by decide +kernel
theorem dL_state_181 : decode cL_state 181 = .ok (.iconst 0, 1) := by decide +kernel
theorem dL_state_182 : decode cL_state 182 = .ok (.invokevirtual 156, 3) := by decide +kernel
theorem dL_state_185 : decode cL_state 185 = .ok (.aload_n 3, 1) := by decide +kernel
theorem dL_state_186 : decode cL_state 186 = .ok (.getfield 160, 3) := by decide +kernel
theorem dL_state_189 : decode cL_state 189 = .ok (.iload 7, 2) := by decide +kernel
theorem dL_state_191 : decode cL_state 191 = .ok (.iaload, 1) := by decide +kernel
theorem dL_state_192 : decode cL_state 192 = .ok (.if_icmp .ne 81, 3) := by decide +kernel
theorem dL_state_195 : decode cL_state 195 = .ok (.aload_n 0, 1) := by decide +kernel
theorem dL_state_196 : decode cL_state 196 = .ok (.iload_n 2, 1) := by decide +kernel
theorem dL_state_197 : decode cL_state 197 = .ok (.iload 7, 2) := by decide +kernel
theorem dL_state_199 : decode cL_state 199 = .ok (.iconst 1, 1) := by decide +kernel
theorem dL_state_200 : decode cL_state 200 = .ok (.invokevirtual 156, 3) := by decide +kernel
theorem dL_state_203 : decode cL_state 203 = .ok (.aload_n 3, 1) := by decide +kernel
theorem dL_state_204 : decode cL_state 204 = .ok (.getfield 163, 3) := by decide +kernel
theorem dL_state_207 : decode cL_state 207 = .ok (.iload 7, 2) := by decide +kernel
theorem dL_state_209 : decode cL_state 209 = .ok (.iaload, 1) := by decide +kernel
theorem dL_state_210 : decode cL_state 210 = .ok (.if_icmp .ne 63, 3) := by decide +kernel
theorem dL_state_213 : decode cL_state 213 = .ok (.aload_n 0, 1) := by decide +kernel
theorem dL_state_214 : decode cL_state 214 = .ok (.iload_n 2, 1) := by decide +kernel
theorem dL_state_215 : decode cL_state 215 = .ok (.iload 7, 2) := by decide +kernel
theorem dL_state_217 : decode cL_state 217 = .ok (.invokevirtual 166, 3) := by decide +kernel
theorem dL_state_220 : decode cL_state 220 = .ok (.aload_n 3, 1) := by decide +kernel
theorem dL_state_221 : decode cL_state 221 = .ok (.iload 7, 2) := by decide +kernel
theorem dL_state_223 : decode cL_state 223 = .ok (.invokevirtual 169, 3) := by decide +kernel
theorem dL_state_226 : decode cL_state 226 = .ok (.ifCond .eq 13, 3) := by decide +kernel
theorem dL_state_229 : decode cL_state 229 = .ok (.aload_n 3, 1) := by decide +kernel
theorem dL_state_230 : decode cL_state 230 = .ok (.getfield 163, 3) := by decide +kernel
theorem dL_state_233 : decode cL_state 233 = .ok (.iload 7, 2) := by decide +kernel
theorem dL_state_235 : decode cL_state 235 = .ok (.iaload, 1) := by decide +kernel
theorem dL_state_236 : decode cL_state 236 = .ok (.goto 4, 3) := by decide +kernel
theorem dL_state_239 : decode cL_state 239 = .ok (.iconst (-1), 1) := by decide +kernel
theorem dL_state_240 : decode cL_state 240 = .ok (.if_icmp .ne 33, 3) := by decide +kernel
theorem dL_state_243 : decode cL_state 243 = .ok (.aload_n 0, 1) := by decide +kernel
theorem dL_state_244 : decode cL_state 244 = .ok (.iload_n 2, 1) := by decide +kernel
theorem dL_state_245 : decode cL_state 245 = .ok (.iload 7, 2) := by decide +kernel
theorem dL_state_247 : decode cL_state 247 = .ok (.invokevirtual 173, 3) := by decide +kernel
theorem dL_state_250 : decode cL_state 250 = .ok (.aload_n 3, 1) := by decide +kernel
theorem dL_state_251 : decode cL_state 251 = .ok (.iload 7, 2) := by decide +kernel
theorem dL_state_253 : decode cL_state 253 = .ok (.invokevirtual 169, 3) := by decide +kernel
theorem dL_state_256 : decode cL_state 256 = .ok (.ifCond .eq 13, 3) := by decide +kernel
theorem dL_state_259 : decode cL_state 259 = .ok (.aload_n 3, 1) := by decide +kernel
theorem dL_state_260 : decode cL_state 260 = .ok (.getfield 176, 3) := by decide +kernel
theorem dL_state_263 : decode cL_state 263 = .ok (.iload 7, 2) := by decide +kernel
theorem dL_state_265 : decode cL_state 265 = .ok (.iaload, 1) := by decide +kernel
theorem dL_state_266 : decode cL_state 266 = .ok (.goto 4, 3) := by decide +kernel
theorem dL_state_269 : decode cL_state 269 = .ok (.iconst (-1), 1) := by decide +kernel
theorem dL_state_270 : decode cL_state 270 = .ok (.if_icmp .eq 5, 3) := by decide +kernel
theorem dL_state_273 : decode cL_state 273 = .ok (.iconst 0, 1) := by decide +kernel
theorem dL_state_274 : decode cL_state 274 = .ok (.ireturn, 1) := by decide +kernel
theorem dL_state_275 : decode cL_state 275 = .ok (.iinc 7 1, 3) := by decide +kernel
theorem dL_state_278 : decode cL_state 278 = .ok (.goto (-110), 3) := by decide +kernel
theorem dL_state_281 : decode cL_state 281 = .ok (.iconst 0, 1) := by decide +kernel
theorem dL_state_282 : decode cL_state 282 = .ok (.istore 7, 2) := by decide +kernel
theorem dL_state_284 : decode cL_state 284 = .ok (.iload 7, 2) := by decide +kernel
theorem dL_state_286 : decode cL_state 286 = .ok (.iload 5, 2) := by decide +kernel
theorem dL_state_288 : decode cL_state 288 = .ok (.if_icmp .gt 118, 3) := by decide +kernel
theorem dL_state_291 : decode cL_state 291 = .ok (.aload_n 3, 1) := by decide +kernel
theorem dL_state_292 : decode cL_state 292 = .ok (.getfield 179, 3) := by decide +kernel
theorem dL_state_295 : decode cL_state 295 = .ok (.iload 5, 2) := by decide +kernel
theorem dL_state_297 : decode cL_state 297 = .ok (.isub, 1) := by decide +kernel
theorem dL_state_298 : decode cL_state 298 = .ok (.iload 7, 2) := by decide +kernel
theorem dL_state_300 : decode cL_state 300 = .ok (.iadd, 1) := by decide +kernel
theorem dL_state_301 : decode cL_state 301 = .ok (.istore 8, 2) := by decide +kernel
theorem dL_state_303 : decode cL_state 303 = .ok (.iload 7, 2) := by decide +kernel
theorem dL_state_305 : decode cL_state 305 = .ok (.iload 5, 2) := by decide +kernel
theorem dL_state_307 : decode cL_state 307 = .ok (.if_icmp .ge 7, 3) := by decide +kernel
theorem dL_state_310 : decode cL_state 310 = .ok (.iconst 1, 1) := by decide +kernel
theorem dL_state_311 : decode cL_state 311 = .ok (.goto 4, 3) := by decide +kernel
theorem dL_state_314 : decode cL_state 314 = .ok (.iconst 0, 1) := by decide +kernel
theorem dL_state_315 : decode cL_state 315 = .ok (.istore 9, 2) := by decide +kernel
theorem dL_state_317 : decode cL_state 317 = .ok (.aload_n 0, 1) := by decide +kernel
theorem dL_state_318 : decode cL_state 318 = .ok (.iload_n 2, 1) := by decide +kernel
theorem dL_state_319 : decode cL_state 319 = .ok (.iload 7, 2) := by decide +kernel
theorem dL_state_321 : decode cL_state 321 = .ok (.iconst 0, 1) := by decide +kernel
theorem dL_state_322 : decode cL_state 322 = .ok (.invokevirtual 182, 3) := by decide +kernel
theorem dL_state_325 : decode cL_state 325 = .ok (.iload 9, 2) := by decide +kernel
theorem dL_state_327 : decode cL_state 327 = .ok (.ifCond .eq 13, 3) := by decide +kernel
theorem dL_state_330 : decode cL_state 330 = .ok (.aload_n 3, 1) := by decide +kernel
theorem dL_state_331 : decode cL_state 331 = .ok (.getfield 186, 3) := by decide +kernel
theorem dL_state_334 : decode cL_state 334 = .ok (.iload 8, 2) := by decide +kernel
theorem dL_state_336 : decode cL_state 336 = .ok (.iaload, 1) := by decide +kernel
theorem dL_state_337 : decode cL_state 337 = .ok (.goto 4, 3) := by decide +kernel
theorem dL_state_340 : decode cL_state 340 = .ok (.iconst (-1), 1) := by decide +kernel
theorem dL_state_341 : decode cL_state 341 = .ok (.if_icmp .ne 57, 3) := by decide +kernel
theorem dL_state_344 : decode cL_state 344 = .ok (.aload_n 0, 1) := by decide +kernel
theorem dL_state_345 : decode cL_state 345 = .ok (.iload_n 2, 1) := by decide +kernel
theorem dL_state_346 : decode cL_state 346 = .ok (.iload 7, 2) := by decide +kernel
theorem dL_state_348 : decode cL_state 348 = .ok (.iconst 1, 1) := by decide +kernel
theorem dL_state_349 : decode cL_state 349 = .ok (.invokevirtual 182, 3) := by decide +kernel
theorem dL_state_352 : decode cL_state 352 = .ok (.iload 9, 2) := by decide +kernel
theorem dL_state_354 : decode cL_state 354 = .ok (.ifCond .eq 13, 3) := by decide +kernel
theorem dL_state_357 : decode cL_state 357 = .ok (.aload_n 3, 1) := by decide +kernel
theorem dL_state_358 : decode cL_state 358 = .ok (.getfield 189, 3) := by decide +kernel
theorem dL_state_361 : decode cL_state 361 = .ok (.iload 8, 2) := by decide +kernel
theorem dL_state_363 : decode cL_state 363 = .ok (.iaload, 1) := by decide +kernel
theorem dL_state_364 : decode cL_state 364 = .ok (.goto 4, 3) := by decide +kernel
theorem dL_state_367 : decode cL_state 367 = .ok (.iconst (-1), 1) := by decide +kernel
theorem dL_state_368 : decode cL_state 368 = .ok (.if_icmp .ne 30, 3) := by decide +kernel
theorem dL_state_371 : decode cL_state 371 = .ok (.aload_n 0, 1) := by decide +kernel
theorem dL_state_372 : decode cL_state 372 = .ok (.iload_n 2, 1) := by decide +kernel
theorem dL_state_373 : decode cL_state 373 = .ok (.iload 7, 2) := by decide +kernel
theorem dL_state_375 : decode cL_state 375 = .ok (.iconst 2, 1) := by decide +kernel
theorem dL_state_376 : decode cL_state 376 = .ok (.invokevirtual 182, 3) := by decide +kernel
theorem dL_state_379 : decode cL_state 379 = .ok (.iload 9, 2) := by decide +kernel
theorem dL_state_381 : decode cL_state 381 = .ok (.ifCond .eq 13, 3) := by decide +kernel
theorem dL_state_384 : decode cL_state 384 = .ok (.aload_n 3, 1) := by decide +kernel
theorem dL_state_385 : decode cL_state 385 = .ok (.getfield 192, 3) := by decide +kernel
theorem dL_state_388 : decode cL_state 388 = .ok (.iload 8, 2) := by decide +kernel
theorem dL_state_390 : decode cL_state 390 = .ok (.iaload, 1) := by decide +kernel
theorem dL_state_391 : decode cL_state 391 = .ok (.goto 4, 3) := by decide +kernel
theorem dL_state_394 : decode cL_state 394 = .ok (.iconst (-1), 1) := by decide +kernel
theorem dL_state_395 : decode cL_state 395 = .ok (.if_icmp .eq 5, 3) := by decide +kernel
theorem dL_state_398 : decode cL_state 398 = .ok (.iconst 0, 1) := by decide +kernel
theorem dL_state_399 : decode cL_state 399 = .ok (.ireturn, 1) := by decide +kernel
theorem dL_state_400 : decode cL_state 400 = .ok (.iinc 7 1, 3) := by decide +kernel
theorem dL_state_403 : decode cL_state 403 = .ok (.goto (-119), 3) := by decide +kernel
theorem dL_state_406 : decode cL_state 406 = .ok (.iinc 2 1, 3) := by decide +kernel
theorem dL_state_409 : decode cL_state 409 = .ok (.goto (-407), 3) := by decide +kernel
theorem dL_state_412 : decode cL_state 412 = .ok (.iconst 0, 1) := by decide +kernel
theorem dL_state_413 : decode cL_state 413 = .ok (.istore_n 2, 1) := by decide +kernel
theorem dL_state_414 : decode cL_state 414 = .ok (.iload_n 2, 1) := by decide +kernel
theorem dL_state_415 : decode cL_state 415 = .ok (.bipush 6, 2) := by decide +kernel
theorem dL_state_417 : decode cL_state 417 = .ok (.if_icmp .ge 201, 3) := by decide +kernel
theorem dL_state_420 : decode cL_state 420 = .ok (.aload_n 1, 1) := by decide +kernel
theorem dL_state_421 : decode cL_state 421 = .ok (.getfield 124, 3) := by decide +kernel
theorem dL_state_424 : decode cL_state 424 = .ok (.iload_n 2, 1) := by decide +kernel
theorem dL_state_425 : decode cL_state 425 = .ok (.aaload, 1) := by decide +kernel
theorem dL_state_426 : decode cL_state 426 = .ok (.astore_n 3, 1) := by decide +kernel
theorem dL_state_427 : decode cL_state 427 = .ok (.aload_n 3, 1) := by decide +kernel
theorem dL_state_428 : decode cL_state 428 = .ok (.ifnonnull 6, 3) := by decide +kernel
theorem dL_state_431 : decode cL_state 431 = .ok (.goto 181, 3) := by decide +kernel
theorem dL_state_434 : decode cL_state 434 = .ok (.bipush 7, 2) := by decide +kernel
theorem dL_state_436 : decode cL_state 436 = .ok (.newarray .int, 2) := by decide +kernel
theorem dL_state_438 : decode cL_state 438 = .ok (.dup, 1) := by decide +kernel
theorem dL_state_439 : decode cL_state 439 = .ok (.iconst 0, 1) := by decide +kernel
theorem dL_state_440 : decode cL_state 440 = .ok (.aload_n 3, 1) := by decide +kernel
theorem dL_state_441 : decode cL_state 441 = .ok (.getfield 195, 3) := by decide +kernel
theorem dL_state_444 : decode cL_state 444 = .ok (.iastore, 1) := by decide +kernel
theorem dL_state_445 : decode cL_state 445 = .ok (.dup, 1) := by decide +kernel
theorem dL_state_446 : decode cL_state 446 = .ok (.iconst 1, 1) := by decide +kernel
theorem dL_state_447 : decode cL_state 447 = .ok (.aload_n 3, 1) := by decide +kernel
theorem dL_state_448 : decode cL_state 448 = .ok (.getfield 197, 3) := by decide +kernel
theorem dL_state_451 : decode cL_state 451 = .ok (.iastore, 1) := by decide +kernel
theorem dL_state_452 : decode cL_state 452 = .ok (.dup, 1) := by decide +kernel
theorem dL_state_453 : decode cL_state 453 = .ok (.iconst 2, 1) := by decide +kernel
theorem dL_state_454 : decode cL_state 454 = .ok (.aload_n 3, 1) := by decide +kernel
theorem dL_state_455 : decode cL_state 455 = .ok (.getfield 134, 3) := by decide +kernel
theorem dL_state_458 : decode cL_state 458 = .ok (.ifCond .eq 7, 3) := by decide +kernel
theorem dL_state_461 : decode cL_state 461 = .ok (.iconst 1, 1) := by decide +kernel
theorem dL_state_462 : decode cL_state 462 = .ok (.goto 4, 3) := by decide +kernel
theorem dL_state_465 : decode cL_state 465 = .ok (.iconst 0, 1) := by decide +kernel
theorem dL_state_466 : decode cL_state 466 = .ok (.iastore, 1) := by decide +kernel
theorem dL_state_467 : decode cL_state 467 = .ok (.dup, 1) := by decide +kernel
theorem dL_state_468 : decode cL_state 468 = .ok (.iconst 3, 1) := by decide +kernel
theorem dL_state_469 : decode cL_state 469 = .ok (.aload_n 3, 1) := by decide +kernel
theorem dL_state_470 : decode cL_state 470 = .ok (.getfield 200, 3) := by decide +kernel
theorem dL_state_473 : decode cL_state 473 = .ok (.ifCond .eq 7, 3) := by decide +kernel
theorem dL_state_476 : decode cL_state 476 = .ok (.iconst 1, 1) := by decide +kernel
theorem dL_state_477 : decode cL_state 477 = .ok (.goto 4, 3) := by decide +kernel
theorem dL_state_480 : decode cL_state 480 = .ok (.iconst 0, 1) := by decide +kernel
theorem dL_state_481 : decode cL_state 481 = .ok (.iastore, 1) := by decide +kernel
theorem dL_state_482 : decode cL_state 482 = .ok (.dup, 1) := by decide +kernel
theorem dL_state_483 : decode cL_state 483 = .ok (.iconst 4, 1) := by decide +kernel
theorem dL_state_484 : decode cL_state 484 = .ok (.aload_n 3, 1) := by decide +kernel
theorem dL_state_485 : decode cL_state 485 = .ok (.getfield 203, 3) := by decide +kernel
theorem dL_state_488 : decode cL_state 488 = .ok (.iastore, 1) := by decide +kernel
theorem dL_state_489 : decode cL_state 489 = .ok (.dup, 1) := by decide +kernel
theorem dL_state_490 : decode cL_state 490 = .ok (.iconst 5, 1) := by decide +kernel
theorem dL_state_491 : decode cL_state 491 = .ok (.aload_n 3, 1) := by decide +kernel
theorem dL_state_492 : decode cL_state 492 = .ok (.getfield 206, 3) := by decide +kernel
theorem dL_state_495 : decode cL_state 495 = .ok (.iastore, 1) := by decide +kernel
theorem dL_state_496 : decode cL_state 496 = .ok (.dup, 1) := by decide +kernel
theorem dL_state_497 : decode cL_state 497 = .ok (.bipush 6, 2) := by decide +kernel
theorem dL_state_499 : decode cL_state 499 = .ok (.aload_n 3, 1) := by decide +kernel
theorem dL_state_500 : decode cL_state 500 = .ok (.getfield 209, 3) := by decide +kernel
theorem dL_state_503 : decode cL_state 503 = .ok (.iastore, 1) := by decide +kernel
theorem dL_state_504 : decode cL_state 504 = .ok (.astore 4, 2) := by decide +kernel
theorem dL_state_506 : decode cL_state 506 = .ok (.iconst 0, 1) := by decide +kernel
theorem dL_state_507 : decode cL_state 507 = .ok (.istore 5, 2) := by decide +kernel
theorem dL_state_509 : decode cL_state 509 = .ok (.iload 5, 2) := by decide +kernel
theorem dL_state_511 : decode cL_state 511 = .ok (.bipush 7, 2) := by decide +kernel
theorem dL_state_513 : decode cL_state 513 = .ok (.if_icmp .ge 26, 3) := by decide +kernel
theorem dL_state_516 : decode cL_state 516 = .ok (.aload_n 0, 1) := by decide +kernel
theorem dL_state_517 : decode cL_state 517 = .ok (.iload_n 2, 1) := by decide +kernel
theorem dL_state_518 : decode cL_state 518 = .ok (.iload 5, 2) := by decide +kernel
theorem dL_state_520 : decode cL_state 520 = .ok (.invokevirtual 212, 3) := by decide +kernel
theorem dL_state_523 : decode cL_state 523 = .ok (.aload 4, 2) := by decide +kernel
theorem dL_state_525 : decode cL_state 525 = .ok (.iload 5, 2) := by decide +kernel
theorem dL_state_527 : decode cL_state 527 = .ok (.iaload, 1) := by decide +kernel
theorem dL_state_528 : decode cL_state 528 = .ok (.if_icmp .eq 5, 3) := by decide +kernel
theorem dL_state_531 : decode cL_state 531 = .ok (.iconst 0, 1) := by decide +kernel
theorem dL_state_532 : decode cL_state 532 = .ok (.ireturn, 1) := by decide +kernel
theorem dL_state_533 : decode cL_state 533 = .ok (.iinc 5 1, 3) := by decide +kernel
theorem dL_state_536 : decode cL_state 536 = .ok (.goto (-27), 3) := by decide +kernel
theorem dL_state_539 : decode cL_state 539 = .ok (.iconst 0, 1) := by decide +kernel
theorem dL_state_540 : decode cL_state 540 = .ok (.istore 5, 2) := by decide +kernel
theorem dL_state_542 : decode cL_state 542 = .ok (.aload_n 3, 1) := by decide +kernel
theorem dL_state_543 : decode cL_state 543 = .ok (.getfield 197, 3) := by decide +kernel
theorem dL_state_546 : decode cL_state 546 = .ok (.istore 6, 2) := by decide +kernel
theorem dL_state_548 : decode cL_state 548 = .ok (.aload_n 3, 1) := by decide +kernel
theorem dL_state_549 : decode cL_state 549 = .ok (.getfield 134, 3) := by decide +kernel
theorem dL_state_552 : decode cL_state 552 = .ok (.ifCond .eq 48, 3) := by decide +kernel
theorem dL_state_555 : decode cL_state 555 = .ok (.iload 6, 2) := by decide +kernel
theorem dL_state_557 : decode cL_state 557 = .ok (.aload_n 3, 1) := by decide +kernel
theorem dL_state_558 : decode cL_state 558 = .ok (.getfield 128, 3) := by decide +kernel
theorem dL_state_561 : decode cL_state 561 = .ok (.getfield 143, 3) := by decide +kernel
theorem dL_state_564 : decode cL_state 564 = .ok (.if_icmp .ge 36, 3) := by decide +kernel
theorem dL_state_567 : decode cL_state 567 = .ok (.iload 5, 2) := by decide +kernel
theorem dL_state_569 : decode cL_state 569 = .ok (.aload_n 3, 1) := by decide +kernel
theorem dL_state_570 : decode cL_state 570 = .ok (.aload_n 3, 1) := by decide +kernel
theorem dL_state_571 : decode cL_state 571 = .ok (.getfield 128, 3) := by decide +kernel
theorem dL_state_574 : decode cL_state 574 = .ok (.getfield 160, 3) := by decide +kernel
theorem dL_state_577 : decode cL_state 577 = .ok (.iload 6, 2) := by decide +kernel
theorem dL_state_579 : decode cL_state 579 = .ok (.iaload, 1) := by decide +kernel
theorem dL_state_580 : decode cL_state 580 = .ok (.invokevirtual 214, 3) := by decide +kernel
theorem dL_state_583 : decode cL_state 583 = .ok (.ifCond .eq 7, 3) := by decide +kernel
theorem dL_state_586 : decode cL_state 586 = .ok (.iconst 1, 1) := by decide +kernel
theorem dL_state_587 : decode cL_state 587 = .ok (.goto 4, 3) := by decide +kernel
theorem dL_state_590 : decode cL_state 590 = .ok (.iconst 0, 1) := by decide +kernel
theorem dL_state_591 : decode cL_state 591 = .ok (.iadd, 1) := by decide +kernel
theorem dL_state_592 : decode cL_state 592 = .ok (.istore 5, 2) := by decide +kernel
theorem dL_state_594 : decode cL_state 594 = .ok (.iinc 6 1, 3) := by decide +kernel
theorem dL_state_597 : decode cL_state 597 = .ok (.goto (-49), 3) := by decide +kernel
theorem dL_state_600 : decode cL_state 600 = .ok (.aload_n 0, 1) := by decide +kernel
theorem dL_state_601 : decode cL_state 601 = .ok (.iload_n 2, 1) := by decide +kernel
theorem dL_state_602 : decode cL_state 602 = .ok (.invokevirtual 217, 3) := by decide +kernel
theorem dL_state_605 : decode cL_state 605 = .ok (.iload 5, 2) := by decide +kernel
theorem dL_state_607 : decode cL_state 607 = .ok (.if_icmp .eq 5, 3) := by decide +kernel
theorem dL_state_610 : decode cL_state 610 = .ok (.iconst 0, 1) := by decide +kernel
theorem dL_state_611 : decode cL_state 611 = .ok (.ireturn, 1) := by decide +kernel
theorem dL_state_612 : decode cL_state 612 = .ok (.iinc 2 1, 3) := by decide +kernel
theorem dL_state_615 : decode cL_state 615 = .ok (.goto (-201), 3) := by decide +kernel
theorem dL_state_618 : decode cL_state 618 = .ok (.bipush 7, 2) := by decide +kernel
theorem dL_state_620 : decode cL_state 620 = .ok (.newarray .int, 2) := by decide +kernel
theorem dL_state_622 : decode cL_state 622 = .ok (.dup, 1) := by decide +kernel
theorem dL_state_623 : decode cL_state 623 = .ok (.iconst 0, 1) := by decide +kernel
theorem dL_state_624 : decode cL_state 624 = .ok (.aload_n 1, 1) := by decide +kernel
theorem dL_state_625 : decode cL_state 625 = .ok (.getfield 46, 3) := by decide +kernel
theorem dL_state_628 : decode cL_state 628 = .ok (.iastore, 1) := by decide +kernel
theorem dL_state_629 : decode cL_state 629 = .ok (.dup, 1) := by decide +kernel
theorem dL_state_630 : decode cL_state 630 = .ok (.iconst 1, 1) := by decide +kernel
theorem dL_state_631 : decode cL_state 631 = .ok (.aload_n 1, 1) := by decide +kernel
theorem dL_state_632 : decode cL_state 632 = .ok (.getfield 39, 3) := by decide +kernel
theorem dL_state_635 : decode cL_state 635 = .ok (.iastore, 1) := by decide +kernel
theorem dL_state_636 : decode cL_state 636 = .ok (.dup, 1) := by decide +kernel
theorem dL_state_637 : decode cL_state 637 = .ok (.iconst 2, 1) := by decide +kernel
theorem dL_state_638 : decode cL_state 638 = .ok (.aload_n 1, 1) := by decide +kernel
theorem dL_state_639 : decode cL_state 639 = .ok (.getfield 43, 3) := by decide +kernel
theorem dL_state_642 : decode cL_state 642 = .ok (.iastore, 1) := by decide +kernel
theorem dL_state_643 : decode cL_state 643 = .ok (.dup, 1) := by decide +kernel
theorem dL_state_644 : decode cL_state 644 = .ok (.iconst 3, 1) := by decide +kernel
theorem dL_state_645 : decode cL_state 645 = .ok (.aload_n 1, 1) := by decide +kernel
theorem dL_state_646 : decode cL_state 646 = .ok (.getfield 99, 3) := by decide +kernel
theorem dL_state_649 : decode cL_state 649 = .ok (.iastore, 1) := by decide +kernel
theorem dL_state_650 : decode cL_state 650 = .ok (.dup, 1) := by decide +kernel
theorem dL_state_651 : decode cL_state 651 = .ok (.iconst 4, 1) := by decide +kernel
theorem dL_state_652 : decode cL_state 652 = .ok (.aload_n 1, 1) := by decide +kernel
theorem dL_state_653 : decode cL_state 653 = .ok (.getfield 96, 3) := by decide +kernel
theorem dL_state_656 : decode cL_state 656 = .ok (.iastore, 1) := by decide +kernel
theorem dL_state_657 : decode cL_state 657 = .ok (.dup, 1) := by decide +kernel
theorem dL_state_658 : decode cL_state 658 = .ok (.iconst 5, 1) := by decide +kernel
theorem dL_state_659 : decode cL_state 659 = .ok (.aload_n 1, 1) := by decide +kernel
theorem dL_state_660 : decode cL_state 660 = .ok (.invokevirtual 220, 3) := by decide +kernel
theorem dL_state_663 : decode cL_state 663 = .ok (.iastore, 1) := by decide +kernel
theorem dL_state_664 : decode cL_state 664 = .ok (.dup, 1) := by decide +kernel
theorem dL_state_665 : decode cL_state 665 = .ok (.bipush 6, 2) := by decide +kernel
theorem dL_state_667 : decode cL_state 667 = .ok (.aload_n 1, 1) := by decide +kernel
theorem dL_state_668 : decode cL_state 668 = .ok (.getfield 223, 3) := by decide +kernel
theorem dL_state_671 : decode cL_state 671 = .ok (.iastore, 1) := by decide +kernel
theorem dL_state_672 : decode cL_state 672 = .ok (.astore_n 2, 1) := by decide +kernel
theorem dL_state_673 : decode cL_state 673 = .ok (.iconst 0, 1) := by decide +kernel
theorem dL_state_674 : decode cL_state 674 = .ok (.istore_n 3, 1) := by decide +kernel
theorem dL_state_675 : decode cL_state 675 = .ok (.iload_n 3, 1) := by decide +kernel
theorem dL_state_676 : decode cL_state 676 = .ok (.bipush 7, 2) := by decide +kernel
theorem dL_state_678 : decode cL_state 678 = .ok (.if_icmp .ge 22, 3) := by decide +kernel
theorem dL_state_681 : decode cL_state 681 = .ok (.aload_n 0, 1) := by decide +kernel
theorem dL_state_682 : decode cL_state 682 = .ok (.iload_n 3, 1) := by decide +kernel
theorem dL_state_683 : decode cL_state 683 = .ok (.invokevirtual 226, 3) := by decide +kernel
theorem dL_state_686 : decode cL_state 686 = .ok (.aload_n 2, 1) := by decide +kernel
theorem dL_state_687 : decode cL_state 687 = .ok (.iload_n 3, 1) := by decide +kernel
theorem dL_state_688 : decode cL_state 688 = .ok (.iaload, 1) := by decide +kernel
theorem dL_state_689 : decode cL_state 689 = .ok (.if_icmp .eq 5, 3) := by decide +kernel
theorem dL_state_692 : decode cL_state 692 = .ok (.iconst 0, 1) := by decide +kernel
theorem dL_state_693 : decode cL_state 693 = .ok (.ireturn, 1) := by decide +kernel
theorem dL_state_694 : decode cL_state 694 = .ok (.iinc 3 1, 3) := by decide +kernel
theorem dL_state_697 : decode cL_state 697 = .ok (.goto (-22), 3) := by decide +kernel
theorem dL_state_700 : decode cL_state 700 = .ok (.iconst 0, 1) := by decide +kernel
theorem dL_state_701 : decode cL_state 701 = .ok (.istore_n 3, 1) := by decide +kernel
theorem dL_state_702 : decode cL_state 702 = .ok (.iload_n 3, 1) := by decide +kernel
theorem dL_state_703 : decode cL_state 703 = .ok (.bipush 9, 2) := by decide +kernel
theorem dL_state_705 : decode cL_state 705 = .ok (.if_icmp .ge 37, 3) := by decide +kernel
theorem dL_state_708 : decode cL_state 708 = .ok (.aload_n 0, 1) := by decide +kernel
theorem dL_state_709 : decode cL_state 709 = .ok (.iload_n 3, 1) := by decide +kernel
theorem dL_state_710 : decode cL_state 710 = .ok (.invokevirtual 228, 3) := by decide +kernel
theorem dL_state_713 : decode cL_state 713 = .ok (.iload_n 3, 1) := by decide +kernel
theorem dL_state_714 : decode cL_state 714 = .ok (.aload_n 1, 1) := by decide +kernel
theorem dL_state_715 : decode cL_state 715 = .ok (.getfield 96, 3) := by decide +kernel
theorem dL_state_718 : decode cL_state 718 = .ok (.if_icmp .ge 12, 3) := by decide +kernel
theorem dL_state_721 : decode cL_state 721 = .ok (.aload_n 1, 1) := by decide +kernel
theorem dL_state_722 : decode cL_state 722 = .ok (.getfield 92, 3) := by decide +kernel
theorem dL_state_725 : decode cL_state 725 = .ok (.iload_n 3, 1) := by decide +kernel
theorem dL_state_726 : decode cL_state 726 = .ok (.iaload, 1) := by decide +kernel
theorem dL_state_727 : decode cL_state 727 = .ok (.goto 4, 3) := by decide +kernel
theorem dL_state_730 : decode cL_state 730 = .ok (.iconst (-1), 1) := by decide +kernel
theorem dL_state_731 : decode cL_state 731 = .ok (.if_icmp .eq 5, 3) := by decide +kernel
theorem dL_state_734 : decode cL_state 734 = .ok (.iconst 0, 1) := by decide +kernel
theorem dL_state_735 : decode cL_state 735 = .ok (.ireturn, 1) := by decide +kernel
theorem dL_state_736 : decode cL_state 736 = .ok (.iinc 3 1, 3) := by decide +kernel
theorem dL_state_739 : decode cL_state 739 = .ok (.goto (-37), 3) := by decide +kernel
theorem dL_state_742 : decode cL_state 742 = .ok (.iconst 1, 1) := by decide +kernel
theorem dL_state_743 : decode cL_state 743 = .ok (.ireturn, 1) := by decide +kernel
theorem dL_asks_0 : decode cL_asks 0 = .ok (.aload_n 2, 1) := by decide +kernel
theorem dL_asks_1 : decode cL_asks 1 = .ok (.aload_n 1, 1) := by decide +kernel
theorem dL_asks_2 : decode cL_asks 2 = .ok (.getfield 46, 3) := by decide +kernel
theorem dL_asks_5 : decode cL_asks 5 = .ok (.invokestatic 35, 3) := by decide +kernel
theorem dL_asks_8 : decode cL_asks 8 = .ok (.istore_n 3, 1) := by decide +kernel
theorem dL_asks_9 : decode cL_asks 9 = .ok (.aload_n 2, 1) := by decide +kernel
theorem dL_asks_10 : decode cL_asks 10 = .ok (.aload_n 1, 1) := by decide +kernel
theorem dL_asks_11 : decode cL_asks 11 = .ok (.getfield 46, 3) := by decide +kernel
theorem dL_asks_14 : decode cL_asks 14 = .ok (.invokestatic 35, 3) := by decide +kernel
theorem dL_asks_17 : decode cL_asks 17 = .ok (.istore 4, 2) := by decide +kernel
theorem dL_asks_19 : decode cL_asks 19 = .ok (.aload_n 1, 1) := by decide +kernel
theorem dL_asks_20 : decode cL_asks 20 = .ok (.getfield 80, 3) := by decide +kernel
theorem dL_asks_23 : decode cL_asks 23 = .ok (.iload_n 3, 1) := by decide +kernel
theorem dL_asks_24 : decode cL_asks 24 = .ok (.aaload, 1) := by decide +kernel
theorem dL_asks_25 : decode cL_asks 25 = .ok (.astore 5, 2) := by decide +kernel
theorem dL_asks_27 : decode cL_asks 27 = .ok (.aload 5, 2) := by decide +kernel
theorem dL_asks_29 : decode cL_asks 29 = .ok (.aload_n 1, 1) := by decide +kernel
theorem dL_asks_30 : decode cL_asks 30 = .ok (.getfield 43, 3) := by decide +kernel
theorem dL_asks_33 : decode cL_asks 33 = .ok (.invokevirtual 149, 3) := by decide +kernel
theorem dL_asks_36 : decode cL_asks 36 = .ok (.istore 6, 2) := by decide +kernel
theorem dL_asks_38 : decode cL_asks 38 = .ok (.iload 6, 2) := by decide +kernel
theorem dL_asks_40 : decode cL_asks 40 = .ok (.aload_n 2, 1) := by decide +kernel
theorem dL_asks_41 : decode cL_asks 41 = .ok (.aload_n 1, 1) := by decide +kernel
theorem dL_asks_42 : decode cL_asks 42 = .ok (.getfield 99, 3) := by decide +kernel
theorem dL_asks_45 : decode cL_asks 45 = .ok (.iload 6, 2) := by decide +kernel
theorem dL_asks_47 : decode cL_asks 47 = .ok (.isub, 1) := by decide +kernel
theorem dL_asks_48 : decode cL_asks 48 = .ok (.iconst 1, 1) := by decide +kernel
theorem dL_asks_49 : decode cL_asks 49 = .ok (.iadd, 1) := by decide +kernel
theorem dL_asks_50 : decode cL_asks 50 = .ok (.invokestatic 35, 3) := by decide +kernel
theorem dL_asks_53 : decode cL_asks 53 = .ok (.iadd, 1) := by decide +kernel
theorem dL_asks_54 : decode cL_asks 54 = .ok (.istore 7, 2) := by decide +kernel
theorem dL_asks_56 : decode cL_asks 56 = .ok (.iload 6, 2) := by decide +kernel
theorem dL_asks_58 : decode cL_asks 58 = .ok (.aload_n 2, 1) := by decide +kernel
theorem dL_asks_59 : decode cL_asks 59 = .ok (.aload_n 1, 1) := by decide +kernel
theorem dL_asks_60 : decode cL_asks 60 = .ok (.getfield 99, 3) := by decide +kernel
theorem dL_asks_63 : decode cL_asks 63 = .ok (.iload 6, 2) := by decide +kernel
theorem dL_asks_65 : decode cL_asks 65 = .ok (.isub, 1) := by decide +kernel
theorem dL_asks_66 : decode cL_asks 66 = .ok (.iconst 1, 1) := by decide +kernel
theorem dL_asks_67 : decode cL_asks 67 = .ok (.iadd, 1) := by decide +kernel
theorem dL_asks_68 : decode cL_asks 68 = .ok (.invokestatic 35, 3) := by decide +kernel
theorem dL_asks_71 : decode cL_asks 71 = .ok (.iadd, 1) := by decide +kernel
theorem dL_asks_72 : decode cL_asks 72 = .ok (.istore 8, 2) := by decide +kernel
theorem dL_asks_74 : decode cL_asks 74 = .ok (.aload_n 0, 1) := by decide +kernel
theorem dL_asks_75 : decode cL_asks 75 = .ok (.iload_n 3, 1) := by decide +kernel
theorem dL_asks_76 : decode cL_asks 76 = .ok (.iload 7, 2) := by decide +kernel
theorem dL_asks_78 : decode cL_asks 78 = .ok (.invokevirtual 231, 3) := by decide +kernel
theorem dL_asks_81 : decode cL_asks 81 = .ok (.aload 5, 2) := by decide +kernel
theorem dL_asks_83 : decode cL_asks 83 = .ok (.iload 7, 2) := by decide +kernel
theorem dL_asks_85 : decode cL_asks 85 = .ok (.invokevirtual 235, 3) := by decide +kernel
theorem dL_asks_88 : decode cL_asks 88 = .ok (.lcmp, 1) := by decide +kernel
theorem dL_asks_89 : decode cL_asks 89 = .ok (.ifCond .ne 73, 3) := by decide +kernel
theorem dL_asks_92 : decode cL_asks 92 = .ok (.aload_n 0, 1) := by decide +kernel
theorem dL_asks_93 : decode cL_asks 93 = .ok (.iload_n 3, 1) := by decide +kernel
theorem dL_asks_94 : decode cL_asks 94 = .ok (.iload 7, 2) := by decide +kernel
theorem dL_asks_96 : decode cL_asks 96 = .ok (.iload 8, 2) := by decide +kernel
theorem dL_asks_98 : decode cL_asks 98 = .ok (.iconst 1, 1) := by decide +kernel
theorem dL_asks_99 : decode cL_asks 99 = .ok (.invokevirtual 238, 3) := by decide +kernel
theorem dL_asks_102 : decode cL_asks 102 = .ok (.aload 5, 2) := by decide +kernel
theorem dL_asks_104 : decode cL_asks 104 = .ok (.iload 8, 2) := by decide +kernel
theorem dL_asks_106 : decode cL_asks 106 = .ok (.invokevirtual 235, 3) := by decide +kernel
theorem dL_asks_109 : decode cL_asks 109 = .ok (.aload 5, 2) := by decide +kernel
theorem dL_asks_111 : decode cL_asks 111 = .ok (.iload 7, 2) := by decide +kernel
theorem dL_asks_113 : decode cL_asks 113 = .ok (.invokevirtual 235, 3) := by decide +kernel
theorem dL_asks_116 : decode cL_asks 116 = .ok (.ldc2_w 242, 3) := by decide +kernel
theorem dL_asks_119 : decode cL_asks 119 = .ok (.lxor, 1) := by decide +kernel
theorem dL_asks_120 : decode cL_asks 120 = .ok (.land, 1) := by decide +kernel
theorem dL_asks_121 : decode cL_asks 121 = .ok (.invokestatic 244, 3) := by decide +kernel
theorem dL_asks_124 : decode cL_asks 124 = .ok (.if_icmp .ne 38, 3) := by decide +kernel
theorem dL_asks_127 : decode cL_asks 127 = .ok (.aload_n 0, 1) := by decide +kernel
theorem dL_asks_128 : decode cL_asks 128 = .ok (.iload_n 3, 1) := by decide +kernel
theorem dL_asks_129 : decode cL_asks 129 = .ok (.iload 7, 2) := by decide +kernel
theorem dL_asks_131 : decode cL_asks 131 = .ok (.iload 8, 2) := by decide +kernel
theorem dL_asks_133 : decode cL_asks 133 = .ok (.iconst 0, 1) := by decide +kernel
theorem dL_asks_134 : decode cL_asks 134 = .ok (.invokevirtual 238, 3) := by decide +kernel
theorem dL_asks_137 : decode cL_asks 137 = .ok (.aload 5, 2) := by decide +kernel
theorem dL_asks_139 : decode cL_asks 139 = .ok (.iload 7, 2) := by decide +kernel
theorem dL_asks_141 : decode cL_asks 141 = .ok (.invokevirtual 235, 3) := by decide +kernel
theorem dL_asks_144 : decode cL_asks 144 = .ok (.aload 5, 2) := by decide +kernel
theorem dL_asks_146 : decode cL_asks 146 = .ok (.iload 8, 2) := by decide +kernel
theorem dL_asks_148 : decode cL_asks 148 = .ok (.invokevirtual 235, 3) := by decide +kernel
theorem dL_asks_151 : decode cL_asks 151 = .ok (.ldc2_w 242, 3) := by decide +kernel
theorem dL_asks_154 : decode cL_asks 154 = .ok (.lxor, 1) := by decide +kernel
theorem dL_asks_155 : decode cL_asks 155 = .ok (.land, 1) := by decide +kernel
theorem dL_asks_156 : decode cL_asks 156 = .ok (.invokestatic 244, 3) := by decide +kernel
theorem dL_asks_159 : decode cL_asks 159 = .ok (.if_icmp .eq 5, 3) := by decide +kernel
theorem dL_asks_162 : decode cL_asks 162 = .ok (.iconst 0, 1) := by decide +kernel
theorem dL_asks_163 : decode cL_asks 163 = .ok (.ireturn, 1) := by decide +kernel
theorem dL_asks_164 : decode cL_asks 164 = .ok (.iload 6, 2) := by decide +kernel
theorem dL_asks_166 : decode cL_asks 166 = .ok (.istore 9, 2) := by decide +kernel
theorem dL_asks_168 : decode cL_asks 168 = .ok (.aload 5, 2) := by decide +kernel
theorem dL_asks_170 : decode cL_asks 170 = .ok (.getfield 179, 3) := by decide +kernel
theorem dL_asks_173 : decode cL_asks 173 = .ok (.aload 5, 2) := by decide +kernel
theorem dL_asks_175 : decode cL_asks 175 = .ok (.aload_n 1, 1) := by decide +kernel
theorem dL_asks_176 : decode cL_asks 176 = .ok (.getfield 43, 3) := by decide +kernel
theorem dL_asks_179 : decode cL_asks 179 = .ok (.invokevirtual 138, 3) := by decide +kernel
theorem dL_asks_182 : decode cL_asks 182 = .ok (.isub, 1) := by decide +kernel
theorem dL_asks_183 : decode cL_asks 183 = .ok (.istore 10, 2) := by decide +kernel
theorem dL_asks_185 : decode cL_asks 185 = .ok (.iload 10, 2) := by decide +kernel
theorem dL_asks_187 : decode cL_asks 187 = .ok (.aload 5, 2) := by decide +kernel
theorem dL_asks_189 : decode cL_asks 189 = .ok (.getfield 179, 3) := by decide +kernel
theorem dL_asks_192 : decode cL_asks 192 = .ok (.if_icmp .ge 48, 3) := by decide +kernel
theorem dL_asks_195 : decode cL_asks 195 = .ok (.aload 5, 2) := by decide +kernel
theorem dL_asks_197 : decode cL_asks 197 = .ok (.aload 5, 2) := by decide +kernel
theorem dL_asks_199 : decode cL_asks 199 = .ok (.getfield 186, 3) := by decide +kernel
theorem dL_asks_202 : decode cL_asks 202 = .ok (.iload 10, 2) := by decide +kernel
theorem dL_asks_204 : decode cL_asks 204 = .ok (.iaload, 1) := by decide +kernel
theorem dL_asks_205 : decode cL_asks 205 = .ok (.invokevirtual 235, 3) := by decide +kernel
theorem dL_asks_208 : decode cL_asks 208 = .ok (.invokestatic 244, 3) := by decide +kernel
theorem dL_asks_211 : decode cL_asks 211 = .ok (.aload 5, 2) := by decide +kernel
theorem dL_asks_213 : decode cL_asks 213 = .ok (.iload 9, 2) := by decide +kernel
theorem dL_asks_215 : decode cL_asks 215 = .ok (.invokevirtual 235, 3) := by decide +kernel
theorem dL_asks_218 : decode cL_asks 218 = .ok (.invokestatic 244, 3) := by decide +kernel
theorem dL_asks_221 : decode cL_asks 221 = .ok (.if_icmp .le 13, 3) := by decide +kernel
theorem dL_asks_224 : decode cL_asks 224 = .ok (.aload 5, 2) := by decide +kernel
theorem dL_asks_226 : decode cL_asks 226 = .ok (.getfield 186, 3) := by decide +kernel
theorem dL_asks_229 : decode cL_asks 229 = .ok (.iload 10, 2) := by decide +kernel
theorem dL_asks_231 : decode cL_asks 231 = .ok (.iaload, 1) := by decide +kernel
theorem dL_asks_232 : decode cL_asks 232 = .ok (.istore 9, 2) := by decide +kernel
theorem dL_asks_234 : decode cL_asks 234 = .ok (.iinc 10 1, 3) := by decide +kernel
theorem dL_asks_237 : decode cL_asks 237 = .ok (.goto (-52), 3) := by decide +kernel
theorem dL_asks_240 : decode cL_asks 240 = .ok (.aload_n 0, 1) := by decide +kernel
theorem dL_asks_241 : decode cL_asks 241 = .ok (.iload_n 3, 1) := by decide +kernel
theorem dL_asks_242 : decode cL_asks 242 = .ok (.invokevirtual 250, 3) := by decide +kernel
theorem dL_asks_245 : decode cL_asks 245 = .ok (.iload 9, 2) := by decide +kernel
theorem dL_asks_247 : decode cL_asks 247 = .ok (.if_icmp .eq 5, 3) := by decide +kernel
theorem dL_asks_250 : decode cL_asks 250 = .ok (.iconst 0, 1) := by decide +kernel
theorem dL_asks_251 : decode cL_asks 251 = .ok (.ireturn, 1) := by decide +kernel
theorem dL_asks_252 : decode cL_asks 252 = .ok (.iconst 0, 1) := by decide +kernel
theorem dL_asks_253 : decode cL_asks 253 = .ok (.istore 10, 2) := by decide +kernel
theorem dL_asks_255 : decode cL_asks 255 = .ok (.iload 10, 2) := by decide +kernel
theorem dL_asks_257 : decode cL_asks 257 = .ok (.iconst 3, 1) := by decide +kernel
theorem dL_asks_258 : decode cL_asks 258 = .ok (.if_icmp .ge 108, 3) := by decide +kernel
theorem dL_asks_261 : decode cL_asks 261 = .ok (.aload_n 2, 1) := by decide +kernel
theorem dL_asks_262 : decode cL_asks 262 = .ok (.aload_n 1, 1) := by decide +kernel
theorem dL_asks_263 : decode cL_asks 263 = .ok (.getfield 39, 3) := by decide +kernel
theorem dL_asks_266 : decode cL_asks 266 = .ok (.invokestatic 35, 3) := by decide +kernel
theorem dL_asks_269 : decode cL_asks 269 = .ok (.istore 11, 2) := by decide +kernel
theorem dL_asks_271 : decode cL_asks 271 = .ok (.iconst (-1), 1) := by decide +kernel
theorem dL_asks_272 : decode cL_asks 272 = .ok (.istore 12, 2) := by decide +kernel
theorem dL_asks_274 : decode cL_asks 274 = .ok (.aload 5, 2) := by decide +kernel
theorem dL_asks_276 : decode cL_asks 276 = .ok (.getfield 179, 3) := by decide +kernel
theorem dL_asks_279 : decode cL_asks 279 = .ok (.aload 5, 2) := by decide +kernel
theorem dL_asks_281 : decode cL_asks 281 = .ok (.aload_n 1, 1) := by decide +kernel
theorem dL_asks_282 : decode cL_asks 282 = .ok (.getfield 43, 3) := by decide +kernel
theorem dL_asks_285 : decode cL_asks 285 = .ok (.invokevirtual 138, 3) := by decide +kernel
theorem dL_asks_288 : decode cL_asks 288 = .ok (.isub, 1) := by decide +kernel
theorem dL_asks_289 : decode cL_asks 289 = .ok (.istore 13, 2) := by decide +kernel
theorem dL_asks_291 : decode cL_asks 291 = .ok (.iload 13, 2) := by decide +kernel
theorem dL_asks_293 : decode cL_asks 293 = .ok (.aload 5, 2) := by decide +kernel
theorem dL_asks_295 : decode cL_asks 295 = .ok (.getfield 179, 3) := by decide +kernel
theorem dL_asks_298 : decode cL_asks 298 = .ok (.if_icmp .ge 48, 3) := by decide +kernel
theorem dL_asks_301 : decode cL_asks 301 = .ok (.aload 5, 2) := by decide +kernel
theorem dL_asks_303 : decode cL_asks 303 = .ok (.getfield 253, 3) := by decide +kernel
theorem dL_asks_306 : decode cL_asks 306 = .ok (.iload 13, 2) := by decide +kernel
theorem dL_asks_308 : decode cL_asks 308 = .ok (.laload, 1) := by decide +kernel
theorem dL_asks_309 : decode cL_asks 309 = .ok (.aload 5, 2) := by decide +kernel
theorem dL_asks_311 : decode cL_asks 311 = .ok (.getfield 253, 3) := by decide +kernel
theorem dL_asks_314 : decode cL_asks 314 = .ok (.iload 13, 2) := by decide +kernel
theorem dL_asks_316 : decode cL_asks 316 = .ok (.iconst 1, 1) := by decide +kernel
theorem dL_asks_317 : decode cL_asks 317 = .ok (.iadd, 1) := by decide +kernel
theorem dL_asks_318 : decode cL_asks 318 = .ok (.laload, 1) := by decide +kernel
theorem dL_asks_319 : decode cL_asks 319 = .ok (.lxor, 1) := by decide +kernel
theorem dL_asks_320 : decode cL_asks 320 = .ok (.iload 11, 2) := by decide +kernel
theorem dL_asks_322 : decode cL_asks 322 = .ok (.lshr, 1) := by decide +kernel
theorem dL_asks_323 : decode cL_asks 323 = .ok (.lconst 1, 1) := by decide +kernel
theorem dL_asks_324 : decode cL_asks 324 = .ok (.land, 1) := by decide +kernel
theorem dL_asks_325 : decode cL_asks 325 = .ok (.lconst 1, 1) := by decide +kernel
theorem dL_asks_326 : decode cL_asks 326 = .ok (.lcmp, 1) := by decide +kernel
theorem dL_asks_327 : decode cL_asks 327 = .ok (.ifCond .ne 13, 3) := by decide +kernel
theorem dL_asks_330 : decode cL_asks 330 = .ok (.aload 5, 2) := by decide +kernel
theorem dL_asks_332 : decode cL_asks 332 = .ok (.getfield 186, 3) := by decide +kernel
theorem dL_asks_335 : decode cL_asks 335 = .ok (.iload 13, 2) := by decide +kernel
theorem dL_asks_337 : decode cL_asks 337 = .ok (.iaload, 1) := by decide +kernel
theorem dL_asks_338 : decode cL_asks 338 = .ok (.istore 12, 2) := by decide +kernel
theorem dL_asks_340 : decode cL_asks 340 = .ok (.iinc 13 1, 3) := by decide +kernel
theorem dL_asks_343 : decode cL_asks 343 = .ok (.goto (-52), 3) := by decide +kernel
theorem dL_asks_346 : decode cL_asks 346 = .ok (.aload_n 0, 1) := by decide +kernel
theorem dL_asks_347 : decode cL_asks 347 = .ok (.iload_n 3, 1) := by decide +kernel
theorem dL_asks_348 : decode cL_asks 348 = .ok (.iload 11, 2) := by decide +kernel
theorem dL_asks_350 : decode cL_asks 350 = .ok (.invokevirtual 257, 3) := by decide +kernel
theorem dL_asks_353 : decode cL_asks 353 = .ok (.iload 12, 2) := by decide +kernel
theorem dL_asks_355 : decode cL_asks 355 = .ok (.if_icmp .eq 5, 3) := by decide +kernel
theorem dL_asks_358 : decode cL_asks 358 = .ok (.iconst 0, 1) := by decide +kernel
theorem dL_asks_359 : decode cL_asks 359 = .ok (.ireturn, 1) := by decide +kernel
theorem dL_asks_360 : decode cL_asks 360 = .ok (.iinc 10 1, 3) := by decide +kernel
theorem dL_asks_363 : decode cL_asks 363 = .ok (.goto (-108), 3) := by decide +kernel
theorem dL_asks_366 : decode cL_asks 366 = .ok (.aload 5, 2) := by decide +kernel
theorem dL_asks_368 : decode cL_asks 368 = .ok (.invokevirtual 260, 3) := by decide +kernel
theorem dL_asks_371 : decode cL_asks 371 = .ok (.lstore 10, 2) := by decide +kernel
theorem dL_asks_373 : decode cL_asks 373 = .ok (.aload_n 1, 1) := by decide +kernel
theorem dL_asks_374 : decode cL_asks 374 = .ok (.getfield 80, 3) := by decide +kernel
theorem dL_asks_377 : decode cL_asks 377 = .ok (.iload 4, 2) := by decide +kernel
theorem dL_asks_379 : decode cL_asks 379 = .ok (.aaload, 1) := by decide +kernel
theorem dL_asks_380 : decode cL_asks 380 = .ok (.invokevirtual 260, 3) := by decide +kernel
theorem dL_asks_383 : decode cL_asks 383 = .ok (.lstore 12, 2) := by decide +kernel
theorem dL_asks_385 : decode cL_asks 385 = .ok (.lload 10, 2) := by decide +kernel
theorem dL_asks_387 : decode cL_asks 387 = .ok (.lload 12, 2) := by decide +kernel
theorem dL_asks_389 : decode cL_asks 389 = .ok (.land, 1) := by decide +kernel
theorem dL_asks_390 : decode cL_asks 390 = .ok (.invokestatic 244, 3) := by decide +kernel
theorem dL_asks_393 : decode cL_asks 393 = .ok (.istore 14, 2) := by decide +kernel
theorem dL_asks_395 : decode cL_asks 395 = .ok (.lload 10, 2) := by decide +kernel
theorem dL_asks_397 : decode cL_asks 397 = .ok (.lload 12, 2) := by decide +kernel
theorem dL_asks_399 : decode cL_asks 399 = .ok (.lor, 1) := by decide +kernel
theorem dL_asks_400 : decode cL_asks 400 = .ok (.invokestatic 244, 3) := by decide +kernel
theorem dL_asks_403 : decode cL_asks 403 = .ok (.istore 15, 2) := by decide +kernel
theorem dL_asks_405 : decode cL_asks 405 = .ok (.aload_n 0, 1) := by decide +kernel
theorem dL_asks_406 : decode cL_asks 406 = .ok (.iload_n 3, 1) := by decide +kernel
theorem dL_asks_407 : decode cL_asks 407 = .ok (.iload 4, 2) := by decide +kernel
theorem dL_asks_409 : decode cL_asks 409 = .ok (.invokevirtual 264, 3) := by decide +kernel
theorem dL_asks_412 : decode cL_asks 412 = .ok (.iload 14, 2) := by decide +kernel
theorem dL_asks_414 : decode cL_asks 414 = .ok (.if_icmp .ne 63, 3) := by decide +kernel
theorem dL_asks_417 : decode cL_asks 417 = .ok (.aload_n 0, 1) := by decide +kernel
theorem dL_asks_418 : decode cL_asks 418 = .ok (.iload_n 3, 1) := by decide +kernel
theorem dL_asks_419 : decode cL_asks 419 = .ok (.iload 4, 2) := by decide +kernel
theorem dL_asks_421 : decode cL_asks 421 = .ok (.invokevirtual 267, 3) := by decide +kernel
theorem dL_asks_424 : decode cL_asks 424 = .ok (.lload 10, 2) := by decide +kernel
theorem dL_asks_426 : decode cL_asks 426 = .ok (.lload 12, 2) := by decide +kernel
theorem dL_asks_428 : decode cL_asks 428 = .ok (.ldc2_w 242, 3) := by decide +kernel
theorem dL_asks_431 : decode cL_asks 431 = .ok (.lxor, 1) := by decide +kernel
theorem dL_asks_432 : decode cL_asks 432 = .ok (.land, 1) := by decide +kernel
theorem dL_asks_433 : decode cL_asks 433 = .ok (.lconst 0, 1) := by decide +kernel
theorem dL_asks_434 : decode cL_asks 434 = .ok (.lcmp, 1) := by decide +kernel
theorem dL_asks_435 : decode cL_asks 435 = .ok (.ifCond .ne 7, 3) := by decide +kernel
theorem dL_asks_438 : decode cL_asks 438 = .ok (.iconst 1, 1) := by decide +kernel
theorem dL_asks_439 : decode cL_asks 439 = .ok (.goto 4, 3) := by decide +kernel
theorem dL_asks_442 : decode cL_asks 442 = .ok (.iconst 0, 1) := by decide +kernel
theorem dL_asks_443 : decode cL_asks 443 = .ok (.if_icmp .ne 34, 3) := by decide +kernel
theorem dL_asks_446 : decode cL_asks 446 = .ok (.aload_n 0, 1) := by decide +kernel
theorem dL_asks_447 : decode cL_asks 447 = .ok (.iload_n 3, 1) := by decide +kernel
theorem dL_asks_448 : decode cL_asks 448 = .ok (.iload 4, 2) := by decide +kernel
theorem dL_asks_450 : decode cL_asks 450 = .ok (.invokevirtual 271, 3) := by decide +kernel
theorem dL_asks_453 : decode cL_asks 453 = .ok (.iload 15, 2) := by decide +kernel
theorem dL_asks_455 : decode cL_asks 455 = .ok (.ifCond .ne 7, 3) := by decide +kernel
theorem dL_asks_458 : decode cL_asks 458 = .ok (.dconst 1, 1) := by decide +kernel
theorem dL_asks_459 : decode cL_asks 459 = .ok (.goto 10, 3) := by decide +kernel
theorem dL_asks_462 : decode cL_asks 462 = .ok (.iload 14, 2) := by decide +kernel
theorem dL_asks_464 : decode cL_asks 464 = .ok (.i2d, 1) := by decide +kernel
theorem dL_asks_465 : decode cL_asks 465 = .ok (.iload 15, 2) := by decide +kernel
theorem dL_asks_467 : decode cL_asks 467 = .ok (.i2d, 1) := by decide +kernel
theorem dL_asks_468 : decode cL_asks 468 = .ok (.ddiv, 1) := by decide +kernel
theorem dL_asks_469 : decode cL_asks 469 = .ok (.dcmp .l, 1) := by decide +kernel
theorem dL_asks_470 : decode cL_asks 470 = .ok (.ifCond .ne 7, 3) := by decide +kernel
theorem dL_asks_473 : decode cL_asks 473 = .ok (.iconst 1, 1) := by decide +kernel
theorem dL_asks_474 : decode cL_asks 474 = .ok (.goto 4, 3) := by decide +kernel
theorem dL_asks_477 : decode cL_asks 477 = .ok (.iconst 0, 1) := by decide +kernel
theorem dL_asks_478 : decode cL_asks 478 = .ok (.ireturn, 1) := by decide +kernel
theorem dL_plays_0 : decode cL_plays 0 = .ok (.new 32, 3) := by decide +kernel
theorem dL_plays_3 : decode cL_plays 3 = .ok (.dup, 1) := by decide +kernel
theorem dL_plays_4 : decode cL_plays 4 = .ok (.invokespecial 34, 3) := by decide +kernel
theorem dL_plays_7 : decode cL_plays 7 = .ok (.astore_n 2, 1) := by decide +kernel
theorem dL_plays_8 : decode cL_plays 8 = .ok (.aload_n 2, 1) := by decide +kernel
theorem dL_plays_9 : decode cL_plays 9 = .ok (.aload_n 1, 1) := by decide +kernel
theorem dL_plays_10 : decode cL_plays 10 = .ok (.iconst 3, 1) := by decide +kernel
theorem dL_plays_11 : decode cL_plays 11 = .ok (.invokestatic 35, 3) := by decide +kernel
theorem dL_plays_14 : decode cL_plays 14 = .ok (.ifCond .ne 14, 3) := by decide +kernel
theorem dL_plays_17 : decode cL_plays 17 = .ok (.iconst 1, 1) := by decide +kernel
theorem dL_plays_18 : decode cL_plays 18 = .ok (.aload_n 1, 1) := by decide +kernel
theorem dL_plays_19 : decode cL_plays 19 = .ok (.bipush 64, 2) := by decide +kernel
theorem dL_plays_21 : decode cL_plays 21 = .ok (.invokestatic 35, 3) := by decide +kernel
theorem dL_plays_24 : decode cL_plays 24 = .ok (.iadd, 1) := by decide +kernel
theorem dL_plays_25 : decode cL_plays 25 = .ok (.goto 11, 3) := by decide +kernel
theorem dL_plays_28 : decode cL_plays 28 = .ok (.iconst 2, 1) := by decide +kernel
theorem dL_plays_29 : decode cL_plays 29 = .ok (.aload_n 1, 1) := by decide +kernel
theorem dL_plays_30 : decode cL_plays 30 = .ok (.bipush 10, 2) := by decide +kernel
theorem dL_plays_32 : decode cL_plays 32 = .ok (.invokestatic 35, 3) := by decide +kernel
theorem dL_plays_35 : decode cL_plays 35 = .ok (.iadd, 1) := by decide +kernel
theorem dL_plays_36 : decode cL_plays 36 = .ok (.putfield 39, 3) := by decide +kernel
theorem dL_plays_39 : decode cL_plays 39 = .ok (.aload_n 2, 1) := by decide +kernel
theorem dL_plays_40 : decode cL_plays 40 = .ok (.iconst 1, 1) := by decide +kernel
theorem dL_plays_41 : decode cL_plays 41 = .ok (.aload_n 1, 1) := by decide +kernel
theorem dL_plays_42 : decode cL_plays 42 = .ok (.aload_n 1, 1) := by decide +kernel
theorem dL_plays_43 : decode cL_plays 43 = .ok (.iconst 2, 1) := by decide +kernel
theorem dL_plays_44 : decode cL_plays 44 = .ok (.invokestatic 35, 3) := by decide +kernel
theorem dL_plays_47 : decode cL_plays 47 = .ok (.ifCond .ne 8, 3) := by decide +kernel
theorem dL_plays_50 : decode cL_plays 50 = .ok (.bipush 60, 2) := by decide +kernel
theorem dL_plays_52 : decode cL_plays 52 = .ok (.goto 5, 3) := by decide +kernel
theorem dL_plays_55 : decode cL_plays 55 = .ok (.bipush 8, 2) := by decide +kernel
theorem dL_plays_57 : decode cL_plays 57 = .ok (.invokestatic 35, 3) := by decide +kernel
theorem dL_plays_60 : decode cL_plays 60 = .ok (.iadd, 1) := by decide +kernel
theorem dL_plays_61 : decode cL_plays 61 = .ok (.putfield 43, 3) := by decide +kernel
theorem dL_plays_64 : decode cL_plays 64 = .ok (.aload_n 2, 1) := by decide +kernel
theorem dL_plays_65 : decode cL_plays 65 = .ok (.iconst 1, 1) := by decide +kernel
theorem dL_plays_66 : decode cL_plays 66 = .ok (.aload_n 1, 1) := by decide +kernel
theorem dL_plays_67 : decode cL_plays 67 = .ok (.iconst 4, 1) := by decide +kernel
theorem dL_plays_68 : decode cL_plays 68 = .ok (.invokestatic 35, 3) := by decide +kernel
theorem dL_plays_71 : decode cL_plays 71 = .ok (.iadd, 1) := by decide +kernel
theorem dL_plays_72 : decode cL_plays 72 = .ok (.putfield 46, 3) := by decide +kernel
theorem dL_plays_75 : decode cL_plays 75 = .ok (.new 49, 3) := by decide +kernel
theorem dL_plays_78 : decode cL_plays 78 = .ok (.dup, 1) := by decide +kernel
theorem dL_plays_79 : decode cL_plays 79 = .ok (.new 49, 3) := by decide +kernel
theorem dL_plays_82 : decode cL_plays 82 = .ok (.dup, 1) := by decide +kernel
theorem dL_plays_83 : decode cL_plays 83 = .ok (.invokespecial 51, 3) := by decide +kernel
theorem dL_plays_86 : decode cL_plays 86 = .ok (.ldc 52, 2) := by decide +kernel
theorem dL_plays_88 : decode cL_plays 88 = .ok (.invokevirtual 54, 3) := by decide +kernel
theorem dL_plays_91 : decode cL_plays 91 = .ok (.aload_n 2, 1) := by decide +kernel
theorem dL_plays_92 : decode cL_plays 92 = .ok (.getfield 39, 3) := by decide +kernel
theorem dL_plays_95 : decode cL_plays 95 = .ok (.invokevirtual 57, 3) := by decide +kernel
theorem dL_plays_98 : decode cL_plays 98 = .ok (.ldc 60, 2) := by decide +kernel
theorem dL_plays_100 : decode cL_plays 100 = .ok (.invokevirtual 54, 3) := by decide +kernel
theorem dL_plays_103 : decode cL_plays 103 = .ok (.aload_n 2, 1) := by decide +kernel
theorem dL_plays_104 : decode cL_plays 104 = .ok (.getfield 43, 3) := by decide +kernel
theorem dL_plays_107 : decode cL_plays 107 = .ok (.invokevirtual 57, 3) := by decide +kernel
theorem dL_plays_110 : decode cL_plays 110 = .ok (.ldc 62, 2) := by decide +kernel
theorem dL_plays_112 : decode cL_plays 112 = .ok (.invokevirtual 54, 3) := by decide +kernel
theorem dL_plays_115 : decode cL_plays 115 = .ok (.invokevirtual 64, 3) := by decide +kernel
theorem dL_plays_118 : decode cL_plays 118 = .ok (.invokespecial 68, 3) := by decide +kernel
theorem dL_plays_121 : decode cL_plays 121 = .ok (.astore_n 3, 1) := by decide +kernel
theorem dL_plays_122 : decode cL_plays 122 = .ok (.iconst 0, 1) := by decide +kernel
theorem dL_plays_123 : decode cL_plays 123 = .ok (.istore 4, 2) := by decide +kernel
theorem dL_plays_125 : decode cL_plays 125 = .ok (.iload 4, 2) := by decide +kernel
theorem dL_plays_127 : decode cL_plays 127 = .ok (.aload_n 2, 1) := by decide +kernel
theorem dL_plays_128 : decode cL_plays 128 = .ok (.getfield 46, 3) := by decide +kernel
theorem dL_plays_131 : decode cL_plays 131 = .ok (.if_icmp .ge 30, 3) := by decide +kernel
theorem dL_plays_134 : decode cL_plays 134 = .ok (.aload_n 3, 1) := by decide +kernel
theorem dL_plays_135 : decode cL_plays 135 = .ok (.ldc 71, 2) := by decide +kernel
theorem dL_plays_137 : decode cL_plays 137 = .ok (.invokevirtual 54, 3) := by decide +kernel
theorem dL_plays_140 : decode cL_plays 140 = .ok (.bipush 97, 2) := by decide +kernel
theorem dL_plays_142 : decode cL_plays 142 = .ok (.iload 4, 2) := by decide +kernel
theorem dL_plays_144 : decode cL_plays 144 = .ok (.iadd, 1) := by decide +kernel
theorem dL_plays_145 : decode cL_plays 145 = .ok (.i2c, 1) := by decide +kernel
theorem dL_plays_146 : decode cL_plays 146 = .ok (.invokevirtual 73, 3) := by decide +kernel
theorem dL_plays_149 : decode cL_plays 149 = .ok (.bipush 59, 2) := by decide +kernel
theorem dL_plays_151 : decode cL_plays 151 = .ok (.invokevirtual 73, 3) := by decide +kernel
theorem dL_plays_154 : decode cL_plays 154 = .ok (.pop, 1) := by decide +kernel
theorem dL_plays_155 : decode cL_plays 155 = .ok (.iinc 4 1, 3) := by decide +kernel
theorem dL_plays_158 : decode cL_plays 158 = .ok (.goto (-33), 3) := by decide +kernel
theorem dL_plays_161 : decode cL_plays 161 = .ok (.aload_n 1, 1) := by decide +kernel
theorem dL_plays_162 : decode cL_plays 162 = .ok (.iconst 5, 1) := by decide +kernel
theorem dL_plays_163 : decode cL_plays 163 = .ok (.invokestatic 35, 3) := by decide +kernel
theorem dL_plays_166 : decode cL_plays 166 = .ok (.istore 4, 2) := by decide +kernel
theorem dL_plays_168 : decode cL_plays 168 = .ok (.iload 4, 2) := by decide +kernel
theorem dL_plays_170 : decode cL_plays 170 = .ok (.ifCond .le 183, 3) := by decide +kernel
theorem dL_plays_173 : decode cL_plays 173 = .ok (.aload_n 1, 1) := by decide +kernel
theorem dL_plays_174 : decode cL_plays 174 = .ok (.aload_n 2, 1) := by decide +kernel
theorem dL_plays_175 : decode cL_plays 175 = .ok (.getfield 46, 3) := by decide +kernel
theorem dL_plays_178 : decode cL_plays 178 = .ok (.invokestatic 35, 3) := by decide +kernel
theorem dL_plays_181 : decode cL_plays 181 = .ok (.istore 5, 2) := by decide +kernel
theorem dL_plays_183 : decode cL_plays 183 = .ok (.aload_n 1, 1) := by decide +kernel
theorem dL_plays_184 : decode cL_plays 184 = .ok (.iconst 3, 1) := by decide +kernel
theorem dL_plays_185 : decode cL_plays 185 = .ok (.invokestatic 35, 3) := by decide +kernel
theorem dL_plays_188 : decode cL_plays 188 = .ok (.ifCond .le 7, 3) := by decide +kernel
theorem dL_plays_191 : decode cL_plays 191 = .ok (.iconst 1, 1) := by decide +kernel
theorem dL_plays_192 : decode cL_plays 192 = .ok (.goto 4, 3) := by decide +kernel
theorem dL_plays_195 : decode cL_plays 195 = .ok (.iconst 0, 1) := by decide +kernel
theorem dL_plays_196 : decode cL_plays 196 = .ok (.istore 6, 2) := by decide +kernel
theorem dL_plays_198 : decode cL_plays 198 = .ok (.aload_n 3, 1) := by decide +kernel
theorem dL_plays_199 : decode cL_plays 199 = .ok (.iload 6, 2) := by decide +kernel
theorem dL_plays_201 : decode cL_plays 201 = .ok (.ifCond .eq 8, 3) := by decide +kernel
theorem dL_plays_204 : decode cL_plays 204 = .ok (.ldc 76, 2) := by decide +kernel
theorem dL_plays_206 : decode cL_plays 206 = .ok (.goto 5, 3) := by decide +kernel
theorem dL_plays_209 : decode cL_plays 209 = .ok (.ldc 78, 2) := by decide +kernel
theorem dL_plays_211 : decode cL_plays 211 = .ok (.invokevirtual 54, 3) := by decide +kernel
theorem dL_plays_214 : decode cL_plays 214 = .ok (.bipush 97, 2) := by decide +kernel
theorem dL_plays_216 : decode cL_plays 216 = .ok (.iload 5, 2) := by decide +kernel
theorem dL_plays_218 : decode cL_plays 218 = .ok (.iadd, 1) := by decide +kernel
theorem dL_plays_219 : decode cL_plays 219 = .ok (.i2c, 1) := by decide +kernel
theorem dL_plays_220 : decode cL_plays 220 = .ok (.invokevirtual 73, 3) := by decide +kernel
theorem dL_plays_223 : decode cL_plays 223 = .ok (.pop, 1) := by decide +kernel
theorem dL_plays_224 : decode cL_plays 224 = .ok (.iconst 1, 1) := by decide +kernel
theorem dL_plays_225 : decode cL_plays 225 = .ok (.aload_n 1, 1) := by decide +kernel
theorem dL_plays_226 : decode cL_plays 226 = .ok (.bipush 6, 2) := by decide +kernel
theorem dL_plays_228 : decode cL_plays 228 = .ok (.invokestatic 35, 3) := by decide +kernel
theorem dL_plays_231 : decode cL_plays 231 = .ok (.iadd, 1) := by decide +kernel
theorem dL_plays_232 : decode cL_plays 232 = .ok (.istore 7, 2) := by decide +kernel
theorem dL_plays_234 : decode cL_plays 234 = .ok (.iload 7, 2) := by decide +kernel
theorem dL_plays_236 : decode cL_plays 236 = .ok (.ifCond .le 66, 3) := by decide +kernel
theorem dL_plays_239 : decode cL_plays 239 = .ok (.aload_n 1, 1) := by decide +kernel
theorem dL_plays_240 : decode cL_plays 240 = .ok (.aload_n 2, 1) := by decide +kernel
theorem dL_plays_241 : decode cL_plays 241 = .ok (.getfield 39, 3) := by decide +kernel
theorem dL_plays_244 : decode cL_plays 244 = .ok (.invokestatic 35, 3) := by decide +kernel
theorem dL_plays_247 : decode cL_plays 247 = .ok (.istore 8, 2) := by decide +kernel
theorem dL_plays_249 : decode cL_plays 249 = .ok (.iload 6, 2) := by decide +kernel
theorem dL_plays_251 : decode cL_plays 251 = .ok (.ifCond .eq 19, 3) := by decide +kernel
theorem dL_plays_254 : decode cL_plays 254 = .ok (.aload_n 2, 1) := by decide +kernel
theorem dL_plays_255 : decode cL_plays 255 = .ok (.aload_n 2, 1) := by decide +kernel
theorem dL_plays_256 : decode cL_plays 256 = .ok (.getfield 80, 3) := by decide +kernel
theorem dL_plays_259 : decode cL_plays 259 = .ok (.iload 5, 2) := by decide +kernel
theorem dL_plays_261 : decode cL_plays 261 = .ok (.aaload, 1) := by decide +kernel
theorem dL_plays_262 : decode cL_plays 262 = .ok (.iload 8, 2) := by decide +kernel
theorem dL_plays_264 : decode cL_plays 264 = .ok (.invokevirtual 84, 3) := by decide +kernel
theorem dL_plays_267 : decode cL_plays 267 = .ok (.goto 17, 3) := by decide +kernel
theorem dL_plays_270 : decode cL_plays 270 = .ok (.aload_n 2, 1) := by decide +kernel
theorem dL_plays_271 : decode cL_plays 271 = .ok (.aload_n 2, 1) := by decide +kernel
theorem dL_plays_272 : decode cL_plays 272 = .ok (.getfield 80, 3) := by decide +kernel
theorem dL_plays_275 : decode cL_plays 275 = .ok (.iload 5, 2) := by decide +kernel
theorem dL_plays_277 : decode cL_plays 277 = .ok (.aaload, 1) := by decide +kernel
theorem dL_plays_278 : decode cL_plays 278 = .ok (.iload 8, 2) := by decide +kernel
theorem dL_plays_280 : decode cL_plays 280 = .ok (.invokevirtual 88, 3) := by decide +kernel
theorem dL_plays_283 : decode cL_plays 283 = .ok (.pop, 1) := by decide +kernel
theorem dL_plays_284 : decode cL_plays 284 = .ok (.aload_n 3, 1) := by decide +kernel
theorem dL_plays_285 : decode cL_plays 285 = .ok (.bipush 32, 2) := by decide +kernel
theorem dL_plays_287 : decode cL_plays 287 = .ok (.invokevirtual 73, 3) := by decide +kernel
theorem dL_plays_290 : decode cL_plays 290 = .ok (.iload 8, 2) := by decide +kernel
theorem dL_plays_292 : decode cL_plays 292 = .ok (.invokevirtual 57, 3) := by decide +kernel
theorem dL_plays_295 : decode cL_plays 295 = .ok (.pop, 1) := by decide +kernel
theorem dL_plays_296 : decode cL_plays 296 = .ok (.iinc 7 (-1), 3) := by decide +kernel
theorem dL_plays_299 : decode cL_plays 299 = .ok (.goto (-65), 3) := by decide +kernel
theorem dL_plays_302 : decode cL_plays 302 = .ok (.aload_n 3, 1) := by decide +kernel
theorem dL_plays_303 : decode cL_plays 303 = .ok (.bipush 59, 2) := by decide +kernel
theorem dL_plays_305 : decode cL_plays 305 = .ok (.invokevirtual 73, 3) := by decide +kernel
theorem dL_plays_308 : decode cL_plays 308 = .ok (.pop, 1) := by decide +kernel
theorem dL_plays_309 : decode cL_plays 309 = .ok (.aload_n 1, 1) := by decide +kernel
theorem dL_plays_310 : decode cL_plays 310 = .ok (.iconst 3, 1) := by decide +kernel
theorem dL_plays_311 : decode cL_plays 311 = .ok (.invokestatic 35, 3) := by decide +kernel
theorem dL_plays_314 : decode cL_plays 314 = .ok (.ifCond .le 6, 3) := by decide +kernel
theorem dL_plays_317 : decode cL_plays 317 = .ok (.goto 30, 3) := by decide +kernel
theorem dL_plays_320 : decode cL_plays 320 = .ok (.aload_n 2, 1) := by decide +kernel
theorem dL_plays_321 : decode cL_plays 321 = .ok (.getfield 92, 3) := by decide +kernel
theorem dL_plays_324 : decode cL_plays 324 = .ok (.aload_n 2, 1) := by decide +kernel
theorem dL_plays_325 : decode cL_plays 325 = .ok (.dup, 1) := by decide +kernel
theorem dL_plays_326 : decode cL_plays 326 = .ok (.getfield 96, 3) := by decide +kernel
theorem dL_plays_329 : decode cL_plays 329 = .ok (.dup_x1, 1) := by decide +kernel
theorem dL_plays_330 : decode cL_plays 330 = .ok (.iconst 1, 1) := by decide +kernel
theorem dL_plays_331 : decode cL_plays 331 = .ok (.iadd, 1) := by decide +kernel
theorem dL_plays_332 : decode cL_plays 332 = .ok (.putfield 96, 3) := by decide +kernel
theorem dL_plays_335 : decode cL_plays 335 = .ok (.aload_n 2, 1) := by decide +kernel
theorem dL_plays_336 : decode cL_plays 336 = .ok (.getfield 99, 3) := by decide +kernel
theorem dL_plays_339 : decode cL_plays 339 = .ok (.iastore, 1) := by decide +kernel
theorem dL_plays_340 : decode cL_plays 340 = .ok (.aload_n 3, 1) := by decide +kernel
theorem dL_plays_341 : decode cL_plays 341 = .ok (.ldc 102, 2) := by decide +kernel
theorem dL_plays_343 : decode cL_plays 343 = .ok (.invokevirtual 54, 3) := by decide +kernel
theorem dL_plays_346 : decode cL_plays 346 = .ok (.pop, 1) := by decide +kernel
theorem dL_plays_347 : decode cL_plays 347 = .ok (.iinc 4 (-1), 3) := by decide +kernel
theorem dL_plays_350 : decode cL_plays 350 = .ok (.goto (-182), 3) := by decide +kernel
theorem dL_plays_353 : decode cL_plays 353 = .ok (.aload_n 0, 1) := by decide +kernel
theorem dL_plays_354 : decode cL_plays 354 = .ok (.aload_n 3, 1) := by decide +kernel
theorem dL_plays_355 : decode cL_plays 355 = .ok (.invokevirtual 64, 3) := by decide +kernel
theorem dL_plays_358 : decode cL_plays 358 = .ok (.invokestatic 104, 3) := by decide +kernel
theorem dL_plays_361 : decode cL_plays 361 = .ok (.ifCond .eq 14, 3) := by decide +kernel
theorem dL_plays_364 : decode cL_plays 364 = .ok (.aload_n 0, 1) := by decide +kernel
theorem dL_plays_365 : decode cL_plays 365 = .ok (.aload_n 3, 1) := by decide +kernel
theorem dL_plays_366 : decode cL_plays 366 = .ok (.invokevirtual 108, 3) := by decide +kernel
theorem dL_plays_369 : decode cL_plays 369 = .ok (.invokevirtual 109, 3) := by decide +kernel
theorem dL_plays_372 : decode cL_plays 372 = .ok (.ifCond .eq 5, 3) := by decide +kernel
theorem dL_plays_375 : decode cL_plays 375 = .ok (.iconst 0, 1) := by decide +kernel
theorem dL_plays_376 : decode cL_plays 376 = .ok (.ireturn, 1) := by decide +kernel
theorem dL_plays_377 : decode cL_plays 377 = .ok (.iconst 0, 1) := by decide +kernel
theorem dL_plays_378 : decode cL_plays 378 = .ok (.istore 4, 2) := by decide +kernel
theorem dL_plays_380 : decode cL_plays 380 = .ok (.iload 4, 2) := by decide +kernel
theorem dL_plays_382 : decode cL_plays 382 = .ok (.bipush 26, 2) := by decide +kernel
theorem dL_plays_384 : decode cL_plays 384 = .ok (.if_icmp .ge 37, 3) := by decide +kernel
theorem dL_plays_387 : decode cL_plays 387 = .ok (.aload_n 0, 1) := by decide +kernel
theorem dL_plays_388 : decode cL_plays 388 = .ok (.aload_n 2, 1) := by decide +kernel
theorem dL_plays_389 : decode cL_plays 389 = .ok (.aload_n 1, 1) := by decide +kernel
theorem dL_plays_390 : decode cL_plays 390 = .ok (.invokestatic 113, 3) := by decide +kernel
theorem dL_plays_393 : decode cL_plays 393 = .ok (.ifCond .eq 20, 3) := by decide +kernel
theorem dL_plays_396 : decode cL_plays 396 = .ok (.aload_n 0, 1) := by decide +kernel
theorem dL_plays_397 : decode cL_plays 397 = .ok (.aload_n 2, 1) := by decide +kernel
theorem dL_plays_398 : decode cL_plays 398 = .ok (.invokestatic 117, 3) := by decide +kernel
theorem dL_plays_401 : decode cL_plays 401 = .ok (.ifCond .eq 12, 3) := by decide +kernel
theorem dL_plays_404 : decode cL_plays 404 = .ok (.aload_n 0, 1) := by decide +kernel
theorem dL_plays_405 : decode cL_plays 405 = .ok (.aload_n 2, 1) := by decide +kernel
theorem dL_plays_406 : decode cL_plays 406 = .ok (.aload_n 1, 1) := by decide +kernel
theorem dL_plays_407 : decode cL_plays 407 = .ok (.invokestatic 121, 3) := by decide +kernel
theorem dL_plays_410 : decode cL_plays 410 = .ok (.ifCond .ne 5, 3) := by decide +kernel
theorem dL_plays_413 : decode cL_plays 413 = .ok (.iconst 0, 1) := by decide +kernel
theorem dL_plays_414 : decode cL_plays 414 = .ok (.ireturn, 1) := by decide +kernel
theorem dL_plays_415 : decode cL_plays 415 = .ok (.iinc 4 1, 3) := by decide +kernel
theorem dL_plays_418 : decode cL_plays 418 = .ok (.goto (-38), 3) := by decide +kernel
theorem dL_plays_421 : decode cL_plays 421 = .ok (.iconst 1, 1) := by decide +kernel
theorem dL_plays_422 : decode cL_plays 422 = .ok (.ireturn, 1) := by decide +kernel
end
section
/-! THE MEMORY that the transcriptions speak of: an address holds (tag, length, contents); tag 0: nothing known; a class of vCl at its place + 1; arrays from 101 on. Behind it: the next address, the slots made since the law began, the law's first own address. -/
abbrev vOb : Type := Nat × Nat × (Nat → Value)
abbrev vMe : Type := (Nat → vOb) × Nat × Nat × Nat
abbrev vD : Type := (Nat → ClassId) × (Nat → Nat → Nat) × (Nat → ClassId) × Nat × (Nat → Nat)
abbrev vCl : List vw_C := [(RJ0, TJ0, 2), (RJ4, TJ4, 4), (RX0, TX0, 8), (RX1, TX1, 2), (RX2, TX2, 6), (RX3, TX3, 9), (RX4, TX4, 2), (RX5, TX5, 9), (RX7, TX7, 7), (RX8, TX8, 3), (RX9, TX9, 6), (RX10, TX10, 10), (RX11, TX11, 8), (RX12, TX12, 9)]
def vTy (ci k : Nat) : FieldType := match ci with
  | 0 => tyJ0 k
  | 1 => tyJ4 k
  | 2 => tyX0 k
  | 3 => tyX1 k
  | 4 => tyX2 k
  | 5 => tyX3 k
  | 6 => tyX4 k
  | 7 => tyX5 k
  | 8 => tyX7 k
  | 9 => tyX8 k
  | 10 => tyX9 k
  | 11 => tyX10 k
  | 12 => tyX11 k
  | _ => tyX12 k
def vAty (t : Nat) : FieldType := match t with
  | 101 => .int
  | 102 => .byte
  | 103 => .boolean
  | 104 => .long
  | 105 => .double
  | 106 => .object RX5
  | 107 => .object RX7
  | 108 => .object RX0
  | 109 => .object RX10
  | _ => .object RX11
def vI (v : Value) : Int32 := match v with
  | .int x => x
  | _ => 0
def vJ (v : Value) : Int64 := match v with
  | .long x => x
  | _ => 0
def vB (v : Value) : UInt64 := match v with
  | .double x => x
  | _ => 0
def vR (v : Value) : Option Nat := match v with
  | .ref a => some a
  | _ => none
theorem vI_of {v : Value} {ty : FieldType} (h : fits ty v = true) (ht : ty = .int ∨ ty = .boolean ∨ ty = .byte) : v = .int (vI v) := by
  rcases ht with rfl | rfl | rfl <;> cases v <;> first | rfl | (simp [fits] at h)
theorem vJ_of {v : Value} {ty : FieldType} (h : fits ty v = true) (ht : ty = .long) : v = .long (vJ v) := by
  subst ht; cases v <;> first | rfl | (simp [fits] at h)
theorem vB_of {v : Value} {ty : FieldType} (h : fits ty v = true) (ht : ty = .double) : v = .double (vB v) := by
  subst ht; cases v <;> first | rfl | (simp [fits] at h)
theorem vR_of {v : Value} {ty : FieldType} (h : fits ty v = true) (ht : ty.isReference = true) : v = va_rf (vR v) := by
  cases ty <;> simp [FieldType.isReference] at ht <;> cases v <;> first | rfl | (simp [fits] at h)
/-- an array's cell -/
def vArr (cA : ClassId) (len : Nat) (f : Nat → Value) (cell : Cell) : Prop := cell.cls = cA ∧ (∀ z, cell.vm ≠ .statics z) ∧ cell.vm ≠ .unknown ∧ cell.slots.size = len ∧ ∀ j, j < len → cell.slots[j]? = some (f j)
theorem vArr_new (cA : ClassId) (len : Nat) (f : Nat → Value) : vArr cA len f (arrV cA len f) := ⟨rfl, (fun z h => by cases h), (fun h => by cases h), arrV_size _ _ _, fun _ h => arrV_read _ _ h⟩
theorem vArr.set {cA : ClassId} {len j : Nat} {f : Nat → Value} {cell : Cell} (v : Value) (h : vArr cA len f cell) (hj : j < len) : vArr cA len (updV f j v) (cell.setSlot j v) := by
  obtain ⟨h1, h2, h3, h4, h5⟩ := h
  refine ⟨h1, h2, h3, by simp [Cell.setSlot, h4], fun i hi => ?_⟩
  by_cases hij : i = j
  · subst hij
    rw [Cell.slots_setSlot_self _ (by omega)]
    simp [updV]
  · rw [slot_ne _ _ (Ne.symm hij), h5 i hi]
    simp [updV, hij]
/-- what the machine keeps of an object beside its fields: nothing, in a cell of the law's own; of an older one only that it's an object whose fields are known -/
def v_vm (D : vD) (q : Nat) (vm : VmData) : Prop := vm.isStatics = false ∧ vm ≠ .unknown ∧ (D.2.2.2.1 ≤ q → vm = .none)
def v_OB (D : vD) (q : Nat) (cC : ClassId) (N : Nat) (iS : Nat → Nat) (H : Heap) (V : Nat → Value) : Prop :=
  ∃ cell : Cell, H[q]? = some cell ∧ cell.cls = cC ∧ v_vm D q cell.vm ∧ ∀ k, k < N → cell.slots[iS k]? = some (V k)
theorem v_OB.kept {D : vD} {q : Nat} {cC : ClassId} {N : Nat} {iS : Nat → Nat} {H H1 : Heap} {V : Nat → Value} (h : v_OB D q cC N iS H V) (h1 : H1[q]? = H[q]?) : v_OB D q cC N iS H1 V := by
  obtain ⟨cell, q, r⟩ := h
  exact ⟨cell, by rw [h1]; exact q, r⟩
theorem v_OB.of {D : vD} {q : Nat} {cC : ClassId} {N : Nat} {iS : Nat → Nat} {H : Heap} {V : Nat → Value} (h : t_OB q cC N iS H V) : v_OB D q cC N iS H V := by
  obtain ⟨cell, q1, q2, q3, q4⟩ := h
  exact ⟨cell, q1, q2, ⟨by rw [q3]; rfl, by rw [q3]; exact (fun h => by cases h), fun _ => q3⟩, q4⟩
def vAt (D : vD) (q : Nat) (o : vOb) (H : Heap) : Prop :=
  (0 < o.1 → o.1 < 100 → ∃ r, vCl[o.1 - 1]? = some r ∧ v_OB D q (D.1 (o.1 - 1)) r.2.2 (D.2.1 (o.1 - 1)) H o.2.2 ∧ ∀ k, k < r.2.2 → fits (vTy (o.1 - 1) k) (o.2.2 k) = true) ∧
  (100 < o.1 → (∃ cell, H[q]? = some cell ∧ vArr (D.2.2.1 o.1) o.2.1 o.2.2 cell) ∧ o.2.1 < 2 ^ 31 ∧ o.1 < 111 ∧ ∀ j, j < o.2.1 → fits (vAty o.1) (o.2.2 j) = true)
def vSum (k : Nat) (H : Heap) : Nat := ((H.toList.drop k).map (fun c => c.slots.size)).sum
def vRp (D : vD) (M : vMe) (H : Heap) : Prop := (∀ q, vAt D q (M.1 q) H) ∧ H.size = M.2.1 ∧ vSum D.2.2.2.1 H = M.2.2.1 ∧ M.2.2.2 = D.2.2.2.1 ∧ D.2.2.2.1 ≤ H.size ∧ ∀ q, M.2.1 ≤ q → (M.1 q).1 = 0
def vA (D : vD) : Nat → Prop := fun q => D.2.2.2.1 ≤ q
def vK (D : vD) (U : State) : Prop := (∀ (c : Nat) (q : vw_C), vCl[c]? = some q → u_Kn U q.1 q.2.1 q.2.2 (D.1 c) (D.2.1 c)) ∧ ∀ t, 100 < t → t < 111 → ArrOfT U (D.2.2.1 t) (vAty t) ∧ va_RA U (D.2.2.1 t) (vAty t)
theorem vK.moved {D : vD} {u U : State} (hvm : u.vm.Alike U.vm) (h : vK D u) : vK D U :=
  ⟨fun c q hq => u_Kn_moved hvm (h.1 c q hq), fun t h1 h2 => ⟨arrOfT_moved hvm (h.2 t h1 h2).1, (h.2 t h1 h2).2.moved hvm⟩⟩
section VB
variable {p : Program} {l : Launch} {e : Env} {R : Room} {s : State} {m : MethodId} {args : Array Value} {below : List Frame} {meth : Method} {c : Code} {H : Heap} {locs : List Loc} {cells slots n k : Nat} {Q : State → Prop}
variable {D : vD} {M : vMe} {cc : ByteArray} {pc : Nat} {ls : Array Slot} {rest : List Value}
/-- from any heap that holds the memory M the machine, at frame g, comes to Q -/
def vV (D : vD) (p : Program) (l : Launch) (e : Env) (R : Room) (s : State) (m : MethodId) (args : Array Value) (below : List Frame) (meth : Method) (c : Code) (n k : Nat) (Q : State → Prop) (M : vMe) (g : JFrame) : Prop :=
  ∀ (H : Heap) (locs : List Loc), vRp D M H → va_S (vA D) s.heap H locs → W p l e R s m args below meth c H locs n k Q g
/-- rows that leave the memory alone -/
theorem vV.lift {g g2 : JFrame} (h : ∀ H locs, W p l e R s m args below meth c H locs n k Q g2 → W p l e R s m args below meth c H locs n k Q g) (kk : vV D p l e R s m args below meth c n k Q M g2) : vV D p l e R s m args below meth c n k Q M g :=
  fun H locs hR hS => h H locs (kk H locs hR hS)
theorem vV.widen {g : JFrame} {n' k' : Nat} (h1 : n ≤ n') (h2 : k ≤ k') (kk : vV D p l e R s m args below meth c n' k' Q M g) : vV D p l e R s m args below meth c n k Q M g :=
  fun H locs hR hS => W.widen h1 h2 (kk H locs hR hS)
/-! getfield -/
def gI (M : vMe) (a tg k : Nat) : Option Int32 := if (M.1 a).1 = tg then some (vI ((M.1 a).2.2 k)) else none
def gJ (M : vMe) (a tg k : Nat) : Option Int64 := if (M.1 a).1 = tg then some (vJ ((M.1 a).2.2 k)) else none
def gR (M : vMe) (a tg k : Nat) : Option (Option Nat) := if (M.1 a).1 = tg then some (vR ((M.1 a).2.2 k)) else none
theorem v_tag {α : Type} {c : Prop} {x v : α} [Decidable c] (h : (if c then some x else none) = some v) : c ∧ x = v := by
  split at h
  · exact ⟨by assumption, Option.some.inj h⟩
  · cases h
theorem v_getf {own ref C : String} {T : u_T} {N ci index a : Nat} {Ts : List Cond} {v : Value} (hx : p.tables.exec = Jvm.exec) (hb : c.code = cc) (hts : ∀ w ∈ Ts, w.before args s = true) (hin : ∀ w ∈ u_ws C T N, w ∈ Ts) (hown : s.vm.findClass own = some m.cls) (hK : vK D s)
    (htg : (M.1 a).1 = ci + 1) (hci : ci < 99) (hc : vCl[ci]? = some (C, T, N)) (j : Nat) (hj : j < N) (hlink : (Cond.fieldLink own index ref (T j).2.1 (T j).2.2.1).before args s = true ∨ ∃ host, (Cond.fieldLinkNest own index ref (T j).2.1 (T j).2.2.1 host).before args s = true) (hsame : ∀ x, s.fieldFound? (T j).1 (T j).2.1 (T j).2.2.1 = some x → s.fieldFound? ref (T j).2.1 (T j).2.2.1 = some x)
    (hv : fits (vTy ci j) ((M.1 a).2.2 j) = true → (M.1 a).2.2 j = v) (hdg : decode cc pc = .ok (.getfield index, 3))
    (kk : vV D p l e R s m args below meth c n k Q M (F0 m (pc + 3) ls (v :: rest))) : vV D p l e R s m args below meth c n k Q M (F0 m pc ls (.ref a :: rest)) := by
  intro H locs hR hS
  obtain ⟨r, h1, ⟨cell, q1, q2, q3, q4⟩, h3⟩ := (hR.1 a).1 (by omega) (by omega)
  rw [htg] at h1 q2 q4 h3
  rw [Nat.add_sub_cancel] at h1 q2 q4 h3
  have hr : r = (C, T, N) := Option.some.inj (h1.symm.trans hc)
  subst hr
  obtain ⟨hSl, hfc, kC, hkC, hkind⟩ := hK.1 ci _ hc
  obtain ⟨cf, kf, fi, f, hi, hsl⟩ := hSl j hj
  have hval : cell.slots[f.slot]? = some v := by rw [hsl, q4 j hj, hv (h3 j hj)]
  rcases hlink with hlink | ⟨host, hlink⟩
  · exact W.getf hx hb hown hlink (hsame _ hi) (u_facts hfc hkC (u_lays hts hin hj) hi).1 q1 q3.2.1 hval rfl rfl hdg (kk H locs hR hS)
  · exact va_Wgetf hx hb hown hlink (hsame _ hi) (u_facts hfc hkC (u_lays hts hin hj) hi).1 q1 q3.2.1 hval rfl rfl hdg (kk H locs hR hS)
theorem v_gI {own ref C : String} {T : u_T} {N ci index a : Nat} {Ts : List Cond} {v : Int32} {tg : Nat} (hx : p.tables.exec = Jvm.exec) (hb : c.code = cc) (hts : ∀ w ∈ Ts, w.before args s = true) (hin : ∀ w ∈ u_ws C T N, w ∈ Ts) (hown : s.vm.findClass own = some m.cls) (hK : vK D s) (j : Nat)
    (hv : gI M a tg j = some v) (hc : vCl[ci]? = some (C, T, N)) (hq : tg = ci + 1 ∧ ci < 99 ∧ j < N ∧ (vTy ci j = .int ∨ vTy ci j = .boolean ∨ vTy ci j = .byte)) (hlink : (Cond.fieldLink own index ref (T j).2.1 (T j).2.2.1).before args s = true ∨ ∃ host, (Cond.fieldLinkNest own index ref (T j).2.1 (T j).2.2.1 host).before args s = true) (hsame : ∀ x, s.fieldFound? (T j).1 (T j).2.1 (T j).2.2.1 = some x → s.fieldFound? ref (T j).2.1 (T j).2.2.1 = some x)
    (hdg : decode cc pc = .ok (.getfield index, 3))
    (kk : vV D p l e R s m args below meth c n k Q M (F0 m (pc + 3) ls (.int v :: rest))) : vV D p l e R s m args below meth c n k Q M (F0 m pc ls (.ref a :: rest)) := by
  obtain ⟨h1, h2⟩ := v_tag hv
  exact v_getf hx hb hts hin hown hK (h1.trans hq.1) hq.2.1 hc j hq.2.2.1 hlink hsame (fun h => by rw [← h2]; exact vI_of h hq.2.2.2) hdg kk
theorem v_gJ {own ref C : String} {T : u_T} {N ci index a : Nat} {Ts : List Cond} {v : Int64} {tg : Nat} (hx : p.tables.exec = Jvm.exec) (hb : c.code = cc) (hts : ∀ w ∈ Ts, w.before args s = true) (hin : ∀ w ∈ u_ws C T N, w ∈ Ts) (hown : s.vm.findClass own = some m.cls) (hK : vK D s) (j : Nat)
    (hv : gJ M a tg j = some v) (hc : vCl[ci]? = some (C, T, N)) (hq : tg = ci + 1 ∧ ci < 99 ∧ j < N ∧ vTy ci j = .long) (hlink : (Cond.fieldLink own index ref (T j).2.1 (T j).2.2.1).before args s = true ∨ ∃ host, (Cond.fieldLinkNest own index ref (T j).2.1 (T j).2.2.1 host).before args s = true) (hsame : ∀ x, s.fieldFound? (T j).1 (T j).2.1 (T j).2.2.1 = some x → s.fieldFound? ref (T j).2.1 (T j).2.2.1 = some x)
    (hdg : decode cc pc = .ok (.getfield index, 3))
    (kk : vV D p l e R s m args below meth c n k Q M (F0 m (pc + 3) ls (.long v :: rest))) : vV D p l e R s m args below meth c n k Q M (F0 m pc ls (.ref a :: rest)) := by
  obtain ⟨h1, h2⟩ := v_tag hv
  exact v_getf hx hb hts hin hown hK (h1.trans hq.1) hq.2.1 hc j hq.2.2.1 hlink hsame (fun h => by rw [← h2]; exact vJ_of h hq.2.2.2) hdg kk
theorem v_gR {own ref C : String} {T : u_T} {N ci index a : Nat} {Ts : List Cond} {v : Option Nat} {tg : Nat} (hx : p.tables.exec = Jvm.exec) (hb : c.code = cc) (hts : ∀ w ∈ Ts, w.before args s = true) (hin : ∀ w ∈ u_ws C T N, w ∈ Ts) (hown : s.vm.findClass own = some m.cls) (hK : vK D s) (j : Nat)
    (hv : gR M a tg j = some v) (hc : vCl[ci]? = some (C, T, N)) (hq : tg = ci + 1 ∧ ci < 99 ∧ j < N ∧ (vTy ci j).isReference = true) (hlink : (Cond.fieldLink own index ref (T j).2.1 (T j).2.2.1).before args s = true ∨ ∃ host, (Cond.fieldLinkNest own index ref (T j).2.1 (T j).2.2.1 host).before args s = true) (hsame : ∀ x, s.fieldFound? (T j).1 (T j).2.1 (T j).2.2.1 = some x → s.fieldFound? ref (T j).2.1 (T j).2.2.1 = some x)
    (hdg : decode cc pc = .ok (.getfield index, 3))
    (kk : vV D p l e R s m args below meth c n k Q M (F0 m (pc + 3) ls (va_rf v :: rest))) : vV D p l e R s m args below meth c n k Q M (F0 m pc ls (.ref a :: rest)) := by
  obtain ⟨h1, h2⟩ := v_tag hv
  exact v_getf hx hb hts hin hown hK (h1.trans hq.1) hq.2.1 hc j hq.2.2.1 hlink hsame (fun h => by rw [← h2]; exact vR_of h hq.2.2.2) hdg kk
/-! what a write does to the memory -/
def pt (M : vMe) (a : Nat) (o : vOb) : vMe := (fun q => if q = a then o else M.1 q, M.2)
def wr (M : vMe) (a k : Nat) (v : Value) : vMe := pt M a ((M.1 a).1, (M.1 a).2.1, updV (M.1 a).2.2 k v)
def sV (M : vMe) (a tg k : Nat) (v : Value) : Option vMe := if (M.1 a).1 = tg ∧ M.2.2.2 ≤ a then some (wr M a k v) else none
theorem vSum_put {b a : Nat} {H H1 : Heap} {cell c1 : Cell} (hc : H[a]? = some cell) (h1 : H1[a]? = some c1) (hsz : c1.slots.size = cell.slots.size) (hz : H1.size = H.size) (ho : ∀ q, q ≠ a → H1[q]? = H[q]?) : vSum b H1 = vSum b H := by
  have e : H1.toList.map (fun c => c.slots.size) = H.toList.map (fun c => c.slots.size) := by
    apply List.ext_getElem?
    intro i
    rw [List.getElem?_map, List.getElem?_map, Array.getElem?_toList, Array.getElem?_toList]
    by_cases hi : i = a
    · subst hi
      rw [h1, hc]
      simp [hsz]
    · rw [ho i hi]
  unfold vSum
  rw [List.map_drop, List.map_drop, e]
theorem vAt.kept {q : Nat} {o : vOb} {H H1 : Heap} (h : vAt D q o H) (hq : H1[q]? = H[q]?) : vAt D q o H1 := by
  refine ⟨fun h1 h2 => ?_, fun h1 => ?_⟩
  · obtain ⟨r, g1, g2, g3⟩ := h.1 h1 h2
    exact ⟨r, g1, g2.kept hq, g3⟩
  · obtain ⟨g1, g2⟩ := h.2 h1
    exact ⟨by rw [hq]; exact g1, g2⟩
theorem vRp.put {a : Nat} {o : vOb} {H H1 : Heap} {cell c1 : Cell} (hR : vRp D M H) (hc : H[a]? = some cell) (h1 : H1[a]? = some c1) (hsz : c1.slots.size = cell.slots.size) (hz : H1.size = H.size) (ho : ∀ q, q ≠ a → H1[q]? = H[q]?) (ho1 : o.1 = (M.1 a).1) (hat : vAt D a o H1) : vRp D (pt M a o) H1 := by
  obtain ⟨r1, r2, r3, r4, r5, r6⟩ := hR
  refine ⟨fun q => ?_, hz.trans r2, (vSum_put hc h1 hsz hz ho).trans r3, r4, by rw [hz]; exact r5, fun q hq => ?_⟩
  · by_cases hqa : q = a
    · subst hqa
      show vAt D q (if q = q then _ else _) H1
      rw [if_pos rfl]
      exact hat
    · show vAt D q (if q = a then _ else _) H1
      rw [if_neg hqa]
      exact (r1 q).kept (ho q hqa)
  · show (if q = a then _ else M.1 q : vOb).1 = 0
    split
    · next hqa => subst hqa; exact ho1.trans (r6 q hq)
    · exact r6 q hq
/-! putfield; a final field in a constructor -/
theorem v_putf {own ref C : String} {T : u_T} {N ci index a : Nat} {Ts : List Cond} {v : Value} {tg : Nat} {M1 : vMe} (hx : p.tables.exec = Jvm.exec) (hb : c.code = cc) (hts : ∀ w ∈ Ts, w.before args s = true) (hin : ∀ w ∈ u_ws C T N, w ∈ Ts) (hown : s.vm.findClass own = some m.cls) (hK : vK D s)
    (hty : ∀ i, i < N → parseFieldDescriptor (T i).2.2.1 = some (vTy ci i)) (hnm : ∀ a, a < N → ∀ b, b < N → a ≠ b → (T a).2.1 ≠ (T b).2.1) (j : Nat)
    (hv : sV M a tg j v = some M1) (hc : vCl[ci]? = some (C, T, N)) (hq : tg = ci + 1 ∧ ci < 99 ∧ j < N) (hlink : (Cond.fieldLink own index ref (T j).2.1 (T j).2.2.1).before args s = true ∨ ∃ host, (Cond.fieldLinkNest own index ref (T j).2.1 (T j).2.2.1 host).before args s = true) (hsame : ∀ x, s.fieldFound? (T j).1 (T j).2.1 (T j).2.2.1 = some x → s.fieldFound? ref (T j).2.1 (T j).2.2.1 = some x)
    (hfin : (T j).2.2.2 = false ∨ ((T j).2.2.2 = true ∧ meth.name = "<init>" ∧ (T j).1 = own ∧ (Cond.fieldLink own index ref (T j).2.1 (T j).2.2.1).before args s = true)) (hn : narrow (vTy ci j) v = v) (hfit : fits (vTy ci j) v = true)
    (hdg : decode cc pc = .ok (.putfield index, 3))
    (kk : vV D p l e R s m args below meth c n k Q M1 (F0 m (pc + 3) ls rest)) : vV D p l e R s m args below meth c n k Q M (F0 m pc ls (v :: .ref a :: rest)) := by
  obtain ⟨⟨htg, hab⟩, hM1⟩ := v_tag hv
  subst hM1
  intro H locs hR hS
  have hat := (hR.1 a).1 (by omega) (by omega)
  obtain ⟨r, h1, hob, h3⟩ := hat
  obtain ⟨cell, q1, q2, q3, q4⟩ := id hob
  have q5 : cell.vm = .none := q3.2.2 (by rw [← hR.2.2.2.1]; exact hab)
  rw [htg, hq.1] at h1 q2 q4 h3
  rw [Nat.add_sub_cancel] at h1 q2 q4 h3
  have hr : r = (C, T, N) := Option.some.inj (h1.symm.trans hc)
  subst hr
  obtain ⟨hSl, hfc, kC, hkC, hkind⟩ := hK.1 ci _ hc
  obtain ⟨cf, kf, fi, f, hi, hsl⟩ := hSl j hq.2.2
  have hap : ∀ x y, x < N → y < N → x ≠ y → (D.2.1 ci) x ≠ (D.2.1 ci) y := by
    intro x y hx1 hy1 hne
    obtain ⟨_, _, _, fa, hia, ea⟩ := hSl x hx1
    obtain ⟨_, _, _, fb, hib, eb⟩ := hSl y hy1
    rw [← ea, ← eb]
    refine u_apart (u_lays hts hin hx1) (u_lays hts hin hy1) hia hib ?_
    rw [(State.fieldFound?_type hia (hty x hx1)).1, (State.fieldFound?_type hib (hty y hy1)).1]
    exact hnm x hx1 y hy1 hne
  have hlay := hts _ (hin _ (u_in_lay hq.2.2))
  have hst := (u_facts hfc hkC (u_lays hts hin hq.2.2) hi).1
  have fin : ∀ (H' : Heap), H'[a]? = some (cell.setSlot f.slot v) → H'.size = H.size → (∀ q, q ≠ a → H'[q]? = H[q]?) → W p l e R s m args below meth c H' (locs ++ [⟨a, f.slot⟩]) n k Q (F0 m (pc + 3) ls rest) := by
    intro H' e1 e2 e3
    refine kk H' _ (hR.put q1 e1 (by simp [Cell.setSlot]) e2 e3 rfl ⟨fun _ _ => ?_, fun h => ?_⟩) (hS.put e2 e3 (by show D.2.2.2.1 ≤ a; rw [← hR.2.2.2.1]; exact hab))
    · refine ⟨(C, T, N), ?_, ⟨cell.setSlot f.slot v, e1, ?_, q3, ?_⟩, ?_⟩
      · show vCl[(M.1 a).1 - 1]? = _
        rw [htg, hq.1]; exact hc
      · show _ = D.1 ((M.1 a).1 - 1)
        rw [htg, hq.1]; exact q2
      · intro i hi2
        show _ = some (updV (M.1 a).2.2 j v i)
        rw [htg, hq.1, hsl]
        exact t_set q4 hap hq.2.2 v i hi2
      · intro i hi2
        show fits (vTy ((M.1 a).1 - 1) i) (updV (M.1 a).2.2 j v i) = true
        rw [htg, hq.1, Nat.add_sub_cancel]
        by_cases hij : i = j
        · subst hij; simp only [updV, if_pos]; exact hfit
        · simp only [updV, if_neg hij]; exact h3 i hi2
    · have h' : 100 < (M.1 a).1 := h
      omega
  rcases hfin with hfin | ⟨hfin, hini, hdecl, hlink⟩
  · unfold u_lay at hlay
    rw [if_neg (by rw [hfin]; decide)] at hlay
    have h6 := u_store hfc hkC hkind hlay hi (hty j hq.2.2) hn hfit
    rcases hlink with hlink | ⟨host, hlink⟩
    · exact W.putK hx hb (f := f) ⟨hown, hlink, ⟨_, _, _, hsame _ hi⟩, hst⟩ (by rw [q2]; exact h6) q1 q5 (by rw [hsl]; exact k2_hasslot (q4 j hq.2.2)) rfl rfl hdg fin
    · exact va_WputK hx hb (f := f) hown hlink (hsame _ hi) hst (by rw [q2]; exact h6) q1 q5 (by rw [hsl]; exact k2_hasslot (q4 j hq.2.2)) rfl rfl hdg fin
  · unfold u_lay at hlay
    rw [if_pos hfin] at hlay
    have hcf : m.cls = cf := by
      obtain ⟨_, _, c', _, _, _, -, -, hf', -, -, -, hown2, -⟩ := Cond.laysFinal_spec hlay
      have e1 : c' = cf := by have := hi.symm.trans hf'; simp at this; exact this.1.symm
      rw [hdecl] at hown2
      rw [← e1]; exact Option.some.inj (hown.symm.trans hown2)
    exact W.putFinK hx hb hown hlink (hsame _ hi) hst hcf hini (by rw [q2]; exact u_fits hfc hkC hkind (Or.inr hlay) hi (hty j hq.2.2) hn hfit) q1 q5 (by rw [hsl]; exact k2_hasslot (q4 j hq.2.2)) rfl rfl hdg fin
/-! arrays -/
def aI (M : vMe) (a tg : Nat) (i : Int32) : Option Int32 := if (M.1 a).1 = tg ∧ ¬ (i < 0 ∨ (M.1 a).2.1 ≤ i.toNatClampNeg) then some (vI ((M.1 a).2.2 i.toNatClampNeg)) else none
def aJ (M : vMe) (a tg : Nat) (i : Int32) : Option Int64 := if (M.1 a).1 = tg ∧ ¬ (i < 0 ∨ (M.1 a).2.1 ≤ i.toNatClampNeg) then some (vJ ((M.1 a).2.2 i.toNatClampNeg)) else none
def aB (M : vMe) (a tg : Nat) (i : Int32) : Option UInt64 := if (M.1 a).1 = tg ∧ ¬ (i < 0 ∨ (M.1 a).2.1 ≤ i.toNatClampNeg) then some (vB ((M.1 a).2.2 i.toNatClampNeg)) else none
def aR (M : vMe) (a tg : Nat) (i : Int32) : Option (Option Nat) := if (M.1 a).1 = tg ∧ ¬ (i < 0 ∨ (M.1 a).2.1 ≤ i.toNatClampNeg) then some (vR ((M.1 a).2.2 i.toNatClampNeg)) else none
def aN (M : vMe) (a tg : Nat) : Option Int32 := if (M.1 a).1 = tg then some (Int32.ofNat (M.1 a).2.1) else none
def sA (M : vMe) (a tg : Nat) (i : Int32) (v : Value) : Option vMe := if (M.1 a).1 = tg ∧ ¬ (i < 0 ∨ (M.1 a).2.1 ≤ i.toNatClampNeg) ∧ M.2.2.2 ≤ a then some (wr M a i.toNatClampNeg v) else none
def sQ (M : vMe) (a tg : Nat) (i : Int32) (v et : Nat) : Option vMe := if (M.1 a).1 = tg ∧ ¬ (i < 0 ∨ (M.1 a).2.1 ≤ i.toNatClampNeg) ∧ M.2.2.2 ≤ a ∧ (M.1 v).1 = et then some (wr M a i.toNatClampNeg (.ref v)) else none
theorem v_arr (hK : vK D s) (hR : vRp D M H) {a tg : Nat} (h : (M.1 a).1 = tg) (ht : 100 < tg) : ∃ cell : Cell, H[a]? = some cell ∧ s.isArrayOf cell (vAty tg) ∧ (∀ j, j < (M.1 a).2.1 → fits (vAty tg) ((M.1 a).2.2 j) = true) ∧ tg < 111 ∧ (M.1 a).2.1 < 2 ^ 31 ∧ vArr (D.2.2.1 tg) (M.1 a).2.1 (M.1 a).2.2 cell := by
  have h1 := (hR.1 a).2 (by omega)
  rw [h] at h1
  obtain ⟨⟨cell, g1, g2⟩, g3, g4, g5⟩ := h1
  obtain ⟨-, kA, e1, e2⟩ := (hK.2 tg ht g4).1 0 (fun _ => .null)
  exact ⟨cell, g1, ⟨g2.2.1, kA, by rw [g2.1]; exact e1, e2⟩, g5, g4, g3, g2⟩
theorem v_iald {a : Nat} {i v : Int32} (hx : p.tables.exec = Jvm.exec) (hb : c.code = cc) (hK : vK D s) (hv : aI M a 101 i = some v) (hdg : decode cc pc = .ok (.iaload, 1))
    (kk : vV D p l e R s m args below meth c n k Q M (F0 m (pc + 1) ls (.int v :: rest))) : vV D p l e R s m args below meth c n k Q M (F0 m pc ls (.int i :: .ref a :: rest)) := by
  intro H locs hR hS
  obtain ⟨⟨htg, hin⟩, rfl⟩ := v_tag hv
  obtain ⟨cell, h1, h2, h3, h4, h5, h6⟩ := v_arr hK hR htg (by decide)
  have hlt : i.toNatClampNeg < (M.1 a).2.1 := Nat.not_le.mp fun q => hin (Or.inr q)
  refine W.iald hx hb h1 h2 h6.2.2.1 (by rw [h6.2.2.2.1]; exact hin) (v := .int _) ?_ rfl rfl hdg (kk H locs hR hS)
  rw [h6.2.2.2.2 _ hlt, ← vI_of (h3 _ hlt) (Or.inl rfl)]
theorem v_bald {a : Nat} {i v : Int32} (hx : p.tables.exec = Jvm.exec) (hb : c.code = cc) (hK : vK D s) (hv : aI M a 102 i = some v) (hdg : decode cc pc = .ok (.baload, 1))
    (kk : vV D p l e R s m args below meth c n k Q M (F0 m (pc + 1) ls (.int v :: rest))) : vV D p l e R s m args below meth c n k Q M (F0 m pc ls (.int i :: .ref a :: rest)) := by
  intro H locs hR hS
  obtain ⟨⟨htg, hin⟩, rfl⟩ := v_tag hv
  obtain ⟨cell, h1, h2, h3, h4, h5, h6⟩ := v_arr hK hR htg (by decide)
  have hlt : i.toNatClampNeg < (M.1 a).2.1 := Nat.not_le.mp fun q => hin (Or.inr q)
  refine W.bald hx hb h1 h2 h6.2.2.1 (by rw [h6.2.2.2.1]; exact hin) (v := .int _) ?_ rfl rfl hdg (kk H locs hR hS)
  rw [h6.2.2.2.2 _ hlt, ← vI_of (h3 _ hlt) (Or.inr (Or.inr rfl))]
theorem v_zald {a : Nat} {i v : Int32} (hx : p.tables.exec = Jvm.exec) (hb : c.code = cc) (hK : vK D s) (hv : aI M a 103 i = some v) (hdg : decode cc pc = .ok (.baload, 1))
    (kk : vV D p l e R s m args below meth c n k Q M (F0 m (pc + 1) ls (.int v :: rest))) : vV D p l e R s m args below meth c n k Q M (F0 m pc ls (.int i :: .ref a :: rest)) := by
  intro H locs hR hS
  obtain ⟨⟨htg, hin⟩, rfl⟩ := v_tag hv
  obtain ⟨cell, h1, h2, h3, h4, h5, h6⟩ := v_arr hK hR htg (by decide)
  have hlt : i.toNatClampNeg < (M.1 a).2.1 := Nat.not_le.mp fun q => hin (Or.inr q)
  refine W.zald hx hb h1 h2 h6.2.2.1 (by rw [h6.2.2.2.1]; exact hin) (v := .int _) ?_ rfl rfl hdg (kk H locs hR hS)
  rw [h6.2.2.2.2 _ hlt, ← vI_of (h3 _ hlt) (Or.inr (Or.inl rfl))]
theorem v_lald {a : Nat} {i : Int32} {v : Int64} (hx : p.tables.exec = Jvm.exec) (hb : c.code = cc) (hK : vK D s) (hv : aJ M a 104 i = some v) (hdg : decode cc pc = .ok (.laload, 1))
    (kk : vV D p l e R s m args below meth c n k Q M (F0 m (pc + 1) ls (.long v :: rest))) : vV D p l e R s m args below meth c n k Q M (F0 m pc ls (.int i :: .ref a :: rest)) := by
  intro H locs hR hS
  obtain ⟨⟨htg, hin⟩, rfl⟩ := v_tag hv
  obtain ⟨cell, h1, h2, h3, h4, h5, h6⟩ := v_arr hK hR htg (by decide)
  have hlt : i.toNatClampNeg < (M.1 a).2.1 := Nat.not_le.mp fun q => hin (Or.inr q)
  refine W.lald hx hb h1 h2 h6.2.2.1 (by rw [h6.2.2.2.1]; exact hin) (v := .long _) ?_ rfl rfl hdg (kk H locs hR hS)
  rw [h6.2.2.2.2 _ hlt, ← vJ_of (h3 _ hlt) rfl]
theorem v_dald {a : Nat} {i : Int32} {v : UInt64} (hx : p.tables.exec = Jvm.exec) (hb : c.code = cc) (hK : vK D s) (hv : aB M a 105 i = some v) (hdg : decode cc pc = .ok (.daload, 1))
    (kk : vV D p l e R s m args below meth c n k Q M (F0 m (pc + 1) ls (.double v :: rest))) : vV D p l e R s m args below meth c n k Q M (F0 m pc ls (.int i :: .ref a :: rest)) := by
  intro H locs hR hS
  obtain ⟨⟨htg, hin⟩, rfl⟩ := v_tag hv
  obtain ⟨cell, h1, h2, h3, h4, h5, h6⟩ := v_arr hK hR htg (by decide)
  have hlt : i.toNatClampNeg < (M.1 a).2.1 := Nat.not_le.mp fun q => hin (Or.inr q)
  refine W.dald hx hb h1 h2 h6.2.2.1 (by rw [h6.2.2.2.1]; exact hin) (v := .double _) ?_ rfl rfl hdg (kk H locs hR hS)
  rw [h6.2.2.2.2 _ hlt, ← vB_of (h3 _ hlt) rfl]
theorem v_aald {a tg : Nat} {i : Int32} {v : Option Nat} (hx : p.tables.exec = Jvm.exec) (hb : c.code = cc) (hK : vK D s) (hv : aR M a tg i = some v) (ht : 100 < tg ∧ (vAty tg).isReference = true) (hdg : decode cc pc = .ok (.aaload, 1))
    (kk : vV D p l e R s m args below meth c n k Q M (F0 m (pc + 1) ls (va_rf v :: rest))) : vV D p l e R s m args below meth c n k Q M (F0 m pc ls (.int i :: .ref a :: rest)) := by
  intro H locs hR hS
  obtain ⟨⟨htg, hin⟩, rfl⟩ := v_tag hv
  obtain ⟨cell, h1, h2, h3, h4, h5, h6⟩ := v_arr hK hR htg ht.1
  have hlt : i.toNatClampNeg < (M.1 a).2.1 := Nat.not_le.mp fun q => hin (Or.inr q)
  refine W.aald hx hb h1 h2 ht.2 h6.2.2.1 (by rw [h6.2.2.2.1]; exact hin) (v := va_rf _) ?_ rfl rfl hdg (kk H locs hR hS)
  rw [h6.2.2.2.2 _ hlt, ← vR_of (h3 _ hlt) ht.2]
theorem v_alen {a tg : Nat} {v : Int32} (hx : p.tables.exec = Jvm.exec) (hb : c.code = cc) (hK : vK D s) (hv : aN M a tg = some v) (ht : 100 < tg) (hdg : decode cc pc = .ok (.arraylength, 1))
    (kk : vV D p l e R s m args below meth c n k Q M (F0 m (pc + 1) ls (.int v :: rest))) : vV D p l e R s m args below meth c n k Q M (F0 m pc ls (.ref a :: rest)) := by
  intro H locs hR hS
  obtain ⟨htg, rfl⟩ := v_tag hv
  obtain ⟨cell, h1, h2, h3, h4, h5, h6⟩ := v_arr hK hR htg ht
  exact W.alen hx hb h1 h2 (by rw [h6.2.2.2.1]) rfl rfl hdg (kk H locs hR hS)
theorem vAt_arr {a tg len : Nat} {f : Nat → Value} {H1 : Heap} {cell : Cell} (h1 : H1[a]? = some cell) (h6 : vArr (D.2.2.1 tg) len f cell) (ht : 100 < tg) (ht2 : tg < 111) (hl : len < 2 ^ 31) (hf : ∀ j, j < len → fits (vAty tg) (f j) = true) : vAt D a (tg, len, f) H1 :=
  ⟨fun _ h2 => absurd (show tg < 100 from h2) (by omega), fun _ => ⟨⟨cell, h1, h6⟩, hl, ht2, hf⟩⟩
theorem v_stA {a tg : Nat} {i : Int32} {v : Value} {M1 : vMe} (hK : vK D s) (hv : sA M a tg i v = some M1) (ht : 100 < tg) (hfit : fits (vAty tg) v = true) (hR : vRp D M H) (hS : va_S (vA D) s.heap H locs) (H1 : Heap) {cell : Cell} (hc : H[a]? = some cell)
    (e : H1[a]? = some (cell.setSlot i.toNatClampNeg v)) (z : H1.size = H.size) (oq : ∀ q, q ≠ a → H1[q]? = H[q]?) : vRp D M1 H1 ∧ va_S (vA D) s.heap H1 (locs ++ [⟨a, i.toNatClampNeg⟩]) := by
  obtain ⟨⟨htg, hin, hab⟩, rfl⟩ := v_tag hv
  obtain ⟨cell', h1, h2, h3, h4, h5, h6⟩ := v_arr hK hR htg ht
  cases Option.some.inj (hc.symm.trans h1)
  have hlt : i.toNatClampNeg < (M.1 a).2.1 := Nat.not_le.mp fun q => hin (Or.inr q)
  refine ⟨hR.put h1 e (by simp [Cell.setSlot]) z oq rfl ?_, hS.put z oq (by show D.2.2.2.1 ≤ a; rw [← hR.2.2.2.1]; exact hab)⟩
  rw [htg]
  refine vAt_arr e (h6.set v hlt) ht h4 h5 fun j hj => ?_
  by_cases hij : j = i.toNatClampNeg
  · rw [hij]; simp only [updV, if_pos]; exact hfit
  · simp only [updV, if_neg hij]; exact h3 j hj
theorem v_iast {a : Nat} {i x : Int32} {M1 : vMe} (hx : p.tables.exec = Jvm.exec) (hb : c.code = cc) (hK : vK D s) (hv : sA M a 101 i (.int x) = some M1) (hdg : decode cc pc = .ok (.iastore, 1))
    (kk : vV D p l e R s m args below meth c n k Q M1 (F0 m (pc + 1) ls rest)) : vV D p l e R s m args below meth c n k Q M (F0 m pc ls (.int x :: .int i :: .ref a :: rest)) := by
  intro H locs hR hS
  obtain ⟨⟨htg, hin, hab⟩, -⟩ := v_tag hv
  obtain ⟨cell, h1, h2, h3, h4, h5, h6⟩ := v_arr hK hR htg (by decide)
  refine W.iast hx hb h1 h2 h6.2.2.1 (by rw [h6.2.2.2.1]; exact hin) rfl rfl hdg fun H1 e z oq => ?_
  obtain ⟨g1, g2⟩ := v_stA hK hv (by decide) rfl hR hS H1 h1 e z oq
  exact kk H1 _ g1 g2
theorem v_last {a : Nat} {i : Int32} {x : Int64} {M1 : vMe} (hx : p.tables.exec = Jvm.exec) (hb : c.code = cc) (hK : vK D s) (hv : sA M a 104 i (.long x) = some M1) (hdg : decode cc pc = .ok (.lastore, 1))
    (kk : vV D p l e R s m args below meth c n k Q M1 (F0 m (pc + 1) ls rest)) : vV D p l e R s m args below meth c n k Q M (F0 m pc ls (.long x :: .int i :: .ref a :: rest)) := by
  intro H locs hR hS
  obtain ⟨⟨htg, hin, hab⟩, -⟩ := v_tag hv
  obtain ⟨cell, h1, h2, h3, h4, h5, h6⟩ := v_arr hK hR htg (by decide)
  refine W.last hx hb h1 h2 h6.2.2.1 (by rw [h6.2.2.2.1]; exact hin) rfl rfl hdg fun H1 e z oq => ?_
  obtain ⟨g1, g2⟩ := v_stA hK hv (by decide) rfl hR hS H1 h1 e z oq
  exact kk H1 _ g1 g2
theorem v_dast {a : Nat} {i : Int32} {x : UInt64} {M1 : vMe} (hx : p.tables.exec = Jvm.exec) (hb : c.code = cc) (hK : vK D s) (hv : sA M a 105 i (.double x) = some M1) (hdg : decode cc pc = .ok (.dastore, 1))
    (kk : vV D p l e R s m args below meth c n k Q M1 (F0 m (pc + 1) ls rest)) : vV D p l e R s m args below meth c n k Q M (F0 m pc ls (.double x :: .int i :: .ref a :: rest)) := by
  intro H locs hR hS
  obtain ⟨⟨htg, hin, hab⟩, -⟩ := v_tag hv
  obtain ⟨cell, h1, h2, h3, h4, h5, h6⟩ := v_arr hK hR htg (by decide)
  refine W.dast hx hb h1 h2 h6.2.2.1 (by rw [h6.2.2.2.1]; exact hin) rfl rfl hdg fun H1 e z oq => ?_
  obtain ⟨g1, g2⟩ := v_stA hK hv (by decide) rfl hR hS H1 h1 e z oq
  exact kk H1 _ g1 g2
theorem v_fitB (x : Int32) : fits .byte (.int x.toInt8.toInt32) = true := pk_fb x
theorem v_fitZ (x : Int32) : fits .boolean (.int (x &&& 1)) = true := by
  have h := pk_and x (m := 1) 1 (by decide)
  rw [h]
  rcases (show x.toBitVec.toNat % 2 ^ 1 = 0 ∨ x.toBitVec.toNat % 2 ^ 1 = 1 by omega) with q | q <;> rw [q] <;> rfl
theorem v_bast {a : Nat} {i x : Int32} {M1 : vMe} (hx : p.tables.exec = Jvm.exec) (hb : c.code = cc) (hK : vK D s) (hv : sA M a 102 i (.int x.toInt8.toInt32) = some M1) (hdg : decode cc pc = .ok (.bastore, 1))
    (kk : vV D p l e R s m args below meth c n k Q M1 (F0 m (pc + 1) ls rest)) : vV D p l e R s m args below meth c n k Q M (F0 m pc ls (.int x :: .int i :: .ref a :: rest)) := by
  intro H locs hR hS
  obtain ⟨⟨htg, hin, hab⟩, -⟩ := v_tag hv
  obtain ⟨cell, h1, h2, h3, h4, h5, h6⟩ := v_arr hK hR htg (by decide)
  refine W.bast hx hb h1 h2 h6.2.2.1 (by rw [h6.2.2.2.1]; exact hin) rfl rfl hdg fun H1 e z oq => ?_
  obtain ⟨g1, g2⟩ := v_stA hK hv (by decide) (v_fitB x) hR hS H1 h1 e z oq
  exact kk H1 _ g1 g2
theorem v_zast {a : Nat} {i x : Int32} {M1 : vMe} (hx : p.tables.exec = Jvm.exec) (hb : c.code = cc) (hK : vK D s) (hv : sA M a 103 i (.int (x &&& 1)) = some M1) (hdg : decode cc pc = .ok (.bastore, 1))
    (kk : vV D p l e R s m args below meth c n k Q M1 (F0 m (pc + 1) ls rest)) : vV D p l e R s m args below meth c n k Q M (F0 m pc ls (.int x :: .int i :: .ref a :: rest)) := by
  intro H locs hR hS
  obtain ⟨⟨htg, hin, hab⟩, -⟩ := v_tag hv
  obtain ⟨cell, h1, h2, h3, h4, h5, h6⟩ := v_arr hK hR htg (by decide)
  refine W.zast hx hb h1 h2 h6.2.2.1 (by rw [h6.2.2.2.1]; exact hin) rfl rfl hdg fun H1 e z oq => ?_
  obtain ⟨g1, g2⟩ := v_stA hK hv (by decide) (v_fitZ x) hR hS H1 h1 e z oq
  exact kk H1 _ g1 g2
theorem v_aast {a tg v et ci : Nat} {i : Int32} {M1 : vMe} {r : vw_C} (hx : p.tables.exec = Jvm.exec) (hb : c.code = cc) (hK : vK D s) (hv : sQ M a tg i v et = some M1) (hq : 100 < tg ∧ et = ci + 1 ∧ ci < 99 ∧ vAty tg = .object r.1) (hc : vCl[ci]? = some r) (hdg : decode cc pc = .ok (.aastore, 1))
    (kk : vV D p l e R s m args below meth c n k Q M1 (F0 m (pc + 1) ls rest)) : vV D p l e R s m args below meth c n k Q M (F0 m pc ls (.ref v :: .int i :: .ref a :: rest)) := by
  intro H locs hR hS
  obtain ⟨⟨htg, hin, hab, het⟩, hM1⟩ := v_tag hv
  have hv2 : sA M a tg i (.ref v) = some M1 := by unfold sA; rw [if_pos ⟨htg, hin, hab⟩, hM1]
  obtain ⟨cell, h1, h2, h3, h4, h5, h6⟩ := v_arr hK hR htg hq.1
  have hlt : i.toNatClampNeg < (M.1 a).2.1 := Nat.not_le.mp fun q => hin (Or.inr q)
  obtain ⟨r', hr', ⟨cellV, g1, g2, g3, -⟩, -⟩ := (hR.1 v).1 (by omega) (by omega)
  rw [het, hq.2.1] at g2
  rw [Nat.add_sub_cancel] at g2
  have hcls := (hK.1 ci r hc).2
  have hRA := (hK.2 tg hq.1 h4).2
  rw [hq.2.2.2] at hRA
  obtain ⟨kA, comp, k1, k2, k3, -⟩ := hRA
  rw [← h6.1] at k1
  have hcomp : comp = D.1 ci := Option.some.inj (k3.symm.trans hcls.1)
  subst hcomp
  obtain ⟨kC, hkC, -⟩ := hcls.2
  refine W.aast hx hb h1 h6.2.1 h6.2.2.1 k1 k2 rfl hkC ⟨fun q => hin (Or.inl q), by rw [h6.2.2.2.1]; exact hlt⟩ g1 (fun q h => by have := g3.1; rw [h] at this; exact absurd (show true = false from this) (by decide)) (by rw [g2]; exact hkC) (by rw [g2]; exact va_assign hcls) rfl rfl hdg fun H1 e z oq => ?_
  obtain ⟨w1, w2⟩ := v_stA hK hv2 hq.1 (by rw [hq.2.2.2]; rfl) hR hS H1 h1 e z oq
  exact kk H1 _ w1 w2
end VB
section VC
variable {p : Program} {l : Launch} {e : Env} {R : Room} {s : State} {m : MethodId} {args : Array Value} {below : List Frame} {meth : Method} {c : Code} {H : Heap} {locs : List Loc} {cells slots n k : Nat} {Q : State → Prop}
variable {D : vD} {M M1 : vMe} {cc : ByteArray} {pc : Nat} {ls : Array Slot} {rest st0 : List Value}
/-! new cells -/
def nw (M : vMe) (tg len sl : Nat) (f : Nat → Value) : vMe := (fun q => if q = M.2.1 then (tg, len, f) else M.1 q, M.2.1 + 1, M.2.2.1 + sl, M.2.2.2)
theorem vSum_push {b : Nat} {H : Heap} {x : Cell} (hb : b ≤ H.size) : vSum b (H.push x) = vSum b H + x.slots.size := by
  unfold vSum
  rw [Array.toList_push, List.drop_append_of_le_length (by simpa using hb)]
  simp
theorem vRp.push {tg len sl : Nat} {f : Nat → Value} {x : Cell} (hR : vRp D M H) (hs : x.slots.size = sl) (hat : vAt D H.size (tg, len, f) (H.push x)) : vRp D (nw M tg len sl f) (H.push x) := by
  obtain ⟨r1, r2, r3, r4, r5, r6⟩ := hR
  refine ⟨fun q => ?_, by rw [Array.size_push, r2]; rfl, by rw [vSum_push r5, r3, hs]; rfl, r4, by rw [Array.size_push]; omega, fun q hq => ?_⟩
  · by_cases hqa : q = M.2.1
    · subst hqa
      show vAt D M.2.1 (if M.2.1 = M.2.1 then _ else _) _
      rw [if_pos rfl, ← r2]
      exact hat
    · show vAt D q (if q = M.2.1 then _ else _) _
      rw [if_neg hqa]
      rcases Nat.lt_or_ge q H.size with g | g
      · exact (r1 q).kept (by rw [Array.getElem?_push, if_neg (Nat.ne_of_lt g)])
      · have h0 := r6 q (by omega)
        exact ⟨fun h1 => absurd h1 (by omega), fun h1 => absurd h1 (by omega)⟩
  · have hq' : M.2.1 + 1 ≤ q := hq
    show (if q = M.2.1 then _ else M.1 q : vOb).1 = 0
    rw [if_neg (by omega)]
    exact r6 q (by omega)
theorem va_S.grow {A : Nat → Prop} {H0 H : Heap} {x : Cell} (hS : va_S A H0 H locs) : va_S A H0 (H.push x) locs :=
  ⟨by rw [Array.size_push]; exact Nat.le_succ_of_le hS.1, fun q h1 h2 => by rw [Array.getElem?_push, if_neg (Nat.ne_of_lt (Nat.lt_of_lt_of_le h1 hS.1))]; exact hS.2.1 q h1 h2, hS.2.2⟩
theorem v_new {own C : String} {T : u_T} {N nn ci index : Nat} {Ts : List Cond} {f : Nat → Value} (hx : p.tables.exec = Jvm.exec) (hb : c.code = cc) (hts : ∀ w ∈ Ts, w.before args s = true) (hin : ∀ w ∈ u_ws C T N, w ∈ Ts) (hown : s.vm.findClass own = some m.cls) (hK : vK D s)
    (hty : ∀ i, i < N → parseFieldDescriptor (T i).2.2.1 = some (vTy ci i)) (hc : vCl[ci]? = some (C, T, N)) (hcl : (Cond.classLink own index C).before args s = true) (hinst : (Cond.instantiable C nn).before args s = true) (hini : (Cond.initialized C).before args s = true)
    (hf : ∀ i, i < N → defaultValue (vTy ci i) = f i) (hfit : ∀ i, i < N → fits (vTy ci i) (f i) = true) (hci : ci < 99) (hcells : n + 1 ≤ R.cells) (hslots : k + nn ≤ R.slots) (hdg : decode cc pc = .ok (.new index, 3))
    (kk : vV D p l e R s m args below meth c (n + 1) (k + nn) Q (nw M (ci + 1) 0 nn f) (F0 m (pc + 3) ls (.ref M.2.1 :: rest))) : vV D p l e R s m args below meth c n k Q M (F0 m pc ls rest) := by
  intro H locs hR hS
  refine W.newc hx hb hown hcl hinst hini rfl hdg hcells hslots fun cC kC h1 h2 h3 h4 => ?_
  have hKn := hK.1 ci _ hc
  have hcC : cC = D.1 ci := Option.some.inj (h1.symm.trans hKn.2.1)
  subst hcC
  have e1 : (H.push (blank (D.1 ci) kC))[H.size]? = some (blank (D.1 ci) kC) := Array.getElem?_push_size
  have hat : vAt D H.size (ci + 1, 0, f) (H.push (blank (D.1 ci) kC)) := by
    refine ⟨fun _ _ => ⟨(C, T, N), ?_, ?_, ?_⟩, fun h => absurd (show 100 < ci + 1 from h) (by omega)⟩
    · show vCl[ci + 1 - 1]? = _
      rw [Nat.add_sub_cancel]; exact hc
    · show v_OB D H.size (D.1 (ci + 1 - 1)) N (D.2.1 (ci + 1 - 1)) _ f
      rw [Nat.add_sub_cancel]
      exact v_OB.of ((u_born (vTy ci) hts hin hKn h2 e1 hty).to hf)
    · intro i hi
      show fits (vTy (ci + 1 - 1) i) (f i) = true
      rw [Nat.add_sub_cancel]; exact hfit i hi
  have h9 := kk _ _ (hR.push (sl := nn) (by show (kC.instanceTypes.map defaultValue).size = nn; rw [Array.size_map]; exact h4) hat) hS.grow
  rw [← hR.2.1] at h9
  exact h9
theorem v_newa {tg N : Nat} {atype : ArrayType} {x : Int32} (hx : p.tables.exec = Jvm.exec) (hb : c.code = cc) (hK : vK D s) (harr : (Cond.arrayClass (newarray.typeOf atype)).before args s = true) (hty : 100 < tg ∧ tg < 111 ∧ newarray.typeOf atype = vAty tg ∧ (vAty tg).isReference = false)
    (hn : ¬ x < 0) (hN : x.toNatClampNeg = N) (hbytes : N * componentBytes (vAty tg) ≤ 536870912) (hN2 : N < 2 ^ 31) (hfit : fits (vAty tg) (defaultValue (vAty tg)) = true) (hcells : n + 1 ≤ R.cells) (hslots : k + N ≤ R.slots) (hdg : decode cc pc = .ok (.newarray atype, 2))
    (kk : vV D p l e R s m args below meth c (n + 1) (k + N) Q (nw M tg N N (fun _ => defaultValue (vAty tg))) (F0 m (pc + 2) ls (.ref M.2.1 :: rest))) : vV D p l e R s m args below meth c n k Q M (F0 m pc ls (.int x :: rest)) := by
  intro H locs hR hS
  subst hN
  obtain ⟨t1, t2, t3, t4⟩ := hty
  refine W.newa hx hb harr rfl hdg rfl hn (by rw [t3]; exact hbytes) hcells hslots fun cA kA comp h1 h2 h3 => ?_
  rw [t3] at h1 ⊢
  have hRA := (hK.2 tg t1 t2).2
  have hcA : cA = D.2.2.1 tg := by
    cases hh : vAty tg with
    | object C => rw [hh] at t4; simp [FieldType.isReference] at t4
    | _ => rw [hh] at hRA h1; exact Option.some.inj (h1.symm.trans hRA)
  subst hcA
  rw [arrV_new]
  have h9 := kk _ _ (hR.push (sl := x.toNatClampNeg) (arrV_size _ _ _) (vAt_arr Array.getElem?_push_size (vArr_new _ _ _) t1 t2 hN2 (fun _ _ => hfit))) hS.grow
  rw [← hR.2.1] at h9
  exact h9
theorem v_anew {own C : String} {index tg N : Nat} {x : Int32} (hx : p.tables.exec = Jvm.exec) (hb : c.code = cc) (hK : vK D s) (hown : s.vm.findClass own = some m.cls) (hcl : (Cond.classLink own index C).before args s = true) (hover : (Cond.arrayOver (.object C)).before args s = true) (hty : 100 < tg ∧ tg < 111 ∧ vAty tg = .object C)
    (hn : ¬ x < 0) (hN : x.toNatClampNeg = N) (hbytes : N * 4 ≤ 536870912) (hN2 : N < 2 ^ 31) (hcells : n + 1 ≤ R.cells) (hslots : k + N ≤ R.slots) (hdg : decode cc pc = .ok (.anewarray index, 3))
    (kk : vV D p l e R s m args below meth c (n + 1) (k + N) Q (nw M tg N N (fun _ => .null)) (F0 m (pc + 3) ls (.ref M.2.1 :: rest))) : vV D p l e R s m args below meth c n k Q M (F0 m pc ls (.int x :: rest)) := by
  intro H locs hR hS
  subst hN
  obtain ⟨t1, t2, t3⟩ := hty
  refine W.anew hx hb hown hcl hover rfl hdg rfl hn hbytes hcells hslots fun cA kA comp h1 h2 h3 h4 => ?_
  have hRA := (hK.2 tg t1 t2).2
  rw [t3] at hRA
  obtain ⟨kA', comp', k1, k2, k3, k4⟩ := hRA
  have hcA : cA = D.2.2.1 tg := Option.some.inj (h1.symm.trans k4)
  subst hcA
  rw [arrV_new]
  have h9 := kk _ _ (hR.push (sl := x.toNatClampNeg) (arrV_size _ _ _) (vAt_arr Array.getElem?_push_size (vArr_new _ _ _) t1 t2 hN2 (fun _ _ => by rw [t3]; rfl))) hS.grow
  rw [← hR.2.1] at h9
  exact h9
/-! System.arraycopy between arrays of whole numbers of one kind -/
def cpA (M : vMe) (a0 a tg : Nat) (sp dp x : Int32) : Option vMe :=
  if (M.1 a0).1 = tg ∧ (M.1 a).1 = tg ∧ ¬ sp < 0 ∧ ¬ dp < 0 ∧ ¬ x < 0 ∧ sp.toNatClampNeg + x.toNatClampNeg ≤ (M.1 a0).2.1 ∧ dp.toNatClampNeg + x.toNatClampNeg ≤ (M.1 a).2.1 ∧ M.2.2.2 ≤ a then
    some (pt M a ((M.1 a).1, (M.1 a).2.1, va_cpy (M.1 a0).2.2 (M.1 a).2.2 sp.toNatClampNeg dp.toNatClampNeg x.toNatClampNeg)) else none
theorem v_copy {own : String} {index a0 a tg : Nat} {sp dp x : Int32} (hx : p.tables.exec = Jvm.exec) (hb : c.code = cc) (hml : c.maxLocals = ls.size) (hown : s.vm.findClass own = some m.cls) (hK : vK D s) (hlink : (Cond.methodLink own index arraycopyName).before args s = true) (hnat : (Cond.native arraycopyName).before args s = true) (hstat : (Cond.static arraycopyName).before args s = true) (hini : (Cond.initialized "java/lang/System").before args s = true)
    (hv : cpA M a0 a tg sp dp x = some M1) (htg : 100 < tg ∧ refKind (vAty tg) = false ∧ ∀ v, fits (vAty tg) v = true → ∃ z, v = .int z) (hframes : 1 ≤ R.frames) (hlocals : (rest.map fun v => v.category).sum + (nativeFrameWords "java/lang/System" "arraycopy" 5 + 11) ≤ R.locals) (hdg : decode cc pc = .ok (.invokestatic index, 3))
    (kk : vV D p l e R s m args below meth c n k Q M1 (F0 m (pc + 3) ls rest)) : vV D p l e R s m args below meth c n k Q M (F0 m pc ls (.int x :: .int dp :: .ref a :: .int sp :: .ref a0 :: rest)) := by
  intro H locs hR hS
  obtain ⟨⟨g0, g1, h1, h2, h3, h4, h5, hab⟩, rfl⟩ := v_tag hv
  obtain ⟨cl0, hc0, hy0, hf0, ht9, hz0, ha0⟩ := v_arr hK hR g0 htg.1
  obtain ⟨cl1, hc1, hy1, hf1, -, hz1, ha1⟩ := v_arr hK hR g1 htg.1
  have nn : ∀ z : Int32, ¬ z < 0 → z.toInt = (z.toNatClampNeg : Int) := by
    intro z hz
    have hz0 : (0 : Int) ≤ z.toInt := by
      have := Int32.not_lt.mp hz
      simpa using Int32.le_iff_toInt_le.mp this
    show z.toInt = ((z.toInt.toNat : Nat) : Int)
    omega
  intro T hT X
  obtain ⟨-, k0, hk0, cm0, hkk0⟩ := hy0
  obtain ⟨-, k1, hk1, cm1, hkk1⟩ := hy1
  have hrd : ∀ i, i < x.toNatClampNeg → cl0.slots.getD (sp.toNatClampNeg + i) .null = (M.1 a0).2.2 (sp.toNatClampNeg + i) := fun i hi => by
    rw [Array.getD_eq_getD_getElem?, ha0.2.2.2.2 _ (by omega)]
    rfl
  obtain ⟨vm', X', step⟩ := X.arraycopy hx hown hlink hnat hstat hini (src := a0) (dst := a) (cs := cl0) (cd := cl1) (srcPos := sp) (destPos := dp) (n := x) (by rw [hT]; exact hc0) (by rw [hT]; exact hc1)
    ha0.2.1 ha1.2.1 ha0.2.2.1 ha1.2.2.1 hk0 hk1 hkk0 hkk1 (by simp [htg.2.1]) h1 h2 h3
    (by rw [nn sp h1, nn x h3, ha0.2.2.2.1]; omega)
    (by rw [nn dp h2, nn x h3, ha1.2.2.2.1]; omega)
    (fun vm₁ _ i hi => by
      have hf := hf0 (sp.toNatClampNeg + i) (by omega)
      refine ⟨?_, ?_⟩
      · rw [hrd i hi]
        exact hf
      · rw [hrd i hi]
        obtain ⟨z, hz⟩ := htg.2.2 _ hf
        rw [hz]
        exact trivial)
    (g := F0 m pc ls (.int x :: .int dp :: .ref a :: .int sp :: .ref a0 :: rest)) rfl (by rw [hml]) (rest := rest) rfl (by rw [hb]; exact hdg) hframes (by show 2 * 0 + _ + _ ≤ _; omega)
  have e1 : vArr (D.2.2.1 tg) (M.1 a).2.1 (va_cpy (M.1 a0).2.2 (M.1 a).2.2 sp.toNatClampNeg dp.toNatClampNeg x.toNatClampNeg) (copied cl0 cl1 sp dp x) := by
    show vArr _ _ _ (cl1.storeRun dp.toNatClampNeg (cl0.stretch sp.toNatClampNeg x.toNatClampNeg))
    have hlen : (cl0.stretch sp.toNatClampNeg x.toNatClampNeg).length = x.toNatClampNeg := by simp [Cell.stretch]
    obtain ⟨f1, f2, f3, -, -⟩ := cl1.storeRun_facts dp.toNatClampNeg (cl0.stretch sp.toNatClampNeg x.toNatClampNeg)
    refine ⟨f1.trans ha1.1, by rw [f2]; exact ha1.2.1, by rw [f2]; exact ha1.2.2.1, f3.trans ha1.2.2.2.1, fun j hj => ?_⟩
    rw [Cell.storeRun_get _ _ _ _ (by rw [hlen, ha1.2.2.2.1]; exact h5), hlen]
    unfold va_cpy
    by_cases hq : dp.toNatClampNeg ≤ j ∧ j < dp.toNatClampNeg + x.toNatClampNeg
    · rw [if_pos hq, if_pos hq]
      unfold Cell.stretch
      rw [List.getElem?_map, List.getElem?_range (by omega)]
      show some (cl0.slots.getD _ _) = _
      rw [hrd _ (by omega)]
    · rw [if_neg hq, if_neg hq]
      exact ha1.2.2.2.2 j hj
  generalize copied cl0 cl1 sp dp x = cx at X' step e1
  have hl : a < H.size := (Array.getElem?_eq_some_iff.mp hc1).1
  have hheap : ((T.setVm vm').setCell a cx).heap = H.setIfInBounds a cx := by rw [← hT]; rfl
  have oq : ∀ q : Nat, q ≠ a → (H.setIfInBounds a cx)[q]? = H[q]? := fun q hq => by simp [Array.getElem?_setIfInBounds, Ne.symm hq]
  have es : (H.setIfInBounds a cx)[a]? = some cx := by simp [Array.getElem?_setIfInBounds, hl]
  have hab' : vA D a := by show D.2.2.2.1 ≤ a; rw [← hR.2.2.2.1]; exact hab
  obtain ⟨t, a1, b1⟩ := kk _ _ (hR.put hc1 es (by rw [e1.2.2.2.1, ha1.2.2.2.1]) (by simp) oq rfl (by
      rw [g1]
      refine vAt_arr es e1 htg.1 ht9 hz1 fun j hj => ?_
      unfold va_cpy
      split
      · exact hf0 _ (by omega)
      · exact hf1 j hj)) ⟨by simp; exact hS.1, fun q g1 g2 => by
      rw [oq q (fun e => g2 (by rw [e]; exact hab'))]
      exact hS.2.1 q g1 g2, fun q hq => by
      rcases List.mem_append.mp hq with h | h
      · exact hS.2.2 q h
      · obtain ⟨z, -, hz⟩ := List.mem_map.mp h
        rw [← hz]
        exact hab'⟩ _ hheap X'
  exact ⟨t, step t a1, b1⟩
/-! the static world, the contracts' start and end -/
def vE : Nat → String
  | 0 => "java/lang/IllegalArgumentException"
  | 1 => "java/lang/IndexOutOfBoundsException"
  | _ => "java/lang/IllegalStateException"
def vDc : List String := ["java/lang/RuntimeException", "java/lang/Exception", Bundle.tN]
def vAO : List String := [RX5, RX7, RX0, RX10, RX11]
def vStr : List (String × Nat × String) := [(RX9, 109, "what is out of range"), (RX9, 152, "there is no such cell"), (RX9, 169, "part is out of range"), (RX9, 259, "there are 8 marks"), (RX9, 268, "there are 6 cursors"), (RX9, 287, "there is no met member to remove"), (RL, 52, "sets "), (RX9, 322, "there is no such set"), (RX9, 325, "there is no such cursor"), (RX9, 327, "number is out of the universe"), (RX9, 329, "the stamp is out of range"), (RL, 60, " "), (RX9, 57, "length is out of range"), (RX3, 38, "sets"), (RX3, 64, "set"), (RX3, 72, "add"), (RX3, 78, "remove"), (RX3, 80, "clear"), (RX3, 85, "mark"), (RX7, 28, ""), (RL, 62, ";"), (RL, 71, "set "), (RL, 76, "add "), (RL, 78, "remove "), (RL, 102, "mark;")]
def vTok : List String := ["WORD", "NUMBER", "SEMICOLON", "INVALID", "END"]
def vS (D : vD) (U : State) : Prop := vK D U ∧ (vx_Zq Bundle.tN "UNASSIGNED_STACK" Bundle.steD (vA D) U U.heap ∧ vx_Zq Bundle.tN "SUPPRESSED_SENTINEL" Bundle.listD (vA D) U U.heap) ∧ (∀ i q, vStr[i]? = some q → vk_R q.1 q.2.1 q.2.2 (D.2.2.2.2 i) U) ∧ (∀ i q, vTok[i]? = some q → va_Z RX6 q "LTwinSets$Token;" (.ref (D.2.2.2.2 (100 + i))) (vA D) U U.heap) ∧ va_Z RJ0 "COMPACT_STRINGS" "Z" (.int 1) (vA D) U U.heap ∧
  (∀ (i : Nat) (q : String × Nat × String × String × String × String), vNF[i]? = some q → va_Nw (.fieldLinkNest q.1 q.2.1 q.2.2.1 q.2.2.2.1 q.2.2.2.2.1 q.2.2.2.2.2) U) ∧ (∀ (i : Nat) (q : String × Nat × MethodName × String), vNM[i]? = some q → va_Nw (.methodLinkNest q.1 q.2.1 q.2.2.1 q.2.2.2) U) ∧ va_Zq RJ3 "SIOOBE_FORMATTER" "Ljava/util/function/BiFunction;" (vA D) U U.heap ∧
  (∀ i : Nat, i < 3 → va_Nw (.castable (vE i) (vE i)) U) ∧ (∀ i j : Nat, i < 3 → j < 3 → i ≠ j → va_Nc (vE i) (vE j) U) ∧ (∀ (i : Nat) (C : String), vAO[i]? = some C → va_AO C U) ∧ ∀ (i : Nat) (C : String), vDc[i]? = some C → va_Nw (.declares (Bundle.initS C)) U
def vPre (D : vD) (M : vMe) (U : State) : Prop := vS D U ∧ vRp D M U.heap
def qW (D : vD) (ov : Option Value) (M1 : vMe) : Array Value → State → Outcome → State → Prop := fun _ st oc t => oc = .returned ov ∧ vRp D M1 t.heap ∧ va_F (vA D) st t
theorem vS.moved {U : State} (h : vS D s) (hW : s.WarmedH U.vm) (hk : ∀ q : Nat, q < s.heap.size → ¬ vA D q → U.heap[q]? = s.heap[q]?) : vS D U := by
  obtain ⟨h1, ⟨h2, h3⟩, h4, h5, h6, h7, h8, h9, h10, h11, h12, h13⟩ := h
  exact ⟨h1.moved hW.alike, ⟨(h2.moved hW.alike).kept hk, (h3.moved hW.alike).kept hk⟩, fun i q hq => (h4 i q hq).warm hW, fun i q hq => ((h5 i q hq).moved hW.alike).kept hk, (h6.moved hW.alike).kept hk, fun i q hq => va_Nw.warmF hW (h7 i q hq), fun i q hq => va_Nw.warmM hW (h8 i q hq), (h9.moved hW.alike).kept hk, fun i hi => va_Nw.warmC hW (h10 i hi), fun i j hi hj hij => (h11 i j hi hj hij).moved hW.alike, fun i C hC => (h12 i C hC).moved hW.alike, fun i C hC => va_Nw.warmD hW (h13 i C hC)⟩
theorem v_blind (D : vD) (M : vMe) (As : List Value) : FrameBlind (va_Pc As (vPre D M)) := by
  intro a U g mk ⟨e, h, hR⟩
  exact ⟨e, h.moved (s := U) (U := U.calling g mk a) (State.WarmedH.refl U) (fun _ _ _ => rfl), hR⟩
theorem v_preS (hSS : vS D s) (hR : vRp D M H) (hS : va_S (vA D) s.heap H locs) (As : List Value) : PreS s H (va_Pc As (vPre D M)) As :=
  ⟨v_blind D M As, fun U hU hW => ⟨rfl, hSS.moved hW (fun q h1 h2 => by rw [hU]; exact hS.2.1 q h1 h2), by rw [hU]; exact hR⟩⟩
theorem v_preV {C : String} {T : u_T} {N ci b : Nat} (hSS : vS D s) (hR : vRp D M H) (hS : va_S (vA D) s.heap H locs) (htg : (M.1 b).1 = ci + 1) (hci : ci < 99) (hc : vCl[ci]? = some (C, T, N)) (As : List Value) : PreV s H C b (va_Pc (.ref b :: As) (vPre D M)) As := by
  refine ⟨v_blind D M _, ?_, fun U hU hW => ⟨rfl, hSS.moved hW (fun q h1 h2 => by rw [hU]; exact hS.2.1 q h1 h2), by rw [hU]; exact hR⟩⟩
  obtain ⟨r, h1, ⟨cell, q1, q2, q3, -⟩, -⟩ := (hR.1 b).1 (by omega) (by omega)
  rw [htg, Nat.add_sub_cancel] at h1 q2
  cases Option.some.inj (h1.symm.trans hc)
  exact ⟨cell, q1, q3.1, by rw [q2]; exact (hSS.1.1 ci _ hc).2.1⟩
/-! a call -/
theorem v_call {a : Array Value} {ov : Option Value} {mc ms : Nat} (hr : ∀ H locs, vRp D M H → va_S (vA D) s.heap H locs → va_Run p l e R s m args below meth c H locs n k mc ms (F0 m pc ls st0) rest (qW D ov M1 a) (vA D))
    (kk : vV D p l e R s m args below meth c (n + mc) (k + ms) Q M1 (F0 m (pc + 3) ls (ov.toList ++ rest))) : vV D p l e R s m args below meth c n k Q M (F0 m pc ls st0) := by
  intro H locs hR hS T hT X
  obtain ⟨v, st₀, t, T', L, h0, X', hL, e1, e2, ⟨hv, hR1, hF⟩, st⟩ := hr H locs hR hS T hT X
  cases hv
  obtain ⟨k1, k2, k3⟩ := vx_keep h0 e1 hS (fun q _ h => h) (fun q h => h) hL hF
  obtain ⟨t2, a1, b1⟩ := kk T'.heap (locs ++ L) (by rw [e1]; exact hR1) k3 T' rfl X'
  exact ⟨t2, st t2 a1, b1⟩
/-! a method's ends -/
theorem v_iret {x : Int32} (hx : p.tables.exec = Jvm.exec) (hb : c.code = cc) (hr : meth.sig.returnType = some .int) (hlocks : meth.locks = false) (hdg : decode cc pc = .ok (.ireturn, 1)) : vV D p l e R s m args below meth c n k (MQ below (qW D (some (.int x)) M) args s n k (vA D)) M (F0 m pc ls [.int x]) :=
  fun _ _ hR hS => W.iret hx hb hr (fun t ht _ => ⟨rfl, by rw [ht]; exact hR, hS.F ht⟩) hS.2.2 hdg hlocks
theorem v_zret {x : Int32} (hx : p.tables.exec = Jvm.exec) (hb : c.code = cc) (hr : meth.sig.returnType = some .boolean) (hlocks : meth.locks = false) (hz : narrow .boolean (.int x) = .int x) (hdg : decode cc pc = .ok (.ireturn, 1)) : vV D p l e R s m args below meth c n k (MQ below (qW D (some (.int x)) M) args s n k (vA D)) M (F0 m pc ls [.int x]) :=
  fun _ _ hR hS => W.zret hx hb hr hz (fun t ht _ => ⟨rfl, by rw [ht]; exact hR, hS.F ht⟩) hS.2.2 hdg hlocks
theorem v_xret {x : Int32} {ty : FieldType} (hx : p.tables.exec = Jvm.exec) (hb : c.code = cc) (hr : meth.sig.returnType = some ty) (hlocks : meth.locks = false) (hz : narrow ty (.int x) = .int x) (hdg : decode cc pc = .ok (.ireturn, 1)) : vV D p l e R s m args below meth c n k (MQ below (qW D (some (.int x)) M) args s n k (vA D)) M (F0 m pc ls [.int x]) :=
  fun _ _ hR hS => W.zret hx hb hr hz (fun t ht _ => ⟨rfl, by rw [ht]; exact hR, hS.F ht⟩) hS.2.2 hdg hlocks
theorem v_vret (hx : p.tables.exec = Jvm.exec) (hb : c.code = cc) (hr : meth.sig.returnType = none) (hlocks : meth.locks = false) (hdg : decode cc pc = .ok (.return_, 1)) : vV D p l e R s m args below meth c n k (MQ below (qW D none M) args s n k (vA D)) M (F0 m pc ls []) :=
  fun _ _ hR hS => W.vret hx hb hr (fun t ht _ => ⟨rfl, by rw [ht]; exact hR, hS.F ht⟩) hS.2.2 hdg hlocks
theorem v_lret {x : Int64} (hx : p.tables.exec = Jvm.exec) (hb : c.code = cc) (hr : meth.sig.returnType = some .long) (hlocks : meth.locks = false) (hdg : decode cc pc = .ok (.lreturn, 1)) : vV D p l e R s m args below meth c n k (MQ below (qW D (some (.long x)) M) args s n k (vA D)) M (F0 m pc ls [.long x]) :=
  fun _ _ hR hS => W.lret hx hb hr (fun t ht _ => ⟨rfl, by rw [ht]; exact hR, hS.F ht⟩) hS.2.2 hdg hlocks
theorem v_dret {x : UInt64} (hx : p.tables.exec = Jvm.exec) (hb : c.code = cc) (hr : meth.sig.returnType = some .double) (hlocks : meth.locks = false) (hdg : decode cc pc = .ok (.dreturn, 1)) : vV D p l e R s m args below meth c n k (MQ below (qW D (some (.double x)) M) args s n k (vA D)) M (F0 m pc ls [.double x]) :=
  fun _ _ hR hS => W.dret hx hb hr (fun t ht _ => ⟨rfl, by rw [ht]; exact hR, hS.F ht⟩) hS.2.2 hdg hlocks
theorem v_aret {v : Value} {rt : FieldType} (hx : p.tables.exec = Jvm.exec) (hb : c.code = cc) (hr : meth.sig.returnType = some rt) (hrt : (∃ n, rt = .object n) ∨ ∃ t, rt = .array t) (hv : v = .null ∨ ∃ a, v = .ref a) (hlocks : meth.locks = false) (hdg : decode cc pc = .ok (.areturn, 1)) : vV D p l e R s m args below meth c n k (MQ below (qW D (some v) M) args s n k (vA D)) M (F0 m pc ls [v]) :=
  fun _ _ hR hS => W.aret hx hb hr hrt hv (fun t ht _ => ⟨rfl, by rw [ht]; exact hR, hS.F ht⟩) hS.2.2 hdg hlocks
/-! a method's start -/
theorem v_ofW {y : MethodName} {rm : Room} {mc ms maxL : Nat} {ret : Option FieldType} {As : List Value} {ov : Option Value} (hy : plainName y.cls = true) (hlen : (lg_sl As).length ≤ maxL)
    (body : ∀ (p : Program) (e : Env) (s : State) (m : MethodId) (args : Array Value) (below : List Frame) (meth : Method) (c : Code) (Q : State → Prop), p.tables.exec = Jvm.exec → c.code = cc → meth.sig.returnType = ret → c.maxLocals = maxL → s.vm.findClass y.cls = some m.cls → (∀ w ∈ TB, w.before args s = true) → meth.locks = false → meth.name = y.name → vS D s → vRp D M s.heap → Q = MQ below (qW D ov M1) args s mc ms (vA D) →
      ∀ ls : Array Slot, lv_has ls maxL (lv_args 0 As) → vV D p l e rm s m args below meth c 0 0 Q M (F0 m 0 ls [])) : Met l y (Cond.code y cc maxL ret :: TB) rm (va_Pc As (vPre D M)) (qW D ov M1) mc ms (vA D) := by
  refine Met.ofW (cc := cc) (maxL := maxL) (ret := ret) hy rfl ?_
  intro p e s m args below meth c s₁ B hml hv
  obtain ⟨rfl, hSS, hR⟩ := hv
  have hl := lv_entry As (n := maxL) hlen
  rw [lg_entry_eq]
  have hts := atoms_spec (ws := Cond.code y cc maxL ret :: TB) B.pre
  exact body p e s m As.toArray below meth c _ B.exec B.bytes B.returns hml (findClass_of_methodNamed B.named) (fun w hw => hts w (List.mem_cons_of_mem _ hw)) B.notSynchronized (name_of_methodNamed B.named B.method).1 hSS hR rfl _ hl s.heap [] hR va_S.rf
end VC
/-! small steps of the transcriptions -/
def vF : Nat := 100000
theorem v_bnd {α β : Type} {o : Option α} {f : α → Option β} {b : β} (h : o.bind f = some b) : ∃ a, o = some a ∧ f a = some b := by
  cases o with
  | none => cases h
  | some a => exact ⟨a, rfl, h⟩
theorem v_ifs {α : Type} {c : Prop} [Decidable c] {x : Option α} {v : α} (h : (if c then x else none) = some v) : c ∧ x = some v := by
  split at h
  · exact ⟨by assumption, h⟩
  · cases h
theorem v_inr {α β γ : Type} {f : α → γ} {g : β → γ} {z : α ⊕ β} {w : β} {r : γ} (hz : z = Sum.inr w) (h : Sum.elim f g z = r) : g w = r := by subst hz; exact h
theorem v_inl {α β γ : Type} {f : α → γ} {g : β → γ} {z : α ⊕ β} {w : α} {r : γ} (hz : z = Sum.inl w) (h : Sum.elim f g z = r) : f w = r := by subst hz; exact h
theorem v_cq (o : Option Nat) : (va_rf o).category = 1 := by cases o <;> rfl
theorem v_nr (o : Option Nat) : va_rf o = .null ∨ ∃ a, va_rf o = .ref a := by
  cases o with
  | none => exact Or.inl rfl
  | some a => exact Or.inr ⟨a, rfl⟩
theorem v_fitQ {C : String} (o : Option Nat) : fits (.object C) (va_rf o) = true := by cases o <;> rfl
theorem v_narZ {x : Int32} (h : fits .boolean (.int x) = true) : narrow .boolean (.int x) = .int x := by
  have h1 : (x == 0 || x == 1) = true := h
  rcases Bool.or_eq_true _ _ ▸ h1 with q | q
  · rw [eq_of_beq q]; rfl
  · rw [eq_of_beq q]; rfl
theorem v_narB {x : Int32} (h : fits .byte (.int x) = true) : narrow .byte (.int x) = .int x := by
  have h1 : (decide (-128 ≤ x) && decide (x ≤ 127)) = true := h
  rw [Bool.and_eq_true, decide_eq_true_eq, decide_eq_true_eq, Int32.le_iff_toInt_le, Int32.le_iff_toInt_le] at h1
  have e1 : (-128 : Int32).toInt = -128 := by decide
  have e2 : (127 : Int32).toInt = 127 := by decide
  rw [e1, e2] at h1
  show Value.int x.toInt8.toInt32 = _
  congr 1
  apply Int32.toInt_inj.mp
  rw [Int8.toInt_toInt32, Int32.toInt_toInt8]
  exact Int.bmod_eq_of_le (by omega) (by omega)
theorem v_narC {x : Int32} (h : fits .char (.int x) = true) : narrow .char (.int x) = .int x := by
  have h1 : (decide (0 ≤ x) && decide (x ≤ 65535)) = true := h
  rw [Bool.and_eq_true, decide_eq_true_eq, decide_eq_true_eq] at h1
  obtain ⟨j, h2, rfl⟩ := nI_of (x := x) (Int32.not_lt.mpr h1.1)
  have h3 := h1.2
  rw [show (65535 : Int32) = nI 65535 from rfl, nI_leI (by omega) (by decide)] at h3
  exact (pk_charN (by omega)).1
theorem v_cpI : 100 < 101 ∧ refKind (vAty 101) = false ∧ ∀ v, fits (vAty 101) v = true → ∃ z, v = .int z := ⟨by decide, rfl, fun v h => ⟨vI v, vI_of h (Or.inl rfl)⟩⟩
theorem v_cpB : 100 < 102 ∧ refKind (vAty 102) = false ∧ ∀ v, fits (vAty 102) v = true → ∃ z, v = .int z := ⟨by decide, rfl, fun v h => ⟨vI v, vI_of h (Or.inr (Or.inr rfl))⟩⟩
theorem v_nclt (x : Int32) : x.toNatClampNeg < 2 ^ 31 := by
  have := Int32.toInt_lt x
  show x.toInt.toNat < _
  omega
section VE
variable {p : Program} {l : Launch} {e : Env} {R : Room} {s : State} {m : MethodId} {args : Array Value} {below : List Frame} {meth : Method} {c : Code} {H : Heap} {locs : List Loc} {cells slots n k : Nat} {Q : State → Prop}
variable {D : vD} {M M1 : vMe} {cc : ByteArray} {pc : Nat} {ls : Array Slot} {rest st0 : List Value}
def gA (M : vMe) (a tg k : Nat) : Option Nat := if (M.1 a).1 = tg then vR ((M.1 a).2.2 k) else none
def aA (M : vMe) (a tg : Nat) (i : Int32) : Option Nat := if (M.1 a).1 = tg ∧ ¬ (i < 0 ∨ (M.1 a).2.1 ≤ i.toNatClampNeg) then vR ((M.1 a).2.2 i.toNatClampNeg) else none
theorem v_gA {own ref C : String} {T : u_T} {N ci index a v : Nat} {Ts : List Cond} {tg : Nat} (hx : p.tables.exec = Jvm.exec) (hb : c.code = cc) (hts : ∀ w ∈ Ts, w.before args s = true) (hin : ∀ w ∈ u_ws C T N, w ∈ Ts) (hown : s.vm.findClass own = some m.cls) (hK : vK D s) (j : Nat)
    (hv : gA M a tg j = some v) (hc : vCl[ci]? = some (C, T, N)) (hq : tg = ci + 1 ∧ ci < 99 ∧ j < N ∧ (vTy ci j).isReference = true) (hlink : (Cond.fieldLink own index ref (T j).2.1 (T j).2.2.1).before args s = true ∨ ∃ host, (Cond.fieldLinkNest own index ref (T j).2.1 (T j).2.2.1 host).before args s = true) (hsame : ∀ x, s.fieldFound? (T j).1 (T j).2.1 (T j).2.2.1 = some x → s.fieldFound? ref (T j).2.1 (T j).2.2.1 = some x)
    (hdg : decode cc pc = .ok (.getfield index, 3))
    (kk : vV D p l e R s m args below meth c n k Q M (F0 m (pc + 3) ls (.ref v :: rest))) : vV D p l e R s m args below meth c n k Q M (F0 m pc ls (.ref a :: rest)) := by
  obtain ⟨h1, h2⟩ := v_ifs hv
  exact v_getf hx hb hts hin hown hK (h1.trans hq.1) hq.2.1 hc j hq.2.2.1 hlink hsame (fun h => by rw [vR_of h hq.2.2.2, h2]; rfl) hdg kk
theorem v_aaldA {a tg v : Nat} {i : Int32} (hx : p.tables.exec = Jvm.exec) (hb : c.code = cc) (hK : vK D s) (hv : aA M a tg i = some v) (ht : 100 < tg ∧ (vAty tg).isReference = true) (hdg : decode cc pc = .ok (.aaload, 1))
    (kk : vV D p l e R s m args below meth c n k Q M (F0 m (pc + 1) ls (.ref v :: rest))) : vV D p l e R s m args below meth c n k Q M (F0 m pc ls (.int i :: .ref a :: rest)) := by
  obtain ⟨h1, h2⟩ := v_ifs hv
  have hv2 : aR M a tg i = some (some v) := by unfold aR; rw [if_pos h1, h2]
  exact v_aald hx hb hK hv2 ht hdg kk
theorem v_call0 {a : Array Value} {mc ms : Nat} (hr : ∀ H locs, vRp D M H → va_S (vA D) s.heap H locs → va_Run p l e R s m args below meth c H locs n k mc ms (F0 m pc ls st0) rest (qW D none M1 a) (vA D))
    (kk : vV D p l e R s m args below meth c (n + mc) (k + ms) Q M1 (F0 m (pc + 3) ls rest)) : vV D p l e R s m args below meth c n k Q M (F0 m pc ls st0) := v_call (ov := none) hr kk
theorem v_call1 {a : Array Value} {v : Value} {mc ms : Nat} (hr : ∀ H locs, vRp D M H → va_S (vA D) s.heap H locs → va_Run p l e R s m args below meth c H locs n k mc ms (F0 m pc ls st0) rest (qW D (some v) M1 a) (vA D))
    (kk : vV D p l e R s m args below meth c (n + mc) (k + ms) Q M1 (F0 m (pc + 3) ls (v :: rest))) : vV D p l e R s m args below meth c n k Q M (F0 m pc ls st0) := v_call (ov := some v) hr kk
theorem v_objInit {own : String} {index a : Nat} (hx : p.tables.exec = Jvm.exec) (hb : c.code = cc) (hown : s.vm.findClass own = some m.cls) (hlink : (Cond.methodLink own index objectInit).before args s = true) (hinst : (Cond.instanceMethod objectInit).before args s = true) (hcode : (Cond.code objectInit ⟨#[0xb1]⟩ 1 none).before args s = true)
    (hsz : ls.size = c.maxLocals) (hdg : decode cc pc = .ok (.invokespecial index, 3)) (hf : 1 ≤ R.frames) (hlo : (rest.map fun v => v.category).sum + 12 ≤ R.locals)
    (kk : vV D p l e R s m args below meth c n k Q M (F0 m (pc + 3) ls rest)) : vV D p l e R s m args below meth c n k Q M (F0 m pc ls (.ref a :: rest)) :=
  fun H locs hR hS => W.objInit hx hb hown hlink hinst hcode rfl hsz rfl hdg hf (by show 2 * 0 + _ + 12 ≤ _; omega) (kk H locs hR hS)
/-! the room, as the heap tells it -/
theorem vSum_split {H0 H : Heap} {b : Nat} (hb : b ≤ H0.size) (hz : H0.size ≤ H.size) (hsame : ∀ (a : Nat) (x : Cell), H0[a]? = some x → ∃ y : Cell, H[a]? = some y ∧ y.slots.size = x.slots.size) : vSum b H = vSum b H0 + ((H.toList.drop H0.size).map (fun c => c.slots.size)).sum := by
  have e : (H.toList.map (fun c => c.slots.size)).take H0.size = H0.toList.map (fun c => c.slots.size) := by
    apply List.ext_getElem?
    intro i
    rw [List.getElem?_take, List.getElem?_map, List.getElem?_map, Array.getElem?_toList, Array.getElem?_toList]
    by_cases hi : i < H0.size
    · rw [if_pos hi]
      obtain ⟨y, h1, h2⟩ := hsame i _ (Array.getElem?_eq_getElem hi)
      rw [h1, Array.getElem?_eq_getElem hi]
      simp [h2]
    · rw [if_neg hi, Array.getElem?_eq_none (by omega)]
      rfl
  unfold vSum
  rw [List.map_drop, List.map_drop, List.map_drop]
  rw [← List.take_append_drop H0.size (H.toList.map (fun c => c.slots.size)), e]
  rw [List.drop_append_of_le_length (by simpa using hb), List.sum_append]
  congr 2
  rw [List.drop_append_of_le_length (by simp)]
  simp
theorem v_tight {g : JFrame} (hb0 : D.2.2.2.1 ≤ s.heap.size) (kk : vV D p l e R s m args below meth c (M.2.1 - s.heap.size) (M.2.2.1 - vSum D.2.2.2.1 s.heap) Q M g) : vV D p l e R s m args below meth c n k Q M g := by
  intro H locs hR hS T hT X
  have hs := X.same
  obtain ⟨q1, q2, q3, q4, q5, q6⟩ := hs
  have hh : (T.setVm s.vm).heap = H := hT
  rw [hh] at q2 q3 q5
  have hsum := vSum_split (H0 := s.heap) (H := H) hb0 q2 (fun a x hx => by
    obtain ⟨y, h1, -, h3, -⟩ := q6 a x hx
    rw [hh] at h1
    exact ⟨y, h1, h3⟩)
  rw [hR.2.2.1] at hsum
  have hsz := hR.2.1
  refine kk H locs hR hS T hT { X with same := ⟨q1, by rw [hh]; exact q2, by rw [hh]; omega, q4, by rw [hh]; omega, q6⟩ }
def nwO (M : vMe) (tg len sl : Nat) (f : Nat → Value) (n0 s0 mc ms : Nat) : Option vMe := if M.2.1 + 1 ≤ n0 + mc ∧ M.2.2.1 + sl ≤ s0 + ms ∧ sl ≤ ms then some (nw M tg len sl f) else none
theorem u_new {own C : String} {T : u_T} {N nn ci index tg n0 s0 mc ms : Nat} {Ts : List Cond} {f : Nat → Value} (hx : p.tables.exec = Jvm.exec) (hb : c.code = cc) (hts : ∀ w ∈ Ts, w.before args s = true) (hin : ∀ w ∈ u_ws C T N, w ∈ Ts) (hown : s.vm.findClass own = some m.cls) (hK : vK D s)
    (hty : ∀ i, i < N → parseFieldDescriptor (T i).2.2.1 = some (vTy ci i)) (hc : vCl[ci]? = some (C, T, N)) (hcl : (Cond.classLink own index C).before args s = true) (hinst : (Cond.instantiable C nn).before args s = true) (hini : (Cond.initialized C).before args s = true)
    (hf : ∀ i, i < N → defaultValue (vTy ci i) = f i) (hfit : ∀ i, i < N → fits (vTy ci i) (f i) = true) (hci : tg = ci + 1 ∧ ci < 99) (hb0 : D.2.2.2.1 ≤ s.heap.size) (hz0 : s.heap.size = n0) (hs0 : vSum D.2.2.2.1 s.heap = s0) (hRc : R.cells = mc) (hRs : R.slots = ms)
    (hv : nwO M tg 0 nn f n0 s0 mc ms = some M1) (hdg : decode cc pc = .ok (.new index, 3))
    (kk : vV D p l e R s m args below meth c (M1.2.1 - s.heap.size) (M1.2.2.1 - vSum D.2.2.2.1 s.heap) Q M1 (F0 m (pc + 3) ls (.ref M.2.1 :: rest))) : vV D p l e R s m args below meth c n k Q M (F0 m pc ls rest) := by
  obtain ⟨⟨g1, g2, g3⟩, rfl⟩ := v_tag hv
  obtain ⟨rfl, hci⟩ := hci
  refine v_tight hb0 ?_
  intro H locs hR hS
  have hz := hS.1
  have hsz := hR.2.1
  exact v_new hx hb hts hin hown hK hty hc hcl hinst hini hf hfit hci (by omega) (by omega) hdg (v_tight hb0 kk) H locs hR hS
theorem u_newa {tg N n0 s0 mc ms : Nat} {dv : Value} {atype : ArrayType} {x : Int32} (hx : p.tables.exec = Jvm.exec) (hb : c.code = cc) (hK : vK D s) (harr : (Cond.arrayClass (newarray.typeOf atype)).before args s = true) (hty : 100 < tg ∧ tg < 111 ∧ newarray.typeOf atype = vAty tg ∧ (vAty tg).isReference = false)
    (hn : ¬ x < 0) (hN : x.toNatClampNeg = N) (hbytes : N * componentBytes (vAty tg) ≤ 536870912) (hN2 : N < 2 ^ 31) (hfit : fits (vAty tg) dv = true ∧ dv = defaultValue (vAty tg)) (hb0 : D.2.2.2.1 ≤ s.heap.size) (hz0 : s.heap.size = n0) (hs0 : vSum D.2.2.2.1 s.heap = s0) (hRc : R.cells = mc) (hRs : R.slots = ms)
    (hv : nwO M tg N N (fun _ => dv) n0 s0 mc ms = some M1) (hdg : decode cc pc = .ok (.newarray atype, 2))
    (kk : vV D p l e R s m args below meth c (M1.2.1 - s.heap.size) (M1.2.2.1 - vSum D.2.2.2.1 s.heap) Q M1 (F0 m (pc + 2) ls (.ref M.2.1 :: rest))) : vV D p l e R s m args below meth c n k Q M (F0 m pc ls (.int x :: rest)) := by
  obtain ⟨⟨g1, g2, g3⟩, rfl⟩ := v_tag hv
  obtain ⟨hfit, rfl⟩ := hfit
  refine v_tight hb0 ?_
  intro H locs hR hS
  have hz := hS.1
  have hsz := hR.2.1
  exact v_newa hx hb hK harr hty hn hN hbytes hN2 hfit (by omega) (by omega) hdg (v_tight hb0 kk) H locs hR hS
theorem u_anew {own C : String} {index tg N n0 s0 mc ms : Nat} {x : Int32} (hx : p.tables.exec = Jvm.exec) (hb : c.code = cc) (hK : vK D s) (hown : s.vm.findClass own = some m.cls) (hcl : (Cond.classLink own index C).before args s = true) (hover : (Cond.arrayOver (.object C)).before args s = true) (hty : 100 < tg ∧ tg < 111 ∧ vAty tg = .object C)
    (hn : ¬ x < 0) (hN : x.toNatClampNeg = N) (hbytes : N * 4 ≤ 536870912) (hN2 : N < 2 ^ 31) (hb0 : D.2.2.2.1 ≤ s.heap.size) (hz0 : s.heap.size = n0) (hs0 : vSum D.2.2.2.1 s.heap = s0) (hRc : R.cells = mc) (hRs : R.slots = ms)
    (hv : nwO M tg N N (fun _ => .null) n0 s0 mc ms = some M1) (hdg : decode cc pc = .ok (.anewarray index, 3))
    (kk : vV D p l e R s m args below meth c (M1.2.1 - s.heap.size) (M1.2.2.1 - vSum D.2.2.2.1 s.heap) Q M1 (F0 m (pc + 3) ls (.ref M.2.1 :: rest))) : vV D p l e R s m args below meth c n k Q M (F0 m pc ls (.int x :: rest)) := by
  obtain ⟨⟨g1, g2, g3⟩, rfl⟩ := v_tag hv
  refine v_tight hb0 ?_
  intro H locs hR hS
  have hz := hS.1
  have hsz := hR.2.1
  exact v_anew hx hb hK hown hcl hover hty hn hN hbytes hN2 (by omega) (by omega) hdg (v_tight hb0 kk) H locs hR hS
theorem w_tabIn {dflt lo hi : Int} {offs : Array Int} {len : Nat} {x : Int32} {off : Int} {tgt : Nat} (hx : p.tables.exec = Jvm.exec) (hb : c.code = cc) (hdg : decode cc pc = .ok (.tableswitch dflt lo hi offs, len)) (h1 : ¬ x.toInt < lo) (h2 : ¬ hi < x.toInt) (ho : offs[(x.toInt - lo).toNat]? = some off) (ht : (pc : Int) + off = (tgt : Int))
    (kk : vV D p l e R s m args below meth c n k Q M (F0 m tgt ls rest)) : vV D p l e R s m args below meth c n k Q M (F0 m pc ls (.int x :: rest)) := fun H locs hR hS => lv_tableIn hx hb hdg h1 h2 ho ht (kk H locs hR hS)
theorem w_tabOut {dflt lo hi : Int} {offs : Array Int} {len : Nat} {x : Int32} {tgt : Nat} (hx : p.tables.exec = Jvm.exec) (hb : c.code = cc) (hdg : decode cc pc = .ok (.tableswitch dflt lo hi offs, len)) (h : x.toInt < lo ∨ hi < x.toInt) (ht : (pc : Int) + dflt = (tgt : Int))
    (kk : vV D p l e R s m args below meth c n k Q M (F0 m tgt ls rest)) : vV D p l e R s m args below meth c n k Q M (F0 m pc ls (.int x :: rest)) := fun H locs hR hS => lv_tableOut hx hb hdg h ht (kk H locs hR hS)
end VE
end
section
section VD
variable {p : Program} {l : Launch} {e : Env} {R : Room} {s : State} {m : MethodId} {args : Array Value} {below : List Frame} {meth : Method} {c : Code} {n k : Nat} {Q : State → Prop} {D : vD} {M : vMe} {cc : ByteArray} {pc : Nat} {ls : Array Slot} {rest : List Value}
theorem w_iconst (hx : p.tables.exec = Jvm.exec) (hb : c.code = cc) {z : Int} {v : Int32} (hdg : decode cc pc = .ok (.iconst z, 1)) (hv : Int32.ofInt z = v) (kk : vV D p l e R s m args below meth c n k Q M (F0 m (pc + 1) ls (.int v :: rest))) : vV D p l e R s m args below meth c n k Q M (F0 m pc ls rest) := fun H locs hR hS => lv_iconst hx hb hdg hv (kk H locs hR hS)
theorem w_bipush (hx : p.tables.exec = Jvm.exec) (hb : c.code = cc) {z : Int} {v : Int32} (hdg : decode cc pc = .ok (.bipush z, 2)) (hv : (Int8.ofInt z).toInt32 = v) (kk : vV D p l e R s m args below meth c n k Q M (F0 m (pc + 2) ls (.int v :: rest))) : vV D p l e R s m args below meth c n k Q M (F0 m pc ls rest) := fun H locs hR hS => lv_bipush hx hb hdg hv (kk H locs hR hS)
theorem w_sipush (hx : p.tables.exec = Jvm.exec) (hb : c.code = cc) {z : Int} {v : Int32} (hdg : decode cc pc = .ok (.sipush z, 3)) (hv : (Int16.ofInt z).toInt32 = v) (kk : vV D p l e R s m args below meth c n k Q M (F0 m (pc + 3) ls (.int v :: rest))) : vV D p l e R s m args below meth c n k Q M (F0 m pc ls rest) := fun H locs hR hS => lv_sipush hx hb hdg hv (kk H locs hR hS)
theorem w_lconst (hx : p.tables.exec = Jvm.exec) (hb : c.code = cc) {z : Fin 2} {v : Int64} (hdg : decode cc pc = .ok (.lconst z, 1)) (hv : Int64.ofNat (z : Nat) = v) (kk : vV D p l e R s m args below meth c n k Q M (F0 m (pc + 1) ls (.long v :: rest))) : vV D p l e R s m args below meth c n k Q M (F0 m pc ls rest) := fun H locs hR hS => lv_lconst hx hb hdg hv (kk H locs hR hS)
theorem w_dconst0 (hx : p.tables.exec = Jvm.exec) (hb : c.code = cc)  (hdg : decode cc pc = .ok (.dconst 0, 1))  (kk : vV D p l e R s m args below meth c n k Q M (F0 m (pc + 1) ls (.double 0 :: rest))) : vV D p l e R s m args below meth c n k Q M (F0 m pc ls rest) := fun H locs hR hS => lv_dconst0 hx hb hdg  (kk H locs hR hS)
theorem w_dconst1 (hx : p.tables.exec = Jvm.exec) (hb : c.code = cc)  (hdg : decode cc pc = .ok (.dconst 1, 1))  (kk : vV D p l e R s m args below meth c n k Q M (F0 m (pc + 1) ls (.double 0x3FF0000000000000 :: rest))) : vV D p l e R s m args below meth c n k Q M (F0 m pc ls rest) := fun H locs hR hS => lv_dconst1 hx hb hdg  (kk H locs hR hS)
theorem w_iload_n (hx : p.tables.exec = Jvm.exec) (hb : c.code = cc) {q : Fin 4} {i : Nat} {x : Int32} (hdg : decode cc pc = .ok (.iload_n q, 1)) (hi : (q : Nat) = i) (hl : ls[i]? = some (.val (.int x))) (kk : vV D p l e R s m args below meth c n k Q M (F0 m (pc + 1) ls (.int x :: rest))) : vV D p l e R s m args below meth c n k Q M (F0 m pc ls rest) := fun H locs hR hS => lv_iload_n hx hb hdg hi hl (kk H locs hR hS)
theorem w_iload (hx : p.tables.exec = Jvm.exec) (hb : c.code = cc) {i : Nat} {x : Int32} (hdg : decode cc pc = .ok (.iload i, 2)) (hl : ls[i]? = some (.val (.int x))) (kk : vV D p l e R s m args below meth c n k Q M (F0 m (pc + 2) ls (.int x :: rest))) : vV D p l e R s m args below meth c n k Q M (F0 m pc ls rest) := fun H locs hR hS => lv_iload hx hb hdg hl (kk H locs hR hS)
theorem w_lload_n (hx : p.tables.exec = Jvm.exec) (hb : c.code = cc) {q : Fin 4} {i : Nat} {x : Int64} (hdg : decode cc pc = .ok (.lload_n q, 1)) (hi : (q : Nat) = i) (hl : ls[i]? = some (.val (.long x))) (kk : vV D p l e R s m args below meth c n k Q M (F0 m (pc + 1) ls (.long x :: rest))) : vV D p l e R s m args below meth c n k Q M (F0 m pc ls rest) := fun H locs hR hS => lv_lload_n hx hb hdg hi hl (kk H locs hR hS)
theorem w_lload (hx : p.tables.exec = Jvm.exec) (hb : c.code = cc) {i : Nat} {x : Int64} (hdg : decode cc pc = .ok (.lload i, 2)) (hl : ls[i]? = some (.val (.long x))) (kk : vV D p l e R s m args below meth c n k Q M (F0 m (pc + 2) ls (.long x :: rest))) : vV D p l e R s m args below meth c n k Q M (F0 m pc ls rest) := fun H locs hR hS => lv_lload hx hb hdg hl (kk H locs hR hS)
theorem w_dload_n (hx : p.tables.exec = Jvm.exec) (hb : c.code = cc) {q : Fin 4} {i : Nat} {x : UInt64} (hdg : decode cc pc = .ok (.dload_n q, 1)) (hi : (q : Nat) = i) (hl : ls[i]? = some (.val (.double x))) (kk : vV D p l e R s m args below meth c n k Q M (F0 m (pc + 1) ls (.double x :: rest))) : vV D p l e R s m args below meth c n k Q M (F0 m pc ls rest) := fun H locs hR hS => lv_dload_n hx hb hdg hi hl (kk H locs hR hS)
theorem w_dload (hx : p.tables.exec = Jvm.exec) (hb : c.code = cc) {i : Nat} {x : UInt64} (hdg : decode cc pc = .ok (.dload i, 2)) (hl : ls[i]? = some (.val (.double x))) (kk : vV D p l e R s m args below meth c n k Q M (F0 m (pc + 2) ls (.double x :: rest))) : vV D p l e R s m args below meth c n k Q M (F0 m pc ls rest) := fun H locs hR hS => lv_dload hx hb hdg hl (kk H locs hR hS)
theorem w_aload_n (hx : p.tables.exec = Jvm.exec) (hb : c.code = cc) {q : Fin 4} {i : Nat} {x : Nat} (hdg : decode cc pc = .ok (.aload_n q, 1)) (hi : (q : Nat) = i) (hl : ls[i]? = some (.val (.ref x))) (kk : vV D p l e R s m args below meth c n k Q M (F0 m (pc + 1) ls (.ref x :: rest))) : vV D p l e R s m args below meth c n k Q M (F0 m pc ls rest) := fun H locs hR hS => lv_aload_n hx hb hdg hi hl (kk H locs hR hS)
theorem w_aload (hx : p.tables.exec = Jvm.exec) (hb : c.code = cc) {i : Nat} {x : Nat} (hdg : decode cc pc = .ok (.aload i, 2)) (hl : ls[i]? = some (.val (.ref x))) (kk : vV D p l e R s m args below meth c n k Q M (F0 m (pc + 2) ls (.ref x :: rest))) : vV D p l e R s m args below meth c n k Q M (F0 m pc ls rest) := fun H locs hR hS => lv_aload hx hb hdg hl (kk H locs hR hS)
theorem w_iadd (hx : p.tables.exec = Jvm.exec) (hb : c.code = cc) {x y : Int32} (hdg : decode cc pc = .ok (.iadd, 1))  (kk : vV D p l e R s m args below meth c n k Q M (F0 m (pc + 1) ls (.int (x + y) :: rest))) : vV D p l e R s m args below meth c n k Q M (F0 m pc ls (.int y :: .int x :: rest)) := fun H locs hR hS => lv_iadd hx hb hdg  (kk H locs hR hS)
theorem w_ladd (hx : p.tables.exec = Jvm.exec) (hb : c.code = cc) {x y : Int64} (hdg : decode cc pc = .ok (.ladd, 1))  (kk : vV D p l e R s m args below meth c n k Q M (F0 m (pc + 1) ls (.long (x + y) :: rest))) : vV D p l e R s m args below meth c n k Q M (F0 m pc ls (.long y :: .long x :: rest)) := fun H locs hR hS => lv_ladd hx hb hdg  (kk H locs hR hS)
theorem w_isub (hx : p.tables.exec = Jvm.exec) (hb : c.code = cc) {x y : Int32} (hdg : decode cc pc = .ok (.isub, 1))  (kk : vV D p l e R s m args below meth c n k Q M (F0 m (pc + 1) ls (.int (x - y) :: rest))) : vV D p l e R s m args below meth c n k Q M (F0 m pc ls (.int y :: .int x :: rest)) := fun H locs hR hS => lv_isub hx hb hdg  (kk H locs hR hS)
theorem w_lsub (hx : p.tables.exec = Jvm.exec) (hb : c.code = cc) {x y : Int64} (hdg : decode cc pc = .ok (.lsub, 1))  (kk : vV D p l e R s m args below meth c n k Q M (F0 m (pc + 1) ls (.long (x - y) :: rest))) : vV D p l e R s m args below meth c n k Q M (F0 m pc ls (.long y :: .long x :: rest)) := fun H locs hR hS => lv_lsub hx hb hdg  (kk H locs hR hS)
theorem w_imul (hx : p.tables.exec = Jvm.exec) (hb : c.code = cc) {x y : Int32} (hdg : decode cc pc = .ok (.imul, 1))  (kk : vV D p l e R s m args below meth c n k Q M (F0 m (pc + 1) ls (.int (x * y) :: rest))) : vV D p l e R s m args below meth c n k Q M (F0 m pc ls (.int y :: .int x :: rest)) := fun H locs hR hS => lv_imul hx hb hdg  (kk H locs hR hS)
theorem w_lmul (hx : p.tables.exec = Jvm.exec) (hb : c.code = cc) {x y : Int64} (hdg : decode cc pc = .ok (.lmul, 1))  (kk : vV D p l e R s m args below meth c n k Q M (F0 m (pc + 1) ls (.long (x * y) :: rest))) : vV D p l e R s m args below meth c n k Q M (F0 m pc ls (.long y :: .long x :: rest)) := fun H locs hR hS => lv_lmul hx hb hdg  (kk H locs hR hS)
theorem w_iand (hx : p.tables.exec = Jvm.exec) (hb : c.code = cc) {x y : Int32} (hdg : decode cc pc = .ok (.iand, 1))  (kk : vV D p l e R s m args below meth c n k Q M (F0 m (pc + 1) ls (.int (x &&& y) :: rest))) : vV D p l e R s m args below meth c n k Q M (F0 m pc ls (.int y :: .int x :: rest)) := fun H locs hR hS => lv_iand hx hb hdg  (kk H locs hR hS)
theorem w_land (hx : p.tables.exec = Jvm.exec) (hb : c.code = cc) {x y : Int64} (hdg : decode cc pc = .ok (.land, 1))  (kk : vV D p l e R s m args below meth c n k Q M (F0 m (pc + 1) ls (.long (x &&& y) :: rest))) : vV D p l e R s m args below meth c n k Q M (F0 m pc ls (.long y :: .long x :: rest)) := fun H locs hR hS => lv_land hx hb hdg  (kk H locs hR hS)
theorem w_ior (hx : p.tables.exec = Jvm.exec) (hb : c.code = cc) {x y : Int32} (hdg : decode cc pc = .ok (.ior, 1))  (kk : vV D p l e R s m args below meth c n k Q M (F0 m (pc + 1) ls (.int (x ||| y) :: rest))) : vV D p l e R s m args below meth c n k Q M (F0 m pc ls (.int y :: .int x :: rest)) := fun H locs hR hS => lv_ior hx hb hdg  (kk H locs hR hS)
theorem w_lor (hx : p.tables.exec = Jvm.exec) (hb : c.code = cc) {x y : Int64} (hdg : decode cc pc = .ok (.lor, 1))  (kk : vV D p l e R s m args below meth c n k Q M (F0 m (pc + 1) ls (.long (x ||| y) :: rest))) : vV D p l e R s m args below meth c n k Q M (F0 m pc ls (.long y :: .long x :: rest)) := fun H locs hR hS => lv_lor hx hb hdg  (kk H locs hR hS)
theorem w_ixor (hx : p.tables.exec = Jvm.exec) (hb : c.code = cc) {x y : Int32} (hdg : decode cc pc = .ok (.ixor, 1))  (kk : vV D p l e R s m args below meth c n k Q M (F0 m (pc + 1) ls (.int (x ^^^ y) :: rest))) : vV D p l e R s m args below meth c n k Q M (F0 m pc ls (.int y :: .int x :: rest)) := fun H locs hR hS => lv_ixor hx hb hdg  (kk H locs hR hS)
theorem w_lxor (hx : p.tables.exec = Jvm.exec) (hb : c.code = cc) {x y : Int64} (hdg : decode cc pc = .ok (.lxor, 1))  (kk : vV D p l e R s m args below meth c n k Q M (F0 m (pc + 1) ls (.long (x ^^^ y) :: rest))) : vV D p l e R s m args below meth c n k Q M (F0 m pc ls (.long y :: .long x :: rest)) := fun H locs hR hS => lv_lxor hx hb hdg  (kk H locs hR hS)
theorem w_irem (hx : p.tables.exec = Jvm.exec) (hb : c.code = cc) {x y : Int32} (hdg : decode cc pc = .ok (.irem, 1)) (hne : ¬ y = 0) (kk : vV D p l e R s m args below meth c n k Q M (F0 m (pc + 1) ls (.int (x - x / y * y) :: rest))) : vV D p l e R s m args below meth c n k Q M (F0 m pc ls (.int y :: .int x :: rest)) := fun H locs hR hS => lv_irem hx hb hdg hne (kk H locs hR hS)
theorem w_ishl (hx : p.tables.exec = Jvm.exec) (hb : c.code = cc) {x y : Int32} (hdg : decode cc pc = .ok (.ishl, 1))  (kk : vV D p l e R s m args below meth c n k Q M (F0 m (pc + 1) ls (.int (x <<< (y &&& 31)) :: rest))) : vV D p l e R s m args below meth c n k Q M (F0 m pc ls (.int y :: .int x :: rest)) := fun H locs hR hS => lv_ishl hx hb hdg  (kk H locs hR hS)
theorem w_ishr (hx : p.tables.exec = Jvm.exec) (hb : c.code = cc) {x y : Int32} (hdg : decode cc pc = .ok (.ishr, 1))  (kk : vV D p l e R s m args below meth c n k Q M (F0 m (pc + 1) ls (.int (x >>> (y &&& 31)) :: rest))) : vV D p l e R s m args below meth c n k Q M (F0 m pc ls (.int y :: .int x :: rest)) := fun H locs hR hS => lv_ishr hx hb hdg  (kk H locs hR hS)
theorem w_lshl (hx : p.tables.exec = Jvm.exec) (hb : c.code = cc) {x : Int64} {y : Int32} (hdg : decode cc pc = .ok (.lshl, 1))  (kk : vV D p l e R s m args below meth c n k Q M (F0 m (pc + 1) ls (.long (x <<< (y.toInt64 &&& 63)) :: rest))) : vV D p l e R s m args below meth c n k Q M (F0 m pc ls (.int y :: .long x :: rest)) := fun H locs hR hS => lv_lshl hx hb hdg rfl (kk H locs hR hS)
theorem w_lshr (hx : p.tables.exec = Jvm.exec) (hb : c.code = cc) {x : Int64} {y : Int32} (hdg : decode cc pc = .ok (.lshr, 1))  (kk : vV D p l e R s m args below meth c n k Q M (F0 m (pc + 1) ls (.long (x >>> (y.toInt64 &&& 63)) :: rest))) : vV D p l e R s m args below meth c n k Q M (F0 m pc ls (.int y :: .long x :: rest)) := fun H locs hR hS => lv_lshr hx hb hdg rfl (kk H locs hR hS)
theorem w_lushr (hx : p.tables.exec = Jvm.exec) (hb : c.code = cc) {x : Int64} {y : Int32} (hdg : decode cc pc = .ok (.lushr, 1))  (kk : vV D p l e R s m args below meth c n k Q M (F0 m (pc + 1) ls (.long ((x.toUInt64 >>> (y.toInt64.toUInt64 &&& Int64.toUInt64 63)).toInt64) :: rest))) : vV D p l e R s m args below meth c n k Q M (F0 m pc ls (.int y :: .long x :: rest)) := fun H locs hR hS => lv_lushr hx hb hdg rfl (kk H locs hR hS)
theorem w_i2l (hx : p.tables.exec = Jvm.exec) (hb : c.code = cc) {x : Int32} (hdg : decode cc pc = .ok (.i2l, 1))  (kk : vV D p l e R s m args below meth c n k Q M (F0 m (pc + 1) ls (.long x.toInt64 :: rest))) : vV D p l e R s m args below meth c n k Q M (F0 m pc ls (.int x :: rest)) := fun H locs hR hS => lv_i2l hx hb hdg rfl (kk H locs hR hS)
theorem w_l2i (hx : p.tables.exec = Jvm.exec) (hb : c.code = cc) {x : Int64} (hdg : decode cc pc = .ok (.l2i, 1))  (kk : vV D p l e R s m args below meth c n k Q M (F0 m (pc + 1) ls (.int x.toInt32 :: rest))) : vV D p l e R s m args below meth c n k Q M (F0 m pc ls (.long x :: rest)) := fun H locs hR hS => lv_l2i hx hb hdg rfl (kk H locs hR hS)
theorem w_i2b (hx : p.tables.exec = Jvm.exec) (hb : c.code = cc) {x : Int32} (hdg : decode cc pc = .ok (.i2b, 1))  (kk : vV D p l e R s m args below meth c n k Q M (F0 m (pc + 1) ls (.int x.toInt8.toInt32 :: rest))) : vV D p l e R s m args below meth c n k Q M (F0 m pc ls (.int x :: rest)) := fun H locs hR hS => lv_i2b hx hb hdg rfl (kk H locs hR hS)
theorem w_i2c (hx : p.tables.exec = Jvm.exec) (hb : c.code = cc) {x : Int32} (hdg : decode cc pc = .ok (.i2c, 1))  (kk : vV D p l e R s m args below meth c n k Q M (F0 m (pc + 1) ls (.int (x.toUInt32 % 65536).toInt32 :: rest))) : vV D p l e R s m args below meth c n k Q M (F0 m pc ls (.int x :: rest)) := fun H locs hR hS => lv_i2c hx hb hdg rfl (kk H locs hR hS)
theorem w_i2d (hx : p.tables.exec = Jvm.exec) (hb : c.code = cc) {x : Int32} (hdg : decode cc pc = .ok (.i2d, 1))  (kk : vV D p l e R s m args below meth c n k Q M (F0 m (pc + 1) ls (.double (FP.i2d x) :: rest))) : vV D p l e R s m args below meth c n k Q M (F0 m pc ls (.int x :: rest)) := fun H locs hR hS => lv_i2d hx hb hdg  (kk H locs hR hS)
theorem w_ddiv (hx : p.tables.exec = Jvm.exec) (hb : c.code = cc) {x y : UInt64} (hdg : decode cc pc = .ok (.ddiv, 1)) (hne : vf_n64 (FP.ddiv x y)) (kk : vV D p l e R s m args below meth c n k Q M (F0 m (pc + 1) ls (.double (FP.ddiv x y) :: rest))) : vV D p l e R s m args below meth c n k Q M (F0 m pc ls (.double y :: .double x :: rest)) := fun H locs hR hS => lv_ddiv hx hb hdg hne (kk H locs hR hS)
theorem w_dcmp (hx : p.tables.exec = Jvm.exec) (hb : c.code = cc) {x y : UInt64} {op : CmpOp} (hdg : decode cc pc = .ok (.dcmp op, 1))  (kk : vV D p l e R s m args below meth c n k Q M (F0 m (pc + 1) ls (.int (Op.cmpValue (FP.dcmp x y) op) :: rest))) : vV D p l e R s m args below meth c n k Q M (F0 m pc ls (.double y :: .double x :: rest)) := fun H locs hR hS => lv_dcmp hx hb hdg  (kk H locs hR hS)
theorem w_lcmp (hx : p.tables.exec = Jvm.exec) (hb : c.code = cc) {x y : Int64} (hdg : decode cc pc = .ok (.lcmp, 1))  (kk : vV D p l e R s m args below meth c n k Q M (F0 m (pc + 1) ls (.int (lg_cmp x y) :: rest))) : vV D p l e R s m args below meth c n k Q M (F0 m pc ls (.long y :: .long x :: rest)) := fun H locs hR hS => W.lcmp hx hb hdg  (kk H locs hR hS)
theorem w_dup (hx : p.tables.exec = Jvm.exec) (hb : c.code = cc) {va : Value} (hdg : decode cc pc = .ok (.dup, 1)) (hva : va.category = 1) (kk : vV D p l e R s m args below meth c n k Q M (F0 m (pc + 1) ls (va :: va :: rest))) : vV D p l e R s m args below meth c n k Q M (F0 m pc ls (va :: rest)) := fun H locs hR hS => lv_dup hx hb hdg hva (kk H locs hR hS)
theorem w_pop (hx : p.tables.exec = Jvm.exec) (hb : c.code = cc) {va : Value} (hdg : decode cc pc = .ok (.pop, 1)) (hva : va.category = 1) (kk : vV D p l e R s m args below meth c n k Q M (F0 m (pc + 1) ls rest)) : vV D p l e R s m args below meth c n k Q M (F0 m pc ls (va :: rest)) := fun H locs hR hS => lv_pop hx hb hdg hva (kk H locs hR hS)
theorem w_dup_x1 (hx : p.tables.exec = Jvm.exec) (hb : c.code = cc) {va vb : Value} (hdg : decode cc pc = .ok (.dup_x1, 1)) (hva : va.category = 1) (hvb : vb.category = 1) (kk : vV D p l e R s m args below meth c n k Q M (F0 m (pc + 1) ls (va :: vb :: va :: rest))) : vV D p l e R s m args below meth c n k Q M (F0 m pc ls (va :: vb :: rest)) := fun H locs hR hS => lv_dup_x1 hx hb hdg hva hvb (kk H locs hR hS)
theorem w_dup2_11 (hx : p.tables.exec = Jvm.exec) (hb : c.code = cc) {va vb : Value} (hdg : decode cc pc = .ok (.dup2, 1)) (hva : va.category = 1) (hvb : vb.category = 1) (kk : vV D p l e R s m args below meth c n k Q M (F0 m (pc + 1) ls (va :: vb :: va :: vb :: rest))) : vV D p l e R s m args below meth c n k Q M (F0 m pc ls (va :: vb :: rest)) := fun H locs hR hS => lv_dup2_11 hx hb hdg hva hvb (kk H locs hR hS)
theorem w_null (hx : p.tables.exec = Jvm.exec) (hb : c.code = cc)  (hdg : decode cc pc = .ok (.aconst_null, 1))  (kk : vV D p l e R s m args below meth c n k Q M (F0 m (pc + 1) ls (.null :: rest))) : vV D p l e R s m args below meth c n k Q M (F0 m pc ls rest) := fun H locs hR hS => lv_null hx hb hdg  (kk H locs hR hS)
theorem w_istore_n (hx : p.tables.exec = Jvm.exec) (hb : c.code = cc) {q : Fin 4} {i nL : Nat} {x : Int32} {lv lv' : List (Nat × Value)} (hdg : decode cc pc = .ok (.istore_n q, 1)) (hi : (q : Nat) = i) (h : lv_has ls nL lv) (hn : i < nL) (hl : (i, Value.int x) :: lv.filter (fun q => !(q.1 == i) && !(q.1 + 1 == i && q.2.category == 2)) = lv') (kk : ∀ ls' : Array Slot, lv_has ls' nL lv' → vV D p l e R s m args below meth c n k Q M (F0 m (pc + 1) ls' rest)) : vV D p l e R s m args below meth c n k Q M (F0 m pc ls (.int x :: rest)) := fun H locs hR hS => lv_istore_n hx hb hdg hi h hn hl (fun ls' h' => kk ls' h' H locs hR hS)
theorem w_istore (hx : p.tables.exec = Jvm.exec) (hb : c.code = cc) {i nL : Nat} {x : Int32} {lv lv' : List (Nat × Value)} (hdg : decode cc pc = .ok (.istore i, 2)) (h : lv_has ls nL lv) (hn : i < nL) (hl : (i, Value.int x) :: lv.filter (fun q => !(q.1 == i) && !(q.1 + 1 == i && q.2.category == 2)) = lv') (kk : ∀ ls' : Array Slot, lv_has ls' nL lv' → vV D p l e R s m args below meth c n k Q M (F0 m (pc + 2) ls' rest)) : vV D p l e R s m args below meth c n k Q M (F0 m pc ls (.int x :: rest)) := fun H locs hR hS => lv_istore hx hb hdg h hn hl (fun ls' h' => kk ls' h' H locs hR hS)
theorem w_lstore_n (hx : p.tables.exec = Jvm.exec) (hb : c.code = cc) {q : Fin 4} {i nL : Nat} {x : Int64} {lv lv' : List (Nat × Value)} (hdg : decode cc pc = .ok (.lstore_n q, 1)) (hi : (q : Nat) = i) (h : lv_has ls nL lv) (hn : i + 1 < nL) (hl : (i, Value.long x) :: lv.filter (fun q => !(q.1 == i) && (!(q.1 == i + 1) && !(q.1 + 1 == i && q.2.category == 2))) = lv') (kk : ∀ ls' : Array Slot, lv_has ls' nL lv' → vV D p l e R s m args below meth c n k Q M (F0 m (pc + 1) ls' rest)) : vV D p l e R s m args below meth c n k Q M (F0 m pc ls (.long x :: rest)) := fun H locs hR hS => lv_lstore_n hx hb hdg hi h hn hl (fun ls' h' => kk ls' h' H locs hR hS)
theorem w_lstore (hx : p.tables.exec = Jvm.exec) (hb : c.code = cc) {i nL : Nat} {x : Int64} {lv lv' : List (Nat × Value)} (hdg : decode cc pc = .ok (.lstore i, 2)) (h : lv_has ls nL lv) (hn : i + 1 < nL) (hl : (i, Value.long x) :: lv.filter (fun q => !(q.1 == i) && (!(q.1 == i + 1) && !(q.1 + 1 == i && q.2.category == 2))) = lv') (kk : ∀ ls' : Array Slot, lv_has ls' nL lv' → vV D p l e R s m args below meth c n k Q M (F0 m (pc + 2) ls' rest)) : vV D p l e R s m args below meth c n k Q M (F0 m pc ls (.long x :: rest)) := fun H locs hR hS => lv_lstore hx hb hdg h hn hl (fun ls' h' => kk ls' h' H locs hR hS)
theorem w_dstore_n (hx : p.tables.exec = Jvm.exec) (hb : c.code = cc) {q : Fin 4} {i nL : Nat} {x : UInt64} {lv lv' : List (Nat × Value)} (hdg : decode cc pc = .ok (.dstore_n q, 1)) (hi : (q : Nat) = i) (h : lv_has ls nL lv) (hn : i + 1 < nL) (hl : (i, Value.double x) :: lv.filter (fun q => !(q.1 == i) && (!(q.1 == i + 1) && !(q.1 + 1 == i && q.2.category == 2))) = lv') (kk : ∀ ls' : Array Slot, lv_has ls' nL lv' → vV D p l e R s m args below meth c n k Q M (F0 m (pc + 1) ls' rest)) : vV D p l e R s m args below meth c n k Q M (F0 m pc ls (.double x :: rest)) := fun H locs hR hS => lv_dstore_n hx hb hdg hi h hn hl (fun ls' h' => kk ls' h' H locs hR hS)
theorem w_dstore (hx : p.tables.exec = Jvm.exec) (hb : c.code = cc) {i nL : Nat} {x : UInt64} {lv lv' : List (Nat × Value)} (hdg : decode cc pc = .ok (.dstore i, 2)) (h : lv_has ls nL lv) (hn : i + 1 < nL) (hl : (i, Value.double x) :: lv.filter (fun q => !(q.1 == i) && (!(q.1 == i + 1) && !(q.1 + 1 == i && q.2.category == 2))) = lv') (kk : ∀ ls' : Array Slot, lv_has ls' nL lv' → vV D p l e R s m args below meth c n k Q M (F0 m (pc + 2) ls' rest)) : vV D p l e R s m args below meth c n k Q M (F0 m pc ls (.double x :: rest)) := fun H locs hR hS => lv_dstore hx hb hdg h hn hl (fun ls' h' => kk ls' h' H locs hR hS)
theorem w_astore_n (hx : p.tables.exec = Jvm.exec) (hb : c.code = cc) {q : Fin 4} {i nL : Nat} {x : Nat} {lv lv' : List (Nat × Value)} (hdg : decode cc pc = .ok (.astore_n q, 1)) (hi : (q : Nat) = i) (h : lv_has ls nL lv) (hn : i < nL) (hl : (i, Value.ref x) :: lv.filter (fun q => !(q.1 == i) && !(q.1 + 1 == i && q.2.category == 2)) = lv') (kk : ∀ ls' : Array Slot, lv_has ls' nL lv' → vV D p l e R s m args below meth c n k Q M (F0 m (pc + 1) ls' rest)) : vV D p l e R s m args below meth c n k Q M (F0 m pc ls (.ref x :: rest)) := fun H locs hR hS => lv_astore_n hx hb hdg hi h hn hl (fun ls' h' => kk ls' h' H locs hR hS)
theorem w_astore (hx : p.tables.exec = Jvm.exec) (hb : c.code = cc) {i nL : Nat} {x : Nat} {lv lv' : List (Nat × Value)} (hdg : decode cc pc = .ok (.astore i, 2)) (h : lv_has ls nL lv) (hn : i < nL) (hl : (i, Value.ref x) :: lv.filter (fun q => !(q.1 == i) && !(q.1 + 1 == i && q.2.category == 2)) = lv') (kk : ∀ ls' : Array Slot, lv_has ls' nL lv' → vV D p l e R s m args below meth c n k Q M (F0 m (pc + 2) ls' rest)) : vV D p l e R s m args below meth c n k Q M (F0 m pc ls (.ref x :: rest)) := fun H locs hR hS => lv_astore hx hb hdg h hn hl (fun ls' h' => kk ls' h' H locs hR hS)
theorem w_iinc (hx : p.tables.exec = Jvm.exec) (hb : c.code = cc) {i nL j : Nat} {z : Int} {x v : Int32} {lv lv' : List (Nat × Value)} (hdg : decode cc pc = .ok (.iinc i z, 3)) (h : lv_has ls nL lv) (hk : lv[j]? = some (i, .int x)) (hv : x + Int32.ofInt z = v) (hn : i < nL) (hl : (i, Value.int v) :: lv.filter (fun q => !(q.1 == i) && !(q.1 + 1 == i && q.2.category == 2)) = lv') (kk : ∀ ls' : Array Slot, lv_has ls' nL lv' → vV D p l e R s m args below meth c n k Q M (F0 m (pc + 3) ls' rest)) : vV D p l e R s m args below meth c n k Q M (F0 m pc ls rest) := fun H locs hR hS => lv_iinc hx hb hdg h hk hv hn hl (fun ls' h' => kk ls' h' H locs hR hS)
theorem w_if_eq (hx : p.tables.exec = Jvm.exec) (hb : c.code = cc) {x : Int32} {off : Int} {tgt : Nat} (hdg : decode cc pc = .ok (.ifCond .eq off, 3)) (ht : (pc : Int) + off = (tgt : Int)) (kt : x = 0 → vV D p l e R s m args below meth c n k Q M (F0 m tgt ls rest)) (kf : ¬ x = 0 → vV D p l e R s m args below meth c n k Q M (F0 m (pc + 3) ls rest)) : vV D p l e R s m args below meth c n k Q M (F0 m pc ls (.int x :: rest)) := fun H locs hR hS => lv_if_eq hx hb hdg ht (fun h => kt h H locs hR hS) (fun h => kf h H locs hR hS)
theorem w_icmp_eq (hx : p.tables.exec = Jvm.exec) (hb : c.code = cc) {x y : Int32} {off : Int} {tgt : Nat} (hdg : decode cc pc = .ok (.if_icmp .eq off, 3)) (ht : (pc : Int) + off = (tgt : Int)) (kt : x = y → vV D p l e R s m args below meth c n k Q M (F0 m tgt ls rest)) (kf : ¬ x = y → vV D p l e R s m args below meth c n k Q M (F0 m (pc + 3) ls rest)) : vV D p l e R s m args below meth c n k Q M (F0 m pc ls (.int y :: .int x :: rest)) := fun H locs hR hS => lv_icmp_eq hx hb hdg ht (fun h => kt h H locs hR hS) (fun h => kf h H locs hR hS)
theorem w_if_ne (hx : p.tables.exec = Jvm.exec) (hb : c.code = cc) {x : Int32} {off : Int} {tgt : Nat} (hdg : decode cc pc = .ok (.ifCond .ne off, 3)) (ht : (pc : Int) + off = (tgt : Int)) (kf : x = 0 → vV D p l e R s m args below meth c n k Q M (F0 m (pc + 3) ls rest)) (kt : ¬ x = 0 → vV D p l e R s m args below meth c n k Q M (F0 m tgt ls rest)) : vV D p l e R s m args below meth c n k Q M (F0 m pc ls (.int x :: rest)) := fun H locs hR hS => lv_if_ne hx hb hdg ht (fun h => kt h H locs hR hS) (fun h => kf h H locs hR hS)
theorem w_icmp_ne (hx : p.tables.exec = Jvm.exec) (hb : c.code = cc) {x y : Int32} {off : Int} {tgt : Nat} (hdg : decode cc pc = .ok (.if_icmp .ne off, 3)) (ht : (pc : Int) + off = (tgt : Int)) (kf : x = y → vV D p l e R s m args below meth c n k Q M (F0 m (pc + 3) ls rest)) (kt : ¬ x = y → vV D p l e R s m args below meth c n k Q M (F0 m tgt ls rest)) : vV D p l e R s m args below meth c n k Q M (F0 m pc ls (.int y :: .int x :: rest)) := fun H locs hR hS => lv_icmp_ne hx hb hdg ht (fun h => kt h H locs hR hS) (fun h => kf h H locs hR hS)
theorem w_if_lt (hx : p.tables.exec = Jvm.exec) (hb : c.code = cc) {x : Int32} {off : Int} {tgt : Nat} (hdg : decode cc pc = .ok (.ifCond .lt off, 3)) (ht : (pc : Int) + off = (tgt : Int)) (kt : x < 0 → vV D p l e R s m args below meth c n k Q M (F0 m tgt ls rest)) (kf : ¬ x < 0 → vV D p l e R s m args below meth c n k Q M (F0 m (pc + 3) ls rest)) : vV D p l e R s m args below meth c n k Q M (F0 m pc ls (.int x :: rest)) := fun H locs hR hS => lv_if_lt hx hb hdg ht (fun h => kt h H locs hR hS) (fun h => kf h H locs hR hS)
theorem w_icmp_lt (hx : p.tables.exec = Jvm.exec) (hb : c.code = cc) {x y : Int32} {off : Int} {tgt : Nat} (hdg : decode cc pc = .ok (.if_icmp .lt off, 3)) (ht : (pc : Int) + off = (tgt : Int)) (kt : x < y → vV D p l e R s m args below meth c n k Q M (F0 m tgt ls rest)) (kf : ¬ x < y → vV D p l e R s m args below meth c n k Q M (F0 m (pc + 3) ls rest)) : vV D p l e R s m args below meth c n k Q M (F0 m pc ls (.int y :: .int x :: rest)) := fun H locs hR hS => lv_icmp_lt hx hb hdg ht (fun h => kt h H locs hR hS) (fun h => kf h H locs hR hS)
theorem w_if_ge (hx : p.tables.exec = Jvm.exec) (hb : c.code = cc) {x : Int32} {off : Int} {tgt : Nat} (hdg : decode cc pc = .ok (.ifCond .ge off, 3)) (ht : (pc : Int) + off = (tgt : Int)) (kt : 0 ≤ x → vV D p l e R s m args below meth c n k Q M (F0 m tgt ls rest)) (kf : ¬ 0 ≤ x → vV D p l e R s m args below meth c n k Q M (F0 m (pc + 3) ls rest)) : vV D p l e R s m args below meth c n k Q M (F0 m pc ls (.int x :: rest)) := fun H locs hR hS => lv_if_ge hx hb hdg ht (fun h => kt h H locs hR hS) (fun h => kf h H locs hR hS)
theorem w_icmp_ge (hx : p.tables.exec = Jvm.exec) (hb : c.code = cc) {x y : Int32} {off : Int} {tgt : Nat} (hdg : decode cc pc = .ok (.if_icmp .ge off, 3)) (ht : (pc : Int) + off = (tgt : Int)) (kt : y ≤ x → vV D p l e R s m args below meth c n k Q M (F0 m tgt ls rest)) (kf : ¬ y ≤ x → vV D p l e R s m args below meth c n k Q M (F0 m (pc + 3) ls rest)) : vV D p l e R s m args below meth c n k Q M (F0 m pc ls (.int y :: .int x :: rest)) := fun H locs hR hS => lv_icmp_ge hx hb hdg ht (fun h => kt h H locs hR hS) (fun h => kf h H locs hR hS)
theorem w_if_gt (hx : p.tables.exec = Jvm.exec) (hb : c.code = cc) {x : Int32} {off : Int} {tgt : Nat} (hdg : decode cc pc = .ok (.ifCond .gt off, 3)) (ht : (pc : Int) + off = (tgt : Int)) (kt : 0 < x → vV D p l e R s m args below meth c n k Q M (F0 m tgt ls rest)) (kf : ¬ 0 < x → vV D p l e R s m args below meth c n k Q M (F0 m (pc + 3) ls rest)) : vV D p l e R s m args below meth c n k Q M (F0 m pc ls (.int x :: rest)) := fun H locs hR hS => lv_if_gt hx hb hdg ht (fun h => kt h H locs hR hS) (fun h => kf h H locs hR hS)
theorem w_icmp_gt (hx : p.tables.exec = Jvm.exec) (hb : c.code = cc) {x y : Int32} {off : Int} {tgt : Nat} (hdg : decode cc pc = .ok (.if_icmp .gt off, 3)) (ht : (pc : Int) + off = (tgt : Int)) (kt : y < x → vV D p l e R s m args below meth c n k Q M (F0 m tgt ls rest)) (kf : ¬ y < x → vV D p l e R s m args below meth c n k Q M (F0 m (pc + 3) ls rest)) : vV D p l e R s m args below meth c n k Q M (F0 m pc ls (.int y :: .int x :: rest)) := fun H locs hR hS => lv_icmp_gt hx hb hdg ht (fun h => kt h H locs hR hS) (fun h => kf h H locs hR hS)
theorem w_if_le (hx : p.tables.exec = Jvm.exec) (hb : c.code = cc) {x : Int32} {off : Int} {tgt : Nat} (hdg : decode cc pc = .ok (.ifCond .le off, 3)) (ht : (pc : Int) + off = (tgt : Int)) (kt : x ≤ 0 → vV D p l e R s m args below meth c n k Q M (F0 m tgt ls rest)) (kf : ¬ x ≤ 0 → vV D p l e R s m args below meth c n k Q M (F0 m (pc + 3) ls rest)) : vV D p l e R s m args below meth c n k Q M (F0 m pc ls (.int x :: rest)) := fun H locs hR hS => lv_if_le hx hb hdg ht (fun h => kt h H locs hR hS) (fun h => kf h H locs hR hS)
theorem w_icmp_le (hx : p.tables.exec = Jvm.exec) (hb : c.code = cc) {x y : Int32} {off : Int} {tgt : Nat} (hdg : decode cc pc = .ok (.if_icmp .le off, 3)) (ht : (pc : Int) + off = (tgt : Int)) (kt : x ≤ y → vV D p l e R s m args below meth c n k Q M (F0 m tgt ls rest)) (kf : ¬ x ≤ y → vV D p l e R s m args below meth c n k Q M (F0 m (pc + 3) ls rest)) : vV D p l e R s m args below meth c n k Q M (F0 m pc ls (.int y :: .int x :: rest)) := fun H locs hR hS => lv_icmp_le hx hb hdg ht (fun h => kt h H locs hR hS) (fun h => kf h H locs hR hS)
theorem w_goto (hx : p.tables.exec = Jvm.exec) (hb : c.code = cc) {off : Int} {tgt : Nat} (hdg : decode cc pc = .ok (.goto off, 3)) (ht : (pc : Int) + off = (tgt : Int)) (kk : vV D p l e R s m args below meth c n k Q M (F0 m tgt ls rest)) : vV D p l e R s m args below meth c n k Q M (F0 m pc ls rest) := fun H locs hR hS => lv_goto hx hb hdg ht (kk H locs hR hS)
theorem w_ifnull (hx : p.tables.exec = Jvm.exec) (hb : c.code = cc) {o : Option Nat} {off : Int} {tgt : Nat} (hdg : decode cc pc = .ok (.ifnull off, 3)) (ht : (pc : Int) + off = (tgt : Int)) (kt : o = none → vV D p l e R s m args below meth c n k Q M (F0 m tgt ls rest)) (kf : ¬ o = none → vV D p l e R s m args below meth c n k Q M (F0 m (pc + 3) ls rest)) : vV D p l e R s m args below meth c n k Q M (F0 m pc ls (va_rf o :: rest)) := by
  intro H locs hR hS
  cases o with
  | none => exact lv_ifnullN hx hb hdg ht (kt rfl H locs hR hS)
  | some a => exact lv_ifnull hx hb hdg (kf (by simp) H locs hR hS)
theorem w_ifnonnull (hx : p.tables.exec = Jvm.exec) (hb : c.code = cc) {o : Option Nat} {off : Int} {tgt : Nat} (hdg : decode cc pc = .ok (.ifnonnull off, 3)) (ht : (pc : Int) + off = (tgt : Int)) (kf : o = none → vV D p l e R s m args below meth c n k Q M (F0 m (pc + 3) ls rest)) (kt : ¬ o = none → vV D p l e R s m args below meth c n k Q M (F0 m tgt ls rest)) : vV D p l e R s m args below meth c n k Q M (F0 m pc ls (va_rf o :: rest)) := by
  intro H locs hR hS
  cases o with
  | none => exact lv_ifnonnullN hx hb hdg (kf rfl H locs hR hS)
  | some a => exact lv_ifnonnull hx hb hdg ht (kt (by simp) H locs hR hS)
theorem w_acmp_eq (hx : p.tables.exec = Jvm.exec) (hb : c.code = cc) {x y : Nat} {off : Int} {tgt : Nat} (hdg : decode cc pc = .ok (.if_acmp .eq off, 3)) (ht : (pc : Int) + off = (tgt : Int)) (kt : x = y → vV D p l e R s m args below meth c n k Q M (F0 m tgt ls rest)) (kf : ¬ x = y → vV D p l e R s m args below meth c n k Q M (F0 m (pc + 3) ls rest)) : vV D p l e R s m args below meth c n k Q M (F0 m pc ls (.ref y :: .ref x :: rest)) := fun H locs hR hS => lv_acmp_eq (rx := some x) (ry := some y) hx hb hdg ht (fun h => kt (Option.some.inj h) H locs hR hS) (fun h => kf (fun q => h (congrArg some q)) H locs hR hS)
theorem w_acmp_ne (hx : p.tables.exec = Jvm.exec) (hb : c.code = cc) {x y : Nat} {off : Int} {tgt : Nat} (hdg : decode cc pc = .ok (.if_acmp .ne off, 3)) (ht : (pc : Int) + off = (tgt : Int)) (kf : x = y → vV D p l e R s m args below meth c n k Q M (F0 m (pc + 3) ls rest)) (kt : ¬ x = y → vV D p l e R s m args below meth c n k Q M (F0 m tgt ls rest)) : vV D p l e R s m args below meth c n k Q M (F0 m pc ls (.ref y :: .ref x :: rest)) := fun H locs hR hS => lv_acmp_ne (rx := some x) (ry := some y) hx hb hdg ht (fun h => kt (fun q => h (congrArg some q)) H locs hR hS) (fun h => kf (Option.some.inj h) H locs hR hS)
theorem w_ldcI (hx : p.tables.exec = Jvm.exec) (hb : c.code = cc) {own : String} {index : Nat} {v : Int32} (hown : s.vm.findClass own = some m.cls) (hc : (Jvm.Cond.constant own index v).before args s = true) (hdg : decode cc pc = .ok (.ldc index, 2)) (kk : vV D p l e R s m args below meth c n k Q M (F0 m (pc + 2) ls (.int v :: rest))) : vV D p l e R s m args below meth c n k Q M (F0 m pc ls rest) := fun H locs hR hS => lv_ldc hx hb hown hc hdg (kk H locs hR hS)
theorem w_ldcL (hx : p.tables.exec = Jvm.exec) (hb : c.code = cc) {own : String} {index : Nat} {v : Int64} (hown : s.vm.findClass own = some m.cls) (hc : (Jvm.Cond.constantLong own index v).before args s = true) (hdg : decode cc pc = .ok (.ldc2_w index, 3)) (kk : vV D p l e R s m args below meth c n k Q M (F0 m (pc + 3) ls (.long v :: rest))) : vV D p l e R s m args below meth c n k Q M (F0 m pc ls rest) := fun H locs hR hS => lv_ldc2 hx hb hown hc hdg (kk H locs hR hS)
theorem w_ldcS (hx : p.tables.exec = Jvm.exec) (hb : c.code = cc) {own tx : String} {index q : Nat} (hown : s.vm.findClass own = some m.cls) (hZ : vk_R own index tx q s) (hdg : decode cc pc = .ok (.ldc index, 2)) (kk : vV D p l e R s m args below meth c n k Q M (F0 m (pc + 2) ls (.ref q :: rest))) : vV D p l e R s m args below meth c n k Q M (F0 m pc ls rest) := fun H locs hR hS => va_ldcS hx hb hown hZ hdg (kk H locs hR hS)
theorem w_gets (hx : p.tables.exec = Jvm.exec) (hb : c.code = cc) {C nn d own ref : String} {v : Value} {index : Nat} (hZ : va_Z C nn d v (vA D) s s.heap) (hown : s.vm.findClass own = some m.cls) (hlink : (Cond.fieldLink own index ref nn d).before args s = true) (hsame : ∀ x, s.fieldFound? C nn d = some x → s.fieldFound? ref nn d = some x) (hdg : decode cc pc = .ok (.getstatic index, 3)) (kk : vV D p l e R s m args below meth c n k Q M (F0 m (pc + 3) ls (v :: rest))) : vV D p l e R s m args below meth c n k Q M (F0 m pc ls rest) := fun H locs hR hS => va_gets hx hb hZ hS hown hlink hsame hdg (kk H locs hR hS)
theorem w_min (hx : p.tables.exec = Jvm.exec) (hb : c.code = cc) (hml : c.maxLocals = ls.size) {own : String} {index : Nat} (hown : s.vm.findClass own = some m.cls) (hlink : (Cond.methodLink own index Lib.Math.min.name).before args s = true) (hstat : (Cond.static Lib.Math.min.name).before args s = true) (hini : (Cond.initialized "java/lang/Math").before args s = true) (hcode : (Cond.code Lib.Math.min.name Lib.Math.min.code 2 (some .int)).before args s = true) (hframes : 1 ≤ R.frames) (hlocals : (rest.map fun v => v.category).sum + 13 ≤ R.locals) (hc : n ≤ R.cells) (hs : k ≤ R.slots) {x y : Int32} (hdg : decode cc pc = .ok (.invokestatic index, 3)) (kk : vV D p l e R s m args below meth c n k Q M (F0 m (pc + 3) ls (.int (if y < x then y else x) :: rest))) : vV D p l e R s m args below meth c n k Q M (F0 m pc ls (.int y :: .int x :: rest)) := fun H locs hR hS => va_mmin hx hb hml hown hlink hstat hini hcode hframes hlocals hc hs hdg (kk H locs hR hS)
theorem w_astoreq_n (hx : p.tables.exec = Jvm.exec) (hb : c.code = cc) {q : Fin 4} {i nL : Nat} {o : Option Nat} {lv lv' : List (Nat × Value)} (hdg : decode cc pc = .ok (.astore_n q, 1)) (hi : (q : Nat) = i) (h : lv_has ls nL lv) (hn : i < nL) (hl : (i, va_rf o) :: lv.filter (fun q => !(q.1 == i) && !(q.1 + 1 == i && q.2.category == 2)) = lv') (kk : ∀ ls' : Array Slot, lv_has ls' nL lv' → vV D p l e R s m args below meth c n k Q M (F0 m (pc + 1) ls' rest)) : vV D p l e R s m args below meth c n k Q M (F0 m pc ls (va_rf o :: rest)) := by
  intro H locs hR hS
  cases o with
  | none => exact lv_astore_nN hx hb hdg hi h hn hl (fun ls' h' => kk ls' h' H locs hR hS)
  | some a => exact lv_astore_n hx hb hdg hi h hn hl (fun ls' h' => kk ls' h' H locs hR hS)
theorem w_aloadq_n (hx : p.tables.exec = Jvm.exec) (hb : c.code = cc) {q : Fin 4} {i : Nat} {o : Option Nat} (hdg : decode cc pc = .ok (.aload_n q, 1)) (hi : (q : Nat) = i) (hl : ls[i]? = some (.val (va_rf o))) (kk : vV D p l e R s m args below meth c n k Q M (F0 m (pc + 1) ls (va_rf o :: rest))) : vV D p l e R s m args below meth c n k Q M (F0 m pc ls rest) := by
  intro H locs hR hS
  cases o with
  | none => exact lv_aload_nN hx hb hdg hi hl (kk H locs hR hS)
  | some a => exact lv_aload_n hx hb hdg hi hl (kk H locs hR hS)
theorem w_astoreq (hx : p.tables.exec = Jvm.exec) (hb : c.code = cc) {i nL : Nat} {o : Option Nat} {lv lv' : List (Nat × Value)} (hdg : decode cc pc = .ok (.astore i, 2)) (h : lv_has ls nL lv) (hn : i < nL) (hl : (i, va_rf o) :: lv.filter (fun q => !(q.1 == i) && !(q.1 + 1 == i && q.2.category == 2)) = lv') (kk : ∀ ls' : Array Slot, lv_has ls' nL lv' → vV D p l e R s m args below meth c n k Q M (F0 m (pc + 2) ls' rest)) : vV D p l e R s m args below meth c n k Q M (F0 m pc ls (va_rf o :: rest)) := by
  intro H locs hR hS
  cases o with
  | none => exact lv_astoreN hx hb hdg h hn hl (fun ls' h' => kk ls' h' H locs hR hS)
  | some a => exact lv_astore hx hb hdg h hn hl (fun ls' h' => kk ls' h' H locs hR hS)
theorem w_aloadq (hx : p.tables.exec = Jvm.exec) (hb : c.code = cc) {i : Nat} {o : Option Nat} (hdg : decode cc pc = .ok (.aload i, 2)) (hl : ls[i]? = some (.val (va_rf o))) (kk : vV D p l e R s m args below meth c n k Q M (F0 m (pc + 2) ls (va_rf o :: rest))) : vV D p l e R s m args below meth c n k Q M (F0 m pc ls rest) := by
  intro H locs hR hS
  cases o with
  | none => exact lv_aloadN hx hb hdg hl (kk H locs hR hS)
  | some a => exact lv_aload hx hb hdg hl (kk H locs hR hS)
theorem v_sw (x : Int32) {lo hi : Int} (h : ∀ v : Int, lo ≤ v → v ≤ hi → ¬ x.toInt = v) : x.toInt < lo ∨ hi < x.toInt := by
  by_cases a : x.toInt < lo
  · exact Or.inl a
  · by_cases b : hi < x.toInt
    · exact Or.inr b
    · exact absurd rfl (h _ (by omega) (by omega))
theorem w_ineg (hx : p.tables.exec = Jvm.exec) (hb : c.code = cc) {x : Int32} (hdg : decode cc pc = .ok (.ineg, 1))  (kk : vV D p l e R s m args below meth c n k Q M (F0 m (pc + 1) ls (.int (-x) :: rest))) : vV D p l e R s m args below meth c n k Q M (F0 m pc ls (.int x :: rest)) := fun H locs hR hS => lv_ineg hx hb hdg  (kk H locs hR hS)
theorem w_idiv (hx : p.tables.exec = Jvm.exec) (hb : c.code = cc) {x y : Int32} (hdg : decode cc pc = .ok (.idiv, 1)) (hne : ¬ y = 0) (kk : vV D p l e R s m args below meth c n k Q M (F0 m (pc + 1) ls (.int (x / y) :: rest))) : vV D p l e R s m args below meth c n k Q M (F0 m pc ls (.int y :: .int x :: rest)) := fun H locs hR hS => lv_idiv hx hb hdg hne (kk H locs hR hS)
theorem w_iushr (hx : p.tables.exec = Jvm.exec) (hb : c.code = cc) {x y : Int32} (hdg : decode cc pc = .ok (.iushr, 1))  (kk : vV D p l e R s m args below meth c n k Q M (F0 m (pc + 1) ls (.int (x.toUInt32 >>> (y.toUInt32 &&& Int32.toUInt32 31)).toInt32 :: rest))) : vV D p l e R s m args below meth c n k Q M (F0 m pc ls (.int y :: .int x :: rest)) := fun H locs hR hS => lv_iushr hx hb hdg rfl (kk H locs hR hS)
theorem w_ifnullR (hx : p.tables.exec = Jvm.exec) (hb : c.code = cc) {a : Nat} {off : Int} (hdg : decode cc pc = .ok (.ifnull off, 3)) (kf : vV D p l e R s m args below meth c n k Q M (F0 m (pc + 3) ls rest)) : vV D p l e R s m args below meth c n k Q M (F0 m pc ls (.ref a :: rest)) := fun H locs hR hS => lv_ifnull hx hb hdg (kf H locs hR hS)
theorem w_ifnonnullR (hx : p.tables.exec = Jvm.exec) (hb : c.code = cc) {a : Nat} {off : Int} {tgt : Nat} (hdg : decode cc pc = .ok (.ifnonnull off, 3)) (ht : (pc : Int) + off = (tgt : Int)) (kt : vV D p l e R s m args below meth c n k Q M (F0 m tgt ls rest)) : vV D p l e R s m args below meth c n k Q M (F0 m pc ls (.ref a :: rest)) := fun H locs hR hS => lv_ifnonnull hx hb hdg ht (kt H locs hR hS)
theorem v_aastN {a tg : Nat} {i : Int32} {M1 : vMe} {C : String} (hx : p.tables.exec = Jvm.exec) (hb : c.code = cc) (hK : vK D s) (hv : sA M a tg i .null = some M1) (ht : 100 < tg) (hC : vAty tg = .object C) (hdg : decode cc pc = .ok (.aastore, 1))
    (kk : vV D p l e R s m args below meth c n k Q M1 (F0 m (pc + 1) ls rest)) : vV D p l e R s m args below meth c n k Q M (F0 m pc ls (.null :: .int i :: .ref a :: rest)) := by
  intro H locs hR hS
  obtain ⟨⟨htg, hin, hab⟩, hM1⟩ := v_tag hv
  obtain ⟨cell, h1, h2, h3, h4, h5, h6⟩ := v_arr hK hR htg ht
  have hlt : i.toNatClampNeg < (M.1 a).2.1 := Nat.not_le.mp fun q => hin (Or.inr q)
  rw [hC] at h2
  refine va_WaastN (C := C) hx hb h1 h2 h6.2.2.1 ?_ rfl rfl hdg fun H1 e z oq => ?_
  · rw [h6.2.2.2.1]
    exact hin
  obtain ⟨w1, w2⟩ := v_stA hK hv ht (by rw [hC]; rfl) hR hS H1 h1 e z oq
  exact kk H1 _ w1 w2
end VD
end
section
theorem va_Nw.useF {a : String} {i : Nat} {b n d h : String} {A : Array Value} {U : State} (hZ : va_Nw (.fieldLinkNest a i b n d h) U) : (Cond.fieldLinkNest a i b n d h).before A U = true := va_Nw.use rfl hZ
theorem ko0 : vNF[0]? = some (RX3, 163, "TwinSets$Input", "bytes", "[B", "TwinSets") := rfl
theorem kn0 {D : vD} {s : State} (h : vS D s) (args : Array Value) : (Cond.fieldLinkNest RX3 163 "TwinSets$Input" "bytes" "[B" "TwinSets").before args s = true := va_Nw.useF (h.2.2.2.2.2.1 0 (RX3, 163, "TwinSets$Input", "bytes", "[B", "TwinSets") ko0)
theorem ko1 : vNF[1]? = some (RX9, 48, "TwinSets$Input", "length", "I", "TwinSets") := rfl
theorem kn1 {D : vD} {s : State} (h : vS D s) (args : Array Value) : (Cond.fieldLinkNest RX9 48 "TwinSets$Input" "length" "I" "TwinSets").before args s = true := va_Nw.useF (h.2.2.2.2.2.1 1 (RX9, 48, "TwinSets$Input", "length", "I", "TwinSets") ko1)
theorem ko2 : vNF[2]? = some (RX9, 106, "TwinSets$UndoHistory", "count", "I", "TwinSets") := rfl
theorem kn2 {D : vD} {s : State} (h : vS D s) (args : Array Value) : (Cond.fieldLinkNest RX9 106 "TwinSets$UndoHistory" "count" "I" "TwinSets").before args s = true := va_Nw.useF (h.2.2.2.2.2.1 2 (RX9, 106, "TwinSets$UndoHistory", "count", "I", "TwinSets") ko2)
theorem ko3 : vNF[3]? = some (RX9, 171, "TwinSets$Log", "stamps", "[I", "TwinSets") := rfl
theorem kn3 {D : vD} {s : State} (h : vS D s) (args : Array Value) : (Cond.fieldLinkNest RX9 171 "TwinSets$Log" "stamps" "[I" "TwinSets").before args s = true := va_Nw.useF (h.2.2.2.2.2.1 3 (RX9, 171, "TwinSets$Log", "stamps", "[I", "TwinSets") ko3)
theorem ko4 : vNF[4]? = some (RX9, 172, "TwinSets$Log", "numbers", "[I", "TwinSets") := rfl
theorem kn4 {D : vD} {s : State} (h : vS D s) (args : Array Value) : (Cond.fieldLinkNest RX9 172 "TwinSets$Log" "numbers" "[I" "TwinSets").before args s = true := va_Nw.useF (h.2.2.2.2.2.1 4 (RX9, 172, "TwinSets$Log", "numbers", "[I", "TwinSets") ko4)
theorem ko5 : vNF[5]? = some (RX9, 175, "TwinSets$Log", "kinds", "[I", "TwinSets") := rfl
theorem kn5 {D : vD} {s : State} (h : vS D s) (args : Array Value) : (Cond.fieldLinkNest RX9 175 "TwinSets$Log" "kinds" "[I" "TwinSets").before args s = true := va_Nw.useF (h.2.2.2.2.2.1 5 (RX9, 175, "TwinSets$Log", "kinds", "[I", "TwinSets") ko5)
theorem ko6 : vNF[6]? = some (RX9, 143, "TwinSets$Log", "count", "I", "TwinSets") := rfl
theorem kn6 {D : vD} {s : State} (h : vS D s) (args : Array Value) : (Cond.fieldLinkNest RX9 143 "TwinSets$Log" "count" "I" "TwinSets").before args s = true := va_Nw.useF (h.2.2.2.2.2.1 6 (RX9, 143, "TwinSets$Log", "count", "I", "TwinSets") ko6)
theorem ko7 : vNF[7]? = some (RX9, 138, "TwinSets$Log", "firstStamp", "I", "TwinSets") := rfl
theorem kn7 {D : vD} {s : State} (h : vS D s) (args : Array Value) : (Cond.fieldLinkNest RX9 138 "TwinSets$Log" "firstStamp" "I" "TwinSets").before args s = true := va_Nw.useF (h.2.2.2.2.2.1 7 (RX9, 138, "TwinSets$Log", "firstStamp", "I", "TwinSets") ko7)
theorem ko8 : vNF[8]? = some (RX5, 123, "TwinSets$TwinRows", "members", "[I", "TwinSets") := rfl
theorem kn8 {D : vD} {s : State} (h : vS D s) (args : Array Value) : (Cond.fieldLinkNest RX5 123 "TwinSets$TwinRows" "members" "[I" "TwinSets").before args s = true := va_Nw.useF (h.2.2.2.2.2.1 8 (RX5, 123, "TwinSets$TwinRows", "members", "[I", "TwinSets") ko8)
theorem ko9 : vNF[9]? = some (RX9, 157, "TwinSets$TwinRows", "members", "[I", "TwinSets") := rfl
theorem kn9 {D : vD} {s : State} (h : vS D s) (args : Array Value) : (Cond.fieldLinkNest RX9 157 "TwinSets$TwinRows" "members" "[I" "TwinSets").before args s = true := va_Nw.useF (h.2.2.2.2.2.1 9 (RX9, 157, "TwinSets$TwinRows", "members", "[I", "TwinSets") ko9)
theorem ko10 : vNF[10]? = some (RX9, 154, "TwinSets$TwinRows", "places", "[I", "TwinSets") := rfl
theorem kn10 {D : vD} {s : State} (h : vS D s) (args : Array Value) : (Cond.fieldLinkNest RX9 154 "TwinSets$TwinRows" "places" "[I" "TwinSets").before args s = true := va_Nw.useF (h.2.2.2.2.2.1 10 (RX9, 154, "TwinSets$TwinRows", "places", "[I", "TwinSets") ko10)
theorem ko11 : vNF[11]? = some (RX5, 126, "TwinSets$TwinRows", "places", "[I", "TwinSets") := rfl
theorem kn11 {D : vD} {s : State} (h : vS D s) (args : Array Value) : (Cond.fieldLinkNest RX5 126 "TwinSets$TwinRows" "places" "[I" "TwinSets").before args s = true := va_Nw.useF (h.2.2.2.2.2.1 11 (RX5, 126, "TwinSets$TwinRows", "places", "[I", "TwinSets") ko11)
theorem ko12 : vNF[12]? = some (RX5, 93, "TwinSets$TwinRows", "stamps", "[I", "TwinSets") := rfl
theorem kn12 {D : vD} {s : State} (h : vS D s) (args : Array Value) : (Cond.fieldLinkNest RX5 93 "TwinSets$TwinRows" "stamps" "[I" "TwinSets").before args s = true := va_Nw.useF (h.2.2.2.2.2.1 12 (RX5, 93, "TwinSets$TwinRows", "stamps", "[I", "TwinSets") ko12)
theorem ko13 : vNF[13]? = some (RX9, 166, "TwinSets$TwinRows", "stamps", "[I", "TwinSets") := rfl
theorem kn13 {D : vD} {s : State} (h : vS D s) (args : Array Value) : (Cond.fieldLinkNest RX9 166 "TwinSets$TwinRows" "stamps" "[I" "TwinSets").before args s = true := va_Nw.useF (h.2.2.2.2.2.1 13 (RX9, 166, "TwinSets$TwinRows", "stamps", "[I", "TwinSets") ko13)
theorem ko14 : vNF[14]? = some (RX5, 96, "TwinSets$TwinRows", "log", "LTwinSets$Log;", "TwinSets") := rfl
theorem kn14 {D : vD} {s : State} (h : vS D s) (args : Array Value) : (Cond.fieldLinkNest RX5 96 "TwinSets$TwinRows" "log" "LTwinSets$Log;" "TwinSets").before args s = true := va_Nw.useF (h.2.2.2.2.2.1 14 (RX5, 96, "TwinSets$TwinRows", "log", "LTwinSets$Log;", "TwinSets") ko14)
theorem ko15 : vNF[15]? = some (RX9, 134, "TwinSets$TwinRows", "log", "LTwinSets$Log;", "TwinSets") := rfl
theorem kn15 {D : vD} {s : State} (h : vS D s) (args : Array Value) : (Cond.fieldLinkNest RX9 134 "TwinSets$TwinRows" "log" "LTwinSets$Log;" "TwinSets").before args s = true := va_Nw.useF (h.2.2.2.2.2.1 15 (RX9, 134, "TwinSets$TwinRows", "log", "LTwinSets$Log;", "TwinSets") ko15)
theorem ko16 : vNF[16]? = some (RX5, 72, "TwinSets$TwinRows", "name", "Ljava/lang/String;", "TwinSets") := rfl
theorem kn16 {D : vD} {s : State} (h : vS D s) (args : Array Value) : (Cond.fieldLinkNest RX5 72 "TwinSets$TwinRows" "name" "Ljava/lang/String;" "TwinSets").before args s = true := va_Nw.useF (h.2.2.2.2.2.1 16 (RX5, 72, "TwinSets$TwinRows", "name", "Ljava/lang/String;", "TwinSets") ko16)
theorem ko17 : vNF[17]? = some (RX5, 86, "TwinSets$TwinRows", "size", "I", "TwinSets") := rfl
theorem kn17 {D : vD} {s : State} (h : vS D s) (args : Array Value) : (Cond.fieldLinkNest RX5 86 "TwinSets$TwinRows" "size" "I" "TwinSets").before args s = true := va_Nw.useF (h.2.2.2.2.2.1 17 (RX5, 86, "TwinSets$TwinRows", "size", "I", "TwinSets") ko17)
theorem ko18 : vNF[18]? = some (RX9, 126, "TwinSets$TwinRows", "size", "I", "TwinSets") := rfl
theorem kn18 {D : vD} {s : State} (h : vS D s) (args : Array Value) : (Cond.fieldLinkNest RX9 126 "TwinSets$TwinRows" "size" "I" "TwinSets").before args s = true := va_Nw.useF (h.2.2.2.2.2.1 18 (RX9, 126, "TwinSets$TwinRows", "size", "I", "TwinSets") ko18)
theorem ko19 : vNF[19]? = some (RX9, 131, "TwinSets$TwinRows", "generation", "I", "TwinSets") := rfl
theorem kn19 {D : vD} {s : State} (h : vS D s) (args : Array Value) : (Cond.fieldLinkNest RX9 131 "TwinSets$TwinRows" "generation" "I" "TwinSets").before args s = true := va_Nw.useF (h.2.2.2.2.2.1 19 (RX9, 131, "TwinSets$TwinRows", "generation", "I", "TwinSets") ko19)
theorem ko20 : vNF[20]? = some (RX5, 129, "TwinSets$TwinRows", "generation", "I", "TwinSets") := rfl
theorem kn20 {D : vD} {s : State} (h : vS D s) (args : Array Value) : (Cond.fieldLinkNest RX5 129 "TwinSets$TwinRows" "generation" "I" "TwinSets").before args s = true := va_Nw.useF (h.2.2.2.2.2.1 20 (RX5, 129, "TwinSets$TwinRows", "generation", "I", "TwinSets") ko20)
theorem ko21 : vNF[21]? = some (RX5, 48, "TwinSets$Cursor", "isInUse", "Z", "TwinSets") := rfl
theorem kn21 {D : vD} {s : State} (h : vS D s) (args : Array Value) : (Cond.fieldLinkNest RX5 48 "TwinSets$Cursor" "isInUse" "Z" "TwinSets").before args s = true := va_Nw.useF (h.2.2.2.2.2.1 21 (RX5, 48, "TwinSets$Cursor", "isInUse", "Z", "TwinSets") ko21)
theorem ko22 : vNF[22]? = some (RX9, 277, "TwinSets$Cursor", "isInUse", "Z", "TwinSets") := rfl
theorem kn22 {D : vD} {s : State} (h : vS D s) (args : Array Value) : (Cond.fieldLinkNest RX9 277 "TwinSets$Cursor" "isInUse" "Z" "TwinSets").before args s = true := va_Nw.useF (h.2.2.2.2.2.1 22 (RX9, 277, "TwinSets$Cursor", "isInUse", "Z", "TwinSets") ko22)
theorem ko23 : vNF[23]? = some (RX5, 52, "TwinSets$Cursor", "isOpen", "Z", "TwinSets") := rfl
theorem kn23 {D : vD} {s : State} (h : vS D s) (args : Array Value) : (Cond.fieldLinkNest RX5 52 "TwinSets$Cursor" "isOpen" "Z" "TwinSets").before args s = true := va_Nw.useF (h.2.2.2.2.2.1 23 (RX5, 52, "TwinSets$Cursor", "isOpen", "Z", "TwinSets") ko23)
theorem ko24 : vNF[24]? = some (RX9, 215, "TwinSets$Cursor", "isOpen", "Z", "TwinSets") := rfl
theorem kn24 {D : vD} {s : State} (h : vS D s) (args : Array Value) : (Cond.fieldLinkNest RX9 215 "TwinSets$Cursor" "isOpen" "Z" "TwinSets").before args s = true := va_Nw.useF (h.2.2.2.2.2.1 24 (RX9, 215, "TwinSets$Cursor", "isOpen", "Z", "TwinSets") ko24)
theorem ko25 : vNF[25]? = some (RX9, 219, "TwinSets$Cursor", "isStrict", "Z", "TwinSets") := rfl
theorem kn25 {D : vD} {s : State} (h : vS D s) (args : Array Value) : (Cond.fieldLinkNest RX9 219 "TwinSets$Cursor" "isStrict" "Z" "TwinSets").before args s = true := va_Nw.useF (h.2.2.2.2.2.1 25 (RX9, 219, "TwinSets$Cursor", "isStrict", "Z", "TwinSets") ko25)
theorem ko26 : vNF[26]? = some (RX9, 207, "TwinSets$Cursor", "set", "I", "TwinSets") := rfl
theorem kn26 {D : vD} {s : State} (h : vS D s) (args : Array Value) : (Cond.fieldLinkNest RX9 207 "TwinSets$Cursor" "set" "I" "TwinSets").before args s = true := va_Nw.useF (h.2.2.2.2.2.1 26 (RX9, 207, "TwinSets$Cursor", "set", "I", "TwinSets") ko26)
theorem ko27 : vNF[27]? = some (RX5, 139, "TwinSets$Cursor", "set", "I", "TwinSets") := rfl
theorem kn27 {D : vD} {s : State} (h : vS D s) (args : Array Value) : (Cond.fieldLinkNest RX5 139 "TwinSets$Cursor" "set" "I" "TwinSets").before args s = true := va_Nw.useF (h.2.2.2.2.2.1 27 (RX5, 139, "TwinSets$Cursor", "set", "I", "TwinSets") ko27)
theorem ko28 : vNF[28]? = some (RX5, 120, "TwinSets$Cursor", "position", "I", "TwinSets") := rfl
theorem kn28 {D : vD} {s : State} (h : vS D s) (args : Array Value) : (Cond.fieldLinkNest RX5 120 "TwinSets$Cursor" "position" "I" "TwinSets").before args s = true := va_Nw.useF (h.2.2.2.2.2.1 28 (RX5, 120, "TwinSets$Cursor", "position", "I", "TwinSets") ko28)
theorem ko29 : vNF[29]? = some (RX9, 212, "TwinSets$Cursor", "position", "I", "TwinSets") := rfl
theorem kn29 {D : vD} {s : State} (h : vS D s) (args : Array Value) : (Cond.fieldLinkNest RX9 212 "TwinSets$Cursor" "position" "I" "TwinSets").before args s = true := va_Nw.useF (h.2.2.2.2.2.1 29 (RX9, 212, "TwinSets$Cursor", "position", "I", "TwinSets") ko29)
theorem ko30 : vNF[30]? = some (RX9, 222, "TwinSets$Cursor", "madeAt", "I", "TwinSets") := rfl
theorem kn30 {D : vD} {s : State} (h : vS D s) (args : Array Value) : (Cond.fieldLinkNest RX9 222 "TwinSets$Cursor" "madeAt" "I" "TwinSets").before args s = true := va_Nw.useF (h.2.2.2.2.2.1 30 (RX9, 222, "TwinSets$Cursor", "madeAt", "I", "TwinSets") ko30)
theorem ko31 : vNF[31]? = some (RX9, 225, "TwinSets$Cursor", "metCount", "I", "TwinSets") := rfl
theorem kn31 {D : vD} {s : State} (h : vS D s) (args : Array Value) : (Cond.fieldLinkNest RX9 225 "TwinSets$Cursor" "metCount" "I" "TwinSets").before args s = true := va_Nw.useF (h.2.2.2.2.2.1 31 (RX9, 225, "TwinSets$Cursor", "metCount", "I", "TwinSets") ko31)
theorem ko32 : vNF[32]? = some (RX5, 148, "TwinSets$Cursor", "metCount", "I", "TwinSets") := rfl
theorem kn32 {D : vD} {s : State} (h : vS D s) (args : Array Value) : (Cond.fieldLinkNest RX5 148 "TwinSets$Cursor" "metCount" "I" "TwinSets").before args s = true := va_Nw.useF (h.2.2.2.2.2.1 32 (RX5, 148, "TwinSets$Cursor", "metCount", "I", "TwinSets") ko32)
theorem ko33 : vNF[33]? = some (RX9, 228, "TwinSets$Cursor", "lastMet", "I", "TwinSets") := rfl
theorem kn33 {D : vD} {s : State} (h : vS D s) (args : Array Value) : (Cond.fieldLinkNest RX9 228 "TwinSets$Cursor" "lastMet" "I" "TwinSets").before args s = true := va_Nw.useF (h.2.2.2.2.2.1 33 (RX9, 228, "TwinSets$Cursor", "lastMet", "I", "TwinSets") ko33)
theorem ko34 : vNF[34]? = some (RX5, 151, "TwinSets$Cursor", "lastMet", "I", "TwinSets") := rfl
theorem kn34 {D : vD} {s : State} (h : vS D s) (args : Array Value) : (Cond.fieldLinkNest RX5 151 "TwinSets$Cursor" "lastMet" "I" "TwinSets").before args s = true := va_Nw.useF (h.2.2.2.2.2.1 34 (RX5, 151, "TwinSets$Cursor", "lastMet", "I", "TwinSets") ko34)
theorem ko35 : vNF[35]? = some (RX3, 128, "TwinSets$State", "sets", "[LTwinSets$TwinRows;", "TwinSets") := rfl
theorem kn35 {D : vD} {s : State} (h : vS D s) (args : Array Value) : (Cond.fieldLinkNest RX3 128 "TwinSets$State" "sets" "[LTwinSets$TwinRows;" "TwinSets").before args s = true := va_Nw.useF (h.2.2.2.2.2.1 35 (RX3, 128, "TwinSets$State", "sets", "[LTwinSets$TwinRows;", "TwinSets") ko35)
theorem ko36 : vNF[36]? = some (RX9, 283, "TwinSets$State", "sets", "[LTwinSets$TwinRows;", "TwinSets") := rfl
theorem kn36 {D : vD} {s : State} (h : vS D s) (args : Array Value) : (Cond.fieldLinkNest RX9 283 "TwinSets$State" "sets" "[LTwinSets$TwinRows;" "TwinSets").before args s = true := va_Nw.useF (h.2.2.2.2.2.1 36 (RX9, 283, "TwinSets$State", "sets", "[LTwinSets$TwinRows;", "TwinSets") ko36)
theorem ko37 : vNF[37]? = some (RX9, 270, "TwinSets$State", "cursors", "[LTwinSets$Cursor;", "TwinSets") := rfl
theorem kn37 {D : vD} {s : State} (h : vS D s) (args : Array Value) : (Cond.fieldLinkNest RX9 270 "TwinSets$State" "cursors" "[LTwinSets$Cursor;" "TwinSets").before args s = true := va_Nw.useF (h.2.2.2.2.2.1 37 (RX9, 270, "TwinSets$State", "cursors", "[LTwinSets$Cursor;", "TwinSets") ko37)
theorem ko38 : vNF[38]? = some (RX9, 118, "TwinSets$State", "marks", "[I", "TwinSets") := rfl
theorem kn38 {D : vD} {s : State} (h : vS D s) (args : Array Value) : (Cond.fieldLinkNest RX9 118 "TwinSets$State" "marks" "[I" "TwinSets").before args s = true := va_Nw.useF (h.2.2.2.2.2.1 38 (RX9, 118, "TwinSets$State", "marks", "[I", "TwinSets") ko38)
theorem ko39 : vNF[39]? = some (RX3, 125, "TwinSets$State", "universe", "I", "TwinSets") := rfl
theorem kn39 {D : vD} {s : State} (h : vS D s) (args : Array Value) : (Cond.fieldLinkNest RX3 125 "TwinSets$State" "universe" "I" "TwinSets").before args s = true := va_Nw.useF (h.2.2.2.2.2.1 39 (RX3, 125, "TwinSets$State", "universe", "I", "TwinSets") ko39)
theorem ko40 : vNF[40]? = some (RX9, 87, "TwinSets$State", "universe", "I", "TwinSets") := rfl
theorem kn40 {D : vD} {s : State} (h : vS D s) (args : Array Value) : (Cond.fieldLinkNest RX9 87 "TwinSets$State" "universe" "I" "TwinSets").before args s = true := va_Nw.useF (h.2.2.2.2.2.1 40 (RX9, 87, "TwinSets$State", "universe", "I", "TwinSets") ko40)
theorem ko41 : vNF[41]? = some (RX9, 90, "TwinSets$State", "horizon", "I", "TwinSets") := rfl
theorem kn41 {D : vD} {s : State} (h : vS D s) (args : Array Value) : (Cond.fieldLinkNest RX9 90 "TwinSets$State" "horizon" "I" "TwinSets").before args s = true := va_Nw.useF (h.2.2.2.2.2.1 41 (RX9, 90, "TwinSets$State", "horizon", "I", "TwinSets") ko41)
theorem ko42 : vNF[42]? = some (RX3, 94, "TwinSets$State", "setCount", "I", "TwinSets") := rfl
theorem kn42 {D : vD} {s : State} (h : vS D s) (args : Array Value) : (Cond.fieldLinkNest RX3 94 "TwinSets$State" "setCount" "I" "TwinSets").before args s = true := va_Nw.useF (h.2.2.2.2.2.1 42 (RX3, 94, "TwinSets$State", "setCount", "I", "TwinSets") ko42)
theorem ko43 : vNF[43]? = some (RX9, 84, "TwinSets$State", "setCount", "I", "TwinSets") := rfl
theorem kn43 {D : vD} {s : State} (h : vS D s) (args : Array Value) : (Cond.fieldLinkNest RX9 84 "TwinSets$State" "setCount" "I" "TwinSets").before args s = true := va_Nw.useF (h.2.2.2.2.2.1 43 (RX9, 84, "TwinSets$State", "setCount", "I", "TwinSets") ko43)
theorem ko44 : vNF[44]? = some (RX9, 96, "TwinSets$State", "markCount", "I", "TwinSets") := rfl
theorem kn44 {D : vD} {s : State} (h : vS D s) (args : Array Value) : (Cond.fieldLinkNest RX9 96 "TwinSets$State" "markCount" "I" "TwinSets").before args s = true := va_Nw.useF (h.2.2.2.2.2.1 44 (RX9, 96, "TwinSets$State", "markCount", "I", "TwinSets") ko44)
theorem ko45 : vNF[45]? = some (RX3, 142, "TwinSets$State", "markCount", "I", "TwinSets") := rfl
theorem kn45 {D : vD} {s : State} (h : vS D s) (args : Array Value) : (Cond.fieldLinkNest RX3 142 "TwinSets$State" "markCount" "I" "TwinSets").before args s = true := va_Nw.useF (h.2.2.2.2.2.1 45 (RX3, 142, "TwinSets$State", "markCount", "I", "TwinSets") ko45)
theorem ko46 : vNF[46]? = some (RX9, 93, "TwinSets$State", "clock", "I", "TwinSets") := rfl
theorem kn46 {D : vD} {s : State} (h : vS D s) (args : Array Value) : (Cond.fieldLinkNest RX9 93 "TwinSets$State" "clock" "I" "TwinSets").before args s = true := va_Nw.useF (h.2.2.2.2.2.1 46 (RX9, 93, "TwinSets$State", "clock", "I", "TwinSets") ko46)
theorem ko47 : vNF[47]? = some (RX9, 103, "TwinSets$State", "cost", "I", "TwinSets") := rfl
theorem kn47 {D : vD} {s : State} (h : vS D s) (args : Array Value) : (Cond.fieldLinkNest RX9 103 "TwinSets$State" "cost" "I" "TwinSets").before args s = true := va_Nw.useF (h.2.2.2.2.2.1 47 (RX9, 103, "TwinSets$State", "cost", "I", "TwinSets") ko47)
theorem ko48 : vNF[48]? = some (RX12, 40, "TwinSetsLaw$Box", "size", "I", "TwinSetsLaw") := rfl
theorem kn48 {D : vD} {s : State} (h : vS D s) (args : Array Value) : (Cond.fieldLinkNest RX12 40 "TwinSetsLaw$Box" "size" "I" "TwinSetsLaw").before args s = true := va_Nw.useF (h.2.2.2.2.2.1 48 (RX12, 40, "TwinSetsLaw$Box", "size", "I", "TwinSetsLaw") ko48)
theorem ko49 : vNF[49]? = some (RL, 143, "TwinSetsLaw$Box", "size", "I", "TwinSetsLaw") := rfl
theorem kn49 {D : vD} {s : State} (h : vS D s) (args : Array Value) : (Cond.fieldLinkNest RL 143 "TwinSetsLaw$Box" "size" "I" "TwinSetsLaw").before args s = true := va_Nw.useF (h.2.2.2.2.2.1 49 (RL, 143, "TwinSetsLaw$Box", "size", "I", "TwinSetsLaw") ko49)
theorem ko50 : vNF[50]? = some (RX12, 68, "TwinSetsLaw$Box", "generation", "I", "TwinSetsLaw") := rfl
theorem kn50 {D : vD} {s : State} (h : vS D s) (args : Array Value) : (Cond.fieldLinkNest RX12 68 "TwinSetsLaw$Box" "generation" "I" "TwinSetsLaw").before args s = true := va_Nw.useF (h.2.2.2.2.2.1 50 (RX12, 68, "TwinSetsLaw$Box", "generation", "I", "TwinSetsLaw") ko50)
theorem ko51 : vNF[51]? = some (RL, 146, "TwinSetsLaw$Box", "generation", "I", "TwinSetsLaw") := rfl
theorem kn51 {D : vD} {s : State} (h : vS D s) (args : Array Value) : (Cond.fieldLinkNest RL 146 "TwinSetsLaw$Box" "generation" "I" "TwinSetsLaw").before args s = true := va_Nw.useF (h.2.2.2.2.2.1 51 (RL, 146, "TwinSetsLaw$Box", "generation", "I", "TwinSetsLaw") ko51)
theorem ko52 : vNF[52]? = some (RL, 179, "TwinSetsLaw$Box", "events", "I", "TwinSetsLaw") := rfl
theorem kn52 {D : vD} {s : State} (h : vS D s) (args : Array Value) : (Cond.fieldLinkNest RL 179 "TwinSetsLaw$Box" "events" "I" "TwinSetsLaw").before args s = true := va_Nw.useF (h.2.2.2.2.2.1 52 (RL, 179, "TwinSetsLaw$Box", "events", "I", "TwinSetsLaw") ko52)
theorem ko53 : vNF[53]? = some (RX12, 26, "TwinSetsLaw$Box", "members", "[I", "TwinSetsLaw") := rfl
theorem kn53 {D : vD} {s : State} (h : vS D s) (args : Array Value) : (Cond.fieldLinkNest RX12 26 "TwinSetsLaw$Box" "members" "[I" "TwinSetsLaw").before args s = true := va_Nw.useF (h.2.2.2.2.2.1 53 (RX12, 26, "TwinSetsLaw$Box", "members", "[I", "TwinSetsLaw") ko53)
theorem ko54 : vNF[54]? = some (RL, 160, "TwinSetsLaw$Box", "members", "[I", "TwinSetsLaw") := rfl
theorem kn54 {D : vD} {s : State} (h : vS D s) (args : Array Value) : (Cond.fieldLinkNest RL 160 "TwinSetsLaw$Box" "members" "[I" "TwinSetsLaw").before args s = true := va_Nw.useF (h.2.2.2.2.2.1 54 (RL, 160, "TwinSetsLaw$Box", "members", "[I", "TwinSetsLaw") ko54)
theorem ko55 : vNF[55]? = some (RX12, 29, "TwinSetsLaw$Box", "places", "[I", "TwinSetsLaw") := rfl
theorem kn55 {D : vD} {s : State} (h : vS D s) (args : Array Value) : (Cond.fieldLinkNest RX12 29 "TwinSetsLaw$Box" "places" "[I" "TwinSetsLaw").before args s = true := va_Nw.useF (h.2.2.2.2.2.1 55 (RX12, 29, "TwinSetsLaw$Box", "places", "[I", "TwinSetsLaw") ko55)
theorem ko56 : vNF[56]? = some (RL, 163, "TwinSetsLaw$Box", "places", "[I", "TwinSetsLaw") := rfl
theorem kn56 {D : vD} {s : State} (h : vS D s) (args : Array Value) : (Cond.fieldLinkNest RL 163 "TwinSetsLaw$Box" "places" "[I" "TwinSetsLaw").before args s = true := va_Nw.useF (h.2.2.2.2.2.1 56 (RL, 163, "TwinSetsLaw$Box", "places", "[I", "TwinSetsLaw") ko56)
theorem ko57 : vNF[57]? = some (RX11, 24, "TwinSetsLaw$Box", "stamps", "[I", "TwinSetsLaw") := rfl
theorem kn57 {D : vD} {s : State} (h : vS D s) (args : Array Value) : (Cond.fieldLinkNest RX11 24 "TwinSetsLaw$Box" "stamps" "[I" "TwinSetsLaw").before args s = true := va_Nw.useF (h.2.2.2.2.2.1 57 (RX11, 24, "TwinSetsLaw$Box", "stamps", "[I", "TwinSetsLaw") ko57)
theorem ko58 : vNF[58]? = some (RX12, 50, "TwinSetsLaw$Box", "stamps", "[I", "TwinSetsLaw") := rfl
theorem kn58 {D : vD} {s : State} (h : vS D s) (args : Array Value) : (Cond.fieldLinkNest RX12 50 "TwinSetsLaw$Box" "stamps" "[I" "TwinSetsLaw").before args s = true := va_Nw.useF (h.2.2.2.2.2.1 58 (RX12, 50, "TwinSetsLaw$Box", "stamps", "[I", "TwinSetsLaw") ko58)
theorem ko59 : vNF[59]? = some (RL, 176, "TwinSetsLaw$Box", "stamps", "[I", "TwinSetsLaw") := rfl
theorem kn59 {D : vD} {s : State} (h : vS D s) (args : Array Value) : (Cond.fieldLinkNest RL 176 "TwinSetsLaw$Box" "stamps" "[I" "TwinSetsLaw").before args s = true := va_Nw.useF (h.2.2.2.2.2.1 59 (RL, 176, "TwinSetsLaw$Box", "stamps", "[I", "TwinSetsLaw") ko59)
theorem ko60 : vNF[60]? = some (RL, 186, "TwinSetsLaw$Box", "stamp", "[I", "TwinSetsLaw") := rfl
theorem kn60 {D : vD} {s : State} (h : vS D s) (args : Array Value) : (Cond.fieldLinkNest RL 186 "TwinSetsLaw$Box" "stamp" "[I" "TwinSetsLaw").before args s = true := va_Nw.useF (h.2.2.2.2.2.1 60 (RL, 186, "TwinSetsLaw$Box", "stamp", "[I", "TwinSetsLaw") ko60)
theorem ko61 : vNF[61]? = some (RL, 189, "TwinSetsLaw$Box", "number", "[I", "TwinSetsLaw") := rfl
theorem kn61 {D : vD} {s : State} (h : vS D s) (args : Array Value) : (Cond.fieldLinkNest RL 189 "TwinSetsLaw$Box" "number" "[I" "TwinSetsLaw").before args s = true := va_Nw.useF (h.2.2.2.2.2.1 61 (RL, 189, "TwinSetsLaw$Box", "number", "[I", "TwinSetsLaw") ko61)
theorem ko62 : vNF[62]? = some (RL, 192, "TwinSetsLaw$Box", "kind", "[I", "TwinSetsLaw") := rfl
theorem kn62 {D : vD} {s : State} (h : vS D s) (args : Array Value) : (Cond.fieldLinkNest RL 192 "TwinSetsLaw$Box" "kind" "[I" "TwinSetsLaw").before args s = true := va_Nw.useF (h.2.2.2.2.2.1 62 (RL, 192, "TwinSetsLaw$Box", "kind", "[I", "TwinSetsLaw") ko62)
theorem ko63 : vNF[63]? = some (RL, 253, "TwinSetsLaw$Box", "then", "[J", "TwinSetsLaw") := rfl
theorem kn63 {D : vD} {s : State} (h : vS D s) (args : Array Value) : (Cond.fieldLinkNest RL 253 "TwinSetsLaw$Box" "then" "[J" "TwinSetsLaw").before args s = true := va_Nw.useF (h.2.2.2.2.2.1 63 (RL, 253, "TwinSetsLaw$Box", "then", "[J", "TwinSetsLaw") ko63)
theorem ko64 : vNF[64]? = some (RL, 46, "TwinSetsLaw$Sets", "many", "I", "TwinSetsLaw") := rfl
theorem kn64 {D : vD} {s : State} (h : vS D s) (args : Array Value) : (Cond.fieldLinkNest RL 46 "TwinSetsLaw$Sets" "many" "I" "TwinSetsLaw").before args s = true := va_Nw.useF (h.2.2.2.2.2.1 64 (RL, 46, "TwinSetsLaw$Sets", "many", "I", "TwinSetsLaw") ko64)
theorem ko65 : vNF[65]? = some (RL, 39, "TwinSetsLaw$Sets", "universe", "I", "TwinSetsLaw") := rfl
theorem kn65 {D : vD} {s : State} (h : vS D s) (args : Array Value) : (Cond.fieldLinkNest RL 39 "TwinSetsLaw$Sets" "universe" "I" "TwinSetsLaw").before args s = true := va_Nw.useF (h.2.2.2.2.2.1 65 (RL, 39, "TwinSetsLaw$Sets", "universe", "I", "TwinSetsLaw") ko65)
theorem ko66 : vNF[66]? = some (RL, 43, "TwinSetsLaw$Sets", "horizon", "I", "TwinSetsLaw") := rfl
theorem kn66 {D : vD} {s : State} (h : vS D s) (args : Array Value) : (Cond.fieldLinkNest RL 43 "TwinSetsLaw$Sets" "horizon" "I" "TwinSetsLaw").before args s = true := va_Nw.useF (h.2.2.2.2.2.1 66 (RL, 43, "TwinSetsLaw$Sets", "horizon", "I", "TwinSetsLaw") ko66)
theorem ko67 : vNF[67]? = some (RL, 99, "TwinSetsLaw$Sets", "clock", "I", "TwinSetsLaw") := rfl
theorem kn67 {D : vD} {s : State} (h : vS D s) (args : Array Value) : (Cond.fieldLinkNest RL 99 "TwinSetsLaw$Sets" "clock" "I" "TwinSetsLaw").before args s = true := va_Nw.useF (h.2.2.2.2.2.1 67 (RL, 99, "TwinSetsLaw$Sets", "clock", "I", "TwinSetsLaw") ko67)
theorem ko68 : vNF[68]? = some (RL, 223, "TwinSetsLaw$Sets", "cost", "I", "TwinSetsLaw") := rfl
theorem kn68 {D : vD} {s : State} (h : vS D s) (args : Array Value) : (Cond.fieldLinkNest RL 223 "TwinSetsLaw$Sets" "cost" "I" "TwinSetsLaw").before args s = true := va_Nw.useF (h.2.2.2.2.2.1 68 (RL, 223, "TwinSetsLaw$Sets", "cost", "I", "TwinSetsLaw") ko68)
theorem ko69 : vNF[69]? = some (RL, 96, "TwinSetsLaw$Sets", "marks", "I", "TwinSetsLaw") := rfl
theorem kn69 {D : vD} {s : State} (h : vS D s) (args : Array Value) : (Cond.fieldLinkNest RL 96 "TwinSetsLaw$Sets" "marks" "I" "TwinSetsLaw").before args s = true := va_Nw.useF (h.2.2.2.2.2.1 69 (RL, 96, "TwinSetsLaw$Sets", "marks", "I", "TwinSetsLaw") ko69)
theorem ko70 : vNF[70]? = some (RL, 80, "TwinSetsLaw$Sets", "box", "[LTwinSetsLaw$Box;", "TwinSetsLaw") := rfl
theorem kn70 {D : vD} {s : State} (h : vS D s) (args : Array Value) : (Cond.fieldLinkNest RL 80 "TwinSetsLaw$Sets" "box" "[LTwinSetsLaw$Box;" "TwinSetsLaw").before args s = true := va_Nw.useF (h.2.2.2.2.2.1 70 (RL, 80, "TwinSetsLaw$Sets", "box", "[LTwinSetsLaw$Box;", "TwinSetsLaw") ko70)
theorem ko71 : vNF[71]? = some (RL, 124, "TwinSetsLaw$Sets", "cursor", "[LTwinSetsLaw$Cursor;", "TwinSetsLaw") := rfl
theorem kn71 {D : vD} {s : State} (h : vS D s) (args : Array Value) : (Cond.fieldLinkNest RL 124 "TwinSetsLaw$Sets" "cursor" "[LTwinSetsLaw$Cursor;" "TwinSetsLaw").before args s = true := va_Nw.useF (h.2.2.2.2.2.1 71 (RL, 124, "TwinSetsLaw$Sets", "cursor", "[LTwinSetsLaw$Cursor;", "TwinSetsLaw") ko71)
theorem ko72 : vNF[72]? = some (RL, 92, "TwinSetsLaw$Sets", "mark", "[I", "TwinSetsLaw") := rfl
theorem kn72 {D : vD} {s : State} (h : vS D s) (args : Array Value) : (Cond.fieldLinkNest RL 92 "TwinSetsLaw$Sets" "mark" "[I" "TwinSetsLaw").before args s = true := va_Nw.useF (h.2.2.2.2.2.1 72 (RL, 92, "TwinSetsLaw$Sets", "mark", "[I", "TwinSetsLaw") ko72)
theorem ko73 : vNF[73]? = some (RX9, 75, "TwinSets$Parser", "errorCode", "I", "TwinSets") := rfl
theorem kn73 {D : vD} {s : State} (h : vS D s) (args : Array Value) : (Cond.fieldLinkNest RX9 75 "TwinSets$Parser" "errorCode" "I" "TwinSets").before args s = true := va_Nw.useF (h.2.2.2.2.2.1 73 (RX9, 75, "TwinSets$Parser", "errorCode", "I", "TwinSets") ko73)
theorem ko74 : vNF[74]? = some (RX9, 71, "TwinSets$Parser", "errorAt", "I", "TwinSets") := rfl
theorem kn74 {D : vD} {s : State} (h : vS D s) (args : Array Value) : (Cond.fieldLinkNest RX9 71 "TwinSets$Parser" "errorAt" "I" "TwinSets").before args s = true := va_Nw.useF (h.2.2.2.2.2.1 74 (RX9, 71, "TwinSets$Parser", "errorAt", "I", "TwinSets") ko74)
theorem ko75 : vNF[75]? = some (RX12, 61, "TwinSetsLaw$Cursor", "of", "LTwinSetsLaw$Box;", "TwinSetsLaw") := rfl
theorem kn75 {D : vD} {s : State} (h : vS D s) (args : Array Value) : (Cond.fieldLinkNest RX12 61 "TwinSetsLaw$Cursor" "of" "LTwinSetsLaw$Box;" "TwinSetsLaw").before args s = true := va_Nw.useF (h.2.2.2.2.2.1 75 (RX12, 61, "TwinSetsLaw$Cursor", "of", "LTwinSetsLaw$Box;", "TwinSetsLaw") ko75)
theorem ko76 : vNF[76]? = some (RL, 128, "TwinSetsLaw$Cursor", "of", "LTwinSetsLaw$Box;", "TwinSetsLaw") := rfl
theorem kn76 {D : vD} {s : State} (h : vS D s) (args : Array Value) : (Cond.fieldLinkNest RL 128 "TwinSetsLaw$Cursor" "of" "LTwinSetsLaw$Box;" "TwinSetsLaw").before args s = true := va_Nw.useF (h.2.2.2.2.2.1 76 (RL, 128, "TwinSetsLaw$Cursor", "of", "LTwinSetsLaw$Box;", "TwinSetsLaw") ko76)
theorem ko77 : vNF[77]? = some (RL, 195, "TwinSetsLaw$Cursor", "set", "I", "TwinSetsLaw") := rfl
theorem kn77 {D : vD} {s : State} (h : vS D s) (args : Array Value) : (Cond.fieldLinkNest RL 195 "TwinSetsLaw$Cursor" "set" "I" "TwinSetsLaw").before args s = true := va_Nw.useF (h.2.2.2.2.2.1 77 (RL, 195, "TwinSetsLaw$Cursor", "set", "I", "TwinSetsLaw") ko77)
theorem ko78 : vNF[78]? = some (RX12, 65, "TwinSetsLaw$Cursor", "position", "I", "TwinSetsLaw") := rfl
theorem kn78 {D : vD} {s : State} (h : vS D s) (args : Array Value) : (Cond.fieldLinkNest RX12 65 "TwinSetsLaw$Cursor" "position" "I" "TwinSetsLaw").before args s = true := va_Nw.useF (h.2.2.2.2.2.1 78 (RX12, 65, "TwinSetsLaw$Cursor", "position", "I", "TwinSetsLaw") ko78)
theorem ko79 : vNF[79]? = some (RL, 197, "TwinSetsLaw$Cursor", "position", "I", "TwinSetsLaw") := rfl
theorem kn79 {D : vD} {s : State} (h : vS D s) (args : Array Value) : (Cond.fieldLinkNest RL 197 "TwinSetsLaw$Cursor" "position" "I" "TwinSetsLaw").before args s = true := va_Nw.useF (h.2.2.2.2.2.1 79 (RL, 197, "TwinSetsLaw$Cursor", "position", "I", "TwinSetsLaw") ko79)
theorem ko80 : vNF[80]? = some (RL, 203, "TwinSetsLaw$Cursor", "made", "I", "TwinSetsLaw") := rfl
theorem kn80 {D : vD} {s : State} (h : vS D s) (args : Array Value) : (Cond.fieldLinkNest RL 203 "TwinSetsLaw$Cursor" "made" "I" "TwinSetsLaw").before args s = true := va_Nw.useF (h.2.2.2.2.2.1 80 (RL, 203, "TwinSetsLaw$Cursor", "made", "I", "TwinSetsLaw") ko80)
theorem ko81 : vNF[81]? = some (RX12, 74, "TwinSetsLaw$Cursor", "met", "I", "TwinSetsLaw") := rfl
theorem kn81 {D : vD} {s : State} (h : vS D s) (args : Array Value) : (Cond.fieldLinkNest RX12 74 "TwinSetsLaw$Cursor" "met" "I" "TwinSetsLaw").before args s = true := va_Nw.useF (h.2.2.2.2.2.1 81 (RX12, 74, "TwinSetsLaw$Cursor", "met", "I", "TwinSetsLaw") ko81)
theorem ko82 : vNF[82]? = some (RL, 206, "TwinSetsLaw$Cursor", "met", "I", "TwinSetsLaw") := rfl
theorem kn82 {D : vD} {s : State} (h : vS D s) (args : Array Value) : (Cond.fieldLinkNest RL 206 "TwinSetsLaw$Cursor" "met" "I" "TwinSetsLaw").before args s = true := va_Nw.useF (h.2.2.2.2.2.1 82 (RL, 206, "TwinSetsLaw$Cursor", "met", "I", "TwinSetsLaw") ko82)
theorem ko83 : vNF[83]? = some (RX12, 77, "TwinSetsLaw$Cursor", "last", "I", "TwinSetsLaw") := rfl
theorem kn83 {D : vD} {s : State} (h : vS D s) (args : Array Value) : (Cond.fieldLinkNest RX12 77 "TwinSetsLaw$Cursor" "last" "I" "TwinSetsLaw").before args s = true := va_Nw.useF (h.2.2.2.2.2.1 83 (RX12, 77, "TwinSetsLaw$Cursor", "last", "I", "TwinSetsLaw") ko83)
theorem ko84 : vNF[84]? = some (RL, 209, "TwinSetsLaw$Cursor", "last", "I", "TwinSetsLaw") := rfl
theorem kn84 {D : vD} {s : State} (h : vS D s) (args : Array Value) : (Cond.fieldLinkNest RL 209 "TwinSetsLaw$Cursor" "last" "I" "TwinSetsLaw").before args s = true := va_Nw.useF (h.2.2.2.2.2.1 84 (RL, 209, "TwinSetsLaw$Cursor", "last", "I", "TwinSetsLaw") ko84)
theorem ko85 : vNF[85]? = some (RX12, 57, "TwinSetsLaw$Cursor", "open", "Z", "TwinSetsLaw") := rfl
theorem kn85 {D : vD} {s : State} (h : vS D s) (args : Array Value) : (Cond.fieldLinkNest RX12 57 "TwinSetsLaw$Cursor" "open" "Z" "TwinSetsLaw").before args s = true := va_Nw.useF (h.2.2.2.2.2.1 85 (RX12, 57, "TwinSetsLaw$Cursor", "open", "Z", "TwinSetsLaw") ko85)
theorem ko86 : vNF[86]? = some (RL, 134, "TwinSetsLaw$Cursor", "open", "Z", "TwinSetsLaw") := rfl
theorem kn86 {D : vD} {s : State} (h : vS D s) (args : Array Value) : (Cond.fieldLinkNest RL 134 "TwinSetsLaw$Cursor" "open" "Z" "TwinSetsLaw").before args s = true := va_Nw.useF (h.2.2.2.2.2.1 86 (RL, 134, "TwinSetsLaw$Cursor", "open", "Z", "TwinSetsLaw") ko86)
theorem ko87 : vNF[87]? = some (RL, 200, "TwinSetsLaw$Cursor", "strict", "Z", "TwinSetsLaw") := rfl
theorem kn87 {D : vD} {s : State} (h : vS D s) (args : Array Value) : (Cond.fieldLinkNest RL 200 "TwinSetsLaw$Cursor" "strict" "Z" "TwinSetsLaw").before args s = true := va_Nw.useF (h.2.2.2.2.2.1 87 (RL, 200, "TwinSetsLaw$Cursor", "strict", "Z", "TwinSetsLaw") ko87)
theorem kp0 : vNM[0]? = some (RX9, 9, yX1_init, "TwinSets") := rfl
theorem km0 {D : vD} {s : State} (h : vS D s) : va_Nw (.methodLinkNest RX9 9 yX1_init "TwinSets") s := h.2.2.2.2.2.2.1 0 (RX9, 9, yX1_init, "TwinSets") kp0
theorem kp1 : vNM[1]? = some (RX9, 18, yX8_init, "TwinSets") := rfl
theorem km1 {D : vD} {s : State} (h : vS D s) : va_Nw (.methodLinkNest RX9 18 yX8_init "TwinSets") s := h.2.2.2.2.2.2.1 1 (RX9, 18, yX8_init, "TwinSets") kp1
theorem kp2 : vNM[2]? = some (RX9, 25, yX4_init, "TwinSets") := rfl
theorem km2 {D : vD} {s : State} (h : vS D s) : va_Nw (.methodLinkNest RX9 25 yX4_init "TwinSets") s := h.2.2.2.2.2.2.1 2 (RX9, 25, yX4_init, "TwinSets") kp2
theorem kp3 : vNM[3]? = some (RX5, 27, yX7_init, "TwinSets") := rfl
theorem km3 {D : vD} {s : State} (h : vS D s) : va_Nw (.methodLinkNest RX5 27 yX7_init "TwinSets") s := h.2.2.2.2.2.2.1 3 (RX5, 27, yX7_init, "TwinSets") kp3
theorem kp4 : vNM[4]? = some (RX7, 23, yX2_init, "TwinSets") := rfl
theorem km4 {D : vD} {s : State} (h : vS D s) : va_Nw (.methodLinkNest RX7 23 yX2_init "TwinSets") s := h.2.2.2.2.2.2.1 4 (RX7, 23, yX2_init, "TwinSets") kp4
theorem kp5 : vNM[5]? = some (RX5, 28, yX0_init, "TwinSets") := rfl
theorem km5 {D : vD} {s : State} (h : vS D s) : va_Nw (.methodLinkNest RX5 28 yX0_init "TwinSets") s := h.2.2.2.2.2.2.1 5 (RX5, 28, yX0_init, "TwinSets") kp5
theorem kp6 : vNM[6]? = some (RL, 34, yX12_init, "TwinSetsLaw") := rfl
theorem km6 {D : vD} {s : State} (h : vS D s) : va_Nw (.methodLinkNest RL 34 yX12_init "TwinSetsLaw") s := h.2.2.2.2.2.2.1 6 (RL, 34, yX12_init, "TwinSetsLaw") kp6
theorem kp7 : vNM[7]? = some (RX12, 9, yX10_init, "TwinSetsLaw") := rfl
theorem km7 {D : vD} {s : State} (h : vS D s) : va_Nw (.methodLinkNest RX12 9 yX10_init "TwinSetsLaw") s := h.2.2.2.2.2.2.1 7 (RX12, 9, yX10_init, "TwinSetsLaw") kp7
theorem kp8 : vNM[8]? = some (RL, 283, yX11_init, "TwinSetsLaw") := rfl
theorem km8 {D : vD} {s : State} (h : vS D s) : va_Nw (.methodLinkNest RL 283 yX11_init "TwinSetsLaw") s := h.2.2.2.2.2.2.1 8 (RL, 283, yX11_init, "TwinSetsLaw") kp8
end
section
/-! exceptions: 0 illegal argument, 1 index, 2 illegal state -/
abbrev xnm : List String := ["java/lang/RuntimeException", "java/lang/Exception"]
theorem xat0 : ∀ w ∈ (vx_atS RX9 59 "java/lang/IllegalArgumentException" xnm).filter goodWord, w ∈ TB := by decide +kernel
theorem xbt0 : ∀ w ∈ (vx_atS RX9 59 "java/lang/IllegalArgumentException" xnm).filter (fun w => !goodWord w), w ∈ [Cond.castable "java/lang/IllegalArgumentException" "java/lang/IllegalArgumentException", Cond.declares (Bundle.initS "java/lang/RuntimeException"), Cond.declares (Bundle.initS "java/lang/Exception"), Cond.declares (Bundle.initS Bundle.tN)] := by decide +kernel
theorem xot0 : ∀ w ∈ Cond.classLink RX9 55 "java/lang/IllegalArgumentException" :: Cond.initialized "java/lang/IllegalArgumentException" :: vx_atS RX9 59 "java/lang/IllegalArgumentException" xnm, vx_ot w = true := by decide +kernel
theorem xat1 : ∀ w ∈ (vx_atS RX9 324 "java/lang/IndexOutOfBoundsException" xnm).filter goodWord, w ∈ TB := by decide +kernel
theorem xbt1 : ∀ w ∈ (vx_atS RX9 324 "java/lang/IndexOutOfBoundsException" xnm).filter (fun w => !goodWord w), w ∈ [Cond.castable "java/lang/IndexOutOfBoundsException" "java/lang/IndexOutOfBoundsException", Cond.declares (Bundle.initS "java/lang/RuntimeException"), Cond.declares (Bundle.initS "java/lang/Exception"), Cond.declares (Bundle.initS Bundle.tN)] := by decide +kernel
theorem xot1 : ∀ w ∈ Cond.classLink RX9 320 "java/lang/IndexOutOfBoundsException" :: Cond.initialized "java/lang/IndexOutOfBoundsException" :: vx_atS RX9 324 "java/lang/IndexOutOfBoundsException" xnm, vx_ot w = true := by decide +kernel
theorem xat2 : ∀ w ∈ (vx_atS RX9 261 "java/lang/IllegalStateException" xnm).filter goodWord, w ∈ TB := by decide +kernel
theorem xbt2 : ∀ w ∈ (vx_atS RX9 261 "java/lang/IllegalStateException" xnm).filter (fun w => !goodWord w), w ∈ [Cond.castable "java/lang/IllegalStateException" "java/lang/IllegalStateException", Cond.declares (Bundle.initS "java/lang/RuntimeException"), Cond.declares (Bundle.initS "java/lang/Exception"), Cond.declares (Bundle.initS Bundle.tN)] := by decide +kernel
theorem xot2 : ∀ w ∈ Cond.classLink RX9 257 "java/lang/IllegalStateException" :: Cond.initialized "java/lang/IllegalStateException" :: vx_atS RX9 261 "java/lang/IllegalStateException" xnm, vx_ot w = true := by decide +kernel
theorem xfit : ∀ n ∈ xnm, Bundle.fit n = true := by decide +kernel
def qX (D : vD) (ov : Option (Option Value)) (M1 : vMe) : Array Value → State → Outcome → State → Prop := fun a st oc t => ∃ v, ov = some v ∧ qW D v M1 a st oc t
def xX (D : vD) (oe : Option Nat) (M1 : vMe) : String → State → State → Prop := fun E st t => ∃ j, oe = some j ∧ E = vE j ∧ (∃ a b, M1.2.1 ≤ a ∧ M1.2.2.1 ≤ b ∧ vRp D (M1.1, a, b, M1.2.2.2) t.heap) ∧ va_F (vA D) st t
theorem vRp.ext {D : vD} {M : vMe} {H H1 : Heap} (hR : vRp D M H) (hz : H.size ≤ H1.size) (hk : ∀ q : Nat, q < H.size → H1[q]? = H[q]?) : M.2.1 ≤ H1.size ∧ M.2.2.1 ≤ vSum D.2.2.2.1 H1 ∧ vRp D (M.1, H1.size, vSum D.2.2.2.1 H1, M.2.2.2) H1 := by
  obtain ⟨r1, r2, r3, r4, r5, r6⟩ := hR
  have h := vSum_split (H0 := H) (H := H1) r5 hz (fun a x hx => ⟨x, by rw [hk a (Array.getElem?_eq_some_iff.mp hx).1]; exact hx, rfl⟩)
  refine ⟨by omega, by omega, fun q => ?_, rfl, rfl, r4, by omega, fun q hq => r6 q ?_⟩
  · rcases Nat.lt_or_ge q H.size with g | g
    · exact (r1 q).kept (hk q g)
    · have h0 := r6 q (by omega)
      exact ⟨fun h1 => absurd h1 (by show ¬ 0 < (M.1 q).1; omega), fun h1 => absurd h1 (by show ¬ 100 < (M.1 q).1; omega)⟩
  · have : H1.size ≤ q := hq
    omega
section VX
variable {p : Program} {l : Launch} {e : Env} {R : Room} {s : State} {m : MethodId} {args : Array Value} {below : List Frame} {meth : Method} {c : Code} {H : Heap} {locs : List Loc} {n k mc ms : Nat} {Q : State → Prop}
variable {D : vD} {M M1 : vMe} {cc : ByteArray} {pc : Nat} {ls : Array Slot} {rest st0 : List Value} {Qc : Array Value → State → Outcome → State → Prop} {XC : String → State → State → Prop}
theorem v_xok {v : Option Value} {g : JFrame} (kk : vV D p l e R s m args below meth c n k (MQ below (qW D v M1) args s n k (vA D)) M g) : vV D p l e R s m args below meth c n k (vx_MQ below (qX D (some v) M1) XC args s n k (vA D)) M g := by
  intro H locs hR hS
  refine vx_ret ?_
  intro T hT X
  obtain ⟨t, h1, o, h2, h3, h4, h5⟩ := kk H locs hR hS T hT X
  exact ⟨t, h1, o, h2, h3, ⟨v, rfl, h4⟩, h5⟩
theorem v_thX {cls : String} {j : Nat} (hj : cls = vE j) (hR : vRp D M H) (hS : va_S (vA D) s.heap H locs) : ∀ t : State, s.vm.Alike t.vm → H.size ≤ t.heap.size → (∀ q : Nat, q < H.size → t.heap[q]? = H[q]?) → xX D (some j) M cls s t := by
  intro t _ hz hk
  obtain ⟨h1, h2, h3⟩ := hR.ext hz hk
  exact ⟨j, rfl, hj, ⟨_, _, h1, h2, h3⟩, Nat.le_trans hS.1 hz, fun q q1 q2 => (hk q (Nat.lt_of_lt_of_le q1 hS.1)).trans (hS.2.1 q q1 q2)⟩
theorem v_thS {cls text : String} {ik is ic sa j : Nat} (hx : p.tables.exec = Jvm.exec) (hb : c.code = cc) (hl : l.stackTraces = false) (hown : s.vm.findClass RX9 = some m.cls) (hcls : Bundle.fit cls = true)
    (hts : ∀ w ∈ TB, w.before args s = true) (hk : Cond.classLink RX9 ik cls ∈ TB) (hini : Cond.initialized cls ∈ TB) (hstr : vk_R RX9 is text sa s) (hat : ∀ w ∈ (vx_atS RX9 ic cls xnm).filter goodWord, w ∈ TB) (hbt : ∀ w ∈ (vx_atS RX9 ic cls xnm).filter (fun w => !goodWord w), w ∈ [Cond.castable cls cls, Cond.declares (Bundle.initS "java/lang/RuntimeException"), Cond.declares (Bundle.initS "java/lang/Exception"), Cond.declares (Bundle.initS Bundle.tN)]) (hj3 : j < 3)
    (hgood : ∀ w ∈ Cond.classLink RX9 ik cls :: Cond.initialized cls :: vx_atS RX9 ic cls xnm, vx_ot w = true) (hSS : vS D s) (hsize : ls.size = c.maxLocals)
    (d0 : decode cc pc = .ok (.new ik, 3)) (d3 : decode cc (pc + 3) = .ok (.dup, 1)) (d4 : decode cc (pc + 4) = .ok (.ldc is, 2)) (d6 : decode cc (pc + 6) = .ok (.invokespecial ic, 3)) (d9 : decode cc (pc + 9) = .ok (.athrow, 1))
    (hnt : ∀ x ∈ c.exceptionTable.toList, False) (hRf : 5 < R.frames) (hRl : (rest.map fun v => v.category).sum + 82 ≤ R.locals) (hRc : n + 1 ≤ R.cells) (hRs : k + 6 ≤ R.slots) (hlk : meth.locks = false) (hc : n + 1 ≤ mc) (hs : k + 6 ≤ ms) (hj : cls = vE j) :
    vV D p l e R s m args below meth c n k (vx_MQ below Qc (xX D (some j) M) args s mc ms (vA D)) M (F0 m pc ls rest) :=
  fun H locs hR hS => vx_throwS hx hb hl hown hcls xfit (hts _ hk) (hts _ hini) hstr (vx_hat (fun w hw => hts w (hat w hw)) hbt (vx_c (va_Nw.use rfl (hj ▸ hSS.2.2.2.2.2.2.2.2.1 j hj3)) (vx_c (va_Nw.use rfl (hSS.2.2.2.2.2.2.2.2.2.2.2 0 _ rfl)) (vx_c (va_Nw.use rfl (hSS.2.2.2.2.2.2.2.2.2.2.2 1 _ rfl)) (vx_c (va_Nw.use rfl (hSS.2.2.2.2.2.2.2.2.2.2.2 2 _ rfl)) vx_n))))) hgood hSS.2.1.1 hSS.2.1.2 hS hsize d0 d3 d4 d6 d9 (fun x h => (hnt x h).elim) hRf hRl hRc hRs hlk (v_thX hj hR hS) hS.2.2 hc hs
theorem v_thW {cls text : String} {ik is ic sa j : Nat} (hx : p.tables.exec = Jvm.exec) (hb : c.code = cc) (hl : l.stackTraces = false) (hown : s.vm.findClass RX9 = some m.cls) (hcls : Bundle.fit cls = true)
    (hts : ∀ w ∈ TB, w.before args s = true) (hk : Cond.classLink RX9 ik cls ∈ TB) (hini : Cond.initialized cls ∈ TB) (hstr : vk_R RX9 is text sa s) (hat : ∀ w ∈ (vx_atS RX9 ic cls xnm).filter goodWord, w ∈ TB) (hbt : ∀ w ∈ (vx_atS RX9 ic cls xnm).filter (fun w => !goodWord w), w ∈ [Cond.castable cls cls, Cond.declares (Bundle.initS "java/lang/RuntimeException"), Cond.declares (Bundle.initS "java/lang/Exception"), Cond.declares (Bundle.initS Bundle.tN)]) (hj3 : j < 3)
    (hgood : ∀ w ∈ Cond.classLink RX9 ik cls :: Cond.initialized cls :: vx_atS RX9 ic cls xnm, vx_ot w = true) (hSS : vS D s) (hsize : ls.size = c.maxLocals)
    (d0 : decode cc pc = .ok (.new ik, 3)) (d3 : decode cc (pc + 3) = .ok (.dup, 1)) (d4 : decode cc (pc + 4) = .ok (.ldc_w is, 3)) (d7 : decode cc (pc + 7) = .ok (.invokespecial ic, 3)) (d10 : decode cc (pc + 10) = .ok (.athrow, 1))
    (hnt : ∀ x ∈ c.exceptionTable.toList, False) (hRf : 5 < R.frames) (hRl : (rest.map fun v => v.category).sum + 82 ≤ R.locals) (hRc : n + 1 ≤ R.cells) (hRs : k + 6 ≤ R.slots) (hlk : meth.locks = false) (hc : n + 1 ≤ mc) (hs : k + 6 ≤ ms) (hj : cls = vE j) :
    vV D p l e R s m args below meth c n k (vx_MQ below Qc (xX D (some j) M) args s mc ms (vA D)) M (F0 m pc ls rest) :=
  fun H locs hR hS => vx_throwSW hx hb hl hown hcls xfit (hts _ hk) (hts _ hini) hstr (vx_hat (fun w hw => hts w (hat w hw)) hbt (vx_c (va_Nw.use rfl (hj ▸ hSS.2.2.2.2.2.2.2.2.1 j hj3)) (vx_c (va_Nw.use rfl (hSS.2.2.2.2.2.2.2.2.2.2.2 0 _ rfl)) (vx_c (va_Nw.use rfl (hSS.2.2.2.2.2.2.2.2.2.2.2 1 _ rfl)) (vx_c (va_Nw.use rfl (hSS.2.2.2.2.2.2.2.2.2.2.2 2 _ rfl)) vx_n))))) hgood hSS.2.1.1 hSS.2.1.2 hS hsize d0 d3 d4 d7 d10 (fun x h => (hnt x h).elim) hRf hRl hRc hRs hlk (v_thX hj hR hS) hS.2.2 hc hs
theorem v_callXok {a : Array Value} {oo : Option (Option Value)} {oe : Option Nat} {ov : Option Value} {st1 : List Value} {mcz msz : Nat} (hr : ∀ H locs, vRp D M H → va_S (vA D) s.heap H locs → vx_Run p l e R s m args below meth c H locs n k mcz msz (F0 m pc ls st0) rest (qX D oo M1 a) (xX D oe M1) (vA D)) (ho : oo = some ov) (he : oe = none) (hst : ov.toList ++ rest = st1)
    (kk : vV D p l e R s m args below meth c (n + mcz) (k + msz) Q M1 (F0 m (pc + 3) ls st1)) : vV D p l e R s m args below meth c n k Q M (F0 m pc ls st0) := by
  intro H locs hR hS T hT X
  rcases hr H locs hR hS T hT X with ⟨v, st₀, t, T', L, h0, X', hL, e1, e2, ⟨v', hv', hv, hR1, hF⟩, st⟩ | ⟨q, st₀, t, T', L, E, ce, h0, X', hL, e1, e2, ⟨j, hj, -⟩, -⟩
  · cases hv
    cases Option.some.inj (ho.symm.trans hv')
    obtain ⟨k1, k2, k3⟩ := vx_keep h0 e1 hS (fun q _ h => h) (fun q h => h) hL hF
    subst hst
    obtain ⟨t2, a1, b1⟩ := kk T'.heap (locs ++ L) (by rw [e1]; exact hR1) k3 T' rfl X'
    exact ⟨t2, st t2 a1, b1⟩
  · rw [he] at hj; cases hj
theorem v_callXth {a : Array Value} {oo : Option (Option Value)} {oe : Option Nat} {j mcz msz : Nat} (hr : ∀ H locs, vRp D M H → va_S (vA D) s.heap H locs → vx_Run p l e R s m args below meth c H locs n k mcz msz (F0 m pc ls st0) rest (qX D oo M1 a) (xX D oe M1) (vA D)) (ho : oo = none) (he : oe = some j)
    (hnt : ∀ x ∈ c.exceptionTable.toList, False) (hlk : meth.locks = false) (hc : n + mcz ≤ mc) (hs : k + msz ≤ ms) : vV D p l e R s m args below meth c n k (vx_MQ below Qc (xX D (some j) M1) args s mc ms (vA D)) M (F0 m pc ls st0) := by
  intro H locs hR hS T hT X
  rcases hr H locs hR hS T hT X with ⟨v, st₀, t, T', L, h0, X', hL, e1, e2, ⟨v', hv', -⟩, st⟩ | ⟨q, st₀, t, T', L, E, ce, h0, X', hL, e1, e2, ⟨j2, hj, hE, ⟨a, b, ha, hb, hR1⟩, hF⟩, hce, hcv, hcl, st⟩
  · rw [ho] at hv'; cases hv'
  · rw [he] at hj
    obtain rfl : j = j2 := Option.some.inj hj
    obtain ⟨k1, k2, k3⟩ := vx_keep h0 e1 hS (fun q _ h => h) (fun q h => h) hL hF
    obtain ⟨t2, a1, b1⟩ := vx_out (l := l) (e := e) (R := R) (p := p) (args := args) (below := below) (ls := ls) (rest := rest) (pc := pc) (mc := mc) (ms := ms) (XC := xX D (some j) M1) (Qc := Qc) (free := vA D) (H := T'.heap) (E := E) (ce := ce) (q := q) (fun x h => (hnt x h).elim) hlk (by rw [e1]; exact hce) hcv hcl
      (fun t' ht' _ => ⟨j, rfl, hE, ⟨a, b, ha, hb, by rw [ht', e1]; exact hR1⟩, by rw [ht']; exact k3.1, fun q h1 h2 => by rw [ht']; exact k3.2.1 q h1 h2⟩) k3.2.2 hc hs T' rfl X'
    exact ⟨t2, st.trans a1, b1⟩
theorem v_ofX {y : MethodName} {rm : Room} {mc ms maxL : Nat} {ret : Option FieldType} {As : List Value} {oo : Option (Option Value)} {oe : Option Nat} (hy : plainName y.cls = true) (hlen : (lg_sl As).length ≤ maxL)
    (body : ∀ (p : Program) (e : Env) (s : State) (m : MethodId) (args : Array Value) (below : List Frame) (meth : Method) (c : Code) (Q : State → Prop), p.tables.exec = Jvm.exec → c.code = cc → meth.sig.returnType = ret → c.maxLocals = maxL → s.vm.findClass y.cls = some m.cls → (∀ w ∈ TB, w.before args s = true) → meth.locks = false → meth.name = y.name → vS D s → vRp D M s.heap → Q = vx_MQ below (qX D oo M1) (xX D oe M1) args s mc ms (vA D) → (∀ x ∈ c.exceptionTable.toList, False) →
      ∀ ls : Array Slot, lv_has ls maxL (lv_args 0 As) → vV D p l e rm s m args below meth c 0 0 Q M (F0 m 0 ls [])) : vx_Met l y (Cond.code y cc maxL ret :: TB) rm (va_Pc As (vPre D M)) (qX D oo M1) (xX D oe M1) mc ms (vA D) := by
  refine vx_ofW (cc := cc) (maxL := maxL) (ret := ret) hy rfl ?_
  intro p e s m args below meth c s₁ B hml ht hv
  obtain ⟨rfl, hSS, hR⟩ := hv
  have hl := lv_entry As (n := maxL) hlen
  rw [lg_entry_eq]
  have hts := atoms_spec (ws := Cond.code y cc maxL ret :: TB) B.pre
  exact body p e s m As.toArray below meth c _ B.exec B.bytes B.returns hml (findClass_of_methodNamed B.named) (fun w hw => hts w (List.mem_cons_of_mem _ hw)) B.notSynchronized (name_of_methodNamed B.named B.method).1 hSS hR rfl ht _ hl s.heap [] hR va_S.rf
end VX
/-- a callee that may throw, where it doesn't -/
theorem v_noX {l : Launch} {D : vD} {y : MethodName} {ws : List Cond} {rm : Room} {Pc : Array Value → State → Prop} {oo : Option (Option Value)} {oe : Option Nat} {ov : Option Value} {M1 : vMe} {mc ms : Nat} {free : Addr → Prop} (h1 : oo = some ov) (h2 : oe = none) (h : vx_Met l y ws rm Pc (qX D oo M1) (xX D oe M1) mc ms free) : Met l y ws rm Pc (qW D ov M1) mc ms free := by
  subst h1; subst h2
  refine MetFree.mono h (fun _ _ g => g) (fun _ _ _ _ _ _ => trivial) (fun a st o t _ g => ?_)
  rcases g with ⟨⟨v, e, g⟩, L, g1, g2⟩ | ⟨q, e, E, ce, L, ⟨j, ej, -⟩, -⟩
  · cases e
    exact ⟨g, L, g1, g2⟩
  · cases ej
end
