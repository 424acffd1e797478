section
-- ===== PART A: goes FIRST, ahead of the names: the tables' words, and 'selects' of the private methods out of them =====
/-- a private method of a class that the tables say can be made, by its rows of tables_1 -/
def lw_okq (q : MethodName × Nat) : Prop := (q.1.cls ≠ "java/lang/invoke/MethodHandle" ∧ q.1.cls ≠ "java/lang/invoke/VarHandle") ∧ Cond.instantiable q.1.cls q.2 ∈ tables_1 ∧ Cond.privateMethod q.1 ∈ tables_1 ∧ Cond.instanceMethod q.1 ∈ tables_1
theorem lw_p0 : lw_okq (⟨"CombCylinder$Drum", "isNear", "(LCombCylinder$Pin;III)Z"⟩, 7) := ⟨⟨by decide +kernel, by decide +kernel⟩, List.mem_of_getElem? (i := 36) (by decide +kernel), List.mem_of_getElem? (i := 352) (by decide +kernel), List.mem_of_getElem? (i := 353) (by decide +kernel)⟩
theorem lw_p1 : lw_okq (⟨"CombCylinder$Drum", "apart", "(II)I"⟩, 7) := ⟨⟨by decide +kernel, by decide +kernel⟩, List.mem_of_getElem? (i := 36) (by decide +kernel), List.mem_of_getElem? (i := 357) (by decide +kernel), List.mem_of_getElem? (i := 358) (by decide +kernel)⟩
theorem lw_p2 : lw_okq (⟨"java/lang/Throwable", "fillInStackTrace", "(I)Ljava/lang/Throwable;"⟩, 6) := ⟨⟨by decide +kernel, by decide +kernel⟩, List.mem_of_getElem? (i := 401) (by decide +kernel), List.mem_of_getElem? (i := 399) (by decide +kernel), List.mem_of_getElem? (i := 400) (by decide +kernel)⟩
theorem lw_p3 : lw_okq (⟨"CombCylinder", "replaceVoice", "(IZII)Z"⟩, 9) := ⟨⟨by decide +kernel, by decide +kernel⟩, List.mem_of_getElem? (i := 24) (by decide +kernel), List.mem_of_getElem? (i := 514) (by decide +kernel), List.mem_of_getElem? (i := 515) (by decide +kernel)⟩
theorem lw_p4 : lw_okq (⟨"CombCylinder", "voiceAt", "(I)LCombCylinder$Voice;"⟩, 9) := ⟨⟨by decide +kernel, by decide +kernel⟩, List.mem_of_getElem? (i := 24) (by decide +kernel), List.mem_of_getElem? (i := 531) (by decide +kernel), List.mem_of_getElem? (i := 532) (by decide +kernel)⟩
theorem lw_p5 : lw_okq (⟨"CombCylinder$Sheet", "isBefore", "(IIII)Z"⟩, 4) := ⟨⟨by decide +kernel, by decide +kernel⟩, List.mem_of_getElem? (i := 218) (by decide +kernel), List.mem_of_getElem? (i := 626) (by decide +kernel), List.mem_of_getElem? (i := 627) (by decide +kernel)⟩
theorem lw_p6 : lw_okq (⟨"CombCylinder", "needPinPlace", "(III)V"⟩, 9) := ⟨⟨by decide +kernel, by decide +kernel⟩, List.mem_of_getElem? (i := 24) (by decide +kernel), List.mem_of_getElem? (i := 638) (by decide +kernel), List.mem_of_getElem? (i := 639) (by decide +kernel)⟩
theorem lw_p7 : lw_okq (⟨"CombCylinder", "needAir", "(I)V"⟩, 9) := ⟨⟨by decide +kernel, by decide +kernel⟩, List.mem_of_getElem? (i := 24) (by decide +kernel), List.mem_of_getElem? (i := 642) (by decide +kernel), List.mem_of_getElem? (i := 643) (by decide +kernel)⟩
theorem lw_p8 : lw_okq (⟨"CombCylinder", "needCylinder", "()V"⟩, 9) := ⟨⟨by decide +kernel, by decide +kernel⟩, List.mem_of_getElem? (i := 24) (by decide +kernel), List.mem_of_getElem? (i := 646) (by decide +kernel), List.mem_of_getElem? (i := 647) (by decide +kernel)⟩
theorem lw_p9 : lw_okq (⟨"CombCylinder", "needSoft", "()V"⟩, 9) := ⟨⟨by decide +kernel, by decide +kernel⟩, List.mem_of_getElem? (i := 24) (by decide +kernel), List.mem_of_getElem? (i := 651) (by decide +kernel), List.mem_of_getElem? (i := 652) (by decide +kernel)⟩
theorem lw_p10 : lw_okq (⟨"CombCylinder", "arrangeNote", "(III)Z"⟩, 9) := ⟨⟨by decide +kernel, by decide +kernel⟩, List.mem_of_getElem? (i := 24) (by decide +kernel), List.mem_of_getElem? (i := 703) (by decide +kernel), List.mem_of_getElem? (i := 704) (by decide +kernel)⟩
theorem lw_p11 : lw_okq (⟨"CombCylinder", "playTurn", "()I"⟩, 9) := ⟨⟨by decide +kernel, by decide +kernel⟩, List.mem_of_getElem? (i := 24) (by decide +kernel), List.mem_of_getElem? (i := 732) (by decide +kernel), List.mem_of_getElem? (i := 733) (by decide +kernel)⟩
theorem lw_p12 : lw_okq (⟨"CombCylinder", "doesStrike", "(LCombCylinder$Pin;I)Z"⟩, 9) := ⟨⟨by decide +kernel, by decide +kernel⟩, List.mem_of_getElem? (i := 24) (by decide +kernel), List.mem_of_getElem? (i := 736) (by decide +kernel), List.mem_of_getElem? (i := 737) (by decide +kernel)⟩
theorem lw_p13 : lw_okq (⟨"CombCylinder", "doesBuzz", "(II)Z"⟩, 9) := ⟨⟨by decide +kernel, by decide +kernel⟩, List.mem_of_getElem? (i := 24) (by decide +kernel), List.mem_of_getElem? (i := 758) (by decide +kernel), List.mem_of_getElem? (i := 759) (by decide +kernel)⟩
theorem lw_p14 : lw_okq (⟨"CombCylinder$Drum", "goneRound", "(I)I"⟩, 7) := ⟨⟨by decide +kernel, by decide +kernel⟩, List.mem_of_getElem? (i := 36) (by decide +kernel), List.mem_of_getElem? (i := 770) (by decide +kernel), List.mem_of_getElem? (i := 771) (by decide +kernel)⟩
theorem lw_p15 : lw_okq (⟨"CombCylinder", "runTurn", "()I"⟩, 9) := ⟨⟨by decide +kernel, by decide +kernel⟩, List.mem_of_getElem? (i := 24) (by decide +kernel), List.mem_of_getElem? (i := 787) (by decide +kernel), List.mem_of_getElem? (i := 788) (by decide +kernel)⟩
def lw_privs_1 : List (MethodName × Nat) := [(⟨"CombCylinder$Drum", "isNear", "(LCombCylinder$Pin;III)Z"⟩, 7), (⟨"CombCylinder$Drum", "apart", "(II)I"⟩, 7), (⟨"java/lang/Throwable", "fillInStackTrace", "(I)Ljava/lang/Throwable;"⟩, 6), (⟨"CombCylinder", "replaceVoice", "(IZII)Z"⟩, 9), (⟨"CombCylinder", "voiceAt", "(I)LCombCylinder$Voice;"⟩, 9), (⟨"CombCylinder$Sheet", "isBefore", "(IIII)Z"⟩, 4), (⟨"CombCylinder", "needPinPlace", "(III)V"⟩, 9), (⟨"CombCylinder", "needAir", "(I)V"⟩, 9), (⟨"CombCylinder", "needCylinder", "()V"⟩, 9), (⟨"CombCylinder", "needSoft", "()V"⟩, 9), (⟨"CombCylinder", "arrangeNote", "(III)Z"⟩, 9), (⟨"CombCylinder", "playTurn", "()I"⟩, 9), (⟨"CombCylinder", "doesStrike", "(LCombCylinder$Pin;I)Z"⟩, 9), (⟨"CombCylinder", "doesBuzz", "(II)Z"⟩, 9), (⟨"CombCylinder$Drum", "goneRound", "(I)I"⟩, 7), (⟨"CombCylinder", "runTurn", "()I"⟩, 9)]
theorem lw_r1 : ∀ q ∈ lw_privs_1, lw_okq q := List.forall_mem_cons.mpr ⟨lw_p0, List.forall_mem_cons.mpr ⟨lw_p1, List.forall_mem_cons.mpr ⟨lw_p2, List.forall_mem_cons.mpr ⟨lw_p3, List.forall_mem_cons.mpr ⟨lw_p4, List.forall_mem_cons.mpr ⟨lw_p5, List.forall_mem_cons.mpr ⟨lw_p6, List.forall_mem_cons.mpr ⟨lw_p7, List.forall_mem_cons.mpr ⟨lw_p8, List.forall_mem_cons.mpr ⟨lw_p9, List.forall_mem_cons.mpr ⟨lw_p10, List.forall_mem_cons.mpr ⟨lw_p11, List.forall_mem_cons.mpr ⟨lw_p12, List.forall_mem_cons.mpr ⟨lw_p13, List.forall_mem_cons.mpr ⟨lw_p14, List.forall_mem_cons.mpr ⟨lw_p15, fun _ h => absurd h List.not_mem_nil⟩⟩⟩⟩⟩⟩⟩⟩⟩⟩⟩⟩⟩⟩⟩⟩
theorem lw_p16 : lw_okq (⟨"CombCylinder$Drum", "rankInTurn", "(LCombCylinder$Pin;)I"⟩, 7) := ⟨⟨by decide +kernel, by decide +kernel⟩, List.mem_of_getElem? (i := 36) (by decide +kernel), List.mem_of_getElem? (i := 795) (by decide +kernel), List.mem_of_getElem? (i := 796) (by decide +kernel)⟩
theorem lw_p17 : lw_okq (⟨"CombCylinder", "findTunings", "()V"⟩, 9) := ⟨⟨by decide +kernel, by decide +kernel⟩, List.mem_of_getElem? (i := 24) (by decide +kernel), List.mem_of_getElem? (i := 816) (by decide +kernel), List.mem_of_getElem? (i := 817) (by decide +kernel)⟩
theorem lw_p18 : lw_okq (⟨"CombCylinder$Tuner", "fits", "(ILCombCylinder$Drum;[LCombCylinder$Sheet;)Z"⟩, 7) := ⟨⟨by decide +kernel, by decide +kernel⟩, List.mem_of_getElem? (i := 131) (by decide +kernel), List.mem_of_getElem? (i := 832) (by decide +kernel), List.mem_of_getElem? (i := 833) (by decide +kernel)⟩
theorem lw_p19 : lw_okq (⟨"CombCylinder$Tuner", "howOften", "(LCombCylinder$Pin;LCombCylinder$Drum;)I"⟩, 7) := ⟨⟨by decide +kernel, by decide +kernel⟩, List.mem_of_getElem? (i := 131) (by decide +kernel), List.mem_of_getElem? (i := 840) (by decide +kernel), List.mem_of_getElem? (i := 841) (by decide +kernel)⟩
theorem lw_p20 : lw_okq (⟨"CombCylinder$Tuner", "findChoices", "(ILCombCylinder$Drum;[LCombCylinder$Sheet;)V"⟩, 7) := ⟨⟨by decide +kernel, by decide +kernel⟩, List.mem_of_getElem? (i := 131) (by decide +kernel), List.mem_of_getElem? (i := 844) (by decide +kernel), List.mem_of_getElem? (i := 845) (by decide +kernel)⟩
theorem lw_p21 : lw_okq (⟨"CombCylinder$Tuner", "keepTuning", "()V"⟩, 7) := ⟨⟨by decide +kernel, by decide +kernel⟩, List.mem_of_getElem? (i := 131) (by decide +kernel), List.mem_of_getElem? (i := 856) (by decide +kernel), List.mem_of_getElem? (i := 857) (by decide +kernel)⟩
theorem lw_p22 : lw_okq (⟨"CombCylinder$Tuner", "isTakenAhead", "(I)Z"⟩, 7) := ⟨⟨by decide +kernel, by decide +kernel⟩, List.mem_of_getElem? (i := 131) (by decide +kernel), List.mem_of_getElem? (i := 860) (by decide +kernel), List.mem_of_getElem? (i := 861) (by decide +kernel)⟩
theorem lw_p23 : lw_okq (⟨"CombCylinder", "pinsOnSheet", "(ILCombCylinder$Sheet;)I"⟩, 9) := ⟨⟨by decide +kernel, by decide +kernel⟩, List.mem_of_getElem? (i := 24) (by decide +kernel), List.mem_of_getElem? (i := 877) (by decide +kernel), List.mem_of_getElem? (i := 878) (by decide +kernel)⟩
def lw_privs_2 : List (MethodName × Nat) := [(⟨"CombCylinder$Drum", "rankInTurn", "(LCombCylinder$Pin;)I"⟩, 7), (⟨"CombCylinder", "findTunings", "()V"⟩, 9), (⟨"CombCylinder$Tuner", "fits", "(ILCombCylinder$Drum;[LCombCylinder$Sheet;)Z"⟩, 7), (⟨"CombCylinder$Tuner", "howOften", "(LCombCylinder$Pin;LCombCylinder$Drum;)I"⟩, 7), (⟨"CombCylinder$Tuner", "findChoices", "(ILCombCylinder$Drum;[LCombCylinder$Sheet;)V"⟩, 7), (⟨"CombCylinder$Tuner", "keepTuning", "()V"⟩, 7), (⟨"CombCylinder$Tuner", "isTakenAhead", "(I)Z"⟩, 7), (⟨"CombCylinder", "pinsOnSheet", "(ILCombCylinder$Sheet;)I"⟩, 9)]
theorem lw_r2 : ∀ q ∈ lw_privs_2, lw_okq q := List.forall_mem_cons.mpr ⟨lw_p16, List.forall_mem_cons.mpr ⟨lw_p17, List.forall_mem_cons.mpr ⟨lw_p18, List.forall_mem_cons.mpr ⟨lw_p19, List.forall_mem_cons.mpr ⟨lw_p20, List.forall_mem_cons.mpr ⟨lw_p21, List.forall_mem_cons.mpr ⟨lw_p22, List.forall_mem_cons.mpr ⟨lw_p23, fun _ h => absurd h List.not_mem_nil⟩⟩⟩⟩⟩⟩⟩⟩
def lw_privs : List (MethodName × Nat) := lw_privs_1 ++ (lw_privs_2)
def lw_tbl : List Cond := k2_sels lw_privs ++ tables_1
theorem lw_privs_ok : ∀ q ∈ lw_privs, lw_okq q := by
  show ∀ q ∈ lw_privs_1 ++ (lw_privs_2), lw_okq q
  exact List.forall_mem_append.mpr ⟨lw_r1, lw_r2⟩
/-- the streams that the claim lets the run draw from -/
abbrev lw_cs : List Choice := [Jvm.Choice.named "NaN.bits"]
theorem lw_bits : nanBits ∈ lw_cs := by first | decide | exact List.mem_cons_self | simp [lw_cs, nanBits]
-- ===== end of PART A; then your names; then what follows =====
/-! ===== BEGIN words of one list among another's, by their places ===== -/
theorem goodIn_r {big : List Cond} (ws : List Cond) (ps : List Nat) (hp : ws = ps.filterMap (fun i => big[i]?)) (h : ws.all goodWord = true) : GoodIn big ws := by
  intro w hw
  have h1 := List.all_eq_true.mp h w hw
  rw [hp] at hw
  obtain ⟨i, -, hi⟩ := List.mem_filterMap.mp hw
  have hm : w ∈ big := by first | exact List.mem_of_getElem? hi | exact List.getElem?_mem hi
  exact ⟨hm, good_of_word h1⟩
theorem goodIn_app {big a b : List Cond} (ha : GoodIn big a) (hb : GoodIn big b) : GoodIn big (a ++ b) := fun w h => (List.mem_append.mp h).elim (ha w) (hb w)
theorem goodIn_ca {big a b : List Cond} {c : Cond} (ha : GoodIn big (c :: a)) (hb : GoodIn big b) : GoodIn big (c :: (a ++ b)) := fun w h => (List.mem_cons.mp h).elim (fun e => ha w (List.mem_cons.mpr (Or.inl e))) (fun h => (List.mem_append.mp h).elim (fun h => ha w (List.mem_cons.mpr (Or.inr h))) (hb w))
theorem goodIn_sub {big ws : List Cond} (hm : ∀ w ∈ ws, w ∈ big) (h : ws.all goodWord = true) : GoodIn big ws := fun w hw => ⟨hm w hw, good_of_word (List.all_eq_true.mp h w hw)⟩
/-! ===== END ===== -/

/-! ===== BEGIN exceptions that leave a method, and their catching by the caller (launches without stack traces) ===== -/
section VXA
/-! The laws vx_back, vx_callV, vx_callS, vx_callSW, vx_throw0, vx_throwS follow proofs of the library, with one case more: JvmDerived/Free/Laws.lean (Back.of_free), Shelf42/LK1.lean (callV, callS), Shelf/KitTraced.lean (throwNew0V, throwNewS). -/
/-- where a method has thrown q: the class by its name, the cell, what was written, the world -/
def vx_T (XC : String → State → State → Prop) (st : State) (q : Addr) (t : State) (mc ms : Nat) (free : Addr → Prop) : Prop :=
  ∃ (E : String) (ce : Cell) (L : List Loc), XC E st t ∧ t.heap[q]? = some ce ∧ ce.vm = .none ∧ st.vm.findClass E = some ce.cls ∧ st.WarmedH t.vm ∧ st.sameButNew ({ t with vm := st.vm } : State) L mc ms ∧ ∀ z ∈ L, free z.base
def vx_Q (Qc : Array Value → State → Outcome → State → Prop) (XC : String → State → State → Prop) (mc ms : Nat) (free : Addr → Prop) : Array Value → State → Outcome → State → Prop := fun a st o t =>
  (Qc a st o t ∧ ∃ L, FrameEnd st o t L mc ms ∧ ∀ q ∈ L, free q.base) ∨ ∃ q, o = .threw q ∧ vx_T XC st q t mc ms free
/-- a callee that returns or throws -/
def vx_Met (l : Launch) (y : MethodName) (ws : List Cond) (rm : Room) (Pc : Array Value → State → Prop) (Qc : Array Value → State → Outcome → State → Prop) (XC : String → State → State → Prop) (mc ms : Nat) (free : Addr → Prop) : Prop :=
  MetFree l y (headSpec ws rm) Pc (fun _ _ _ _ _ => True) (vx_Q Qc XC mc ms free)
def vx_Post (XC : String → State → State → Prop) (mc ms : Nat) (free : Addr → Prop) : Pt → Array Value → Addr → Pt → Prop := fun A a q B =>
  ∃ (g : JFrame) (mk : MethodId) (t : State) (L : List Loc) (E : String) (ce : Cell), B.U.heap = t.heap ∧ B.U.vm = t.vm ∧ XC E (A.U.calling g mk a) t ∧ t.heap[q]? = some ce ∧ ce.vm = .none ∧ A.U.vm.findClass E = some ce.cls ∧ B.locs = A.locs ++ L ∧ (∀ z ∈ L, free z.base) ∧ B.cells = A.cells + mc ∧ B.slots = A.slots + ms
def vx_Back (l : Launch) (R : Room) (p : Program) (e : Env) (below : List Frame) (s : State) (sargs : Array Value) (y : MethodName) (len W9 : Nat)
    (Pre : Pt → Array Value → Prop) (Post : Pt → Array Value → Option Value → Pt → Prop) (PostX : Pt → Array Value → Addr → Pt → Prop) : Prop :=
  ∀ (m : MethodId) (meth : Method) (c : Code) (A : Pt) (g : JFrame) (ig : Instr) (mk : MethodId) (a : Array Value),
    Stand p l e R s m sargs below meth c A.U A.locs A.cells A.slots → g.method = m → g.locals.size = c.maxLocals → decode c.code g.pc = .ok (ig, len) →
    2 * g.monitorRoom + (g.stack.map fun v => v.category).sum ≤ W9 → A.U.methodNamed? y = some mk → Pre A a →
    (∃ (v : Option Value) (B : Pt), Stand p l e R s m sargs below meth c B.U B.locs B.cells B.slots ∧ Post A a v B ∧
      Steps p.tables e below (doInvoke e (A.U.setTop g) [] mk a).1 (B.U.setTop { g with pc := g.pc + len, stack := v.toList ++ g.stack })) ∨
    (∃ (q : Addr) (B : Pt), Stand p l e R s m sargs below meth c B.U B.locs B.cells B.slots ∧ PostX A a q B ∧
      Steps p.tables e below (doInvoke e (A.U.setTop g) [] mk a).1 ((B.U.setTop g).pushFrame (.throwing q)))
section Payer
variable {l : Launch} {R : Room} {p : Program} {e : Env} {below : List Frame} {s : State} {sargs : Array Value} {y : MethodName} {len W9 : Nat}
theorem vx_back {ws : List Cond} {rm : Room} {Pc : Array Value → State → Prop} {Qc : Array Value → State → Outcome → State → Prop} {XC : String → State → State → Prop} {mc ms : Nat} {free : Addr → Prop} {bytes : ByteArray} {maxL : Nat} {ret : Option FieldType}
    (hM : vx_Met l y ws rm Pc Qc XC mc ms free) (hblind : FrameBlind Pc) (hrc : rm.cells = mc) (hrs : rm.slots = ms)
    (hframes : rm.frames + 1 ≤ R.frames) (hlocals : W9 + (maxL + 11) + rm.locals ≤ R.locals)
    (hws : ∀ w ∈ ws, ∀ a' U, s.WarmedH U.vm → w.before a' U = true) (hcode : Cond.code y bytes maxL ret ∈ ws) (hinit : ∀ a' U, s.WarmedH U.vm → (Cond.initialized y.cls).before a' U = true) :
    vx_Back l R p e below s sargs y len W9 (PreOf R mc ms Pc) (PostOf Qc mc ms free) (vx_Post XC mc ms free) := by
  intro m meth c A g ig mk a X hg hsize hdg hW hn hp
  have h1 : (headSpec ws rm).pre.before a A.U = true := atoms_intro fun w hw => hws w hw _ _ X.warmed
  have h2 : (Cond.code y bytes maxL ret).before a A.U = true := hws _ hcode _ _ X.warmed
  have h3 : (Cond.initialized y.cls).before a A.U = true := hinit _ _ X.warmed
  have h4 : A.cells + (headSpec ws rm).room.cells ≤ R.cells := by rw [show (headSpec ws rm).room.cells = mc from hrc]; exact hp.1
  have h5 : A.slots + (headSpec ws rm).room.slots ≤ R.slots := by rw [show (headSpec ws rm).room.slots = ms from hrs]; exact hp.2.1
  have hPc : Pc a (A.U.calling g mk a) := hblind _ _ _ _ hp.2.2
  obtain ⟨U, Ls, c0, s0⟩ := A
  dsimp only [Pt.U, Pt.locs, Pt.cells, Pt.slots] at h1 h2 h3 h4 h5 X hn hPc ⊢
  obtain ⟨methY, cY, hmY, hcY, -, hlY, -, -, -, -⟩ := Cond.code_spec hn h2
  obtain ⟨kY, hkY, -⟩ := className_of_methodNamed hn
  have hinitY : kY.init = .initialized := Cond.initialized_spec (findClass_of_methodNamed hn) hkY h3
  have h : At U g.method c below := by rw [hg]; exact X.here
  have hlocals9 : W9 + (maxL + 11) + (headSpec ws rm).room.locals ≤ R.locals := hlocals
  have happ : (headSpec ws rm).appliesLoose y e.platform (U.calling g mk a) = true :=
    Spec.appliesLoose_calling (g := g) h hdg hn hkY hinitY
      (X.room_calling (g := g) (R' := (headSpec ws rm).room) hsize hmY hcY hframes (by rw [hlY]; omega) h4 h5) h1
  obtain ⟨mid, hmid⟩ := h.above
  have hfr : (U.setTop g).frames = (.java g :: mid) ++ below := by rw [State.frames_setTop' g h.top, hmid]; rfl
  obtain ⟨o, s₂, hsteps, -, hend, hq⟩ := Steps.callFree hM p X.admits X.cas X.clock (acts := []) hfr happ hPc trivial
  have hq' : vx_Q Qc XC mc ms free a (U.calling g mk a) o s₂ := hq
  rw [State.frames_setTop' g h.top] at hend
  obtain ⟨g₀, hg0⟩ := Option.isSome_iff_exists.mp h.top
  obtain ⟨r, hr⟩ := State.topJava?_eq_some.mp hg0
  have hr' : (({ U with heap := s₂.heap, slotsUsed := s₂.slotsUsed } : State).setVm s₂.vm).frames = .java g₀ :: r := hr
  rcases hq' with ⟨hqc, L, hfe, hL⟩ | ⟨q, rfl, E, ce, L, hx, hce, hcv, hcl, hW₂, hsm, hL⟩
  · obtain ⟨⟨v, rfl⟩, hW₂, e2, q2, q3, q4, q5, q6⟩ := id hfe
    have e3 : s₂ = ({ (U.calling g mk a).setFrames s₂.frames with heap := s₂.heap, slotsUsed := s₂.slotsUsed } : State).setVm s₂.vm := by
      have : s₂ = ({ s₂ with vm := (U.calling g mk a).vm } : State).setVm s₂.vm := rfl
      rw [e2] at this
      exact this
    obtain ⟨c₂, i₂, len₂, hc₂, hd₂, hf₂⟩ := hend
    have hW' : U.WarmedH s₂.vm := hW₂
    have hcc : c₂ = c := by
      have h1 : s₂.code? g.method = U.code? g.method := by
        rw [State.code?_eq, State.code?_eq, hW'.alike.method?]
      exact Option.some.inj (hc₂.symm.trans (h1.trans h.code))
    subst hcc
    have hlen : len₂ = len := by rw [hdg] at hd₂; cases hd₂; rfl
    subst hlen
    have hs₂ : s₂ = (({ U with heap := s₂.heap, slotsUsed := s₂.slotsUsed } : State).setVm s₂.vm).setTop { g with pc := g.pc + len₂, stack := v.toList ++ g.stack } := by
      refine e3.trans ?_
      rw [hf₂, State.calling_eq h.top, State.setFrames_setFrames, State.setTop_of_frames _ hr', hr]
      rfl
    have hsame : U.sameButNew ({ U with heap := s₂.heap, slotsUsed := s₂.slotsUsed } : State) L mc ms := by
      refine ⟨?_, q2, q3, q4, q5, q6⟩
      obtain ⟨t, ht, -⟩ := State.frames_cons hr
      show ({ U with heap := s₂.heap, slotsUsed := s₂.slotsUsed } : State) = { U.setFrames U.frames with heap := s₂.heap, slotsUsed := s₂.slotsUsed }
      rw [State.setFrames_self ht]
    subst hg
    refine Or.inl ⟨v, ⟨(({ U with heap := s₂.heap, slotsUsed := s₂.slotsUsed } : State).setVm s₂.vm), Ls ++ L, c0 + mc, s0 + ms⟩,
      ⟨X.admits, X.cas, X.clock, X.frames, X.room, X.hears, X.method, X.code, (X.here.setHeapUsed s₂.heap s₂.slotsUsed).setVm hW'.alike, X.tail, State.WarmedH.trans X.warmed hW', X.limits, X.bytes, X.same.trans (hsame.setVm s.vm)⟩,
      ⟨g, mk, s₂, L, rfl, rfl, hqc, rfl, hL, rfl, rfl⟩, ?_⟩
    show Steps p.tables e below _ ((({ U with heap := s₂.heap, slotsUsed := s₂.slotsUsed } : State).setVm s₂.vm).setTop { g with pc := g.pc + len₂, stack := v.toList ++ g.stack })
    rw [← hs₂]
    exact hsteps
  · obtain ⟨e2, q2, q3, q4, q5, q6⟩ := id hsm
    have e3 : s₂ = ({ (U.calling g mk a).setFrames s₂.frames with heap := s₂.heap, slotsUsed := s₂.slotsUsed } : State).setVm s₂.vm := by
      have : s₂ = ({ s₂ with vm := (U.calling g mk a).vm } : State).setVm s₂.vm := rfl
      rw [e2] at this
      exact this
    have hf₂ : s₂.frames = .throwing q :: .java g :: U.frames.tail := hend
    have hW' : U.WarmedH s₂.vm := hW₂
    have hs₂ : s₂ = ((({ U with heap := s₂.heap, slotsUsed := s₂.slotsUsed } : State).setVm s₂.vm).setTop g).pushFrame (.throwing q) := by
      refine e3.trans ?_
      rw [hf₂, State.calling_eq h.top, State.setFrames_setFrames, State.pushFrame, State.frames_setTop _ hr', State.setTop_of_frames _ hr', State.setFrames_setFrames, hr]
      rfl
    have hsame : U.sameButNew ({ U with heap := s₂.heap, slotsUsed := s₂.slotsUsed } : State) L mc ms := by
      refine ⟨?_, q2, q3, q4, q5, q6⟩
      obtain ⟨t, ht, -⟩ := State.frames_cons hr
      show ({ U with heap := s₂.heap, slotsUsed := s₂.slotsUsed } : State) = { U.setFrames U.frames with heap := s₂.heap, slotsUsed := s₂.slotsUsed }
      rw [State.setFrames_self ht]
    subst hg
    refine Or.inr ⟨q, ⟨(({ U with heap := s₂.heap, slotsUsed := s₂.slotsUsed } : State).setVm s₂.vm), Ls ++ L, c0 + mc, s0 + ms⟩,
      ⟨X.admits, X.cas, X.clock, X.frames, X.room, X.hears, X.method, X.code, (X.here.setHeapUsed s₂.heap s₂.slotsUsed).setVm hW'.alike, X.tail, State.WarmedH.trans X.warmed hW', X.limits, X.bytes, X.same.trans (hsame.setVm s.vm)⟩,
      ⟨g, mk, s₂, L, E, ce, rfl, rfl, hx, hce, hcv, hcl, rfl, hL, rfl, rfl⟩, ?_⟩
    show Steps p.tables e below _ (((({ U with heap := s₂.heap, slotsUsed := s₂.slotsUsed } : State).setVm s₂.vm).setTop g).pushFrame (.throwing q))
    rw [← hs₂]
    exact hsteps
end Payer
section Calls
variable {p : Program} {l : Launch} {e : Env} {R : Room} {s : State} {m : MethodId} {args : Array Value} {below : List Frame} {meth : Method} {c : Code} {T : State} {locs : List Loc} {cells slots : Nat}
theorem vx_callV (X : Stand p l e R s m args below meth c T locs cells slots) (hexec : p.tables.exec = Jvm.exec) {own C : String} {index : Nat} {y : MethodName} {bytes : ByteArray} {maxL : Nat} {ret : Option FieldType}
    (hown : s.vm.findClass own = some m.cls) (hlink : (Cond.methodLink own index y).before args s = true) (hinst : (Cond.instanceMethod y).before args s = true) (hsel : (Cond.selects C y y).before args s = true)
    (hcode : (Cond.code y bytes maxL ret).before args s = true) (hy : y.cls ≠ "java/lang/invoke/MethodHandle" ∧ y.cls ≠ "java/lang/invoke/VarHandle")
    {W9 : Nat} {Pre : Pt → Array Value → Prop} {Post : Pt → Array Value → Option Value → Pt → Prop} {PostX : Pt → Array Value → Addr → Pt → Prop} (hK : vx_Back l R p e below s args y 3 W9 Pre Post PostX)
    {b : Addr} {cellB : Cell} (hcell : T.heap[b]? = some cellB) (hobj : cellB.vm.isStatics = false) (hcls : s.vm.findClass C = some cellB.cls)
    {g : JFrame} (hg : g.method = m) (hsize : g.locals.size = c.maxLocals) {argsL rest : List Value} (hlen : ∀ sig, parseMethodDescriptor y.desc = some sig → argsL.length = sig.parameters.length)
    (hstack : g.stack = argsL.reverse ++ .ref b :: rest) (hW : 2 * g.monitorRoom + (rest.map fun v => v.category).sum ≤ W9) (hdg : decode c.code g.pc = .ok (.invokevirtual index, 3))
    (hpre : ∀ vm₁, s.WarmedH vm₁ → Pre ⟨T.setVm vm₁, locs, cells, slots⟩ (Value.ref b :: argsL).toArray) :
    (∃ (v : Option Value) (vm₁ : Vm) (B : Pt), s.WarmedH vm₁ ∧ Stand p l e R s m args below meth c B.U B.locs B.cells B.slots ∧ Post ⟨T.setVm vm₁, locs, cells, slots⟩ (Value.ref b :: argsL).toArray v B ∧
      ∀ target, Steps p.tables e below (B.U.setTop { g with pc := g.pc + 3, stack := v.toList ++ rest }) target → Steps p.tables e below (T.setTop g) target) ∨
    (∃ (q : Addr) (vm₁ : Vm) (B : Pt), s.WarmedH vm₁ ∧ Stand p l e R s m args below meth c B.U B.locs B.cells B.slots ∧ PostX ⟨T.setVm vm₁, locs, cells, slots⟩ (Value.ref b :: argsL).toArray q B ∧
      Steps p.tables e below (T.setTop g) ((B.U.setTop { g with stack := rest }).pushFrame (.throwing q))) := by
  obtain ⟨mk, methM, hnamed, hmethM, hstM, habM⟩ := Cond.instanceMethod_spec hinst
  obtain ⟨methM', cM, hmethM', -, -, -, -, -, -, hsigM⟩ := Cond.code_spec hnamed hcode
  cases hmethM.symm.trans hmethM'
  obtain ⟨c2, r2, m2, q1, q2, q3, q4, kP, hkP, hkPi⟩ := Cond.selects_spec hsel
  cases hcls.symm.trans q1
  cases (State.methodFound?_of_named hnamed hy).symm.trans q2
  cases hnamed.symm.trans q3
  have hselP : selectMethod e.platform s.vm cellB.cls mk = .method mk := by rw [Launch.admits_selectMethod X.admits]; exact q4
  obtain ⟨vm₁, X₁, hstep₁⟩ := X.invokevirtual hexec hown hlink hnamed hmethM hstM hkP hkPi hy (a := b) (cell := cellB) hcell
    (fun z h => by rw [h] at hobj; cases hobj) hselP hmethM habM hkP hkPi (g := g) hg (argsL := argsL) (rest := rest) (hlen _ hsigM) hstack hdg
  rcases hK m meth c ⟨T.setVm vm₁, locs, cells, slots⟩ { g with stack := rest } (.invokevirtual index) mk (Value.ref b :: argsL).toArray X₁ hg hsize hdg hW (X₁.named hnamed) (hpre vm₁ X₁.warmed) with ⟨v, B, X', hpost, hsteps⟩ | ⟨q, B, X', hpost, hsteps⟩
  · exact Or.inl ⟨v, vm₁, B, X₁.warmed, X', hpost, fun target h => hstep₁ _ fun acts => by rw [doInvoke_state]; exact hsteps.trans h⟩
  · exact Or.inr ⟨q, vm₁, B, X₁.warmed, X', hpost, hstep₁ _ fun acts => by rw [doInvoke_state]; exact hsteps⟩
theorem vx_callS (X : Stand p l e R s m args below meth c T locs cells slots) (hexec : p.tables.exec = Jvm.exec) {own : String} {index : Nat} {y : MethodName} {bytes : ByteArray} {maxL : Nat} {ret : Option FieldType}
    (hown : s.vm.findClass own = some m.cls) (hlink : (Cond.methodLink own index y).before args s = true) (hstat : (Cond.static y).before args s = true) (hinit : (Cond.initialized y.cls).before args s = true)
    (hcode : (Cond.code y bytes maxL ret).before args s = true) (hy : y.cls ≠ "java/lang/invoke/MethodHandle" ∧ y.cls ≠ "java/lang/invoke/VarHandle")
    {W9 : Nat} {Pre : Pt → Array Value → Prop} {Post : Pt → Array Value → Option Value → Pt → Prop} {PostX : Pt → Array Value → Addr → Pt → Prop} (hK : vx_Back l R p e below s args y 3 W9 Pre Post PostX)
    {g : JFrame} (hg : g.method = m) (hsize : g.locals.size = c.maxLocals) {argsL rest : List Value} (hlen : ∀ sig, parseMethodDescriptor y.desc = some sig → argsL.length = sig.parameters.length)
    (hstack : g.stack = argsL.reverse ++ rest) (hW : 2 * g.monitorRoom + (rest.map fun v => v.category).sum ≤ W9) (hdg : decode c.code g.pc = .ok (.invokestatic index, 3))
    (hpre : ∀ vm₁, s.WarmedH vm₁ → Pre ⟨T.setVm vm₁, locs, cells, slots⟩ argsL.toArray) :
    (∃ (v : Option Value) (vm₁ : Vm) (B : Pt), s.WarmedH vm₁ ∧ Stand p l e R s m args below meth c B.U B.locs B.cells B.slots ∧ Post ⟨T.setVm vm₁, locs, cells, slots⟩ argsL.toArray v B ∧
      ∀ target, Steps p.tables e below (B.U.setTop { g with pc := g.pc + 3, stack := v.toList ++ rest }) target → Steps p.tables e below (T.setTop g) target) ∨
    (∃ (q : Addr) (vm₁ : Vm) (B : Pt), s.WarmedH vm₁ ∧ Stand p l e R s m args below meth c B.U B.locs B.cells B.slots ∧ PostX ⟨T.setVm vm₁, locs, cells, slots⟩ argsL.toArray q B ∧
      Steps p.tables e below (T.setTop g) ((B.U.setTop { g with stack := rest }).pushFrame (.throwing q))) := by
  obtain ⟨mk, hnamed⟩ := Cond.code_named hcode
  obtain ⟨methM, cM, hmethM, -, -, -, -, -, -, hsigM⟩ := Cond.code_spec hnamed hcode
  have hstatic : methM.isStatic = true := Cond.static_spec hnamed hmethM hstat
  obtain ⟨kP, hkP, -⟩ := className_of_methodNamed hnamed
  have hinitP : kP.init = .initialized := Cond.initialized_spec (findClass_of_methodNamed hnamed) hkP hinit
  obtain ⟨vm₁, X₁, hstep₁⟩ := X.invokestatic hexec hown hlink hnamed hmethM hstatic hkP hinitP hy (g := g) hg (argsL := argsL) (rest := rest) (hlen _ hsigM) hstack hdg
  rcases hK m meth c ⟨T.setVm vm₁, locs, cells, slots⟩ { g with stack := rest } (.invokestatic index) mk argsL.toArray X₁ hg hsize hdg hW (X₁.named hnamed) (hpre vm₁ X₁.warmed) with ⟨v, B, X', hpost, hsteps⟩ | ⟨q, B, X', hpost, hsteps⟩
  · exact Or.inl ⟨v, vm₁, B, X₁.warmed, X', hpost, fun target h => hstep₁ _ fun acts => by rw [doInvoke_state]; exact hsteps.trans h⟩
  · exact Or.inr ⟨q, vm₁, B, X₁.warmed, X', hpost, hstep₁ _ fun acts => by rw [doInvoke_state]; exact hsteps⟩
end Calls
theorem vx_cls {s : State} {T : State} {vm₁ : Vm} {E : String} {k : ClassId} (hW : s.WarmedH vm₁) (h : (T.setVm vm₁).vm.findClass E = some k) : s.vm.findClass E = some k := by
  have h1 : vm₁.findClass E = some k := h
  rw [hW.alike.findClass] at h1
  exact h1
/-- the method's frame g, with q thrown over it -/
def vx_W (p : Program) (l : Launch) (e : Env) (R : Room) (s : State) (m : MethodId) (args : Array Value) (below : List Frame) (meth : Method) (c : Code) (H : Heap) (locs : List Loc) (cells slots : Nat) (Q : State → Prop) (g : JFrame) (q : Addr) : Prop :=
  ∀ T : State, T.heap = H → Stand p l e R s m args below meth c T locs cells slots → ∃ t, Steps p.tables e below ((T.setTop g).pushFrame (.throwing q)) t ∧ Q t
def vx_Run (p : Program) (l : Launch) (e : Env) (R : Room) (s : State) (m : MethodId) (args : Array Value) (below : List Frame) (meth : Method) (c : Code) (H : Heap) (locs : List Loc) (cells slots mc ms : Nat) (g : JFrame) (rest : List Value) (Qa : State → Outcome → State → Prop) (XC : String → State → State → Prop) (free : Addr → Prop) : Prop :=
  ∀ T : State, T.heap = H → Stand p l e R s m args below meth c T locs cells slots →
    (∃ (v : Option Value) (st₀ t T' : State) (L : List Loc), st₀.heap = H ∧ Stand p l e R s m args below meth c T' (locs ++ L) (cells + mc) (slots + ms) ∧ (∀ q ∈ L, free q.base) ∧ T'.heap = t.heap ∧ T'.vm = t.vm ∧ Qa st₀ (.returned v) t ∧
      Goes p e below T g T' { g with pc := g.pc + 3, stack := v.toList ++ rest }) ∨
    (∃ (q : Addr) (st₀ t T' : State) (L : List Loc) (E : String) (ce : Cell), st₀.heap = H ∧ Stand p l e R s m args below meth c T' (locs ++ L) (cells + mc) (slots + ms) ∧ (∀ z ∈ L, free z.base) ∧ T'.heap = t.heap ∧ T'.vm = t.vm ∧ XC E st₀ t ∧ t.heap[q]? = some ce ∧ ce.vm = .none ∧ s.vm.findClass E = some ce.cls ∧
      Steps p.tables e below (T.setTop g) ((T'.setTop { g with stack := rest }).pushFrame (.throwing q)))
def vx_X {S : Type} (px : S → Prop) (B : String → S → State → Prop) (A : Nat → Prop) : String → State → State → Prop := fun E st t => ∃ u : S, px u ∧ B E u t ∧ va_F A st t
section Runs
variable {p : Program} {l : Launch} {e : Env} {R : Room} {s : State} {m : MethodId} {args : Array Value} {below : List Frame} {meth : Method} {c : Code} {H : Heap} {locs : List Loc} {cells slots : Nat}
variable {y : MethodName} {bytes cc : ByteArray} {maxL nL mc ms n index : Nat} {ret : Option FieldType} {ws : List Cond} {rm : Room} {Pc : Array Value → State → Prop} {Qc : Array Value → State → Outcome → State → Prop} {XC : String → State → State → Prop} {free : Addr → Prop} {Ts : List Cond} {own C : String} {b : Addr} {As rest : List Value} {g : JFrame}
theorem vx_callBack (cb : CallB R s args own index y bytes maxL ret ws rm mc ms n) (hM : vx_Met l y ws rm Pc Qc XC mc ms free) (hbl : FrameBlind Pc) : vx_Back l R p e below s args y 3 8 (PreOf R mc ms Pc) (PostOf Qc mc ms free) (vx_Post XC mc ms free) := by
  obtain ⟨hrc, hrs, hfr, hlo, hws, hcw, -, hini, -⟩ := cb
  exact vx_back (bytes := bytes) (maxL := maxL) (ret := ret) hM hbl hrc hrs hfr hlo hws hcw (fun a' U hW => word_at hW (Or.inl (by first | rfl | simp [Cond.onTables, Cond.keeps, Cond.steady])) hini)
theorem vx_runV (S : CallFix p m c cc nL s args Ts own) (hM : vx_Met l y ws rm Pc Qc XC mc ms free) (cw : CallW R s args own C index y bytes maxL ret ws rm mc ms n) (hp : PreV s H C b Pc As)
    (hg : g.method = m) (hn : As.length = n) (hsize : g.locals.size = nL) (hstack : g.stack = As.reverse ++ .ref b :: rest) (hW : 2 * g.monitorRoom + (rest.map fun v => v.category).sum ≤ 8) (hdg : decode cc g.pc = .ok (.invokevirtual index, 3)) (hf : cells + mc ≤ R.cells ∧ slots + ms ≤ R.slots) :
    vx_Run p l e R s m args below meth c H locs cells slots mc ms g rest (Qc (Value.ref b :: As).toArray) XC free := by
  have hK : vx_Back l R p e below s args y 3 8 (PreOf R mc ms Pc) (PostOf Qc mc ms free) (vx_Post XC mc ms free) := vx_callBack cw.1 hM hp.1
  obtain ⟨⟨-, -, -, -, -, -, hcode, -, hy, hlen, hl⟩, hin, hse⟩ := cw
  obtain ⟨hx, hb, hml, ho, -⟩ := S
  obtain ⟨-, ⟨cellB, hcB, hoB, hclB⟩, hPc⟩ := hp
  intro T hT X
  rcases vx_callV X hx (C := C) (bytes := bytes) (maxL := maxL) (ret := ret) ho hl hin hse hcode hy hK (by rw [hT]; exact hcB) hoB hclB hg (hsize.trans hml.symm) (argsL := As) (rest := rest) (fun sig h => hn.trans (hlen sig h)) hstack hW (by rw [hb]; exact hdg)
    (fun vm₁ hW₁ => ⟨hf.1, hf.2, hPc (T.setVm vm₁) hT hW₁⟩) with ⟨v, vm₁, ⟨U', l2, c2, s2⟩, hW₁, X', ⟨g', mk, t, L, e1, e2, hq, h1, hL, h2, h3⟩, st⟩ | ⟨q, vm₁, ⟨U', l2, c2, s2⟩, hW₁, X', ⟨g', mk, t, L, E, ce, e1, e2, hq, hce, hcv, hcl, h1, hL, h2, h3⟩, st⟩
  · dsimp only [Pt.U, Pt.locs, Pt.cells, Pt.slots] at X' e1 e2 h1 h2 h3 st
    subst h1; subst h2; subst h3
    exact Or.inl ⟨v, (T.setVm vm₁).calling g' mk (Value.ref b :: As).toArray, t, U', L, hT, X', hL, e1, e2, hq, st⟩
  · dsimp only [Pt.U, Pt.locs, Pt.cells, Pt.slots] at X' e1 e2 h1 h2 h3 st hcl
    subst h1; subst h2; subst h3
    exact Or.inr ⟨q, (T.setVm vm₁).calling g' mk (Value.ref b :: As).toArray, t, U', L, E, ce, hT, X', hL, e1, e2, hq, hce, hcv, vx_cls hW₁ hcl, st⟩
theorem vx_runS (S : CallFix p m c cc nL s args Ts own) (hM : vx_Met l y ws rm Pc Qc XC mc ms free) (cw : CallB R s args own index y bytes maxL ret ws rm mc ms n ∧ (Cond.static y).before args s = true) (hp : PreS s H Pc As)
    (hg : g.method = m) (hn : As.length = n) (hsize : g.locals.size = nL) (hstack : g.stack = As.reverse ++ rest) (hW : 2 * g.monitorRoom + (rest.map fun v => v.category).sum ≤ 8) (hdg : decode cc g.pc = .ok (.invokestatic index, 3)) (hf : cells + mc ≤ R.cells ∧ slots + ms ≤ R.slots) :
    vx_Run p l e R s m args below meth c H locs cells slots mc ms g rest (Qc As.toArray) XC free := by
  have hK : vx_Back l R p e below s args y 3 8 (PreOf R mc ms Pc) (PostOf Qc mc ms free) (vx_Post XC mc ms free) := vx_callBack cw.1 hM hp.1
  obtain ⟨⟨-, -, -, -, -, -, hcode, hini, hy, hlen, hl⟩, hstt⟩ := cw
  obtain ⟨hx, hb, hml, ho, -⟩ := S
  intro T hT X
  rcases vx_callS X hx (bytes := bytes) (maxL := maxL) (ret := ret) ho hl hstt hini hcode hy hK hg (hsize.trans hml.symm) (argsL := As) (rest := rest) (fun sig h => hn.trans (hlen sig h)) hstack hW (by rw [hb]; exact hdg)
    (fun vm₁ hW₁ => ⟨hf.1, hf.2, hp.2 (T.setVm vm₁) hT hW₁⟩) with ⟨v, vm₁, ⟨U', l2, c2, s2⟩, hW₁, X', ⟨g', mk, t, L, e1, e2, hq, h1, hL, h2, h3⟩, st⟩ | ⟨q, vm₁, ⟨U', l2, c2, s2⟩, hW₁, X', ⟨g', mk, t, L, E, ce, e1, e2, hq, hce, hcv, hcl, h1, hL, h2, h3⟩, st⟩
  · dsimp only [Pt.U, Pt.locs, Pt.cells, Pt.slots] at X' e1 e2 h1 h2 h3 st
    subst h1; subst h2; subst h3
    exact Or.inl ⟨v, (T.setVm vm₁).calling g' mk As.toArray, t, U', L, hT, X', hL, e1, e2, hq, st⟩
  · dsimp only [Pt.U, Pt.locs, Pt.cells, Pt.slots] at X' e1 e2 h1 h2 h3 st hcl
    subst h1; subst h2; subst h3
    exact Or.inr ⟨q, (T.setVm vm₁).calling g' mk As.toArray, t, U', L, E, ce, hT, X', hL, e1, e2, hq, hce, hcv, vx_cls hW₁ hcl, st⟩
end Runs
section Rows
variable {p : Program} {l : Launch} {e : Env} {R : Room} {s : State} {m : MethodId} {args : Array Value} {below : List Frame} {meth : Method} {c : Code} {H : Heap} {locs : List Loc} {cells slots : Nat} {Q : State → Prop}
variable {mc ms : Nat} {free : Addr → Prop} {A0 A1 : Nat → Prop} {H0 : Heap} {a : Array Value} {pc : Nat} {ls : Array Slot} {st0 rest : List Value}
theorem vx_keep {st₀ t T' : State} {L : List Loc} (h0 : st₀.heap = H) (e1 : T'.heap = t.heap) (hS : va_S A0 H0 H locs) (hA : ∀ q, q < H.size → A1 q → A0 q) (hf : ∀ q, free q → A0 q) (hL : ∀ q ∈ L, free q.base) (hF : va_F A1 st₀ t) :
    H.size ≤ T'.heap.size ∧ (∀ q : Nat, q < H.size → ¬ A1 q → T'.heap[q]? = H[q]?) ∧ va_S A0 H0 T'.heap (locs ++ L) := by
  obtain ⟨hz, hk⟩ := hF
  rw [h0] at hz hk
  exact ⟨by rw [e1]; exact hz, fun q h1 h2 => by rw [e1]; exact hk q h1 h2,
    ⟨Nat.le_trans hS.1 (by rw [e1]; exact hz), fun q h1 h2 => by rw [e1, hk q (Nat.lt_of_lt_of_le h1 hS.1) (fun z => h2 (hA q (Nat.lt_of_lt_of_le h1 hS.1) z))]; exact hS.2.1 q h1 h2, fun q hq => by
      rcases List.mem_append.mp hq with h | h
      · exact hS.2.2 q h
      · exact hf _ (hL q h)⟩⟩
theorem vx_calli {S SX : Type} {post : Int32 → S → Prop} {px : SX → Prop} {B : S → State → Prop} {BX : String → SX → State → Prop} {AX : Nat → Prop} (hr : vx_Run p l e R s m args below meth c H locs cells slots mc ms (F0 m pc ls st0) rest (va_Qi post B A1 a) (vx_X px BX AX) free) (hS : va_S A0 H0 H locs) (hA : ∀ q, q < H.size → A1 q → A0 q) (hf : ∀ q, free q → A0 q) (hAX : ∀ q, q < H.size → AX q → A0 q)
    (kx : ∀ (E : String) (ce : Cell) (q9 : Addr) (u : SX) (t : State) (H1 : Heap) (locs1 : List Loc), t.heap = H1 → s.vm.Alike t.vm → px u → BX E u t → H.size ≤ H1.size → (∀ q : Nat, q < H.size → ¬ AX q → H1[q]? = H[q]?) → va_S A0 H0 H1 locs1 → H1[q9]? = some ce → ce.vm = .none → s.vm.findClass E = some ce.cls → vx_W p l e R s m args below meth c H1 locs1 (cells + mc) (slots + ms) Q (F0 m pc ls rest) q9)
    (kk : ∀ (r : Int32) (u : S) (t : State) (H1 : Heap) (locs1 : List Loc), t.heap = H1 → s.vm.Alike t.vm → post r u → B u t → H.size ≤ H1.size → (∀ q : Nat, q < H.size → ¬ A1 q → H1[q]? = H[q]?) → va_S A0 H0 H1 locs1 → W p l e R s m args below meth c H1 locs1 (cells + mc) (slots + ms) Q (F0 m (pc + 3) ls (.int r :: rest))) : W p l e R s m args below meth c H locs cells slots Q (F0 m pc ls st0) := by
  intro T hT X
  rcases hr T hT X with ⟨v, st₀, t, T', L, h0, X', hL, e1, e2, ⟨⟨r, u, hv, hp, hb⟩, hF⟩, st⟩ | ⟨q, st₀, t, T', L, E, ce, h0, X', hL, e1, e2, ⟨u, hp, hb, hF⟩, hce, hcv, hcl, st⟩
  · cases hv
    obtain ⟨k1, k2, k3⟩ := vx_keep h0 e1 hS hA hf hL hF
    obtain ⟨t2, a1, b1⟩ := kk r u t T'.heap (locs ++ L) e1.symm (by rw [← e2]; exact X'.warmed.alike) hp hb k1 k2 k3 T' rfl X'
    exact ⟨t2, st t2 a1, b1⟩
  · obtain ⟨k1, k2, k3⟩ := vx_keep h0 e1 hS hAX hf hL hF
    obtain ⟨t2, a1, b1⟩ := kx E ce q u t T'.heap (locs ++ L) e1.symm (by rw [← e2]; exact X'.warmed.alike) hp hb k1 k2 k3 (by rw [e1]; exact hce) hcv hcl T' rfl X'
    exact ⟨t2, st.trans a1, b1⟩
theorem vx_calll {S SX : Type} {post : Int64 → S → Prop} {px : SX → Prop} {B : S → State → Prop} {BX : String → SX → State → Prop} {AX : Nat → Prop} (hr : vx_Run p l e R s m args below meth c H locs cells slots mc ms (F0 m pc ls st0) rest (va_Ql post B A1 a) (vx_X px BX AX) free) (hS : va_S A0 H0 H locs) (hA : ∀ q, q < H.size → A1 q → A0 q) (hf : ∀ q, free q → A0 q) (hAX : ∀ q, q < H.size → AX q → A0 q)
    (kx : ∀ (E : String) (ce : Cell) (q9 : Addr) (u : SX) (t : State) (H1 : Heap) (locs1 : List Loc), t.heap = H1 → s.vm.Alike t.vm → px u → BX E u t → H.size ≤ H1.size → (∀ q : Nat, q < H.size → ¬ AX q → H1[q]? = H[q]?) → va_S A0 H0 H1 locs1 → H1[q9]? = some ce → ce.vm = .none → s.vm.findClass E = some ce.cls → vx_W p l e R s m args below meth c H1 locs1 (cells + mc) (slots + ms) Q (F0 m pc ls rest) q9)
    (kk : ∀ (r : Int64) (u : S) (t : State) (H1 : Heap) (locs1 : List Loc), t.heap = H1 → s.vm.Alike t.vm → post r u → B u t → H.size ≤ H1.size → (∀ q : Nat, q < H.size → ¬ A1 q → H1[q]? = H[q]?) → va_S A0 H0 H1 locs1 → W p l e R s m args below meth c H1 locs1 (cells + mc) (slots + ms) Q (F0 m (pc + 3) ls (.long r :: rest))) : W p l e R s m args below meth c H locs cells slots Q (F0 m pc ls st0) := by
  intro T hT X
  rcases hr T hT X with ⟨v, st₀, t, T', L, h0, X', hL, e1, e2, ⟨⟨r, u, hv, hp, hb⟩, hF⟩, st⟩ | ⟨q, st₀, t, T', L, E, ce, h0, X', hL, e1, e2, ⟨u, hp, hb, hF⟩, hce, hcv, hcl, st⟩
  · cases hv
    obtain ⟨k1, k2, k3⟩ := vx_keep h0 e1 hS hA hf hL hF
    obtain ⟨t2, a1, b1⟩ := kk r u t T'.heap (locs ++ L) e1.symm (by rw [← e2]; exact X'.warmed.alike) hp hb k1 k2 k3 T' rfl X'
    exact ⟨t2, st t2 a1, b1⟩
  · obtain ⟨k1, k2, k3⟩ := vx_keep h0 e1 hS hAX hf hL hF
    obtain ⟨t2, a1, b1⟩ := kx E ce q u t T'.heap (locs ++ L) e1.symm (by rw [← e2]; exact X'.warmed.alike) hp hb k1 k2 k3 (by rw [e1]; exact hce) hcv hcl T' rfl X'
    exact ⟨t2, st.trans a1, b1⟩
theorem vx_callf {S SX : Type} {post : UInt32 → S → Prop} {px : SX → Prop} {B : S → State → Prop} {BX : String → SX → State → Prop} {AX : Nat → Prop} (hr : vx_Run p l e R s m args below meth c H locs cells slots mc ms (F0 m pc ls st0) rest (va_Qf post B A1 a) (vx_X px BX AX) free) (hS : va_S A0 H0 H locs) (hA : ∀ q, q < H.size → A1 q → A0 q) (hf : ∀ q, free q → A0 q) (hAX : ∀ q, q < H.size → AX q → A0 q)
    (kx : ∀ (E : String) (ce : Cell) (q9 : Addr) (u : SX) (t : State) (H1 : Heap) (locs1 : List Loc), t.heap = H1 → s.vm.Alike t.vm → px u → BX E u t → H.size ≤ H1.size → (∀ q : Nat, q < H.size → ¬ AX q → H1[q]? = H[q]?) → va_S A0 H0 H1 locs1 → H1[q9]? = some ce → ce.vm = .none → s.vm.findClass E = some ce.cls → vx_W p l e R s m args below meth c H1 locs1 (cells + mc) (slots + ms) Q (F0 m pc ls rest) q9)
    (kk : ∀ (r : UInt32) (u : S) (t : State) (H1 : Heap) (locs1 : List Loc), t.heap = H1 → s.vm.Alike t.vm → post r u → B u t → H.size ≤ H1.size → (∀ q : Nat, q < H.size → ¬ A1 q → H1[q]? = H[q]?) → va_S A0 H0 H1 locs1 → W p l e R s m args below meth c H1 locs1 (cells + mc) (slots + ms) Q (F0 m (pc + 3) ls (.float r :: rest))) : W p l e R s m args below meth c H locs cells slots Q (F0 m pc ls st0) := by
  intro T hT X
  rcases hr T hT X with ⟨v, st₀, t, T', L, h0, X', hL, e1, e2, ⟨⟨r, u, hv, hp, hb⟩, hF⟩, st⟩ | ⟨q, st₀, t, T', L, E, ce, h0, X', hL, e1, e2, ⟨u, hp, hb, hF⟩, hce, hcv, hcl, st⟩
  · cases hv
    obtain ⟨k1, k2, k3⟩ := vx_keep h0 e1 hS hA hf hL hF
    obtain ⟨t2, a1, b1⟩ := kk r u t T'.heap (locs ++ L) e1.symm (by rw [← e2]; exact X'.warmed.alike) hp hb k1 k2 k3 T' rfl X'
    exact ⟨t2, st t2 a1, b1⟩
  · obtain ⟨k1, k2, k3⟩ := vx_keep h0 e1 hS hAX hf hL hF
    obtain ⟨t2, a1, b1⟩ := kx E ce q u t T'.heap (locs ++ L) e1.symm (by rw [← e2]; exact X'.warmed.alike) hp hb k1 k2 k3 (by rw [e1]; exact hce) hcv hcl T' rfl X'
    exact ⟨t2, st.trans a1, b1⟩
theorem vx_calld {S SX : Type} {post : UInt64 → S → Prop} {px : SX → Prop} {B : S → State → Prop} {BX : String → SX → State → Prop} {AX : Nat → Prop} (hr : vx_Run p l e R s m args below meth c H locs cells slots mc ms (F0 m pc ls st0) rest (va_Qd post B A1 a) (vx_X px BX AX) free) (hS : va_S A0 H0 H locs) (hA : ∀ q, q < H.size → A1 q → A0 q) (hf : ∀ q, free q → A0 q) (hAX : ∀ q, q < H.size → AX q → A0 q)
    (kx : ∀ (E : String) (ce : Cell) (q9 : Addr) (u : SX) (t : State) (H1 : Heap) (locs1 : List Loc), t.heap = H1 → s.vm.Alike t.vm → px u → BX E u t → H.size ≤ H1.size → (∀ q : Nat, q < H.size → ¬ AX q → H1[q]? = H[q]?) → va_S A0 H0 H1 locs1 → H1[q9]? = some ce → ce.vm = .none → s.vm.findClass E = some ce.cls → vx_W p l e R s m args below meth c H1 locs1 (cells + mc) (slots + ms) Q (F0 m pc ls rest) q9)
    (kk : ∀ (r : UInt64) (u : S) (t : State) (H1 : Heap) (locs1 : List Loc), t.heap = H1 → s.vm.Alike t.vm → post r u → B u t → H.size ≤ H1.size → (∀ q : Nat, q < H.size → ¬ A1 q → H1[q]? = H[q]?) → va_S A0 H0 H1 locs1 → W p l e R s m args below meth c H1 locs1 (cells + mc) (slots + ms) Q (F0 m (pc + 3) ls (.double r :: rest))) : W p l e R s m args below meth c H locs cells slots Q (F0 m pc ls st0) := by
  intro T hT X
  rcases hr T hT X with ⟨v, st₀, t, T', L, h0, X', hL, e1, e2, ⟨⟨r, u, hv, hp, hb⟩, hF⟩, st⟩ | ⟨q, st₀, t, T', L, E, ce, h0, X', hL, e1, e2, ⟨u, hp, hb, hF⟩, hce, hcv, hcl, st⟩
  · cases hv
    obtain ⟨k1, k2, k3⟩ := vx_keep h0 e1 hS hA hf hL hF
    obtain ⟨t2, a1, b1⟩ := kk r u t T'.heap (locs ++ L) e1.symm (by rw [← e2]; exact X'.warmed.alike) hp hb k1 k2 k3 T' rfl X'
    exact ⟨t2, st t2 a1, b1⟩
  · obtain ⟨k1, k2, k3⟩ := vx_keep h0 e1 hS hAX hf hL hF
    obtain ⟨t2, a1, b1⟩ := kx E ce q u t T'.heap (locs ++ L) e1.symm (by rw [← e2]; exact X'.warmed.alike) hp hb k1 k2 k3 (by rw [e1]; exact hce) hcv hcl T' rfl X'
    exact ⟨t2, st.trans a1, b1⟩
theorem vx_callv {S SX : Type} {post : S → Prop} {px : SX → Prop} {B : S → State → Prop} {BX : String → SX → State → Prop} {AX : Nat → Prop} (hr : vx_Run p l e R s m args below meth c H locs cells slots mc ms (F0 m pc ls st0) rest (va_Qv post B A1 a) (vx_X px BX AX) free) (hS : va_S A0 H0 H locs) (hA : ∀ q, q < H.size → A1 q → A0 q) (hf : ∀ q, free q → A0 q) (hAX : ∀ q, q < H.size → AX q → A0 q)
    (kx : ∀ (E : String) (ce : Cell) (q9 : Addr) (u : SX) (t : State) (H1 : Heap) (locs1 : List Loc), t.heap = H1 → s.vm.Alike t.vm → px u → BX E u t → H.size ≤ H1.size → (∀ q : Nat, q < H.size → ¬ AX q → H1[q]? = H[q]?) → va_S A0 H0 H1 locs1 → H1[q9]? = some ce → ce.vm = .none → s.vm.findClass E = some ce.cls → vx_W p l e R s m args below meth c H1 locs1 (cells + mc) (slots + ms) Q (F0 m pc ls rest) q9)
    (kk : ∀ (u : S) (t : State) (H1 : Heap) (locs1 : List Loc), t.heap = H1 → s.vm.Alike t.vm → post u → B u t → H.size ≤ H1.size → (∀ q : Nat, q < H.size → ¬ A1 q → H1[q]? = H[q]?) → va_S A0 H0 H1 locs1 → W p l e R s m args below meth c H1 locs1 (cells + mc) (slots + ms) Q (F0 m (pc + 3) ls (rest))) : W p l e R s m args below meth c H locs cells slots Q (F0 m pc ls st0) := by
  intro T hT X
  rcases hr T hT X with ⟨v, st₀, t, T', L, h0, X', hL, e1, e2, ⟨⟨u, hv, hp, hb⟩, hF⟩, st⟩ | ⟨q, st₀, t, T', L, E, ce, h0, X', hL, e1, e2, ⟨u, hp, hb, hF⟩, hce, hcv, hcl, st⟩
  · cases hv
    obtain ⟨k1, k2, k3⟩ := vx_keep h0 e1 hS hA hf hL hF
    obtain ⟨t2, a1, b1⟩ := kk u t T'.heap (locs ++ L) e1.symm (by rw [← e2]; exact X'.warmed.alike) hp hb k1 k2 k3 T' rfl X'
    exact ⟨t2, st t2 a1, b1⟩
  · obtain ⟨k1, k2, k3⟩ := vx_keep h0 e1 hS hAX hf hL hF
    obtain ⟨t2, a1, b1⟩ := kx E ce q u t T'.heap (locs ++ L) e1.symm (by rw [← e2]; exact X'.warmed.alike) hp hb k1 k2 k3 (by rw [e1]; exact hce) hcv hcl T' rfl X'
    exact ⟨t2, st.trans a1, b1⟩
/-- caught by the row x of this method's table; the rows ahead don't take it -/
theorem vx_catch {own name : String} {E : String} {ce : Cell} {q : Addr} (hown : s.vm.findClass own = some m.cls) (pre : List ExceptionTableEntry) (x : ExceptionTableEntry) (suf : List ExceptionTableEntry) (hsplit : c.exceptionTable.toList = pre ++ x :: suf)
    (hpass : ∀ z ∈ pre, covers z pc = false ∨ (z.catchType ≠ 0 ∧ ∃ nm : String, (Cond.classLink own z.catchType nm).before args s = true ∧ va_Nc E nm s)) (hx : covers x pc = true) (h0 : x.catchType ≠ 0)
    (hlink : (Cond.classLink own x.catchType name).before args s = true) (hcast : (Cond.castable E name).before args s = true) (hcell : H[q]? = some ce) (hv : ce.vm = .none) (hcl : s.vm.findClass E = some ce.cls)
    (kk : W p l e R s m args below meth c H locs cells slots Q (F0 m x.handlerPc ls [.ref q])) : vx_W p l e R s m args below meth c H locs cells slots Q (F0 m pc ls rest) q := by
  intro T hT X
  have hpl : e.platform.magicAccessors = ({} : Platform).magicAccessors := by rw [X.admits.platform]
  obtain ⟨c3, c4, hc3, hc4, hasg⟩ := Cond.castable_spec hcast
  cases Option.some.inj (hc3.symm.trans hcl)
  obtain ⟨c5, hc5, hcl5⟩ := Cond.classLink_spec hown hlink e.platform hpl
  cases Option.some.inj (hc4.symm.trans hc5)
  obtain ⟨vm', X', st⟩ := X.thenCaughtThrough q (g := F0 m pc ls rest) rfl (Steps.refl _) (by rw [hT]; exact hcell) (by rw [hv]; rfl) (by obtain ⟨k9, h9, -⟩ := Vm.findClass_spec hcl; exact ⟨k9, h9⟩) pre x suf hsplit
    (fun z hz => by
      rcases hpass z hz with h | ⟨hz0, nm, hl1, hn1⟩
      · exact Or.inl h
      · obtain ⟨c6, hc6, hcl6⟩ := Cond.classLink_spec hown hl1 e.platform hpl
        obtain ⟨a8, b8, h1, h2, h3⟩ := hn1
        cases Option.some.inj (h1.symm.trans hcl)
        cases Option.some.inj (h2.symm.trans hc6)
        exact Or.inr ⟨hz0, _, hcl6, h3⟩) hx (Or.inr ⟨h0, c4, hcl5, hasg⟩)
  obtain ⟨t, a1, b1⟩ := kk (T.setVm vm') hT X'
  exact ⟨t, st.trans a1, b1⟩
end Rows
section Ends
variable {p : Program} {l : Launch} {e : Env} {R : Room} {s : State} {m : MethodId} {args : Array Value} {below : List Frame} {meth : Method} {c : Code} {H : Heap} {locs : List Loc} {cells slots : Nat} {Q : State → Prop}
variable {mc ms : Nat} {free : Addr → Prop} {A0 A1 : Nat → Prop} {H0 : Heap} {a : Array Value} {ls : Array Slot} {st0 rest : List Value}
variable {Qc : Array Value → State → Outcome → State → Prop} {XC : String → State → State → Prop}
/-- what a body that may throw owes at its end -/
def vx_MQ (below : List Frame) (Qc : Array Value → State → Outcome → State → Prop) (XC : String → State → State → Prop) (a : Array Value) (s : State) (mc ms : Nat) (free : Addr → Prop) : State → Prop := fun t =>
  ∃ o, t.status = .running ∧ Ended t below o ∧ vx_Q Qc XC mc ms free a s o t
theorem vx_ret {g : JFrame} {mc ms : Nat} (k : W p l e R s m args below meth c H locs cells slots (MQ below Qc args s mc ms free) g) : W p l e R s m args below meth c H locs cells slots (vx_MQ below Qc XC args s mc ms free) g := by
  intro T hT X
  obtain ⟨t, a1, o, b1, b2, b3, b4⟩ := k T hT X
  exact ⟨t, a1, o, b1, b2, Or.inl ⟨b3, b4⟩⟩
/-- not caught here: it goes on to the caller -/
theorem vx_widen {g : JFrame} {q : Addr} {k n : Nat} (h1 : cells ≤ k) (h2 : slots ≤ n) (kk : vx_W p l e R s m args below meth c H locs k n Q g q) : vx_W p l e R s m args below meth c H locs cells slots Q g q := fun T hT X => kk T hT (stand_widen X h1 h2)
theorem vx_out {pc : Nat} {E : String} {ce : Cell} {q : Addr} {mc ms : Nat} (hout : ∀ x ∈ c.exceptionTable.toList, covers x pc = false) (hlocks : meth.locks = false) (hcell : H[q]? = some ce) (hv : ce.vm = .none) (hcl : s.vm.findClass E = some ce.cls)
    (hx : ∀ t : State, t.heap = H → s.vm.Alike t.vm → XC E s t) (hf : ∀ z ∈ locs, free z.base) (hc : cells ≤ mc) (hs : slots ≤ ms) :
    vx_W p l e R s m args below meth c H locs cells slots (vx_MQ below Qc XC args s mc ms free) (F0 m pc ls rest) q := by
  intro T hT X
  obtain ⟨st1, hrun, hend, hW, hsm⟩ := X.leaveThrown q (g := F0 m pc ls rest) rfl rfl rfl hout hlocks
  have hcell9 : (T.setFrames (.throwing q :: below)).heap[q]? = some ce := by
    show T.heap[q]? = some ce
    rw [hT]; exact hcell
  exact ⟨_, st1, .threw q, hrun, hend, Or.inr ⟨q, rfl, E, ce, locs, hx _ hT hW.alike, hcell9, hv, hcl, hW, hsm.mono hc hs, hf⟩⟩
theorem vx_frame {U : State} {k n : Nat} (h : s.sameButNew ({ U with vm := s.vm } : State) locs k n) : s.heap.size ≤ U.heap.size ∧ ∀ q : Nat, q < s.heap.size → (∀ z ∈ locs, z.base ≠ q) → U.heap[q]? = s.heap[q]? := by
  obtain ⟨-, h2, -, -, -, h6⟩ := h
  refine ⟨h2, fun q hq hz => ?_⟩
  obtain ⟨c9, e1, e2, e3, e4⟩ := h6 q _ (Array.getElem?_eq_getElem hq)
  have hs : c9.slots = (s.heap[q]).slots := Array.ext_getElem? fun i => e4 i fun hm => hz _ hm rfl
  have h9 : c9 = s.heap[q] := by
    rw [hs] at e2
    exact e2
  have e5 : U.heap[q]? = some c9 := e1
  rw [e5, h9, Array.getElem?_eq_getElem hq]
/-- the words of a throw but the four that speak of the heap -/
def vx_no (w : Cond) : Bool := decide (w ≠ .isRef (.static Bundle.tN "UNASSIGNED_STACK" Bundle.steD)) && decide (w ≠ .isRef (.static Bundle.tN "SUPPRESSED_SENTINEL" Bundle.listD)) && decide (w ≠ .laysStatic Bundle.tN "UNASSIGNED_STACK" Bundle.steD) && decide (w ≠ .laysStatic Bundle.tN "SUPPRESSED_SENTINEL" Bundle.listD)
def vx_at0 (own : String) (ic : Nat) (X : String) (names : List String) : List Cond := (Bundle.ownAtoms0 own ic X names).filter vx_no
def vx_atS (own : String) (ic : Nat) (X : String) (names : List String) : List Cond := (Bundle.ownAtoms own ic X names).filter vx_no
/-- a word that the tables alone decide, or a good one -/
def vx_ot (w : Cond) : Bool := w.onTables || goodWord w
theorem vx_ot_at {args a' : Array Value} {s U : State} {w : Cond} (hW : s.WarmedH U.vm) (hvm : s.vm = U.vm) (hg : vx_ot w = true) (h : w.before args s = true) : w.before a' U = true := by
  simp only [vx_ot, Bool.or_eq_true] at hg
  rcases hg with hg | hg
  · exact va_tabs hg hvm h
  · exact word_at hW (good_of_word hg) h
/-- a list's words: the good ones out of the method's own list, the others by premises of their own -/
theorem vx_hat {args : Array Value} {s : State} {L B : List Cond} (h1 : ∀ w ∈ L.filter goodWord, w.before args s = true) (h2 : ∀ w ∈ L.filter (fun w => !goodWord w), w ∈ B) (h3 : ∀ w ∈ B, w.before args s = true) : ∀ w ∈ L, w.before args s = true := by
  intro w hw
  by_cases g : goodWord w = true
  · exact h1 w (List.mem_filter.mpr ⟨hw, g⟩)
  · refine h3 w (h2 w (List.mem_filter.mpr ⟨hw, ?_⟩))
    show (!goodWord w) = true
    cases hgw : goodWord w
    · rfl
    · exact absurd hgw g
theorem vx_c {args : Array Value} {s : State} {w : Cond} {B : List Cond} (h : w.before args s = true) (t : ∀ w ∈ B, w.before args s = true) : ∀ w' ∈ w :: B, w'.before args s = true := fun w' h' => (List.mem_cons.mp h').elim (fun e => by rw [e]; exact h) (t w')
theorem vx_n {args : Array Value} {s : State} : ∀ w ∈ ([] : List Cond), w.before args s = true := fun _ h => nomatch h
theorem vx_own {args : Array Value} {s : State} {L : List Cond} (h1 : ∀ w ∈ L.filter vx_no, w.before args s = true)
    (hU : (Cond.isRef (.static Bundle.tN "UNASSIGNED_STACK" Bundle.steD)).before args s = true) (hN : (Cond.isRef (.static Bundle.tN "SUPPRESSED_SENTINEL" Bundle.listD)).before args s = true)
    (lU : (Cond.laysStatic Bundle.tN "UNASSIGNED_STACK" Bundle.steD).before args s = true) (lN : (Cond.laysStatic Bundle.tN "SUPPRESSED_SENTINEL" Bundle.listD).before args s = true) : ∀ w ∈ L, w.before args s = true := by
  intro w hw
  by_cases e1 : w = .isRef (.static Bundle.tN "UNASSIGNED_STACK" Bundle.steD)
  · rw [e1]; exact hU
  · by_cases e2 : w = .isRef (.static Bundle.tN "SUPPRESSED_SENTINEL" Bundle.listD)
    · rw [e2]; exact hN
    · by_cases e3 : w = .laysStatic Bundle.tN "UNASSIGNED_STACK" Bundle.steD
      · rw [e3]; exact lU
      · by_cases e4 : w = .laysStatic Bundle.tN "SUPPRESSED_SENTINEL" Bundle.listD
        · rw [e4]; exact lN
        · exact h1 w (List.mem_filter.mpr ⟨hw, by unfold vx_no; rw [decide_eq_true e1, decide_eq_true e2, decide_eq_true e3, decide_eq_true e4]; rfl⟩)
/-- where a static field lies, its class's statics cell in H -/
def vx_L (C n d : String) (A : Nat → Prop) (U : State) (H : Heap) : Prop := ∃ (c : ClassId) (k : Class) (i : Nat) (f : Field) (a : Nat) (cell : Cell), U.vm.findClass C = some c ∧ U.fieldFound? C n d = some (c, k, i, f) ∧ f.isStatic = true ∧ k.statics = some a ∧ H[a]? = some cell ∧ cell.vm.isStatics = true ∧ cell.cls = c ∧ f.slot < cell.slots.size ∧ k.staticTypes[f.slot]? = some f.type ∧ ¬ A a
theorem vx_L.moved {C n d : String} {A : Nat → Prop} {u U : State} {H : Heap} (hvm : u.vm.Alike U.vm) (h : vx_L C n d A u H) : vx_L C n d A U H := by
  obtain ⟨c, k, i, f, a, cell, h1, h2, h3, h4, h5, h6, h7, h8, h9, h10⟩ := h
  obtain ⟨k', hi', he⟩ := State.fieldFound?_setVm hvm h2
  exact ⟨c, k', i, f, a, cell, by rw [hvm.findClass]; exact h1, hi', h3, by rw [he]; exact h4, h5, h6, h7, h8, by rw [he]; exact h9, h10⟩
theorem vx_L.kept {C n d : String} {A : Nat → Prop} {U : State} {H H1 : Heap} (h : vx_L C n d A U H) (hq : ∀ a : Nat, a < H.size → ¬ A a → H1[a]? = H[a]?) : vx_L C n d A U H1 := by
  obtain ⟨c, k, i, f, a, cell, h1, h2, h3, h4, h5, h6, h7, h8, h9, h10⟩ := h
  exact ⟨c, k, i, f, a, cell, h1, h2, h3, h4, by rw [hq a (Array.getElem?_eq_some_iff.mp h5).1 h10]; exact h5, h6, h7, h8, h9, h10⟩
theorem vx_L.narrow {C n d : String} {A B : Nat → Prop} {U : State} {H : Heap} (h : vx_L C n d A U H) (hAB : ∀ q, B q → A q) : vx_L C n d B U H := by
  obtain ⟨c, k, i, f, a, cell, h1, h2, h3, h4, h5, h6, h7, h8, h9, h10⟩ := h
  exact ⟨c, k, i, f, a, cell, h1, h2, h3, h4, h5, h6, h7, h8, h9, fun z => h10 (hAB _ z)⟩
theorem vx_L.word {C n d : String} {A : Nat → Prop} {s : State} {args : Array Value} (h : vx_L C n d A s s.heap) : (Cond.laysStatic C n d).before args s = true := by
  obtain ⟨c, k, i, f, a, cell, h1, h2, h3, h4, h5, h6, h7, h8, h9, -⟩ := h
  show (Cond.laysStatic C n d).holds args s none s [] = true
  exact Cond.laysStatic_of h1 h2 h3 h4 h5 h6 h7 h8 h9
/-- .. and what it holds: null or some reference -/
def vx_Zq (C n d : String) (A : Nat → Prop) (U : State) (H : Heap) : Prop := va_Zq C n d A U H ∧ vx_L C n d A U H
theorem vx_Zq.moved {C n d : String} {A : Nat → Prop} {u U : State} {H : Heap} (hvm : u.vm.Alike U.vm) (h : vx_Zq C n d A u H) : vx_Zq C n d A U H := ⟨va_Zq.moved hvm h.1, vx_L.moved hvm h.2⟩
theorem vx_Zq.kept {C n d : String} {A : Nat → Prop} {U : State} {H H1 : Heap} (h : vx_Zq C n d A U H) (hq : ∀ a : Nat, a < H.size → ¬ A a → H1[a]? = H[a]?) : vx_Zq C n d A U H1 := ⟨va_Zq.kept h.1 hq, vx_L.kept h.2 hq⟩
theorem vx_Zq.narrow {C n d : String} {A B : Nat → Prop} {U : State} {H : Heap} (h : vx_Zq C n d A U H) (hAB : ∀ q, B q → A q) : vx_Zq C n d B U H := ⟨va_Zq.narrow h.1 hAB, vx_L.narrow h.2 hAB⟩
theorem vx_Zqof {args : Array Value} {s : State} {C n d : String} {A : Nat → Prop} (hl : (Cond.laysStatic C n d).before args s = true) (hini : (Cond.initialized C).before args s = true) (h : (Cond.isRef (.static C n d)).before args s = true) (hA : ∀ a : Nat, a < s.heap.size → ¬ A a) : vx_Zq C n d A s s.heap := by
  refine ⟨va_Zqof hl hini h hA, ?_⟩
  obtain ⟨c, k, i, f, a, cell, h1, h2, h3, h4, h5, h6, h7, h8, h9⟩ := Cond.laysStatic_spec hl
  exact ⟨c, k, i, f, a, cell, h1, h2, h3, h4, h5, h6, h7, h8, h9, hA a (Array.getElem?_eq_some_iff.mp h5).1⟩
theorem vx_isRef {C n d : String} {v : Value} {A : Nat → Prop} {s : State} {args : Array Value} (h : va_Z C n d v A s s.heap) (hv : v.isRef = true) : (Cond.isRef (.static C n d)).before args s = true := by
  obtain ⟨cf, kf, fi, f, a, cell, h1, h2, h3, h4, h5, h6, h7, -⟩ := h
  have he : (Term.static C n d).eval args s none [] s = some v := by
    simp [Term.eval, State.fieldNamed?, h1, h2, h4, h5, h6, h7]
  simp only [Cond.before, Cond.holds, Cond.value, he]
  cases v <;> simp_all [Value.isRef]
theorem vx_isRefq {C n d : String} {A : Nat → Prop} {s : State} {args : Array Value} (h : va_Zq C n d A s s.heap) : (Cond.isRef (.static C n d)).before args s = true := by
  rcases h with h | ⟨t, h⟩
  · exact vx_isRef h rfl
  · exact vx_isRef h rfl
/-- the same frame, seen from here: as if the method were called anew in this heap -/
theorem vx_rebase {T : State} (X : Stand p l e R s m args below meth c T locs cells slots) {R' : Room} (hf : R'.frames ≤ R.frames) (hl : R'.locals ≤ R.locals) (hc : cells + R'.cells ≤ R.cells) (hs : slots + R'.slots ≤ R.slots) :
    Stand p l e R' ((T.setVm s.vm).setFrames (.invoking m args :: below)) m args below meth c T [] 0 0 := by
  have htop : (T.setVm s.vm).topJava?.isSome := X.here.top
  have hF : ((T.setVm s.vm).setFrames (.invoking m args :: below)).frames = .invoking m args :: below := State.frames_setFrames _ (State.cur_lt_of_top htop)
  obtain ⟨g₀, hg0⟩ := Option.isSome_iff_exists.mp htop
  obtain ⟨r, hr⟩ := State.topJava?_eq_some.mp hg0
  have hl9 : e.platform.stackLimits (T.setVm s.vm).me = e.platform.stackLimits s.me := X.limits
  have hb9 : (T.setVm s.vm).me.stackBytes = s.me.stackBytes := X.bytes
  refine ⟨X.admits, X.cas, X.clock, hF, ?_, X.hears, X.method, X.code, X.here, X.tail, X.warmed, ?_, ?_, ?_⟩
  · have h := X.room
    have hU : ((T.setVm s.vm).setFrames (.invoking m args :: below)).localsInUse = s.localsInUse := by
      rw [State.localsInUse_invoking hF (meth := meth) (c := c) X.method X.code, State.localsInUse_invoking X.frames X.method X.code]
    simp only [State.hasRoom, Bool.and_eq_true, decide_eq_true_eq] at h ⊢
    obtain ⟨⟨⟨⟨h1, h2, h3, h4, h5, h6⟩, h7⟩, h8⟩, h9⟩ := h
    rw [X.frames, List.length_cons] at h2 h3
    have q1 := X.heapSize
    have q2 := X.used
    simp only [hF, hU, List.length_cons, State.stackLimits_setFrames, State.stackBytes_setFrames, hl9, hb9]
    refine ⟨⟨⟨⟨by omega, by omega, by omega, by omega, by omega, h6⟩, ?_⟩, ?_⟩, X.book⟩
    · show T.heap.size + R'.cells ≤ e.platform.maxCells
      omega
    · show T.slotsUsed + R'.slots ≤ e.platform.maxSlots
      omega
  · rw [State.stackLimits_setFrames]; rfl
  · rw [State.stackBytes_setFrames]; rfl
  · refine ⟨?_, Nat.le_refl _, Nat.le_refl _, ?_, ?_, fun a c9 h9 => ⟨c9, h9, rfl, rfl, fun _ _ => rfl⟩⟩
    · obtain ⟨t, ht, -⟩ := State.frames_cons hr
      show T.setVm s.vm = { ((T.setVm s.vm).setFrames (.invoking m args :: below)).setFrames (T.setVm s.vm).frames with heap := T.heap, slotsUsed := T.slotsUsed }
      rw [State.setFrames_setFrames, State.setFrames_self ht]
      rfl
    · show T.slotsUsed = T.slotsUsed + ((T.heap.toList.drop T.heap.size).map (·.slots.size)).sum
      rw [List.drop_eq_nil_of_le (Nat.le_of_eq Array.length_toList)]
      rfl
    · show ((T.heap.toList.drop T.heap.size).map (·.slots.size)).sum ≤ 0
      rw [List.drop_eq_nil_of_le (Nat.le_of_eq Array.length_toList)]
      exact Nat.le_refl _
/-- 'throw new E()': new; dup; invokespecial; athrow -/
theorem vx_throw0 {cc : ByteArray} {pc : Nat} (hexec : p.tables.exec = Jvm.exec) (hb : c.code = cc) (hl : l.stackTraces = false) {own cls : String} {names : List String} {ik ic mc ms : Nat} {A : Nat → Prop}
    (hown : s.vm.findClass own = some m.cls) (hcls : Bundle.fit cls = true) (hnames : ∀ n ∈ names, Bundle.fit n = true)
    (hk : (Cond.classLink own ik cls).before args s = true) (hini : (Cond.initialized cls).before args s = true) (hat : ∀ w ∈ vx_at0 own ic cls names, w.before args s = true)
    (hgood : ∀ w ∈ Cond.classLink own ik cls :: Cond.initialized cls :: vx_at0 own ic cls names, vx_ot w = true)
    (hU : vx_Zq Bundle.tN "UNASSIGNED_STACK" Bundle.steD A s s.heap) (hN : vx_Zq Bundle.tN "SUPPRESSED_SENTINEL" Bundle.listD A s s.heap) (hS : va_S A s.heap H locs) (hsize : ls.size = c.maxLocals)
    (d0 : decode cc pc = .ok (.new ik, 3)) (d3 : decode cc (pc + 3) = .ok (.dup, 1)) (d4 : decode cc (pc + 4) = .ok (.invokespecial ic, 3)) (d7 : decode cc (pc + 7) = .ok (.athrow, 1))
    (hout : ∀ x ∈ c.exceptionTable.toList, covers x (pc + 7) = false)
    (hRframes : names.length + 3 < R.frames) (hRlocals : (rest.map fun v => v.category).sum + (13 * (names.length + 1) + 42) ≤ R.locals) (hRcells : cells + 1 ≤ R.cells) (hRslots : slots + 6 ≤ R.slots) (hlocks : meth.locks = false)
    (hx : ∀ t : State, s.vm.Alike t.vm → H.size ≤ t.heap.size → (∀ q : Nat, q < H.size → t.heap[q]? = H[q]?) → XC cls s t)
    (hf : ∀ z ∈ locs, free z.base) (hc : cells + 1 ≤ mc) (hs : slots + 6 ≤ ms) :
    W p l e R s m args below meth c H locs cells slots (vx_MQ below Qc XC args s mc ms free) (F0 m pc ls rest) := by
  intro T hT X
  have htr : e.platform.stackTraces = false := (show e.platform.stackTraces = l.stackTraces by rw [X.admits.platform]).trans hl
  have Y := vx_rebase X (R' := { frames := R.frames, locals := R.locals, cells := 1, slots := 6 }) (Nat.le_refl _) (Nat.le_refl _) hRcells hRslots
  obtain ⟨s', hA⟩ : ∃ z, z = (T.setVm s.vm).setFrames (.invoking m args :: below) := ⟨_, rfl⟩
  rw [← hA] at Y
  have hvm : s'.vm = s.vm := by rw [hA]; rfl
  have hhp : s'.heap = H := by rw [hA]; exact hT
  have hW0 : s.WarmedH s'.vm := by rw [hvm]; exact State.WarmedH.refl s
  have hat' : ∀ w ∈ vx_at0 own ic cls names, w.before args s' = true := fun w hw => vx_ot_at hW0 hvm.symm (hgood w (List.mem_cons_of_mem _ (List.mem_cons_of_mem _ hw))) (hat w hw)
  have hk' : (Cond.classLink own ik cls).before args s' = true := vx_ot_at hW0 hvm.symm (hgood _ List.mem_cons_self) hk
  have hini' : (Cond.initialized cls).before args s' = true := vx_ot_at hW0 hvm.symm (hgood _ (List.mem_cons_of_mem _ List.mem_cons_self)) hini
  have hU' : vx_Zq Bundle.tN "UNASSIGNED_STACK" Bundle.steD A s' s'.heap := by rw [hhp]; exact vx_Zq.moved hW0.alike (hU.kept hS.2.1)
  have hN' : vx_Zq Bundle.tN "SUPPRESSED_SENTINEL" Bundle.listD A s' s'.heap := by rw [hhp]; exact vx_Zq.moved hW0.alike (hN.kept hS.2.1)
  have h : ∀ w ∈ Bundle.ownAtoms0 own ic cls names, w.before args s' = true := vx_own hat' (vx_isRefq hU'.1) (vx_isRefq hN'.1) hU'.2.word hN'.2.word
  have hown' : s'.vm.findClass own = some m.cls := by rw [hvm]; exact hown
  have hins : (Cond.instantiable cls 6).before args s' = true := h _ (by simp [Bundle.ownAtoms0])
  obtain ⟨vm₁, cX, kX, hfX, hkX, -, -, X₁, st1⟩ := Y.newCold hexec (own := own) (C := cls) (index := ik) (n := 6) hown' hk' hins hini'
    (g := F0 m pc ls rest) rfl (by rw [hb]; exact d0) (Nat.le_refl _) (Nat.le_refl _)
  generalize hT1 : (T.setVm vm₁).pushCell { cls := cX, slots := kX.instanceTypes.map defaultValue, vm := .none } = T1 at X₁ st1
  have hcat : (Value.ref T.heap.size).category = 1 := rfl
  have hcellA : T1.heap[T.heap.size]? = some (freshCell cX kX) := by rw [← hT1]; exact State.heap_pushCell_size _ _
  have d3' : decode c.code (pc + 3) = .ok (.dup, 1) := by rw [hb]; exact d3
  obtain ⟨U, hsteps, hrun, hend, hW, hsame, ce, hce, hO⟩ := X₁.ctorThrow0 hexec htr (own := own) (cls := cls) (names := names) (ic := ic) hown' hcls hnames h (fun x hx => nomatch hx) hfX hkX hcellA (by rw [hhp, hT]; exact Nat.le_refl _)
    (g := { method := m, pc := pc + 4, locals := ls, stack := .ref T.heap.size :: .ref T.heap.size :: rest, locked := none }) rfl hsize rfl rfl (rest := rest) rfl
    (by rw [hb]; exact d4) (by rw [hb]; exact d7) hout hRframes (by simp only [List.map_cons, List.sum_cons, hcat]; omega) hlocks
  obtain ⟨f1, f2⟩ := vx_frame hsame
  rw [hhp] at f1 f2
  have hWs : s.WarmedH U.vm := State.WarmedH.trans hW0 hW
  have hcl : s.vm.findClass cls = some ce.cls := by
    have h9 := hO.cls
    rw [hvm] at h9
    exact h9
  have hall : s.sameButNew ({ U with vm := s.vm } : State) locs mc ms := by
    subst hA
    obtain ⟨e1, e2⟩ := hsame
    rw [State.setFrames_setFrames] at e1
    have h2 : (T.setVm s.vm).sameButNew ({ U with vm := s.vm } : State) [] (0 + 1) (0 + 6) := ⟨e1, e2⟩
    have h3 := X.same.trans h2
    rw [List.append_nil] at h3
    exact h3.mono hc hs
  refine ⟨U, ?_, .threw T.heap.size, hrun, hend, Or.inr ⟨T.heap.size, rfl, cls, ce, locs, hx U hWs.alike f1 (fun q hq => f2 q hq (fun z hz => nomatch hz)), hce, hO.vm, hcl, hWs, hall, hf⟩⟩
  refine st1 _ ?_
  show Steps p.tables e below (T1.setTop { method := m, pc := pc + 3, locals := ls, stack := .ref T.heap.size :: rest, locked := none }) _
  jvm_step X₁.here [X₁.here.top, hexec, d3', Value.category]
  exact hsteps
/-- 'throw new E("text")': new; dup; ldc; invokespecial; athrow -/
theorem vx_throwS {cc : ByteArray} {pc : Nat} (hexec : p.tables.exec = Jvm.exec) (hb : c.code = cc) (hl : l.stackTraces = false) {own cls text : String} {names : List String} {ik is ic mc ms sa : Nat} {A : Nat → Prop}
    (hown : s.vm.findClass own = some m.cls) (hcls : Bundle.fit cls = true) (hnames : ∀ n ∈ names, Bundle.fit n = true)
    (hk : (Cond.classLink own ik cls).before args s = true) (hini : (Cond.initialized cls).before args s = true) (hstr : vk_R own is text sa s) (hat : ∀ w ∈ vx_atS own ic cls names, w.before args s = true)
    (hgood : ∀ w ∈ Cond.classLink own ik cls :: Cond.initialized cls :: vx_atS own ic cls names, vx_ot w = true)
    (hU : vx_Zq Bundle.tN "UNASSIGNED_STACK" Bundle.steD A s s.heap) (hN : vx_Zq Bundle.tN "SUPPRESSED_SENTINEL" Bundle.listD A s s.heap) (hS : va_S A s.heap H locs) (hsize : ls.size = c.maxLocals)
    (d0 : decode cc pc = .ok (.new ik, 3)) (d3 : decode cc (pc + 3) = .ok (.dup, 1)) (d4 : decode cc (pc + 4) = .ok (.ldc is, 2)) (d6 : decode cc (pc + 6) = .ok (.invokespecial ic, 3)) (d9 : decode cc (pc + 9) = .ok (.athrow, 1))
    (hout : ∀ x ∈ c.exceptionTable.toList, covers x (pc + 9) = false)
    (hRframes : names.length + 3 < R.frames) (hRlocals : (rest.map fun v => v.category).sum + (13 * (names.length + 1) + 43) ≤ R.locals) (hRcells : cells + 1 ≤ R.cells) (hRslots : slots + 6 ≤ R.slots) (hlocks : meth.locks = false)
    (hx : ∀ t : State, s.vm.Alike t.vm → H.size ≤ t.heap.size → (∀ q : Nat, q < H.size → t.heap[q]? = H[q]?) → XC cls s t)
    (hf : ∀ z ∈ locs, free z.base) (hc : cells + 1 ≤ mc) (hs : slots + 6 ≤ ms) :
    W p l e R s m args below meth c H locs cells slots (vx_MQ below Qc XC args s mc ms free) (F0 m pc ls rest) := by
  intro T hT X
  have htr : e.platform.stackTraces = false := (show e.platform.stackTraces = l.stackTraces by rw [X.admits.platform]).trans hl
  have Y := vx_rebase X (R' := { frames := R.frames, locals := R.locals, cells := 1, slots := 6 }) (Nat.le_refl _) (Nat.le_refl _) hRcells hRslots
  obtain ⟨s', hA⟩ : ∃ z, z = (T.setVm s.vm).setFrames (.invoking m args :: below) := ⟨_, rfl⟩
  rw [← hA] at Y
  have hvm : s'.vm = s.vm := by rw [hA]; rfl
  have hhp : s'.heap = H := by rw [hA]; exact hT
  have hW0 : s.WarmedH s'.vm := by rw [hvm]; exact State.WarmedH.refl s
  have hat' : ∀ w ∈ vx_atS own ic cls names, w.before args s' = true := fun w hw => vx_ot_at hW0 hvm.symm (hgood w (List.mem_cons_of_mem _ (List.mem_cons_of_mem _ hw))) (hat w hw)
  have hk' : (Cond.classLink own ik cls).before args s' = true := vx_ot_at hW0 hvm.symm (hgood _ List.mem_cons_self) hk
  have hini' : (Cond.initialized cls).before args s' = true := vx_ot_at hW0 hvm.symm (hgood _ (List.mem_cons_of_mem _ List.mem_cons_self)) hini
  have hU' : vx_Zq Bundle.tN "UNASSIGNED_STACK" Bundle.steD A s' s'.heap := by rw [hhp]; exact vx_Zq.moved hW0.alike (hU.kept hS.2.1)
  have hN' : vx_Zq Bundle.tN "SUPPRESSED_SENTINEL" Bundle.listD A s' s'.heap := by rw [hhp]; exact vx_Zq.moved hW0.alike (hN.kept hS.2.1)
  have h : ∀ w ∈ Bundle.ownAtoms own ic cls names, w.before args s' = true := vx_own hat' (vx_isRefq hU'.1) (vx_isRefq hN'.1) hU'.2.word hN'.2.word
  have hown' : s'.vm.findClass own = some m.cls := by rw [hvm]; exact hown
  have hins : (Cond.instantiable cls 6).before args s' = true := h _ (by simp [Bundle.ownAtoms])
  obtain ⟨vm₁, cX, kX, hfX, hkX, -, -, X₁, st1⟩ := Y.newCold hexec (own := own) (C := cls) (index := ik) (n := 6) hown' hk' hins hini'
    (g := F0 m pc ls rest) rfl (by rw [hb]; exact d0) (Nat.le_refl _) (Nat.le_refl _)
  generalize hT1 : (T.setVm vm₁).pushCell { cls := cX, slots := kX.instanceTypes.map defaultValue, vm := .none } = T1 at X₁ st1
  have hcat : (Value.ref T.heap.size).category = 1 := rfl
  have hcellA : T1.heap[T.heap.size]? = some (freshCell cX kX) := by rw [← hT1]; exact State.heap_pushCell_size _ _
  have d3' : decode c.code (pc + 3) = .ok (.dup, 1) := by rw [hb]; exact d3
  have d4' : decode c.code (pc + 4) = .ok (.ldc is, 2) := by rw [hb]; exact d4
  have hstr' : vk_R own is text sa s' := vk_R.warm hW0 hstr
  obtain ⟨U, hsteps, hrun, hend, hW, hsame, ce, hce, hO⟩ := X₁.ctorThrowS hexec htr (own := own) (cls := cls) (names := names) (ic := ic) hown' hcls hnames h (fun x hx => nomatch hx) hfX hkX hcellA (by rw [hhp, hT]; exact Nat.le_refl _) (msg := .ref sa) rfl
    (g := { method := m, pc := pc + 6, locals := ls, stack := .ref sa :: .ref T.heap.size :: .ref T.heap.size :: rest, locked := none }) rfl hsize rfl rfl (rest := rest) rfl
    (by rw [hb]; exact d6) (by rw [hb]; exact d9) hout hRframes (by simp only [List.map_cons, List.sum_cons, hcat]; omega) hlocks
  obtain ⟨f1, f2⟩ := vx_frame hsame
  rw [hhp] at f1 f2
  have hWs : s.WarmedH U.vm := State.WarmedH.trans hW0 hW
  have hcl : s.vm.findClass cls = some ce.cls := by
    have h9 := hO.cls
    rw [hvm] at h9
    exact h9
  have hall : s.sameButNew ({ U with vm := s.vm } : State) locs mc ms := by
    subst hA
    obtain ⟨e1, e2⟩ := hsame
    rw [State.setFrames_setFrames] at e1
    have h2 : (T.setVm s.vm).sameButNew ({ U with vm := s.vm } : State) [] (0 + 1) (0 + 6) := ⟨e1, e2⟩
    have h3 := X.same.trans h2
    rw [List.append_nil] at h3
    exact h3.mono hc hs
  refine ⟨U, ?_, .threw T.heap.size, hrun, hend, Or.inr ⟨T.heap.size, rfl, cls, ce, locs, hx U hWs.alike f1 (fun q hq => f2 q hq (fun z hz => nomatch hz)), hce, hO.vm, hcl, hWs, hall, hf⟩⟩
  refine st1 _ ?_
  show Steps p.tables e below (T1.setTop { method := m, pc := pc + 3, locals := ls, stack := .ref T.heap.size :: rest, locked := none }) _
  jvm_step X₁.here [X₁.here.top, hexec, d3', Value.category]
  exact X₁.ldcString hexec (own := own) (text := text) (index := is) (a := sa) hown' hstr'.1 hstr'.2
    (g := { method := m, pc := pc + 4, locals := ls, stack := .ref T.heap.size :: .ref T.heap.size :: rest, locked := none }) rfl d4' _ hsteps
/-- 'throw new E("text")', the text by a wide index -/
theorem vx_throwSW {cc : ByteArray} {pc : Nat} (hexec : p.tables.exec = Jvm.exec) (hb : c.code = cc) (hl : l.stackTraces = false) {own cls text : String} {names : List String} {ik is ic mc ms sa : Nat} {A : Nat → Prop}
    (hown : s.vm.findClass own = some m.cls) (hcls : Bundle.fit cls = true) (hnames : ∀ n ∈ names, Bundle.fit n = true)
    (hk : (Cond.classLink own ik cls).before args s = true) (hini : (Cond.initialized cls).before args s = true) (hstr : vk_R own is text sa s) (hat : ∀ w ∈ vx_atS own ic cls names, w.before args s = true)
    (hgood : ∀ w ∈ Cond.classLink own ik cls :: Cond.initialized cls :: vx_atS own ic cls names, vx_ot w = true)
    (hU : vx_Zq Bundle.tN "UNASSIGNED_STACK" Bundle.steD A s s.heap) (hN : vx_Zq Bundle.tN "SUPPRESSED_SENTINEL" Bundle.listD A s s.heap) (hS : va_S A s.heap H locs) (hsize : ls.size = c.maxLocals)
    (d0 : decode cc pc = .ok (.new ik, 3)) (d3 : decode cc (pc + 3) = .ok (.dup, 1)) (d4 : decode cc (pc + 4) = .ok (.ldc_w is, 3)) (d7 : decode cc (pc + 7) = .ok (.invokespecial ic, 3)) (d10 : decode cc (pc + 10) = .ok (.athrow, 1))
    (hout : ∀ x ∈ c.exceptionTable.toList, covers x (pc + 10) = false)
    (hRframes : names.length + 3 < R.frames) (hRlocals : (rest.map fun v => v.category).sum + (13 * (names.length + 1) + 43) ≤ R.locals) (hRcells : cells + 1 ≤ R.cells) (hRslots : slots + 6 ≤ R.slots) (hlocks : meth.locks = false)
    (hx : ∀ t : State, s.vm.Alike t.vm → H.size ≤ t.heap.size → (∀ q : Nat, q < H.size → t.heap[q]? = H[q]?) → XC cls s t)
    (hf : ∀ z ∈ locs, free z.base) (hc : cells + 1 ≤ mc) (hs : slots + 6 ≤ ms) :
    W p l e R s m args below meth c H locs cells slots (vx_MQ below Qc XC args s mc ms free) (F0 m pc ls rest) := by
  intro T hT X
  have htr : e.platform.stackTraces = false := (show e.platform.stackTraces = l.stackTraces by rw [X.admits.platform]).trans hl
  have Y := vx_rebase X (R' := { frames := R.frames, locals := R.locals, cells := 1, slots := 6 }) (Nat.le_refl _) (Nat.le_refl _) hRcells hRslots
  obtain ⟨s', hA⟩ : ∃ z, z = (T.setVm s.vm).setFrames (.invoking m args :: below) := ⟨_, rfl⟩
  rw [← hA] at Y
  have hvm : s'.vm = s.vm := by rw [hA]; rfl
  have hhp : s'.heap = H := by rw [hA]; exact hT
  have hW0 : s.WarmedH s'.vm := by rw [hvm]; exact State.WarmedH.refl s
  have hat' : ∀ w ∈ vx_atS own ic cls names, w.before args s' = true := fun w hw => vx_ot_at hW0 hvm.symm (hgood w (List.mem_cons_of_mem _ (List.mem_cons_of_mem _ hw))) (hat w hw)
  have hk' : (Cond.classLink own ik cls).before args s' = true := vx_ot_at hW0 hvm.symm (hgood _ List.mem_cons_self) hk
  have hini' : (Cond.initialized cls).before args s' = true := vx_ot_at hW0 hvm.symm (hgood _ (List.mem_cons_of_mem _ List.mem_cons_self)) hini
  have hU' : vx_Zq Bundle.tN "UNASSIGNED_STACK" Bundle.steD A s' s'.heap := by rw [hhp]; exact vx_Zq.moved hW0.alike (hU.kept hS.2.1)
  have hN' : vx_Zq Bundle.tN "SUPPRESSED_SENTINEL" Bundle.listD A s' s'.heap := by rw [hhp]; exact vx_Zq.moved hW0.alike (hN.kept hS.2.1)
  have h : ∀ w ∈ Bundle.ownAtoms own ic cls names, w.before args s' = true := vx_own hat' (vx_isRefq hU'.1) (vx_isRefq hN'.1) hU'.2.word hN'.2.word
  have hown' : s'.vm.findClass own = some m.cls := by rw [hvm]; exact hown
  have hins : (Cond.instantiable cls 6).before args s' = true := h _ (by simp [Bundle.ownAtoms])
  obtain ⟨vm₁, cX, kX, hfX, hkX, -, -, X₁, st1⟩ := Y.newCold hexec (own := own) (C := cls) (index := ik) (n := 6) hown' hk' hins hini'
    (g := F0 m pc ls rest) rfl (by rw [hb]; exact d0) (Nat.le_refl _) (Nat.le_refl _)
  generalize hT1 : (T.setVm vm₁).pushCell { cls := cX, slots := kX.instanceTypes.map defaultValue, vm := .none } = T1 at X₁ st1
  have hcat : (Value.ref T.heap.size).category = 1 := rfl
  have hcellA : T1.heap[T.heap.size]? = some (freshCell cX kX) := by rw [← hT1]; exact State.heap_pushCell_size _ _
  have d3' : decode c.code (pc + 3) = .ok (.dup, 1) := by rw [hb]; exact d3
  have d4' : decode c.code (pc + 4) = .ok (.ldc_w is, 3) := by rw [hb]; exact d4
  have hstr' : vk_R own is text sa s' := vk_R.warm hW0 hstr
  obtain ⟨U, hsteps, hrun, hend, hW, hsame, ce, hce, hO⟩ := X₁.ctorThrowS hexec htr (own := own) (cls := cls) (names := names) (ic := ic) hown' hcls hnames h (fun x hx => nomatch hx) hfX hkX hcellA (by rw [hhp, hT]; exact Nat.le_refl _) (msg := .ref sa) rfl
    (g := { method := m, pc := pc + 7, locals := ls, stack := .ref sa :: .ref T.heap.size :: .ref T.heap.size :: rest, locked := none }) rfl hsize rfl rfl (rest := rest) rfl
    (by rw [hb]; exact d7) (by rw [hb]; exact d10) hout hRframes (by simp only [List.map_cons, List.sum_cons, hcat]; omega) hlocks
  obtain ⟨f1, f2⟩ := vx_frame hsame
  rw [hhp] at f1 f2
  have hWs : s.WarmedH U.vm := State.WarmedH.trans hW0 hW
  have hcl : s.vm.findClass cls = some ce.cls := by
    have h9 := hO.cls
    rw [hvm] at h9
    exact h9
  have hall : s.sameButNew ({ U with vm := s.vm } : State) locs mc ms := by
    subst hA
    obtain ⟨e1, e2⟩ := hsame
    rw [State.setFrames_setFrames] at e1
    have h2 : (T.setVm s.vm).sameButNew ({ U with vm := s.vm } : State) [] (0 + 1) (0 + 6) := ⟨e1, e2⟩
    have h3 := X.same.trans h2
    rw [List.append_nil] at h3
    exact h3.mono hc hs
  refine ⟨U, ?_, .threw T.heap.size, hrun, hend, Or.inr ⟨T.heap.size, rfl, cls, ce, locs, hx U hWs.alike f1 (fun q hq => f2 q hq (fun z hz => nomatch hz)), hce, hO.vm, hcl, hWs, hall, hf⟩⟩
  refine st1 _ ?_
  show Steps p.tables e below (T1.setTop { method := m, pc := pc + 3, locals := ls, stack := .ref T.heap.size :: rest, locked := none }) _
  jvm_step X₁.here [X₁.here.top, hexec, d3', Value.category]
  exact X₁.ldcStringW hexec (own := own) (text := text) (index := is) (a := sa) hown' hstr'.1 hstr'.2
    (g := { method := m, pc := pc + 4, locals := ls, stack := .ref T.heap.size :: .ref T.heap.size :: rest, locked := none }) rfl d4' _ hsteps
end Ends
section Bodies
variable {l : Launch}
theorem vx_ofW {y : MethodName} {ws ws' : List Cond} {rm : Room} {Pc : Array Value → State → Prop} {Qc : Array Value → State → Outcome → State → Prop} {XC : String → State → State → Prop} {mc ms : Nat} {free : Addr → Prop} {cc : ByteArray} {maxL : Nat} {ret : Option FieldType}
    (hy : plainName y.cls = true) (hw : ws = Cond.code y cc maxL ret :: ws')
    (body : ∀ p e s m args below meth c s₁, BodyLoose p l y (headSpec ws rm) cc maxL ret e s m args below meth c s₁ → c.maxLocals = maxL → (∀ x ∈ c.exceptionTable.toList, False) → Pc args s →
      W p l e (headSpec ws rm).room s m args below meth c s.heap [] 0 0 (vx_MQ below Qc XC args s mc ms free) (entryFrame m args maxL)) : vx_Met l y ws rm Pc Qc XC mc ms free := by
  refine MetFree.of_bodyS (code := cc) (maxLocals := maxL) (ret := ret) hy ?_ ?_
  · intro args s m h hn
    obtain ⟨meth, c, h1, h2, h3, h4, h5, h6, -, -⟩ := Cond.code_spec hn (atoms_spec (ws := ws) h _ (by rw [hw]; exact List.mem_cons_self))
    exact ⟨meth, c, h1, h2, h3, h4, h5, h6⟩
  · intro p e s m args below meth c s₁ B hml hP _
    have hh0 : s₁.heap = s.heap := by rw [B.state]; rfl
    have ht : ∀ x ∈ c.exceptionTable.toList, False := by
      obtain ⟨meth9, c9, h1, h2, -, -, -, -, h7, -⟩ := Cond.code_spec B.named (atoms_spec (ws := ws) B.pre _ (by rw [hw]; exact List.mem_cons_self))
      cases Option.some.inj (h1.symm.trans B.method)
      cases Option.some.inj (h2.symm.trans (Stand.of_body B).code)
      intro x hx
      rw [Array.isEmpty_iff.mp h7] at hx
      cases hx
    obtain ⟨t, a1, o, b1, b2, b3⟩ := body p e s m args below meth c s₁ B hml ht hP s₁ hh0 (Stand.of_body B)
    exact ⟨t, o, a1, b1, b2, b3⟩
/-- the table of a body with handlers -/
theorem vx_table {p : Program} {x y : MethodName} {S : Spec} {cc bytes : ByteArray} {maxL maxL' : Nat} {ret ret' : Option FieldType} {e : Env} {s s₁ : State} {m : MethodId} {args : Array Value} {below : List Frame} {meth : Method} {c : Code} {hh : List (Nat × Nat × Nat × Nat)}
    (B : BodyLoose p l y S cc maxL ret e s m args below meth c s₁) (h : (Cond.codeWith y bytes maxL' ret' hh).before args s = true) : c.exceptionTable.toList = tableOf hh := by
  obtain ⟨m9, meth9, c9, hn9, h1, h2, -, -, h6, -⟩ := Cond.codeWith_spec h
  cases Option.some.inj (hn9.symm.trans B.named)
  cases Option.some.inj (h1.symm.trans B.method)
  cases Option.some.inj (h2.symm.trans (Stand.of_body B).code)
  rw [← h6, table_eq]
end Bodies
end VXA
/-! ===== END ===== -/
/-! ===== BEGIN a static call of a method with an exception table ===== -/
section VXS
variable {p : Program} {l : Launch} {e : Env} {R : Room} {s : State} {m : MethodId} {args : Array Value} {below : List Frame} {meth : Method} {c : Code} {T : State} {H : Heap} {locs : List Loc} {cells slots : Nat}
abbrev vx_CSW (R : Room) (s : State) (args : Array Value) (own : String) (index : Nat) (y : MethodName) (bytes : ByteArray) (maxL : Nat) (ret : Option FieldType) (hh : List (Nat × Nat × Nat × Nat)) (ws : List Cond) (rm : Room) (mc ms n : Nat) : Prop :=
  (rm.cells = mc ∧ rm.slots = ms ∧ rm.frames + 1 ≤ R.frames ∧ 8 + (maxL + 11) + rm.locals ≤ R.locals ∧ (∀ w ∈ ws, ∀ (a' : Array Value) (U : State), s.WarmedH U.vm → w.before a' U = true) ∧ Cond.codeWith y bytes maxL ret hh ∈ ws) ∧
  (Cond.codeWith y bytes maxL ret hh).before args s = true ∧ (Cond.initialized y.cls).before args s = true ∧ (y.cls ≠ "java/lang/invoke/MethodHandle" ∧ y.cls ≠ "java/lang/invoke/VarHandle") ∧
  (∀ sig, parseMethodDescriptor y.desc = some sig → n = sig.parameters.length) ∧ (Cond.methodLink own index y).before args s = true ∧ (Cond.static y).before args s = true
theorem vx_cwSW {own : String} {index maxL mc ms : Nat} {y : MethodName} {bytes : ByteArray} {ret : Option FieldType} {hh : List (Nat × Nat × Nat × Nat)} {Ts ws ws' : List Cond} {rm : Room} (n : Nat) (ht : ∀ w ∈ Ts, w.before args s = true) (hT : GoodIn Ts (va_wsS own index y ws)) (hw : ws = Cond.codeWith y bytes maxL ret hh :: ws') (hrc : rm.cells = mc) (hrs : rm.slots = ms)
    (hd : y.cls ≠ "java/lang/invoke/MethodHandle" ∧ y.cls ≠ "java/lang/invoke/VarHandle" ∧ (parseMethodDescriptor y.desc).map (fun d => d.parameters.length) = some n) (hR : rm.frames + 1 ≤ R.frames ∧ 8 + (maxL + 11) + rm.locals ≤ R.locals) :
    vx_CSW R s args own index y bytes maxL ret hh ws rm mc ms n := by
  have ok : ∀ w ∈ va_wsS own index y ws, w.before args s = true := fun w h => ht w (hT w h).1
  have hG : GoodIn Ts ws := fun w h => hT w (by unfold va_wsS; exact List.mem_append_right _ h)
  have hc : Cond.codeWith y bytes maxL ret hh ∈ ws := by rw [hw]; exact List.mem_cons_self
  refine ⟨⟨hrc, hrs, hR.1, hR.2, pay_in ht hG, hc⟩, ht _ (hG _ hc).1, ok _ (by simp [va_wsS]), ⟨hd.1, hd.2.1⟩, fun sig h => ?_, ok _ (by simp [va_wsS]), ok _ (by simp [va_wsS])⟩
  have h2 := hd.2.2
  rw [h] at h2
  exact (Option.some.inj h2).symm
theorem vx_callSW (X : Stand p l e R s m args below meth c T locs cells slots) (hexec : p.tables.exec = Jvm.exec) {own : String} {index : Nat} {y : MethodName} {bytes : ByteArray} {maxL : Nat} {ret : Option FieldType} {hh : List (Nat × Nat × Nat × Nat)}
    (hown : s.vm.findClass own = some m.cls) (hlink : (Cond.methodLink own index y).before args s = true) (hstat : (Cond.static y).before args s = true) (hinit : (Cond.initialized y.cls).before args s = true)
    (hcode : (Cond.codeWith y bytes maxL ret hh).before args s = true) (hy : y.cls ≠ "java/lang/invoke/MethodHandle" ∧ y.cls ≠ "java/lang/invoke/VarHandle")
    {W9 : Nat} {Pre : Pt → Array Value → Prop} {Post : Pt → Array Value → Option Value → Pt → Prop} (hK : Back l R p e below s args y 3 W9 Pre Post)
    {g : JFrame} (hg : g.method = m) (hsize : g.locals.size = c.maxLocals) {argsL rest : List Value} (hlen : ∀ sig, parseMethodDescriptor y.desc = some sig → argsL.length = sig.parameters.length)
    (hstack : g.stack = argsL.reverse ++ rest) (hW : 2 * g.monitorRoom + (rest.map fun v => v.category).sum ≤ W9) (hdg : decode c.code g.pc = .ok (.invokestatic index, 3))
    (hpre : ∀ vm₁, s.WarmedH vm₁ → Pre ⟨T.setVm vm₁, locs, cells, slots⟩ argsL.toArray) :
    ∃ (v : Option Value) (vm₁ : Vm) (B : Pt), s.WarmedH vm₁ ∧ Stand p l e R s m args below meth c B.U B.locs B.cells B.slots ∧ Post ⟨T.setVm vm₁, locs, cells, slots⟩ argsL.toArray v B ∧
      ∀ target, Steps p.tables e below (B.U.setTop { g with pc := g.pc + 3, stack := v.toList ++ rest }) target → Steps p.tables e below (T.setTop g) target := by
  obtain ⟨mk, methM, cM, hnamed, hmethM, -, -, -, -, -, -, hsigM⟩ := Cond.codeWith_spec hcode
  have hstatic : methM.isStatic = true := Cond.static_spec hnamed hmethM hstat
  obtain ⟨kP, hkP, -⟩ := className_of_methodNamed hnamed
  have hinitP : kP.init = .initialized := Cond.initialized_spec (findClass_of_methodNamed hnamed) hkP hinit
  obtain ⟨vm₁, X₁, hstep₁⟩ := X.invokestatic hexec hown hlink hnamed hmethM hstatic hkP hinitP hy (g := g) hg (argsL := argsL) (rest := rest) (hlen _ hsigM) hstack hdg
  obtain ⟨v, B, X', hpost, hsteps⟩ := hK m meth c ⟨T.setVm vm₁, locs, cells, slots⟩ { g with stack := rest } (.invokestatic index) mk argsL.toArray X₁ hg hsize hdg hW (X₁.named hnamed) (hpre vm₁ X₁.warmed)
  exact ⟨v, vm₁, B, X₁.warmed, X', hpost, fun target h => hstep₁ _ fun acts => by rw [doInvoke_state]; exact hsteps.trans h⟩
theorem vx_runSW {y : MethodName} {bytes cc : ByteArray} {maxL nL mc ms n index : Nat} {ret : Option FieldType} {hh : List (Nat × Nat × Nat × Nat)} {ws : List Cond} {rm : Room} {Pc : Array Value → State → Prop} {Qc : Array Value → State → Outcome → State → Prop} {free : Addr → Prop} {Ts : List Cond} {own : String} {As rest : List Value} {g : JFrame}
    (S : CallFix p m c cc nL s args Ts own) (hM : Met l y ws rm Pc Qc mc ms free) (cw : vx_CSW R s args own index y bytes maxL ret hh ws rm mc ms n) (hp : PreS s H Pc As)
    (hg : g.method = m) (hn : As.length = n) (hsize : g.locals.size = nL) (hstack : g.stack = As.reverse ++ rest) (hW : 2 * g.monitorRoom + (rest.map fun v => v.category).sum ≤ 8) (hdg : decode cc g.pc = .ok (.invokestatic index, 3)) (hf : cells + mc ≤ R.cells ∧ slots + ms ≤ R.slots) :
    va_Run p l e R s m args below meth c H locs cells slots mc ms g rest (Qc As.toArray) (free) := by
  obtain ⟨⟨hrc, hrs, hfr, hlo, hws, hcw⟩, hcode, hini, hy, hlen, hl, hstt⟩ := cw
  have hK : Back l R p e below s args y 3 8 (PreOf R mc ms Pc) (PostOf Qc mc ms free) := va_backW (hh := hh) (bytes := bytes) (maxL := maxL) (ret := ret) hM hp.1 hrc hrs hfr hlo hws hcw (fun a' U hW => word_at hW (Or.inl (by first | rfl | simp [Cond.onTables, Cond.keeps, Cond.steady])) hini)
  obtain ⟨hx, hb, hml, ho, -⟩ := S
  intro T hT X
  obtain ⟨v, vm₁, ⟨U', l2, c2, s2⟩, hW₁, X', ⟨g', mk, t, L, e1, e2, hq, h1, hL, h2, h3⟩, st⟩ := vx_callSW X hx (hh := hh) (bytes := bytes) (maxL := maxL) (ret := ret) ho hl hstt hini hcode hy hK hg (hsize.trans hml.symm) (argsL := As) (rest := rest) (fun sig h => hn.trans (hlen sig h)) hstack hW (by rw [hb]; exact hdg)
    (fun vm₁ hW₁ => ⟨hf.1, hf.2, hp.2 (T.setVm vm₁) hT hW₁⟩)
  dsimp only [Pt.U, Pt.locs, Pt.cells, Pt.slots] at X' e1 e2 h1 h2 h3 st
  subst h1; subst h2; subst h3
  exact ⟨v, (T.setVm vm₁).calling g' mk As.toArray, t, U', L, hT, X', hL, e1, e2, hq, st⟩
/-- not caught here, past rows that name other classes: it goes on to the caller -/
theorem vx_outP {p : Program} {l : Launch} {e : Env} {R : Room} {s : State} {m : MethodId} {args : Array Value} {below : List Frame} {meth : Method} {c : Code} {H : Heap} {locs : List Loc} {cells slots : Nat} {free : Addr → Prop} {ls : Array Slot} {rest : List Value} {Qc : Array Value → State → Outcome → State → Prop} {XC : String → State → State → Prop}
    {pc : Nat} {own E : String} {ce : Cell} {q : Addr} {mc ms : Nat} (hown : s.vm.findClass own = some m.cls) (hlocks : meth.locks = false)
    (hpass : ∀ z ∈ c.exceptionTable.toList, covers z pc = false ∨ (z.catchType ≠ 0 ∧ ∃ nm : String, (Cond.classLink own z.catchType nm).before args s = true ∧ va_Nc E nm s)) (hcell : H[q]? = some ce) (hv : ce.vm = .none) (hcl : s.vm.findClass E = some ce.cls)
    (hx : ∀ t : State, t.heap = H → s.vm.Alike t.vm → XC E s t) (hf : ∀ z ∈ locs, free z.base) (hc : cells ≤ mc) (hs : slots ≤ ms) :
    vx_W p l e R s m args below meth c H locs cells slots (vx_MQ below Qc XC args s mc ms free) (F0 m pc ls rest) q := by
  intro T hT X
  have hpl : e.platform.magicAccessors = ({} : Platform).magicAccessors := by rw [X.admits.platform]
  obtain ⟨vm', hW', X', st⟩ := X.outThrough hlocks q (g := F0 m pc ls rest) rfl rfl rfl (cell := ce) (by rw [hT]; exact hcell) (by rw [hv]; rfl)
    (by obtain ⟨k9, h9, -⟩ := Vm.findClass_spec hcl; exact ⟨k9, h9⟩) (fun z hz => by
      rcases hpass z hz with h | ⟨hz0, nm, hl1, hn1⟩
      · exact Or.inl h
      · obtain ⟨c6, hc6, hcl6⟩ := Cond.classLink_spec hown hl1 e.platform hpl
        obtain ⟨a8, b8, h1, h2, h3⟩ := hn1
        cases Option.some.inj (h1.symm.trans hcl)
        cases Option.some.inj (h2.symm.trans hc6)
        exact Or.inr ⟨hz0, _, hcl6, h3⟩)
  obtain ⟨g₀, hfr⟩ := X'.frames_eq
  have hcell9 : ((T.setVm vm').setFrames (.throwing q :: below)).heap[q]? = some ce := by
    show T.heap[q]? = some ce
    rw [hT]; exact hcell
  have hend : Ended ((T.setVm vm').setFrames (.throwing q :: below)) below (.threw q) := State.frames_setFrames _ (State.cur_lt_of_frames hfr)
  refine ⟨(T.setVm vm').setFrames (.throwing q :: below), ?_, .threw q, X'.here.running, hend, Or.inr ⟨q, rfl, E, ce, locs, hx _ hT (X'.ends _).1.alike, hcell9, hv, hcl, (X'.ends _).1, (X'.ends _).2.mono hc hs, hf⟩⟩
  rw [X.pushThrowing_eq]
  exact st
/-- a thing of a world lies in the heap -/
theorem vx_lt {D : va_G} {cl : List vw_C} {ws : va_W} {H1 : Heap} (h : va_P D cl ws H1) {k : Nat} {q : Nat × va_E} (hk : ws[k]? = some q) : q.1 < H1.size := (h k q hk).lt
end VXS
/-! ===== END ===== -/
/-! ===== BEGIN methods with a table of their own: called by a name, returning or throwing ===== -/
section VXH
/-! vx_backW, vx_callVX, vx_callSX, vx_callVW, vx_runVW, vx_runVX, vx_runSX, vx_ofWH follow the same proofs as their sisters above (Free/Laws.lean, Shelf42/LK1.lean); vx_outP calls Shelf42/NT130.lean (outThrough). -/
section
variable {l : Launch} {R : Room} {p : Program} {e : Env} {below : List Frame} {s : State} {sargs : Array Value} {y : MethodName} {len W9 : Nat}
theorem vx_backW {ws : List Cond} {rm : Room} {Pc : Array Value → State → Prop} {Qc : Array Value → State → Outcome → State → Prop} {XC : String → State → State → Prop} {mc ms : Nat} {free : Addr → Prop} {bytes : ByteArray} {maxL : Nat} {ret : Option FieldType} {hh : List (Nat × Nat × Nat × Nat)}
    (hM : vx_Met l y ws rm Pc Qc XC mc ms free) (hblind : FrameBlind Pc) (hrc : rm.cells = mc) (hrs : rm.slots = ms)
    (hframes : rm.frames + 1 ≤ R.frames) (hlocals : W9 + (maxL + 11) + rm.locals ≤ R.locals)
    (hws : ∀ w ∈ ws, ∀ a' U, s.WarmedH U.vm → w.before a' U = true) (hcode : Cond.codeWith y bytes maxL ret hh ∈ ws) (hinit : ∀ a' U, s.WarmedH U.vm → (Cond.initialized y.cls).before a' U = true) :
    vx_Back l R p e below s sargs y len W9 (PreOf R mc ms Pc) (PostOf Qc mc ms free) (vx_Post XC mc ms free) := by
  intro m meth c A g ig mk a X hg hsize hdg hW hn hp
  have h1 : (headSpec ws rm).pre.before a A.U = true := atoms_intro fun w hw => hws w hw _ _ X.warmed
  have h2 : (Cond.codeWith y bytes maxL ret hh).before a A.U = true := hws _ hcode _ _ X.warmed
  have h3 : (Cond.initialized y.cls).before a A.U = true := hinit _ _ X.warmed
  have h4 : A.cells + (headSpec ws rm).room.cells ≤ R.cells := by rw [show (headSpec ws rm).room.cells = mc from hrc]; exact hp.1
  have h5 : A.slots + (headSpec ws rm).room.slots ≤ R.slots := by rw [show (headSpec ws rm).room.slots = ms from hrs]; exact hp.2.1
  have hPc : Pc a (A.U.calling g mk a) := hblind _ _ _ _ hp.2.2
  obtain ⟨U, Ls, c0, s0⟩ := A
  dsimp only [Pt.U, Pt.locs, Pt.cells, Pt.slots] at h1 h2 h3 h4 h5 X hn hPc ⊢
  obtain ⟨m9, methY, cY, hn9, hmY, hcY, -, hlY, -⟩ := Cond.codeWith_spec h2
  cases Option.some.inj (hn9.symm.trans hn)
  obtain ⟨kY, hkY, -⟩ := className_of_methodNamed hn
  have hinitY : kY.init = .initialized := Cond.initialized_spec (findClass_of_methodNamed hn) hkY h3
  have h : At U g.method c below := by rw [hg]; exact X.here
  have hlocals9 : W9 + (maxL + 11) + (headSpec ws rm).room.locals ≤ R.locals := hlocals
  have happ : (headSpec ws rm).appliesLoose y e.platform (U.calling g mk a) = true :=
    Spec.appliesLoose_calling (g := g) h hdg hn hkY hinitY
      (X.room_calling (g := g) (R' := (headSpec ws rm).room) hsize hmY hcY hframes (by rw [hlY]; omega) h4 h5) h1
  obtain ⟨mid, hmid⟩ := h.above
  have hfr : (U.setTop g).frames = (.java g :: mid) ++ below := by rw [State.frames_setTop' g h.top, hmid]; rfl
  obtain ⟨o, s₂, hsteps, -, hend, hq⟩ := Steps.callFree hM p X.admits X.cas X.clock (acts := []) hfr happ hPc trivial
  have hq' : vx_Q Qc XC mc ms free a (U.calling g mk a) o s₂ := hq
  rw [State.frames_setTop' g h.top] at hend
  obtain ⟨g₀, hg0⟩ := Option.isSome_iff_exists.mp h.top
  obtain ⟨r, hr⟩ := State.topJava?_eq_some.mp hg0
  have hr' : (({ U with heap := s₂.heap, slotsUsed := s₂.slotsUsed } : State).setVm s₂.vm).frames = .java g₀ :: r := hr
  rcases hq' with ⟨hqc, L, hfe, hL⟩ | ⟨q, rfl, E, ce, L, hx, hce, hcv, hcl, hW₂, hsm, hL⟩
  · obtain ⟨⟨v, rfl⟩, hW₂, e2, q2, q3, q4, q5, q6⟩ := id hfe
    have e3 : s₂ = ({ (U.calling g mk a).setFrames s₂.frames with heap := s₂.heap, slotsUsed := s₂.slotsUsed } : State).setVm s₂.vm := by
      have : s₂ = ({ s₂ with vm := (U.calling g mk a).vm } : State).setVm s₂.vm := rfl
      rw [e2] at this
      exact this
    obtain ⟨c₂, i₂, len₂, hc₂, hd₂, hf₂⟩ := hend
    have hW' : U.WarmedH s₂.vm := hW₂
    have hcc : c₂ = c := by
      have h1 : s₂.code? g.method = U.code? g.method := by
        rw [State.code?_eq, State.code?_eq, hW'.alike.method?]
      exact Option.some.inj (hc₂.symm.trans (h1.trans h.code))
    subst hcc
    have hlen : len₂ = len := by rw [hdg] at hd₂; cases hd₂; rfl
    subst hlen
    have hs₂ : s₂ = (({ U with heap := s₂.heap, slotsUsed := s₂.slotsUsed } : State).setVm s₂.vm).setTop { g with pc := g.pc + len₂, stack := v.toList ++ g.stack } := by
      refine e3.trans ?_
      rw [hf₂, State.calling_eq h.top, State.setFrames_setFrames, State.setTop_of_frames _ hr', hr]
      rfl
    have hsame : U.sameButNew ({ U with heap := s₂.heap, slotsUsed := s₂.slotsUsed } : State) L mc ms := by
      refine ⟨?_, q2, q3, q4, q5, q6⟩
      obtain ⟨t, ht, -⟩ := State.frames_cons hr
      show ({ U with heap := s₂.heap, slotsUsed := s₂.slotsUsed } : State) = { U.setFrames U.frames with heap := s₂.heap, slotsUsed := s₂.slotsUsed }
      rw [State.setFrames_self ht]
    subst hg
    refine Or.inl ⟨v, ⟨(({ U with heap := s₂.heap, slotsUsed := s₂.slotsUsed } : State).setVm s₂.vm), Ls ++ L, c0 + mc, s0 + ms⟩,
      ⟨X.admits, X.cas, X.clock, X.frames, X.room, X.hears, X.method, X.code, (X.here.setHeapUsed s₂.heap s₂.slotsUsed).setVm hW'.alike, X.tail, State.WarmedH.trans X.warmed hW', X.limits, X.bytes, X.same.trans (hsame.setVm s.vm)⟩,
      ⟨g, mk, s₂, L, rfl, rfl, hqc, rfl, hL, rfl, rfl⟩, ?_⟩
    show Steps p.tables e below _ ((({ U with heap := s₂.heap, slotsUsed := s₂.slotsUsed } : State).setVm s₂.vm).setTop { g with pc := g.pc + len₂, stack := v.toList ++ g.stack })
    rw [← hs₂]
    exact hsteps
  · obtain ⟨e2, q2, q3, q4, q5, q6⟩ := id hsm
    have e3 : s₂ = ({ (U.calling g mk a).setFrames s₂.frames with heap := s₂.heap, slotsUsed := s₂.slotsUsed } : State).setVm s₂.vm := by
      have : s₂ = ({ s₂ with vm := (U.calling g mk a).vm } : State).setVm s₂.vm := rfl
      rw [e2] at this
      exact this
    have hf₂ : s₂.frames = .throwing q :: .java g :: U.frames.tail := hend
    have hW' : U.WarmedH s₂.vm := hW₂
    have hs₂ : s₂ = ((({ U with heap := s₂.heap, slotsUsed := s₂.slotsUsed } : State).setVm s₂.vm).setTop g).pushFrame (.throwing q) := by
      refine e3.trans ?_
      rw [hf₂, State.calling_eq h.top, State.setFrames_setFrames, State.pushFrame, State.frames_setTop _ hr', State.setTop_of_frames _ hr', State.setFrames_setFrames, hr]
      rfl
    have hsame : U.sameButNew ({ U with heap := s₂.heap, slotsUsed := s₂.slotsUsed } : State) L mc ms := by
      refine ⟨?_, q2, q3, q4, q5, q6⟩
      obtain ⟨t, ht, -⟩ := State.frames_cons hr
      show ({ U with heap := s₂.heap, slotsUsed := s₂.slotsUsed } : State) = { U.setFrames U.frames with heap := s₂.heap, slotsUsed := s₂.slotsUsed }
      rw [State.setFrames_self ht]
    subst hg
    refine Or.inr ⟨q, ⟨(({ U with heap := s₂.heap, slotsUsed := s₂.slotsUsed } : State).setVm s₂.vm), Ls ++ L, c0 + mc, s0 + ms⟩,
      ⟨X.admits, X.cas, X.clock, X.frames, X.room, X.hears, X.method, X.code, (X.here.setHeapUsed s₂.heap s₂.slotsUsed).setVm hW'.alike, X.tail, State.WarmedH.trans X.warmed hW', X.limits, X.bytes, X.same.trans (hsame.setVm s.vm)⟩,
      ⟨g, mk, s₂, L, E, ce, rfl, rfl, hx, hce, hcv, hcl, rfl, hL, rfl, rfl⟩, ?_⟩
    show Steps p.tables e below _ (((({ U with heap := s₂.heap, slotsUsed := s₂.slotsUsed } : State).setVm s₂.vm).setTop g).pushFrame (.throwing q))
    rw [← hs₂]
    exact hsteps
end
variable {p : Program} {l : Launch} {e : Env} {R : Room} {s : State} {m : MethodId} {args : Array Value} {below : List Frame} {meth : Method} {c : Code} {T : State} {H : Heap} {locs : List Loc} {cells slots : Nat}
theorem vx_callVX (X : Stand p l e R s m args below meth c T locs cells slots) (hexec : p.tables.exec = Jvm.exec) {own C : String} {index : Nat} {y : MethodName} {bytes : ByteArray} {maxL : Nat} {ret : Option FieldType} {hh : List (Nat × Nat × Nat × Nat)}
    (hown : s.vm.findClass own = some m.cls) (hlink : (Cond.methodLink own index y).before args s = true) (hinst : (Cond.instanceMethod y).before args s = true) (hsel : (Cond.selects C y y).before args s = true)
    (hcode : (Cond.codeWith y bytes maxL ret hh).before args s = true) (hy : y.cls ≠ "java/lang/invoke/MethodHandle" ∧ y.cls ≠ "java/lang/invoke/VarHandle")
    {W9 : Nat} {Pre : Pt → Array Value → Prop} {Post : Pt → Array Value → Option Value → Pt → Prop} {PostX : Pt → Array Value → Addr → Pt → Prop} (hK : vx_Back l R p e below s args y 3 W9 Pre Post PostX)
    {b : Addr} {cellB : Cell} (hcell : T.heap[b]? = some cellB) (hobj : cellB.vm.isStatics = false) (hcls : s.vm.findClass C = some cellB.cls)
    {g : JFrame} (hg : g.method = m) (hsize : g.locals.size = c.maxLocals) {argsL rest : List Value} (hlen : ∀ sig, parseMethodDescriptor y.desc = some sig → argsL.length = sig.parameters.length)
    (hstack : g.stack = argsL.reverse ++ .ref b :: rest) (hW : 2 * g.monitorRoom + (rest.map fun v => v.category).sum ≤ W9) (hdg : decode c.code g.pc = .ok (.invokevirtual index, 3))
    (hpre : ∀ vm₁, s.WarmedH vm₁ → Pre ⟨T.setVm vm₁, locs, cells, slots⟩ (Value.ref b :: argsL).toArray) :
    (∃ (v : Option Value) (vm₁ : Vm) (B : Pt), s.WarmedH vm₁ ∧ Stand p l e R s m args below meth c B.U B.locs B.cells B.slots ∧ Post ⟨T.setVm vm₁, locs, cells, slots⟩ (Value.ref b :: argsL).toArray v B ∧
      ∀ target, Steps p.tables e below (B.U.setTop { g with pc := g.pc + 3, stack := v.toList ++ rest }) target → Steps p.tables e below (T.setTop g) target) ∨
    (∃ (q : Addr) (vm₁ : Vm) (B : Pt), s.WarmedH vm₁ ∧ Stand p l e R s m args below meth c B.U B.locs B.cells B.slots ∧ PostX ⟨T.setVm vm₁, locs, cells, slots⟩ (Value.ref b :: argsL).toArray q B ∧
      Steps p.tables e below (T.setTop g) ((B.U.setTop { g with stack := rest }).pushFrame (.throwing q))) := by
  obtain ⟨mk, methM, hnamed, hmethM, hstM, habM⟩ := Cond.instanceMethod_spec hinst
  obtain ⟨m8, methM', cM, hn8, hmethM', -, -, -, -, -, -, hsigM⟩ := Cond.codeWith_spec hcode
  cases Option.some.inj (hn8.symm.trans hnamed)
  cases hmethM.symm.trans hmethM'
  obtain ⟨c2, r2, m2, q1, q2, q3, q4, kP, hkP, hkPi⟩ := Cond.selects_spec hsel
  cases hcls.symm.trans q1
  cases (State.methodFound?_of_named hnamed hy).symm.trans q2
  cases hnamed.symm.trans q3
  have hselP : selectMethod e.platform s.vm cellB.cls mk = .method mk := by rw [Launch.admits_selectMethod X.admits]; exact q4
  obtain ⟨vm₁, X₁, hstep₁⟩ := X.invokevirtual hexec hown hlink hnamed hmethM hstM hkP hkPi hy (a := b) (cell := cellB) hcell
    (fun z h => by rw [h] at hobj; cases hobj) hselP hmethM habM hkP hkPi (g := g) hg (argsL := argsL) (rest := rest) (hlen _ hsigM) hstack hdg
  rcases hK m meth c ⟨T.setVm vm₁, locs, cells, slots⟩ { g with stack := rest } (.invokevirtual index) mk (Value.ref b :: argsL).toArray X₁ hg hsize hdg hW (X₁.named hnamed) (hpre vm₁ X₁.warmed) with ⟨v, B, X', hpost, hsteps⟩ | ⟨q, B, X', hpost, hsteps⟩
  · exact Or.inl ⟨v, vm₁, B, X₁.warmed, X', hpost, fun target h => hstep₁ _ fun acts => by rw [doInvoke_state]; exact hsteps.trans h⟩
  · exact Or.inr ⟨q, vm₁, B, X₁.warmed, X', hpost, hstep₁ _ fun acts => by rw [doInvoke_state]; exact hsteps⟩
theorem vx_callSX (X : Stand p l e R s m args below meth c T locs cells slots) (hexec : p.tables.exec = Jvm.exec) {own : String} {index : Nat} {y : MethodName} {bytes : ByteArray} {maxL : Nat} {ret : Option FieldType} {hh : List (Nat × Nat × Nat × Nat)}
    (hown : s.vm.findClass own = some m.cls) (hlink : (Cond.methodLink own index y).before args s = true) (hstat : (Cond.static y).before args s = true) (hinit : (Cond.initialized y.cls).before args s = true)
    (hcode : (Cond.codeWith y bytes maxL ret hh).before args s = true) (hy : y.cls ≠ "java/lang/invoke/MethodHandle" ∧ y.cls ≠ "java/lang/invoke/VarHandle")
    {W9 : Nat} {Pre : Pt → Array Value → Prop} {Post : Pt → Array Value → Option Value → Pt → Prop} {PostX : Pt → Array Value → Addr → Pt → Prop} (hK : vx_Back l R p e below s args y 3 W9 Pre Post PostX)
    {g : JFrame} (hg : g.method = m) (hsize : g.locals.size = c.maxLocals) {argsL rest : List Value} (hlen : ∀ sig, parseMethodDescriptor y.desc = some sig → argsL.length = sig.parameters.length)
    (hstack : g.stack = argsL.reverse ++ rest) (hW : 2 * g.monitorRoom + (rest.map fun v => v.category).sum ≤ W9) (hdg : decode c.code g.pc = .ok (.invokestatic index, 3))
    (hpre : ∀ vm₁, s.WarmedH vm₁ → Pre ⟨T.setVm vm₁, locs, cells, slots⟩ argsL.toArray) :
    (∃ (v : Option Value) (vm₁ : Vm) (B : Pt), s.WarmedH vm₁ ∧ Stand p l e R s m args below meth c B.U B.locs B.cells B.slots ∧ Post ⟨T.setVm vm₁, locs, cells, slots⟩ argsL.toArray v B ∧
      ∀ target, Steps p.tables e below (B.U.setTop { g with pc := g.pc + 3, stack := v.toList ++ rest }) target → Steps p.tables e below (T.setTop g) target) ∨
    (∃ (q : Addr) (vm₁ : Vm) (B : Pt), s.WarmedH vm₁ ∧ Stand p l e R s m args below meth c B.U B.locs B.cells B.slots ∧ PostX ⟨T.setVm vm₁, locs, cells, slots⟩ argsL.toArray q B ∧
      Steps p.tables e below (T.setTop g) ((B.U.setTop { g with stack := rest }).pushFrame (.throwing q))) := by
  obtain ⟨mk, methM, cM, hnamed, hmethM, -, -, -, -, -, -, hsigM⟩ := Cond.codeWith_spec hcode
  have hstatic : methM.isStatic = true := Cond.static_spec hnamed hmethM hstat
  obtain ⟨kP, hkP, -⟩ := className_of_methodNamed hnamed
  have hinitP : kP.init = .initialized := Cond.initialized_spec (findClass_of_methodNamed hnamed) hkP hinit
  obtain ⟨vm₁, X₁, hstep₁⟩ := X.invokestatic hexec hown hlink hnamed hmethM hstatic hkP hinitP hy (g := g) hg (argsL := argsL) (rest := rest) (hlen _ hsigM) hstack hdg
  rcases hK m meth c ⟨T.setVm vm₁, locs, cells, slots⟩ { g with stack := rest } (.invokestatic index) mk argsL.toArray X₁ hg hsize hdg hW (X₁.named hnamed) (hpre vm₁ X₁.warmed) with ⟨v, B, X', hpost, hsteps⟩ | ⟨q, B, X', hpost, hsteps⟩
  · exact Or.inl ⟨v, vm₁, B, X₁.warmed, X', hpost, fun target h => hstep₁ _ fun acts => by rw [doInvoke_state]; exact hsteps.trans h⟩
  · exact Or.inr ⟨q, vm₁, B, X₁.warmed, X', hpost, hstep₁ _ fun acts => by rw [doInvoke_state]; exact hsteps⟩
theorem vx_callVW (X : Stand p l e R s m args below meth c T locs cells slots) (hexec : p.tables.exec = Jvm.exec) {own C : String} {index : Nat} {y : MethodName} {bytes : ByteArray} {maxL : Nat} {ret : Option FieldType} {hh : List (Nat × Nat × Nat × Nat)}
    (hown : s.vm.findClass own = some m.cls) (hlink : (Cond.methodLink own index y).before args s = true) (hinst : (Cond.instanceMethod y).before args s = true) (hsel : (Cond.selects C y y).before args s = true)
    (hcode : (Cond.codeWith y bytes maxL ret hh).before args s = true) (hy : y.cls ≠ "java/lang/invoke/MethodHandle" ∧ y.cls ≠ "java/lang/invoke/VarHandle")
    {W9 : Nat} {Pre : Pt → Array Value → Prop} {Post : Pt → Array Value → Option Value → Pt → Prop} (hK : Back l R p e below s args y 3 W9 Pre Post)
    {b : Addr} {cellB : Cell} (hcell : T.heap[b]? = some cellB) (hobj : cellB.vm.isStatics = false) (hcls : s.vm.findClass C = some cellB.cls)
    {g : JFrame} (hg : g.method = m) (hsize : g.locals.size = c.maxLocals) {argsL rest : List Value} (hlen : ∀ sig, parseMethodDescriptor y.desc = some sig → argsL.length = sig.parameters.length)
    (hstack : g.stack = argsL.reverse ++ .ref b :: rest) (hW : 2 * g.monitorRoom + (rest.map fun v => v.category).sum ≤ W9) (hdg : decode c.code g.pc = .ok (.invokevirtual index, 3))
    (hpre : ∀ vm₁, s.WarmedH vm₁ → Pre ⟨T.setVm vm₁, locs, cells, slots⟩ (Value.ref b :: argsL).toArray) :
    ∃ (v : Option Value) (vm₁ : Vm) (B : Pt), s.WarmedH vm₁ ∧ Stand p l e R s m args below meth c B.U B.locs B.cells B.slots ∧ Post ⟨T.setVm vm₁, locs, cells, slots⟩ (Value.ref b :: argsL).toArray v B ∧
      ∀ target, Steps p.tables e below (B.U.setTop { g with pc := g.pc + 3, stack := v.toList ++ rest }) target → Steps p.tables e below (T.setTop g) target := by
  obtain ⟨mk, methM, hnamed, hmethM, hstM, habM⟩ := Cond.instanceMethod_spec hinst
  obtain ⟨m8, methM', cM, hn8, hmethM', -, -, -, -, -, -, hsigM⟩ := Cond.codeWith_spec hcode
  cases Option.some.inj (hn8.symm.trans hnamed)
  cases hmethM.symm.trans hmethM'
  obtain ⟨c2, r2, m2, q1, q2, q3, q4, kP, hkP, hkPi⟩ := Cond.selects_spec hsel
  cases hcls.symm.trans q1
  cases (State.methodFound?_of_named hnamed hy).symm.trans q2
  cases hnamed.symm.trans q3
  have hselP : selectMethod e.platform s.vm cellB.cls mk = .method mk := by rw [Launch.admits_selectMethod X.admits]; exact q4
  obtain ⟨vm₁, X₁, hstep₁⟩ := X.invokevirtual hexec hown hlink hnamed hmethM hstM hkP hkPi hy (a := b) (cell := cellB) hcell
    (fun z h => by rw [h] at hobj; cases hobj) hselP hmethM habM hkP hkPi (g := g) hg (argsL := argsL) (rest := rest) (hlen _ hsigM) hstack hdg
  obtain ⟨v, B, X', hpost, hsteps⟩ := hK m meth c ⟨T.setVm vm₁, locs, cells, slots⟩ { g with stack := rest } (.invokevirtual index) mk (Value.ref b :: argsL).toArray X₁ hg hsize hdg hW (X₁.named hnamed) (hpre vm₁ X₁.warmed)
  exact ⟨v, vm₁, B, X₁.warmed, X', hpost, fun target h => hstep₁ _ fun acts => by rw [doInvoke_state]; exact hsteps.trans h⟩
abbrev vx_CVW (R : Room) (s : State) (args : Array Value) (own C : String) (index : Nat) (y : MethodName) (bytes : ByteArray) (maxL : Nat) (ret : Option FieldType) (hh : List (Nat × Nat × Nat × Nat)) (ws : List Cond) (rm : Room) (mc ms n : Nat) : Prop :=
  (rm.cells = mc ∧ rm.slots = ms ∧ rm.frames + 1 ≤ R.frames ∧ 8 + (maxL + 11) + rm.locals ≤ R.locals ∧ (∀ w ∈ ws, ∀ (a' : Array Value) (U : State), s.WarmedH U.vm → w.before a' U = true) ∧ Cond.codeWith y bytes maxL ret hh ∈ ws) ∧
  (Cond.codeWith y bytes maxL ret hh).before args s = true ∧ (Cond.initialized y.cls).before args s = true ∧ (y.cls ≠ "java/lang/invoke/MethodHandle" ∧ y.cls ≠ "java/lang/invoke/VarHandle") ∧
  (∀ sig, parseMethodDescriptor y.desc = some sig → n = sig.parameters.length) ∧ (Cond.methodLink own index y).before args s = true ∧ (Cond.instanceMethod y).before args s = true ∧ (Cond.selects C y y).before args s = true
theorem vx_cwVW {own C : String} {index maxL mc ms : Nat} {y : MethodName} {bytes : ByteArray} {ret : Option FieldType} {hh : List (Nat × Nat × Nat × Nat)} {Ts ws ws' : List Cond} {rm : Room} (n : Nat) (ht : ∀ w ∈ Ts, w.before args s = true) (hT : GoodIn Ts (wsV own index C y ws)) (hw : ws = Cond.codeWith y bytes maxL ret hh :: ws') (hrc : rm.cells = mc) (hrs : rm.slots = ms)
    (hd : y.cls = C ∧ y.cls ≠ "java/lang/invoke/MethodHandle" ∧ y.cls ≠ "java/lang/invoke/VarHandle" ∧ (parseMethodDescriptor y.desc).map (fun d => d.parameters.length) = some n) (hR : rm.frames + 1 ≤ R.frames ∧ 8 + (maxL + 11) + rm.locals ≤ R.locals) :
    vx_CVW R s args own C index y bytes maxL ret hh ws rm mc ms n := by
  obtain ⟨hC, hd⟩ := hd
  subst hC
  have ok : ∀ w ∈ wsV own index y.cls y ws, w.before args s = true := fun w h => ht w (hT w h).1
  have hG : GoodIn Ts ws := fun w h => hT w (by unfold wsV; exact List.mem_append_right _ h)
  have hc : Cond.codeWith y bytes maxL ret hh ∈ ws := by rw [hw]; exact List.mem_cons_self
  refine ⟨⟨hrc, hrs, hR.1, hR.2, pay_in ht hG, hc⟩, ht _ (hG _ hc).1, ok _ (by simp [wsV]), ⟨hd.1, hd.2.1⟩, fun sig h => ?_, ok _ (by simp [wsV]), ok _ (by simp [wsV]), ok _ (by simp [wsV])⟩
  have h2 := hd.2.2
  rw [h] at h2
  exact (Option.some.inj h2).symm
theorem vx_runVW {y : MethodName} {bytes cc : ByteArray} {maxL nL mc ms n index : Nat} {ret : Option FieldType} {hh : List (Nat × Nat × Nat × Nat)} {ws : List Cond} {rm : Room} {Pc : Array Value → State → Prop} {Qc : Array Value → State → Outcome → State → Prop} {free : Addr → Prop} {Ts : List Cond} {own C : String} {b : Addr} {As rest : List Value} {g : JFrame}
    (S : CallFix p m c cc nL s args Ts own) (hM : Met l y ws rm Pc Qc mc ms free) (cw : vx_CVW R s args own C index y bytes maxL ret hh ws rm mc ms n) (hp : PreV s H C b Pc As)
    (hg : g.method = m) (hn : As.length = n) (hsize : g.locals.size = nL) (hstack : g.stack = As.reverse ++ .ref b :: rest) (hW : 2 * g.monitorRoom + (rest.map fun v => v.category).sum ≤ 8) (hdg : decode cc g.pc = .ok (.invokevirtual index, 3)) (hf : cells + mc ≤ R.cells ∧ slots + ms ≤ R.slots) :
    va_Run p l e R s m args below meth c H locs cells slots mc ms g rest (Qc (Value.ref b :: As).toArray) free := by
  obtain ⟨⟨hrc, hrs, hfr, hlo, hws, hcw⟩, hcode, hini, hy, hlen, hl, hin, hse⟩ := cw
  have hK : Back l R p e below s args y 3 8 (PreOf R mc ms Pc) (PostOf Qc mc ms free) := va_backW (hh := hh) (bytes := bytes) (maxL := maxL) (ret := ret) hM hp.1 hrc hrs hfr hlo hws hcw (fun a' U hW => word_at hW (Or.inl (by first | rfl | simp [Cond.onTables, Cond.keeps, Cond.steady])) hini)
  obtain ⟨hx, hb, hml, ho, -⟩ := S
  obtain ⟨-, ⟨cellB, hcB, hoB, hclB⟩, hPc⟩ := hp
  intro T hT X
  obtain ⟨v, vm₁, ⟨U', l2, c2, s2⟩, hW₁, X', ⟨g', mk, t, L, e1, e2, hq, h1, hL, h2, h3⟩, st⟩ := vx_callVW X hx (C := C) (hh := hh) (bytes := bytes) (maxL := maxL) (ret := ret) ho hl hin hse hcode hy hK (by rw [hT]; exact hcB) hoB hclB hg (hsize.trans hml.symm) (argsL := As) (rest := rest) (fun sig h => hn.trans (hlen sig h)) hstack hW (by rw [hb]; exact hdg)
    (fun vm₁ hW₁ => ⟨hf.1, hf.2, hPc (T.setVm vm₁) hT hW₁⟩)
  dsimp only [Pt.U, Pt.locs, Pt.cells, Pt.slots] at X' e1 e2 h1 h2 h3 st
  subst h1; subst h2; subst h3
  exact ⟨v, (T.setVm vm₁).calling g' mk (Value.ref b :: As).toArray, t, U', L, hT, X', hL, e1, e2, hq, st⟩
section
variable {y : MethodName} {bytes cc : ByteArray} {maxL nL mc ms n index : Nat} {ret : Option FieldType} {ws : List Cond} {rm : Room} {Pc : Array Value → State → Prop} {Qc : Array Value → State → Outcome → State → Prop} {XC : String → State → State → Prop} {free : Addr → Prop} {Ts : List Cond} {own C : String} {b : Addr} {As rest : List Value} {g : JFrame}
theorem vx_runVX {hh : List (Nat × Nat × Nat × Nat)} (S : CallFix p m c cc nL s args Ts own) (hM : vx_Met l y ws rm Pc Qc XC mc ms free) (cw : vx_CVW R s args own C index y bytes maxL ret hh ws rm mc ms n) (hp : PreV s H C b Pc As)
    (hg : g.method = m) (hn : As.length = n) (hsize : g.locals.size = nL) (hstack : g.stack = As.reverse ++ .ref b :: rest) (hW : 2 * g.monitorRoom + (rest.map fun v => v.category).sum ≤ 8) (hdg : decode cc g.pc = .ok (.invokevirtual index, 3)) (hf : cells + mc ≤ R.cells ∧ slots + ms ≤ R.slots) :
    vx_Run p l e R s m args below meth c H locs cells slots mc ms g rest (Qc (Value.ref b :: As).toArray) XC free := by
  obtain ⟨⟨hrc, hrs, hfr, hlo, hws, hcw⟩, hcode, hini, hy, hlen, hl, hin, hse⟩ := cw
  have hK : vx_Back l R p e below s args y 3 8 (PreOf R mc ms Pc) (PostOf Qc mc ms free) (vx_Post XC mc ms free) := vx_backW (hh := hh) (bytes := bytes) (maxL := maxL) (ret := ret) hM hp.1 hrc hrs hfr hlo hws hcw (fun a' U hW => word_at hW (Or.inl (by first | rfl | simp [Cond.onTables, Cond.keeps, Cond.steady])) hini)
  obtain ⟨hx, hb, hml, ho, -⟩ := S
  obtain ⟨-, ⟨cellB, hcB, hoB, hclB⟩, hPc⟩ := hp
  intro T hT X
  rcases vx_callVX X hx (C := C) (hh := hh) (bytes := bytes) (maxL := maxL) (ret := ret) ho hl hin hse hcode hy hK (by rw [hT]; exact hcB) hoB hclB hg (hsize.trans hml.symm) (argsL := As) (rest := rest) (fun sig h => hn.trans (hlen sig h)) hstack hW (by rw [hb]; exact hdg)
    (fun vm₁ hW₁ => ⟨hf.1, hf.2, hPc (T.setVm vm₁) hT hW₁⟩) with ⟨v, vm₁, ⟨U', l2, c2, s2⟩, hW₁, X', ⟨g', mk, t, L, e1, e2, hq, h1, hL, h2, h3⟩, st⟩ | ⟨q, vm₁, ⟨U', l2, c2, s2⟩, hW₁, X', ⟨g', mk, t, L, E, ce, e1, e2, hq, hce, hcv, hcl, h1, hL, h2, h3⟩, st⟩
  · dsimp only [Pt.U, Pt.locs, Pt.cells, Pt.slots] at X' e1 e2 h1 h2 h3 st
    subst h1; subst h2; subst h3
    exact Or.inl ⟨v, (T.setVm vm₁).calling g' mk (Value.ref b :: As).toArray, t, U', L, hT, X', hL, e1, e2, hq, st⟩
  · dsimp only [Pt.U, Pt.locs, Pt.cells, Pt.slots] at X' e1 e2 h1 h2 h3 st hcl
    subst h1; subst h2; subst h3
    exact Or.inr ⟨q, (T.setVm vm₁).calling g' mk (Value.ref b :: As).toArray, t, U', L, E, ce, hT, X', hL, e1, e2, hq, hce, hcv, vx_cls hW₁ hcl, st⟩
theorem vx_runSX {hh : List (Nat × Nat × Nat × Nat)} (S : CallFix p m c cc nL s args Ts own) (hM : vx_Met l y ws rm Pc Qc XC mc ms free) (cw : vx_CSW R s args own index y bytes maxL ret hh ws rm mc ms n) (hp : PreS s H Pc As)
    (hg : g.method = m) (hn : As.length = n) (hsize : g.locals.size = nL) (hstack : g.stack = As.reverse ++ rest) (hW : 2 * g.monitorRoom + (rest.map fun v => v.category).sum ≤ 8) (hdg : decode cc g.pc = .ok (.invokestatic index, 3)) (hf : cells + mc ≤ R.cells ∧ slots + ms ≤ R.slots) :
    vx_Run p l e R s m args below meth c H locs cells slots mc ms g rest (Qc As.toArray) XC free := by
  obtain ⟨⟨hrc, hrs, hfr, hlo, hws, hcw⟩, hcode, hini, hy, hlen, hl, hstt⟩ := cw
  have hK : vx_Back l R p e below s args y 3 8 (PreOf R mc ms Pc) (PostOf Qc mc ms free) (vx_Post XC mc ms free) := vx_backW (hh := hh) (bytes := bytes) (maxL := maxL) (ret := ret) hM hp.1 hrc hrs hfr hlo hws hcw (fun a' U hW => word_at hW (Or.inl (by first | rfl | simp [Cond.onTables, Cond.keeps, Cond.steady])) hini)
  obtain ⟨hx, hb, hml, ho, -⟩ := S
  intro T hT X
  rcases vx_callSX X hx (hh := hh) (bytes := bytes) (maxL := maxL) (ret := ret) ho hl hstt hini hcode hy hK hg (hsize.trans hml.symm) (argsL := As) (rest := rest) (fun sig h => hn.trans (hlen sig h)) hstack hW (by rw [hb]; exact hdg)
    (fun vm₁ hW₁ => ⟨hf.1, hf.2, hp.2 (T.setVm vm₁) hT hW₁⟩) with ⟨v, vm₁, ⟨U', l2, c2, s2⟩, hW₁, X', ⟨g', mk, t, L, e1, e2, hq, h1, hL, h2, h3⟩, st⟩ | ⟨q, vm₁, ⟨U', l2, c2, s2⟩, hW₁, X', ⟨g', mk, t, L, E, ce, e1, e2, hq, hce, hcv, hcl, h1, hL, h2, h3⟩, st⟩
  · dsimp only [Pt.U, Pt.locs, Pt.cells, Pt.slots] at X' e1 e2 h1 h2 h3 st
    subst h1; subst h2; subst h3
    exact Or.inl ⟨v, (T.setVm vm₁).calling g' mk As.toArray, t, U', L, hT, X', hL, e1, e2, hq, st⟩
  · dsimp only [Pt.U, Pt.locs, Pt.cells, Pt.slots] at X' e1 e2 h1 h2 h3 st hcl
    subst h1; subst h2; subst h3
    exact Or.inr ⟨q, (T.setVm vm₁).calling g' mk As.toArray, t, U', L, E, ce, hT, X', hL, e1, e2, hq, hce, hcv, vx_cls hW₁ hcl, st⟩
end
end VXH
theorem vx_ofWH {l : Launch} {y : MethodName} {ws ws' : List Cond} {rm : Room} {Pc : Array Value → State → Prop} {Qc : Array Value → State → Outcome → State → Prop} {XC : String → State → State → Prop} {mc ms : Nat} {free : Addr → Prop} {cc : ByteArray} {maxL : Nat} {ret : Option FieldType} {hh : List (Nat × Nat × Nat × Nat)}
    (hy : plainName y.cls = true) (hw : ws = Cond.codeWith y cc maxL ret hh :: ws')
    (body : ∀ p e s m args below meth c s₁, BodyLoose p l y (headSpec ws rm) cc maxL ret e s m args below meth c s₁ → c.maxLocals = maxL → Pc args s →
      W p l e (headSpec ws rm).room s m args below meth c s.heap [] 0 0 (vx_MQ below Qc XC args s mc ms free) (entryFrame m args maxL)) : vx_Met l y ws rm Pc Qc XC mc ms free := by
  refine MetFree.of_bodyS (code := cc) (maxLocals := maxL) (ret := ret) hy ?_ ?_
  · intro args s m h hn
    obtain ⟨m9, meth, c, hn9, h1, h2, h3, h4, -, h5, h6, -⟩ := Cond.codeWith_spec (atoms_spec (ws := ws) h _ (by rw [hw]; exact List.mem_cons_self))
    cases hn.symm.trans hn9
    exact ⟨meth, c, h1, h2, h3, h4, h5, h6⟩
  · intro p e s m args below meth c s₁ B hml hP _
    have hh0 : s₁.heap = s.heap := by rw [B.state]; rfl
    obtain ⟨t, a1, o, b1, b2, b3⟩ := body p e s m args below meth c s₁ B hml hP s₁ hh0 (Stand.of_body B)
    exact ⟨t, o, a1, b1, b2, b3⟩
/-! ===== END ===== -/

def RX0 : String := "CombCylinder$Drum"
def TX0 : u_T := fun k => match k with
  | 0 => ("CombCylinder$Drum", "ticks", "I", false)
  | 1 => ("CombCylinder$Drum", "airs", "I", false)
  | 2 => ("CombCylinder$Drum", "shift", "I", false)
  | 3 => ("CombCylinder$Drum", "isCemented", "Z", false)
  | 4 => ("CombCylinder$Drum", "size", "I", false)
  | 5 => ("CombCylinder$Drum", "pins", "[LCombCylinder$Pin;", true)
  | _ => ("CombCylinder$Drum", "runOrder", "[LCombCylinder$Pin;", true)
def tyX0 : Nat → FieldType := fun k => match k with
  | 0 => .int
  | 1 => .int
  | 2 => .int
  | 3 => .boolean
  | 4 => .int
  | 5 => .array (.object "CombCylinder$Pin")
  | _ => .array (.object "CombCylinder$Pin")
theorem nmX0 : ∀ a, a < 7 → ∀ b, b < 7 → a ≠ b → (TX0 a).2.1 ≠ (TX0 b).2.1 := by decide +kernel
theorem tyX0_ok : ∀ k, k < 7 → parseFieldDescriptor (TX0 k).2.2.1 = some (tyX0 k) := by decide +kernel
def RX1 : String := "CombCylinder$Pin"
def TX1 : u_T := fun k => match k with
  | 0 => ("CombCylinder$Pin", "air", "I", false)
  | 1 => ("CombCylinder$Pin", "tick", "I", false)
  | 2 => ("CombCylinder$Pin", "place", "I", false)
  | 3 => ("CombCylinder$Pin", "lean", "I", false)
  | 4 => ("CombCylinder$Pin", "rank", "I", false)
  | _ => ("CombCylinder$Pin", "runRank", "I", false)
def tyX1 : Nat → FieldType := fun k => match k with
  | 0 => .int
  | 1 => .int
  | 2 => .int
  | 3 => .int
  | 4 => .int
  | _ => .int
theorem nmX1 : ∀ a, a < 6 → ∀ b, b < 6 → a ≠ b → (TX1 a).2.1 ≠ (TX1 b).2.1 := by decide +kernel
theorem tyX1_ok : ∀ k, k < 6 → parseFieldDescriptor (TX1 k).2.2.1 = some (tyX1 k) := by decide +kernel
def RX2 : String := "CombCylinder$Sheet"
def TX2 : u_T := fun k => match k with
  | 0 => ("CombCylinder$Sheet", "ticks", "[I", true)
  | 1 => ("CombCylinder$Sheet", "parts", "[I", true)
  | 2 => ("CombCylinder$Sheet", "numbers", "[I", true)
  | _ => ("CombCylinder$Sheet", "size", "I", false)
def tyX2 : Nat → FieldType := fun k => match k with
  | 0 => .array .int
  | 1 => .array .int
  | 2 => .array .int
  | _ => .int
theorem nmX2 : ∀ a, a < 4 → ∀ b, b < 4 → a ≠ b → (TX2 a).2.1 ≠ (TX2 b).2.1 := by decide +kernel
theorem tyX2_ok : ∀ k, k < 4 → parseFieldDescriptor (TX2 k).2.2.1 = some (tyX2 k) := by decide +kernel
def RX3 : String := "CombCylinder$Spring"
def TX3 : u_T := fun k => match k with
  | 0 => ("CombCylinder$Spring", "quarters", "I", false)
  | 1 => ("CombCylinder$Spring", "fanSize", "I", false)
  | _ => ("CombCylinder$Spring", "time", "D", false)
def tyX3 : Nat → FieldType := fun k => match k with
  | 0 => .int
  | 1 => .int
  | _ => .double
theorem nmX3 : ∀ a, a < 3 → ∀ b, b < 3 → a ≠ b → (TX3 a).2.1 ≠ (TX3 b).2.1 := by decide +kernel
theorem tyX3_ok : ∀ k, k < 3 → parseFieldDescriptor (TX3 k).2.2.1 = some (tyX3 k) := by decide +kernel
def RX4 : String := "CombCylinder$Tuner"
def TX4 : u_T := fun k => match k with
  | 0 => ("CombCylinder$Tuner", "lostCount", "I", false)
  | 1 => ("CombCylinder$Tuner", "lostPlaces", "[I", true)
  | 2 => ("CombCylinder$Tuner", "given", "[I", true)
  | 3 => ("CombCylinder$Tuner", "choices", "[[I", true)
  | 4 => ("CombCylinder$Tuner", "choiceCounts", "[I", true)
  | 5 => ("CombCylinder$Tuner", "first", "[I", true)
  | _ => ("CombCylinder$Tuner", "found", "I", false)
def tyX4 : Nat → FieldType := fun k => match k with
  | 0 => .int
  | 1 => .array .int
  | 2 => .array .int
  | 3 => .array (.array .int)
  | 4 => .array .int
  | 5 => .array .int
  | _ => .int
theorem nmX4 : ∀ a, a < 7 → ∀ b, b < 7 → a ≠ b → (TX4 a).2.1 ≠ (TX4 b).2.1 := by decide +kernel
theorem tyX4_ok : ∀ k, k < 7 → parseFieldDescriptor (TX4 k).2.2.1 = some (tyX4 k) := by decide +kernel
def RX5 : String := "CombCylinder$Voice"
def TX5 : u_T := fun k => match k with
  | 0 => ("CombCylinder$Voice", "isThere", "Z", false)
  | 1 => ("CombCylinder$Voice", "isTooth", "Z", false)
  | 2 => ("CombCylinder$Voice", "size", "I", false)
  | 3 => ("CombCylinder$Voice", "reach", "I", false)
  | 4 => ("CombCylinder$Voice", "filedTip", "I", false)
  | 5 => ("CombCylinder$Voice", "filedRoot", "I", false)
  | 6 => ("CombCylinder$Voice", "leadOn", "I", false)
  | 7 => ("CombCylinder$Voice", "damperKind", "C", false)
  | 8 => ("CombCylinder$Voice", "isBent", "Z", false)
  | 9 => ("CombCylinder$Voice", "broken", "Z", false)
  | 10 => ("CombCylinder$Voice", "struck", "I", false)
  | _ => ("CombCylinder$Voice", "struckInRun", "I", false)
def tyX5 : Nat → FieldType := fun k => match k with
  | 0 => .boolean
  | 1 => .boolean
  | 2 => .int
  | 3 => .int
  | 4 => .int
  | 5 => .int
  | 6 => .int
  | 7 => .char
  | 8 => .boolean
  | 9 => .boolean
  | 10 => .int
  | _ => .int
theorem nmX5 : ∀ a, a < 12 → ∀ b, b < 12 → a ≠ b → (TX5 a).2.1 ≠ (TX5 b).2.1 := by decide +kernel
theorem tyX5_ok : ∀ k, k < 12 → parseFieldDescriptor (TX5 k).2.2.1 = some (tyX5 k) := by decide +kernel
def RX6 : String := "CombCylinder"
def TX6 : u_T := fun k => match k with
  | 0 => ("CombCylinder", "voices", "[LCombCylinder$Voice;", true)
  | 1 => ("CombCylinder", "sheets", "[LCombCylinder$Sheet;", true)
  | 2 => ("CombCylinder", "drum", "LCombCylinder$Drum;", true)
  | 3 => ("CombCylinder", "spring", "LCombCylinder$Spring;", true)
  | 4 => ("CombCylinder", "tuner", "LCombCylinder$Tuner;", true)
  | 5 => ("CombCylinder", "hasSnail", "Z", false)
  | 6 => ("CombCylinder", "coinsTaken", "I", false)
  | 7 => ("CombCylinder", "struckInAll", "I", false)
  | _ => ("CombCylinder", "struckOfGone", "I", false)
def tyX6 : Nat → FieldType := fun k => match k with
  | 0 => .array (.object "CombCylinder$Voice")
  | 1 => .array (.object "CombCylinder$Sheet")
  | 2 => .object "CombCylinder$Drum"
  | 3 => .object "CombCylinder$Spring"
  | 4 => .object "CombCylinder$Tuner"
  | 5 => .boolean
  | 6 => .int
  | 7 => .int
  | _ => .int
theorem nmX6 : ∀ a, a < 9 → ∀ b, b < 9 → a ≠ b → (TX6 a).2.1 ≠ (TX6 b).2.1 := by decide +kernel
theorem tyX6_ok : ∀ k, k < 9 → parseFieldDescriptor (TX6 k).2.2.1 = some (tyX6 k) := by decide +kernel
end
section
/-! ===== an abstract machine over closed data: the walk of a method by computation; its soundness stands in the parts behind =====
A value: (tag, number, form). 0 int (the number mod 2^32), 6 int (the form's), 1 long (mod 2^64), 2 float, 3 double (their bits), 4 null, 8 some reference, 10 the reference to the cell 'number', 12 the script, 98 nothing; 7 the double of the form, 9 that by the double 'number', 11 the bits of that. Odd tags take two words. A form: constant :: coefficients of the unknowns. -/
abbrev am_V : Type := Nat × Nat × List Int
/-- a cell: below 100 an object of that class, its fields; 100 an int array, 101 and on arrays of references -/
abbrev am_C : Type := Nat × List am_V
/-- pc, instruction, length, places of the words that it needs -/
abbrev am_I : Type := Nat × Instr × Nat × List Nat
/-- name, code, locals, what it returns, table, instructions -/
abbrev am_M : Type := MethodName × ByteArray × Nat × Option FieldType × List (Nat × Nat × Nat × Nat) × List am_I
/-- what is known of the unknowns: bounds, equal forms, forms with their absolute values -/
abbrev am_A : Type := List (Int × Int) × List (List Int × List Int) × List (List Int × List Int)
/-- instructions from here, locals, stack, heap, cells and slots made -/
abbrev am_S : Type := List am_I × List am_V × List am_V × List am_C × Nat × Nat
/-- 0 returned, 1 returned a value, 2 threw (the class' number), 3 stopped -/
abbrev am_O : Type := Nat × am_V × am_S

noncomputable def am_nth {α : Type} (l : List α) (k : Nat) : Option α :=
  List.rec (motive := fun _ => Nat → Option α) (fun _ => none) (fun a _ ih k => Nat.rec (motive := fun _ => Option α) (some a) (fun k _ => ih k) k) l k
noncomputable def am_set {α : Type} (l : List α) (k : Nat) (x : α) : List α :=
  List.rec (motive := fun _ => Nat → List α) (fun _ => []) (fun a t ih k => Nat.rec (motive := fun _ => List α) (x :: t) (fun k _ => a :: ih k) k) l k
theorem am_nth_eq {α : Type} (l : List α) : ∀ k, am_nth l k = l[k]? := by
  induction l with
  | nil => intro k; rfl
  | cons a t ih =>
    intro k
    cases k with
    | zero => rfl
    | succ k => exact (ih k).trans (by simp)
theorem am_set_eq {α : Type} (l : List α) (x : α) : ∀ k, am_set l k x = l.set k x := by
  induction l with
  | nil => intro k; rfl
  | cons a t ih =>
    intro k
    cases k with
    | zero => rfl
    | succ k =>
      show a :: am_set t k x = _
      rw [ih k]
      rfl

-- forms
def am_dot : List Int → List Int → Int
  | c :: cs, x :: xs => c * x + am_dot cs xs
  | _, _ => 0
def am_ev (X : List Int) : List Int → Int
  | [] => 0
  | c :: cs => c + am_dot cs X
def am_fadd : List Int → List Int → List Int
  | [], g => g
  | f, [] => f
  | a :: f, b :: g => (a + b) :: am_fadd f g
def am_fmul (k : Int) (f : List Int) : List Int := f.map (fun c => k * c)
def am_fsub (f g : List Int) : List Int := am_fadd f (am_fmul (-1) g)
def am_zero (f : List Int) : Bool := f.all (fun c => c == 0)
def am_feq (f g : List Int) : Bool := am_zero (am_fsub f g)
def am_rng : List (Int × Int) → List Int → Option (Int × Int)
  | _, [] => some (0, 0)
  | [], c :: cs => if c = 0 then am_rng [] cs else none
  | b :: bs, c :: cs => match am_rng bs cs with
    | none => none
    | some r => if 0 ≤ c then some (r.1 + c * b.1, r.2 + c * b.2) else some (r.1 + c * b.2, r.2 + c * b.1)
def am_lim (A : am_A) : List Int → Option (Int × Int)
  | [] => some (0, 0)
  | c :: cs => match am_rng A.1 cs with
    | none => none
    | some r => some (c + r.1, c + r.2)
def am_rw : List (List Int × List Int) → List Int → List Int
  | [], f => f
  | e :: es, f => bif am_feq f e.1 then e.2 else am_rw es f
def am_look : List (List Int × List Int) → List Int → Option (List Int)
  | [], _ => none
  | e :: es, f => bif am_feq f e.1 then some e.2 else am_look es f
/-- the number mod 2^32 as an Int; an Int mod 2^32 -/
def am_si (n : Nat) : Int := bif Nat.blt n 2147483648 then (n : Int) else (n : Int) - 4294967296
def am_un (z : Int) : Nat := (z % 4294967296).toNat
def am_int (z : Int) : am_V := (0, am_un z, [])
def am_form (v : am_V) : Option (List Int) := bif Nat.beq v.1 0 then some [am_si v.2.1] else bif Nat.beq v.1 6 then some v.2.2 else none
def am_mk (A : am_A) (f : List Int) : am_V := match am_rw A.2.1 f with
  | [] => (0, 0, [])
  | c :: cs => bif am_zero cs then am_int c else (6, 0, c :: cs)
def am_k2 (a b : am_V) : Bool := Nat.beq a.1 0 && Nat.beq b.1 0
def am_iadd (A : am_A) (a b : am_V) : Option am_V := bif am_k2 a b then some (0, (a.2.1 + b.2.1) % 4294967296, []) else match am_form a, am_form b with
  | some f, some g => some (am_mk A (am_fadd f g))
  | _, _ => none
def am_isub (A : am_A) (a b : am_V) : Option am_V := match am_form a, am_form b with
  | some f, some g => some (am_mk A (am_fsub f g))
  | _, _ => none
def am_imul (A : am_A) (a b : am_V) : Option am_V := bif am_k2 a b then some (0, (a.2.1 * b.2.1) % 4294967296, []) else match am_form a, am_form b with
  | some [c], some g => some (am_mk A (am_fmul c g))
  | some f, some [c] => some (am_mk A (am_fmul c f))
  | _, _ => none
/-- f = f1 + d * g: f1's coefficients aren't divisible -/
def am_f1 (d : Int) (f : List Int) : List Int := f.map (fun c => if c % d = 0 then 0 else c)
def am_fg (d : Int) (f : List Int) : List Int := f.map (fun c => if c % d = 0 then c / d else 0)
def am_qr (A : am_A) (f : List Int) (d : Int) : Option (List Int × List Int) := match f with
  | [] => none
  | c :: cs => match am_lim A f, am_lim A (c % d :: am_f1 d cs) with
    | some r, some r1 => bif decide (0 < d) && decide (d < 2147483648) && decide (0 ≤ r.1) && decide (r.2 < 2147483648) && decide (0 ≤ r1.1) && decide (r1.2 < d) then some (c / d :: am_fg d cs, c % d :: am_f1 d cs) else none
    | _, _ => none
def am_idiv (A : am_A) (a b : am_V) : Option am_V := match am_form a, am_form b with
  | some f, some [d] => match am_qr A f d with
    | some q => some (am_mk A q.1)
    | none => none
  | _, _ => none
def am_irem (A : am_A) (a b : am_V) : Option am_V := match am_form a, am_form b with
  | some f, some [d] => match am_qr A f d with
    | some q => some (am_mk A q.2)
    | none => none
  | _, _ => none
def am_in32 (r : Int × Int) : Bool := decide (-2147483648 ≤ r.1) && decide (r.2 < 2147483648)
/-- a < b -/
def am_lt (A : am_A) (a b : am_V) : Option Bool := bif am_k2 a b then some (Nat.blt ((a.2.1 + 2147483648) % 4294967296) ((b.2.1 + 2147483648) % 4294967296)) else match am_form a, am_form b with
  | some f, some g => match am_lim A f, am_lim A g, am_lim A (am_fsub f g) with
    | some r, some q, some t => bif am_in32 r && am_in32 q then (bif decide (t.2 < 0) then some true else bif decide (0 ≤ t.1) then some false else none) else none
    | _, _, _ => none
  | _, _ => none
def am_eq (A : am_A) (a b : am_V) : Option Bool := bif am_k2 a b then some (Nat.beq (a.2.1 % 4294967296) (b.2.1 % 4294967296)) else match am_form a, am_form b with
  | some f, some g => bif am_feq f g then some true else match am_lim A f, am_lim A g, am_lim A (am_fsub f g) with
    | some r, some q, some t => bif am_in32 r && am_in32 q && (decide (t.2 < 0) || decide (0 < t.1)) then some false else none
    | _, _, _ => none
  | _, _ => none
def am_not : Option Bool → Option Bool
  | some b => some (!b)
  | none => none
def am_cmp (A : am_A) (c : ClassFile.Cond) (a b : am_V) : Option Bool := match c with
  | .eq => am_eq A a b
  | .ne => am_not (am_eq A a b)
  | .lt => am_lt A a b
  | .ge => am_not (am_lt A a b)
  | .gt => am_lt A b a
  | .le => am_not (am_lt A b a)
def am_abs (A : am_A) (a : am_V) : Option am_V := match am_form a with
  | none => none
  | some f => match am_look A.2.2 f with
    | some g => match am_lim A f with
      | some r => bif am_in32 r then some (am_mk A g) else none
      | none => none
    | none => match am_lim A f with
      | some r => bif am_in32 r then (bif decide (0 ≤ r.1) then some (am_mk A f) else bif decide (r.2 < 0) then some (am_mk A (am_fmul (-1) f)) else none) else none
      | none => none
def am_isu (i : am_V) : Bool := Nat.beq i.1 98
/-- words -/
def am_c2 (v : am_V) : Bool := Nat.beq (v.1 % 2) 1
def am_un0 : am_V := (98, 0, [])
def am_lay : List am_V → List am_V
  | [] => []
  | v :: vs => bif am_c2 v then v :: am_un0 :: am_lay vs else v :: am_lay vs
/-- a store of a value of one word: what stood in two words there is gone -/
noncomputable def am_st1 (lo : List am_V) (k : Nat) (v : am_V) : List am_V := match k with
  | 0 => am_set lo 0 v
  | j + 1 => match am_nth lo j with
    | some w => bif am_c2 w then am_set (am_set lo j am_un0) (j + 1) v else am_set lo (j + 1) v
    | none => am_set lo (j + 1) v
noncomputable def am_st2 (lo : List am_V) (k : Nat) (v : am_V) : List am_V := am_set (am_st1 lo k v) (k + 1) am_un0
def am_suf (l : List am_I) (t : Nat) : List am_I := match l with
  | [] => []
  | x :: xs => bif Nat.beq x.1 t then x :: xs else am_suf xs t
def am_tgt (pc : Nat) (off : Int) : Nat := ((pc : Int) + off).toNat
end
section
/-! ===== what the abstract machine's numbers stand for ===== -/
theorem am_dot_add (f : List Int) : ∀ (g X : List Int), am_dot (am_fadd f g) X = am_dot f X + am_dot g X := by
  induction f with
  | nil => intro g X; simp [am_fadd, am_dot]
  | cons a f ih =>
    intro g X
    cases g with
    | nil => simp [am_fadd, am_dot]
    | cons b g =>
      cases X with
      | nil => simp [am_fadd, am_dot]
      | cons x X =>
        simp only [am_fadd, am_dot, ih g X, Int.add_mul]
        omega
theorem am_dot_mul (k : Int) (f : List Int) : ∀ X, am_dot (am_fmul k f) X = k * am_dot f X := by
  induction f with
  | nil => intro X; simp [am_fmul, am_dot]
  | cons a f ih =>
    intro X
    cases X with
    | nil => simp [am_fmul, am_dot]
    | cons x X =>
      have h := ih X
      simp only [am_fmul] at h
      simp only [am_fmul, List.map_cons, am_dot, h, Int.mul_add, Int.mul_assoc]
theorem am_ev_add (X f g : List Int) : am_ev X (am_fadd f g) = am_ev X f + am_ev X g := by
  cases f with
  | nil => simp [am_fadd, am_ev]
  | cons a f =>
    cases g with
    | nil => simp [am_fadd, am_ev]
    | cons b g =>
      simp only [am_fadd, am_ev, am_dot_add]
      omega
theorem am_ev_mul (X : List Int) (k : Int) (f : List Int) : am_ev X (am_fmul k f) = k * am_ev X f := by
  cases f with
  | nil => simp [am_fmul, am_ev]
  | cons a f =>
    have h := am_dot_mul k f X
    simp only [am_fmul] at h
    simp only [am_fmul, List.map_cons, am_ev, h, Int.mul_add]
theorem am_ev_sub (X f g : List Int) : am_ev X (am_fsub f g) = am_ev X f - am_ev X g := by
  unfold am_fsub
  rw [am_ev_add, am_ev_mul]
  omega
theorem am_dot_zero (f : List Int) : ∀ X, am_zero f = true → am_dot f X = 0 := by
  induction f with
  | nil => intro X _; simp [am_dot]
  | cons a f ih =>
    intro X h
    simp only [am_zero, List.all_cons, Bool.and_eq_true, beq_iff_eq] at h
    cases X with
    | nil => simp [am_dot]
    | cons x X =>
      have h2 : am_zero f = true := h.2
      simp [am_dot, h.1, ih X h2]
theorem am_ev_zero (X f : List Int) (h : am_zero f = true) : am_ev X f = 0 := by
  cases f with
  | nil => rfl
  | cons a f =>
    simp only [am_zero, List.all_cons, Bool.and_eq_true, beq_iff_eq] at h
    have h2 : am_zero f = true := h.2
    simp [am_ev, h.1, am_dot_zero f X h2]
theorem am_ev_eq (X f g : List Int) (h : am_feq f g = true) : am_ev X f = am_ev X g := by
  have h1 := am_ev_zero X _ h
  rw [am_ev_sub] at h1
  omega
/-- the unknowns keep to their bounds -/
def am_bx : List (Int × Int) → List Int → Prop
  | [], _ => True
  | b :: bs, x :: xs => b.1 ≤ x ∧ x ≤ b.2 ∧ am_bx bs xs
  | _ :: _, [] => False
theorem am_rng_ok (cs : List Int) : ∀ (bs : List (Int × Int)) (X : List Int) (r : Int × Int), am_bx bs X → am_rng bs cs = some r → r.1 ≤ am_dot cs X ∧ am_dot cs X ≤ r.2 := by
  induction cs with
  | nil =>
    intro bs X r _ h
    simp only [am_rng, Option.some.injEq] at h
    subst h
    simp [am_dot]
  | cons c cs ih =>
    intro bs X r hb h
    cases bs with
    | nil =>
      simp only [am_rng] at h
      split at h
      · rename_i hc
        subst hc
        cases X with
        | nil =>
          have h2 := ih [] [] r trivial h
          simpa [am_dot] using (show r.1 ≤ 0 ∧ 0 ≤ r.2 by cases cs <;> simpa [am_dot] using h2)
        | cons x X =>
          have h2 := ih [] X r trivial h
          simpa [am_dot] using h2
      · cases h
    | cons b bs =>
      cases X with
      | nil => exact hb.elim
      | cons x X =>
        obtain ⟨h1, h2, h3⟩ := hb
        simp only [am_rng] at h
        cases hr : am_rng bs cs with
        | none => rw [hr] at h; cases h
        | some q =>
          rw [hr] at h
          obtain ⟨k1, k2⟩ := ih bs X q h3 hr
          simp only [am_dot]
          simp only at h
          split at h
          · rename_i hc
            cases h
            have e1 := Int.mul_le_mul_of_nonneg_left h1 hc
            have e2 := Int.mul_le_mul_of_nonneg_left h2 hc
            constructor <;> simp only <;> omega
          · rename_i hc
            cases h
            have hc' : c ≤ 0 := by omega
            have e1 := Int.mul_le_mul_of_nonpos_left hc' h1
            have e2 := Int.mul_le_mul_of_nonpos_left hc' h2
            constructor <;> simp only <;> omega
/-- what is known of the unknowns holds -/
def am_kn (A : am_A) (X : List Int) : Prop := am_bx A.1 X ∧ (∀ e ∈ A.2.1, am_ev X e.1 = am_ev X e.2) ∧ ∀ e ∈ A.2.2, am_ev X e.2 = ((am_ev X e.1).natAbs : Int)
theorem am_lim_ok {A : am_A} {X f : List Int} {r : Int × Int} (hA : am_kn A X) (h : am_lim A f = some r) : r.1 ≤ am_ev X f ∧ am_ev X f ≤ r.2 := by
  cases f with
  | nil =>
    simp only [am_lim, Option.some.injEq] at h
    subst h
    simp [am_ev]
  | cons c cs =>
    simp only [am_lim] at h
    cases hr : am_rng A.1 cs with
    | none => rw [hr] at h; cases h
    | some q =>
      rw [hr] at h
      cases h
      have := am_rng_ok cs A.1 X q hA.1 hr
      simp only [am_ev]
      omega
theorem am_rw_ok {X : List Int} : ∀ (es : List (List Int × List Int)) (f : List Int), (∀ e ∈ es, am_ev X e.1 = am_ev X e.2) → am_ev X (am_rw es f) = am_ev X f := by
  intro es
  induction es with
  | nil => intro f _; rfl
  | cons e es ih =>
    intro f h
    simp only [am_rw]
    cases hq : am_feq f e.1 with
    | true =>
      simp only [cond_true]
      rw [am_ev_eq X _ _ hq, h e List.mem_cons_self]
    | false =>
      simp only [cond_false]
      exact ih f (fun x hx => h x (List.mem_cons_of_mem _ hx))
theorem am_look_ok {X : List Int} : ∀ (es : List (List Int × List Int)) (f g : List Int), (∀ e ∈ es, am_ev X e.2 = ((am_ev X e.1).natAbs : Int)) → am_look es f = some g → am_ev X g = ((am_ev X f).natAbs : Int) := by
  intro es
  induction es with
  | nil => intro f g _ h; cases h
  | cons e es ih =>
    intro f g h hl
    simp only [am_look] at hl
    cases hq : am_feq f e.1 with
    | true =>
      rw [hq] at hl
      simp only [cond_true, Option.some.injEq] at hl
      subst hl
      rw [h e List.mem_cons_self, am_ev_eq X _ _ hq]
    | false =>
      rw [hq] at hl
      simp only [cond_false] at hl
      exact ih f g (fun x hx => h x (List.mem_cons_of_mem _ hx)) hl
-- 32 bits
def am_i (z : Int) : Int32 := Int32.ofInt z
theorem am_bm (z : Int) : z.bmod 4294967296 = if z % 4294967296 < 2147483648 then z % 4294967296 else z % 4294967296 - 4294967296 := by
  rw [Int.bmod_def]
  rfl
theorem am_i_t (z : Int) : (am_i z).toInt = z.bmod 4294967296 := by
  unfold am_i
  rw [Int32.toInt_ofInt]
theorem am_i_ext {x : Int32} {z : Int} (h : x.toInt = z.bmod 4294967296) : x = am_i z := by
  apply Int32.toInt_inj.mp
  rw [h, am_i_t]
theorem am_i_nat (n : Nat) : Int32.ofNat n = am_i (n : Int) := by
  apply am_i_ext
  rw [Int32.toInt_ofNat']
theorem am_i_mod (z : Int) : am_i (z % 4294967296) = am_i z := by
  apply am_i_ext
  rw [am_i_t, am_bm, am_bm]
  split <;> split <;> omega
theorem am_i_un (z : Int) : Int32.ofNat (am_un z) = am_i z := by
  rw [am_i_nat]
  unfold am_un
  rw [Int.toNat_of_nonneg (by omega), am_i_mod]
theorem am_i_si (n : Nat) : Int32.ofNat n = am_i (am_si n) := by
  rw [am_i_nat]
  unfold am_si
  cases h : Nat.blt n 2147483648 with
  | true => rfl
  | false =>
    apply am_i_ext
    rw [am_i_t]
    simp only [cond_false]
    rw [am_bm, am_bm]
    split <;> split <;> omega
theorem am_i_nmod (n : Nat) : Int32.ofNat (n % 4294967296) = Int32.ofNat n := by
  rw [am_i_nat, am_i_nat]
  apply am_i_ext
  rw [am_i_t, am_bm, am_bm]
  split <;> split <;> omega
theorem am_i_add (a b : Int) : am_i a + am_i b = am_i (a + b) := by
  apply am_i_ext
  rw [Int32.toInt_add, am_i_t, am_i_t]
  simp
theorem am_i_sub (a b : Int) : am_i a - am_i b = am_i (a - b) := by
  apply am_i_ext
  rw [Int32.toInt_sub, am_i_t, am_i_t]
  simp
theorem am_i_mul (a b : Int) : am_i a * am_i b = am_i (a * b) := by
  apply am_i_ext
  rw [Int32.toInt_mul, am_i_t, am_i_t]
  simp
theorem am_i_in {z : Int} (h1 : -2147483648 ≤ z) (h2 : z < 2147483648) : (am_i z).toInt = z := by
  rw [am_i_t, am_bm]
  split <;> omega
theorem am_i_div {a d : Int} (h1 : 0 ≤ a) (h2 : a < 2147483648) (h3 : 0 < d) (h4 : d < 2147483648) : am_i a / am_i d = am_i (a / d) := by
  apply am_i_ext
  rw [Int32.toInt_div, am_i_in (by omega) h2, am_i_in (by omega) h4, Int.tdiv_eq_ediv_of_nonneg h1]
theorem am_i_lt {a b : Int} (h1 : -2147483648 ≤ a) (h2 : a < 2147483648) (h3 : -2147483648 ≤ b) (h4 : b < 2147483648) : am_i a < am_i b ↔ a < b := by
  rw [Int32.lt_iff_toInt_lt, am_i_in h1 h2, am_i_in h3 h4]
theorem am_i_eq {a b : Int} (h1 : -2147483648 ≤ a) (h2 : a < 2147483648) (h3 : -2147483648 ≤ b) (h4 : b < 2147483648) : am_i a = am_i b ↔ a = b := by
  rw [← Int32.toInt_inj, am_i_in h1 h2, am_i_in h3 h4]
theorem am_n_lt (a b : Nat) : Int32.ofNat a < Int32.ofNat b ↔ Nat.blt ((a + 2147483648) % 4294967296) ((b + 2147483648) % 4294967296) = true := by
  rw [Int32.lt_iff_toInt_lt, am_i_nat, am_i_nat, am_i_t, am_i_t, Nat.blt_eq, am_bm, am_bm]
  split <;> split <;> omega
theorem am_n_eq (a b : Nat) : Int32.ofNat a = Int32.ofNat b ↔ Nat.beq (a % 4294967296) (b % 4294967296) = true := by
  rw [← Int32.toInt_inj, am_i_nat, am_i_nat, am_i_t, am_i_t, Nat.beq_eq, am_bm, am_bm]
  split <;> split <;> omega
end
section
/-! ===== a value of the abstract machine and a value of the machine: X the unknowns, b the script's cell, ad the cells' addresses ===== -/
def am_dq (X : List Int) (n : Nat) (f : List Int) : UInt64 := FP.ddiv (FP.i2d (am_i (am_ev X f))) (UInt64.ofNat n)
def am_R (X : List Int) (b : Nat) (ad : List Nat) (v : am_V) (V : Value) : Prop := match v.1 with
  | 0 => V = .int (Int32.ofNat v.2.1)
  | 1 => V = .long (Int64.ofNat v.2.1)
  | 2 => V = .float (UInt32.ofNat v.2.1)
  | 3 => V = .double (UInt64.ofNat v.2.1)
  | 4 => V = .null
  | 6 => V = .int (am_i (am_ev X v.2.2))
  | 7 => V = .double (FP.i2d (am_i (am_ev X v.2.2)))
  | 8 => ∃ a, V = .ref a
  | 9 => V = .double (am_dq X v.2.1 v.2.2)
  | 10 => ∃ a, ad[v.2.1]? = some a ∧ V = .ref a
  | 11 => V = .long (am_dq X v.2.1 v.2.2).toInt64
  | 12 => V = .ref b
  | _ => False
theorem am_R_grow {X : List Int} {b : Nat} {ad ad' : List Nat} {v : am_V} {V : Value} (h : am_R X b ad v V) (hp : ∀ (k a : Nat), ad[k]? = some a → ad'[k]? = some a) : am_R X b ad' v V := by
  obtain ⟨t, n, f⟩ := v
  unfold am_R at h ⊢
  split at h <;> simp_all
  obtain ⟨a, h1, h2⟩ := h
  exact ⟨a, hp _ _ h1, h2⟩
section AMV
variable {X : List Int} {b : Nat} {ad : List Nat} {A : am_A}
theorem am_R_int {v : am_V} {V : Value} {f : List Int} (h : am_R X b ad v V) (hf : am_form v = some f) : V = .int (am_i (am_ev X f)) := by
  obtain ⟨t, n, g⟩ := v
  unfold am_form at hf
  cases h0 : Nat.beq t 0 with
  | true =>
    simp only [h0, cond_true, Option.some.injEq] at hf
    have ht : t = 0 := Nat.eq_of_beq_eq_true h0
    subst ht
    subst hf
    have h2 : V = .int (Int32.ofNat n) := h
    rw [h2, am_i_si]
    simp [am_ev, am_dot]
  | false =>
    simp only [h0, cond_false] at hf
    cases h6 : Nat.beq t 6 with
    | true =>
      simp only [h6, cond_true, Option.some.injEq] at hf
      have ht : t = 6 := Nat.eq_of_beq_eq_true h6
      subst ht
      subst hf
      exact h
    | false =>
      simp only [h6, cond_false] at hf
      cases hf
theorem am_R_k2 {u v : am_V} {U V : Value} (h : am_k2 u v = true) (hu : am_R X b ad u U) (hv : am_R X b ad v V) : U = .int (Int32.ofNat u.2.1) ∧ V = .int (Int32.ofNat v.2.1) := by
  unfold am_k2 at h
  simp only [Bool.and_eq_true] at h
  obtain ⟨t, n, f⟩ := u
  obtain ⟨t', n', f'⟩ := v
  have h1 : t = 0 := Nat.eq_of_beq_eq_true h.1
  have h2 : t' = 0 := Nat.eq_of_beq_eq_true h.2
  subst h1
  subst h2
  exact ⟨hu, hv⟩
theorem am_R_mk (hA : am_kn A X) (f : List Int) : am_R X b ad (am_mk A f) (.int (am_i (am_ev X f))) := by
  rw [← am_rw_ok A.2.1 f hA.2.1]
  unfold am_mk
  generalize am_rw A.2.1 f = g
  cases g with
  | nil =>
    show Value.int _ = .int (Int32.ofNat 0)
    rw [am_i_nat]
    rfl
  | cons c cs =>
    cases hz : am_zero cs with
    | false => simp only [hz, cond_false]; rfl
    | true =>
      simp only [hz, cond_true]
      show Value.int _ = .int (Int32.ofNat (am_un c))
      rw [am_i_un]
      simp only [am_ev, am_dot_zero cs X hz, Int.add_zero]
theorem am_R_0 (n : Nat) : am_R X b ad (0, n, []) (.int (Int32.ofNat n)) := rfl
theorem am_R_i (z : Int) : am_R X b ad (am_int z) (.int (am_i z)) := by
  show Value.int _ = .int (Int32.ofNat (am_un z))
  rw [am_i_un]
theorem am_R_iadd (hA : am_kn A X) {u v r : am_V} {U V : Value} (hu : am_R X b ad u U) (hv : am_R X b ad v V) (h : am_iadd A u v = some r) : ∃ x y : Int32, U = .int x ∧ V = .int y ∧ am_R X b ad r (.int (x + y)) := by
  unfold am_iadd at h
  cases hk : am_k2 u v with
  | true =>
    simp only [hk, cond_true, Option.some.injEq] at h
    obtain ⟨h1, h2⟩ := am_R_k2 hk hu hv
    refine ⟨_, _, h1, h2, ?_⟩
    subst h
    show Value.int _ = .int (Int32.ofNat _)
    rw [am_i_nmod, am_i_nat, am_i_nat, am_i_nat, am_i_add]
    rfl
  | false =>
    simp only [hk, cond_false] at h
    split at h
    · rename_i f g hf hg
      cases h
      refine ⟨_, _, am_R_int hu hf, am_R_int hv hg, ?_⟩
      rw [am_i_add, ← am_ev_add]
      exact am_R_mk hA _
    · cases h
theorem am_R_isub (hA : am_kn A X) {u v r : am_V} {U V : Value} (hu : am_R X b ad u U) (hv : am_R X b ad v V) (h : am_isub A u v = some r) : ∃ x y : Int32, U = .int x ∧ V = .int y ∧ am_R X b ad r (.int (x - y)) := by
  unfold am_isub at h
  split at h
  · rename_i f g hf hg
    cases h
    refine ⟨_, _, am_R_int hu hf, am_R_int hv hg, ?_⟩
    rw [am_i_sub, ← am_ev_sub]
    exact am_R_mk hA _
  · cases h
theorem am_R_imul (hA : am_kn A X) {u v r : am_V} {U V : Value} (hu : am_R X b ad u U) (hv : am_R X b ad v V) (h : am_imul A u v = some r) : ∃ x y : Int32, U = .int x ∧ V = .int y ∧ am_R X b ad r (.int (x * y)) := by
  unfold am_imul at h
  cases hk : am_k2 u v with
  | true =>
    simp only [hk, cond_true, Option.some.injEq] at h
    obtain ⟨h1, h2⟩ := am_R_k2 hk hu hv
    refine ⟨_, _, h1, h2, ?_⟩
    subst h
    show Value.int _ = .int (Int32.ofNat _)
    rw [am_i_nmod, am_i_nat, am_i_nat, am_i_nat, am_i_mul]
    rfl
  | false =>
    simp only [hk, cond_false] at h
    split at h
    · rename_i c g hf hg
      cases h
      refine ⟨_, _, am_R_int hu hf, am_R_int hv hg, ?_⟩
      rw [am_i_mul, show am_ev X [c] = c by simp [am_ev, am_dot], ← am_ev_mul]
      exact am_R_mk hA _
    · rename_i f c _ hf hg
      cases h
      refine ⟨_, _, am_R_int hu hf, am_R_int hv hg, ?_⟩
      rw [am_i_mul, show am_ev X [c] = c by simp [am_ev, am_dot], Int.mul_comm, ← am_ev_mul]
      exact am_R_mk hA _
    · cases h
theorem am_dot_qr (d : Int) (f : List Int) : ∀ X, am_dot f X = am_dot (am_f1 d f) X + d * am_dot (am_fg d f) X := by
  induction f with
  | nil => intro X; simp [am_f1, am_fg, am_dot]
  | cons c f ih =>
    intro X
    cases X with
    | nil => simp [am_f1, am_fg, am_dot]
    | cons x X =>
      have h := ih X
      simp only [am_f1, am_fg] at h
      simp only [am_f1, am_fg, List.map_cons, am_dot]
      rw [h]
      by_cases hc : c % d = 0
      · simp only [if_pos hc, Int.zero_mul, Int.mul_add]
        have e : d * (c / d * x) = c * x := by
          rw [← Int.mul_assoc, Int.mul_ediv_cancel' (Int.dvd_of_emod_eq_zero hc)]
        omega
      · simp only [if_neg hc, Int.zero_mul, Int.mul_add]
        omega
theorem am_qr_ok (hA : am_kn A X) {f : List Int} {d : Int} {q : List Int × List Int} (h : am_qr A f d = some q) : 0 < d ∧ d < 2147483648 ∧ 0 ≤ am_ev X f ∧ am_ev X f < 2147483648 ∧ am_ev X q.1 = am_ev X f / d ∧ am_ev X q.2 = am_ev X f % d := by
  cases f with
  | nil => cases h
  | cons c cs =>
    simp only [am_qr] at h
    split at h
    · rename_i r r1 hr hr1
      cases hb : (decide (0 < d) && decide (d < 2147483648) && decide (0 ≤ r.1) && decide (r.2 < 2147483648) && decide (0 ≤ r1.1) && decide (r1.2 < d)) with
      | false => rw [hb] at h; cases h
      | true =>
        rw [hb] at h
        simp only [cond_true, Option.some.injEq] at h
        simp only [Bool.and_eq_true, decide_eq_true_eq] at hb
        obtain ⟨⟨⟨⟨⟨b1, b2⟩, b3⟩, b4⟩, b5⟩, b6⟩ := hb
        have l1 := am_lim_ok hA hr
        have l2 := am_lim_ok hA hr1
        subst h
        have e := am_dot_qr d cs X
        have e2 := Int.emod_add_mul_ediv c d
        simp only [am_ev] at l1 l2 ⊢
        have key : c + am_dot cs X = (c % d + am_dot (am_f1 d cs) X) + d * (c / d + am_dot (am_fg d cs) X) := by
          rw [e, Int.mul_add]
          omega
        have hlo : 0 ≤ c % d + am_dot (am_f1 d cs) X := by omega
        have hhi : c % d + am_dot (am_f1 d cs) X < d := by omega
        refine ⟨b1, b2, by omega, by omega, ?_, ?_⟩
        · rw [key, Int.add_mul_ediv_left _ _ (by omega), Int.ediv_eq_zero_of_lt hlo hhi]
          omega
        · rw [key, Int.add_mul_emod_self_left, Int.emod_eq_of_lt hlo hhi]
    · cases h
theorem am_R_idiv (hA : am_kn A X) {u v r : am_V} {U V : Value} (hu : am_R X b ad u U) (hv : am_R X b ad v V) (h : am_idiv A u v = some r) : ∃ x y : Int32, U = .int x ∧ V = .int y ∧ ¬ y = 0 ∧ am_R X b ad r (.int (x / y)) := by
  unfold am_idiv at h
  split at h
  · rename_i f d hf hg
    split at h
    · rename_i q hq
      cases h
      obtain ⟨k1, k2, k3, k4, k5, k6⟩ := am_qr_ok hA hq
      have e0 : am_ev X [d] = d := by simp [am_ev, am_dot]
      refine ⟨_, _, am_R_int hu hf, am_R_int hv hg, ?_, ?_⟩
      · rw [e0]
        intro hz
        have hz2 : am_i d = am_i 0 := hz
        rw [am_i_eq (by omega) k2 (by omega) (by omega)] at hz2
        omega
      · rw [e0, am_i_div k3 k4 k1 k2, ← k5]
        exact am_R_mk hA _
    · cases h
  · cases h
theorem am_R_irem (hA : am_kn A X) {u v r : am_V} {U V : Value} (hu : am_R X b ad u U) (hv : am_R X b ad v V) (h : am_irem A u v = some r) : ∃ x y : Int32, U = .int x ∧ V = .int y ∧ ¬ y = 0 ∧ am_R X b ad r (.int (x - x / y * y)) := by
  unfold am_irem at h
  split at h
  · rename_i f d hf hg
    split at h
    · rename_i q hq
      cases h
      obtain ⟨k1, k2, k3, k4, k5, k6⟩ := am_qr_ok hA hq
      have e0 : am_ev X [d] = d := by simp [am_ev, am_dot]
      refine ⟨_, _, am_R_int hu hf, am_R_int hv hg, ?_, ?_⟩
      · rw [e0]
        intro hz
        have hz2 : am_i d = am_i 0 := hz
        rw [am_i_eq (by omega) k2 (by omega) (by omega)] at hz2
        omega
      · have e1 := Int.emod_add_mul_ediv (am_ev X f) d
        have e2 : am_ev X f - am_ev X f / d * d = am_ev X q.2 := by
          rw [k6, Int.mul_comm]
          omega
        rw [e0, am_i_div k3 k4 k1 k2, am_i_mul, am_i_sub, e2]
        exact am_R_mk hA _
    · cases h
  · cases h
theorem am_in_ok {r : Int × Int} {z : Int} (h : am_in32 r = true) (h1 : r.1 ≤ z ∧ z ≤ r.2) : -2147483648 ≤ z ∧ z < 2147483648 := by
  simp only [am_in32, Bool.and_eq_true, decide_eq_true_eq] at h
  omega
theorem am_R_lt (hA : am_kn A X) {u v : am_V} {U V : Value} {r : Bool} (hu : am_R X b ad u U) (hv : am_R X b ad v V) (h : am_lt A u v = some r) : ∃ x y : Int32, U = .int x ∧ V = .int y ∧ (x < y ↔ r = true) := by
  unfold am_lt at h
  cases hk : am_k2 u v with
  | true =>
    simp only [hk, cond_true, Option.some.injEq] at h
    obtain ⟨h1, h2⟩ := am_R_k2 hk hu hv
    exact ⟨_, _, h1, h2, by rw [am_n_lt, h]⟩
  | false =>
    simp only [hk, cond_false] at h
    split at h
    · rename_i f g hf hg
      split at h
      · rename_i r1 q1 t1 hr hq ht
        refine ⟨_, _, am_R_int hu hf, am_R_int hv hg, ?_⟩
        have l1 := am_lim_ok hA hr
        have l2 := am_lim_ok hA hq
        have l3 := am_lim_ok hA ht
        rw [am_ev_sub] at l3
        cases hb : (am_in32 r1 && am_in32 q1) with
        | false => rw [hb] at h; cases h
        | true =>
          rw [hb] at h
          simp only [cond_true] at h
          simp only [Bool.and_eq_true] at hb
          have i1 := am_in_ok hb.1 l1
          have i2 := am_in_ok hb.2 l2
          rw [am_i_lt i1.1 i1.2 i2.1 i2.2]
          by_cases c1 : t1.2 < 0
          · simp only [decide_eq_true c1, cond_true, Option.some.injEq] at h
            subst h
            simp only [iff_true]
            omega
          · simp only [decide_eq_false c1, cond_false] at h
            by_cases c2 : 0 ≤ t1.1
            · simp only [decide_eq_true c2, cond_true, Option.some.injEq] at h
              subst h
              simp only [Bool.false_eq_true, iff_false]
              omega
            · simp only [decide_eq_false c2, cond_false] at h
              cases h
      · cases h
    · cases h
theorem am_R_eq (hA : am_kn A X) {u v : am_V} {U V : Value} {r : Bool} (hu : am_R X b ad u U) (hv : am_R X b ad v V) (h : am_eq A u v = some r) : ∃ x y : Int32, U = .int x ∧ V = .int y ∧ (x = y ↔ r = true) := by
  unfold am_eq at h
  cases hk : am_k2 u v with
  | true =>
    simp only [hk, cond_true, Option.some.injEq] at h
    obtain ⟨h1, h2⟩ := am_R_k2 hk hu hv
    exact ⟨_, _, h1, h2, by rw [am_n_eq, h]⟩
  | false =>
    simp only [hk, cond_false] at h
    split at h
    · rename_i f g hf hg
      refine ⟨_, _, am_R_int hu hf, am_R_int hv hg, ?_⟩
      cases hq0 : am_feq f g with
      | true =>
        simp only [hq0, cond_true, Option.some.injEq] at h
        subst h
        rw [am_ev_eq X f g hq0]
        simp
      | false =>
        simp only [hq0, cond_false] at h
        split at h
        · rename_i r1 q1 t1 hr hq ht
          have l1 := am_lim_ok hA hr
          have l2 := am_lim_ok hA hq
          have l3 := am_lim_ok hA ht
          rw [am_ev_sub] at l3
          cases hb : (am_in32 r1 && am_in32 q1 && (decide (t1.2 < 0) || decide (0 < t1.1))) with
          | false => rw [hb] at h; cases h
          | true =>
            rw [hb] at h
            simp only [cond_true, Option.some.injEq] at h
            subst h
            simp only [Bool.and_eq_true, Bool.or_eq_true, decide_eq_true_eq] at hb
            have i1 := am_in_ok hb.1.1 l1
            have i2 := am_in_ok hb.1.2 l2
            rw [am_i_eq i1.1 i1.2 i2.1 i2.2]
            simp only [Bool.false_eq_true, iff_false]
            rcases hb.2 with c | c <;> omega
        · cases h
    · cases h
theorem am_R_abs (hA : am_kn A X) {u r : am_V} {U : Value} (hu : am_R X b ad u U) (h : am_abs A u = some r) : ∃ x : Int32, U = .int x ∧ am_R X b ad r (.int (if 0 ≤ x then x else 0 - x)) := by
  have key : ∀ z : Int, -2147483648 ≤ z → z < 2147483648 → (if 0 ≤ am_i z then am_i z else 0 - am_i z) = am_i (z.natAbs : Int) := by
    intro z h1 h2
    have e0 : (0 : Int32) = am_i 0 := rfl
    by_cases hz : 0 ≤ z
    · rw [if_pos]
      · congr 1
        omega
      · rw [e0, ← Int32.not_lt, am_i_lt h1 h2 (by omega) (by omega)]
        omega
    · rw [if_neg]
      · rw [e0, am_i_sub]
        congr 1
        omega
      · rw [e0, ← Int32.not_lt, am_i_lt h1 h2 (by omega) (by omega)]
        omega
  unfold am_abs at h
  split at h
  · cases h
  · rename_i f hf
    split at h
    · rename_i g hg
      split at h
      · rename_i q hq
        cases hb : am_in32 q with
        | false => rw [hb] at h; cases h
        | true =>
          rw [hb] at h
          simp only [cond_true, Option.some.injEq] at h
          subst h
          have i1 := am_in_ok hb (am_lim_ok hA hq)
          refine ⟨_, am_R_int hu hf, ?_⟩
          rw [key _ i1.1 i1.2, ← am_look_ok A.2.2 f g hA.2.2 hg]
          exact am_R_mk hA _
      · cases h
    · split at h
      · rename_i q hq
        cases hb : am_in32 q with
        | false => rw [hb] at h; cases h
        | true =>
          rw [hb] at h
          simp only [cond_true] at h
          have l1 := am_lim_ok hA hq
          have i1 := am_in_ok hb l1
          refine ⟨_, am_R_int hu hf, ?_⟩
          rw [key _ i1.1 i1.2]
          by_cases c1 : 0 ≤ q.1
          · simp only [decide_eq_true c1, cond_true, Option.some.injEq] at h
            subst h
            rw [show ((am_ev X f).natAbs : Int) = am_ev X f by omega]
            exact am_R_mk hA _
          · simp only [decide_eq_false c1, cond_false] at h
            by_cases c2 : q.2 < 0
            · simp only [decide_eq_true c2, cond_true, Option.some.injEq] at h
              subst h
              rw [show ((am_ev X f).natAbs : Int) = -1 * am_ev X f by omega, ← am_ev_mul]
              exact am_R_mk hA _
            · simp only [decide_eq_false c2, cond_false] at h
              cases h
      · cases h
end AMV
end
section
/-! ===== one step of the abstract machine; 'rec' is the rest of the run ===== -/
def am_tI (v : am_V) : Bool := Nat.beq v.1 0 || Nat.beq v.1 6
def am_tL (v : am_V) : Bool := Nat.beq v.1 1 || Nat.beq v.1 11
def am_tF (v : am_V) : Bool := Nat.beq v.1 2
def am_tD (v : am_V) : Bool := Nat.beq v.1 3 || Nat.beq v.1 7 || Nat.beq v.1 9
def am_tR (v : am_V) : Bool := Nat.beq v.1 8 || Nat.beq v.1 10 || Nat.beq v.1 12
def am_tA (v : am_V) : Bool := Nat.beq v.1 4 || am_tR v
/-- the classes, their fields' types -/
abbrev am_cl : List vw_C := [(RX0, TX0, 7), (RX1, TX1, 6), (RX2, TX2, 4), (RX3, TX3, 3), (RX4, TX4, 7), (RX5, TX5, 12), (RX6, TX6, 9)]
def am_tys : List (Nat → FieldType) := [tyX0, tyX1, tyX2, tyX3, tyX4, tyX5, tyX6]
def am_ty (ci k : Nat) : FieldType := match am_tys[ci]? with
  | some t => t k
  | none => .int
def am_df (t : FieldType) : am_V := match t with
  | .long => (1, 0, [])
  | .float => (2, 0, [])
  | .double => (3, 0, [])
  | .object _ => (4, 0, [])
  | .array _ => (4, 0, [])
  | _ => (0, 0, [])
/-- a value may be put into a field of that type -/
def am_fit (t : FieldType) (v : am_V) : Bool := match t with
  | .int => am_tI v
  | .boolean => Nat.beq v.1 0 && Nat.blt v.2.1 2
  | .char => Nat.beq v.1 0 && Nat.blt v.2.1 65536
  | .long => am_tL v
  | .float => am_tF v
  | .double => am_tD v
  | .object _ => am_tA v
  | .array _ => am_tA v
  | _ => false
/-- the kinds of arrays: 100 int[], 101 Voice[], 102 Sheet[], 103 Pin[], 104 int[][] -/
def am_at (k : Nat) : Option FieldType := match k with
  | 100 => some .int
  | 101 => some (.object RX5)
  | 102 => some (.object RX2)
  | 103 => some (.object RX1)
  | 104 => some (.array .int)
  | _ => none
/-- what may be put into an array of that kind: the kind of the cell -/
def am_el (k : Nat) : Nat := match k with
  | 101 => 5
  | 102 => 2
  | 103 => 1
  | 104 => 100
  | _ => 999
/-- longs -/
def am_un8 (z : Int) : Nat := (z % 18446744073709551616).toNat
def am_si8 (n : Nat) : Int := bif Nat.blt n 9223372036854775808 then (n : Int) else (n : Int) - 18446744073709551616
def am_ofL (x : Int64) : am_V := (1, x.toBitVec.toNat, [])
def am_ofI (x : Int32) : am_V := (0, x.toBitVec.toNat, [])
def am_ofF (x : UInt32) : am_V := (2, x.toNat, [])
def am_ofD (x : UInt64) : am_V := (3, x.toNat, [])
def am_i1 (f : Int32 → am_V) (a : am_V) : Option am_V := bif Nat.beq a.1 0 then some (f (Int32.ofNat a.2.1)) else none
def am_i22 (f : Int32 → Int32 → am_V) (a b : am_V) : Option am_V := bif am_k2 a b then some (f (Int32.ofNat a.2.1) (Int32.ofNat b.2.1)) else none
def am_l1 (f : Int64 → am_V) (a : am_V) : Option am_V := bif Nat.beq a.1 1 then some (f (Int64.ofNat a.2.1)) else none
def am_l22 (f : Int64 → Int64 → am_V) (a b : am_V) : Option am_V := bif Nat.beq a.1 1 && Nat.beq b.1 1 then some (f (Int64.ofNat a.2.1) (Int64.ofNat b.2.1)) else none
def am_li (f : Int64 → Int32 → am_V) (a b : am_V) : Option am_V := bif Nat.beq a.1 1 && Nat.beq b.1 0 then some (f (Int64.ofNat a.2.1) (Int32.ofNat b.2.1)) else none
def am_f1v (f : UInt32 → am_V) (a : am_V) : Option am_V := bif Nat.beq a.1 2 then some (f (UInt32.ofNat a.2.1)) else none
def am_f22 (ok : UInt32 → Bool) (f : UInt32 → UInt32 → UInt32) (a b : am_V) : Option am_V := bif Nat.beq a.1 2 && Nat.beq b.1 2 && ok (f (UInt32.ofNat a.2.1) (UInt32.ofNat b.2.1)) then some (am_ofF (f (UInt32.ofNat a.2.1) (UInt32.ofNat b.2.1))) else none
def am_fc (f : UInt32 → UInt32 → Int32) (a b : am_V) : Option am_V := bif Nat.beq a.1 2 && Nat.beq b.1 2 then some (am_ofI (f (UInt32.ofNat a.2.1) (UInt32.ofNat b.2.1))) else none
def am_d1v (f : UInt64 → am_V) (a : am_V) : Option am_V := bif Nat.beq a.1 3 then some (f (UInt64.ofNat a.2.1)) else none
def am_d22 (ok : UInt64 → Bool) (f : UInt64 → UInt64 → UInt64) (a b : am_V) : Option am_V := bif Nat.beq a.1 3 && Nat.beq b.1 3 && ok (f (UInt64.ofNat a.2.1) (UInt64.ofNat b.2.1)) then some (am_ofD (f (UInt64.ofNat a.2.1) (UInt64.ofNat b.2.1))) else none
def am_dc (f : UInt64 → UInt64 → Int32) (a b : am_V) : Option am_V := bif Nat.beq a.1 3 && Nat.beq b.1 3 then some (am_ofI (f (UInt64.ofNat a.2.1) (UInt64.ofNat b.2.1))) else none
def am_n32 (r : UInt32) : Bool := decide (r &&& 0x7fffffff ≤ 0x7f800000)
def am_n64 (r : UInt64) : Bool := decide (r &&& 0x7fffffffffffffff ≤ 0x7ff0000000000000)
def am_i2d (a : am_V) : Option am_V := bif Nat.beq a.1 0 then some (am_ofD (FP.i2d (Int32.ofNat a.2.1))) else bif Nat.beq a.1 6 then some (7, 0, a.2.2) else none
/-- the doubles of 1, 2, 3, 4 -/
def am_d14 (n : Nat) : Bool := Nat.beq n 4607182418800017408 || Nat.beq n 4611686018427387904 || Nat.beq n 4613937818241073152 || Nat.beq n 4616189618054758400
def am_ddiv (A : am_A) (a b : am_V) : Option am_V := bif Nat.beq a.1 7 && Nat.beq b.1 3 && am_d14 b.2.1 then (match am_lim A a.2.2 with
  | some r => bif decide (0 ≤ r.1) && decide (r.2 ≤ 200) then some (9, b.2.1, a.2.2) else none
  | none => none) else am_d22 am_n64 FP.ddiv a b
def am_lcmp (a b : am_V) : Option am_V := bif Nat.beq a.1 11 && Nat.beq b.1 11 && Nat.beq a.2.1 b.2.1 && am_feq a.2.2 b.2.2 then some (0, 0, []) else am_l22 (fun x y => am_ofI (lg_cmp x y)) a b
/-- classes of the exceptions by their numbers; in the law's own constant pool -/
def am_ex : List String := ["java/lang/IndexOutOfBoundsException", "java/lang/IllegalArgumentException", "java/lang/IllegalStateException", "java/lang/UnsupportedOperationException", "java/util/NoSuchElementException", "java/lang/ArithmeticException"]
section AMSTEP
variable (A : am_A) (db : List am_M) (hc : List (Nat × Nat)) (rec : Nat → am_M → am_S → Option am_O) (d : Nat) (M : am_M)
noncomputable def am_oPush (tl : List am_I) (lo stk : List am_V) (h : List am_C) (nc ns : Nat) (v : am_V) : Option am_O := rec d M (tl, lo, v :: stk, h, nc, ns)
noncomputable def am_oLoad (ok : am_V → Bool) (k : Nat) (tl : List am_I) (lo stk : List am_V) (h : List am_C) (nc ns : Nat) : Option am_O := match am_nth lo k with
  | some v => bif ok v then rec d M (tl, lo, v :: stk, h, nc, ns) else none
  | none => none
noncomputable def am_oStore (ok : am_V → Bool) (k : Nat) (tl : List am_I) (lo stk : List am_V) (h : List am_C) (nc ns : Nat) : Option am_O := match stk with
  | v :: rest => bif ok v && Nat.blt k (List.length lo) then rec d M (tl, am_st1 lo k v, rest, h, nc, ns) else none
  | [] => none
noncomputable def am_oStore2 (ok : am_V → Bool) (k : Nat) (tl : List am_I) (lo stk : List am_V) (h : List am_C) (nc ns : Nat) : Option am_O := match stk with
  | v :: rest => bif ok v && Nat.blt (k + 1) (List.length lo) then rec d M (tl, am_st2 lo k v, rest, h, nc, ns) else none
  | [] => none
noncomputable def am_oBin (f : am_V → am_V → Option am_V) (tl : List am_I) (lo stk : List am_V) (h : List am_C) (nc ns : Nat) : Option am_O := match stk with
  | y :: x :: rest => match f x y with
    | some r => rec d M (tl, lo, r :: rest, h, nc, ns)
    | none => none
  | _ => none
noncomputable def am_oUn (f : am_V → Option am_V) (tl : List am_I) (lo stk : List am_V) (h : List am_C) (nc ns : Nat) : Option am_O := match stk with
  | x :: rest => match f x with
    | some r => rec d M (tl, lo, r :: rest, h, nc, ns)
    | none => none
  | _ => none
noncomputable def am_oJump (t : Nat) (lo stk : List am_V) (h : List am_C) (nc ns : Nat) : Option am_O := match am_suf M.2.2.2.2.2 t with
  | [] => none
  | x :: xs => rec d M (x :: xs, lo, stk, h, nc, ns)
noncomputable def am_oIf (c : Option Bool) (t : Nat) (tl : List am_I) (lo stk : List am_V) (h : List am_C) (nc ns : Nat) : Option am_O := match c with
  | some true => am_oJump rec d M t lo stk h nc ns
  | some false => rec d M (tl, lo, stk, h, nc, ns)
  | none => none
noncomputable def am_oIf1 (c : ClassFile.Cond) (t : Nat) (tl : List am_I) (lo stk : List am_V) (h : List am_C) (nc ns : Nat) : Option am_O := match stk with
  | x :: rest => am_oIf rec d M (am_cmp A c x (0, 0, [])) t tl lo rest h nc ns
  | _ => none
noncomputable def am_oIf2 (c : ClassFile.Cond) (t : Nat) (tl : List am_I) (lo stk : List am_V) (h : List am_C) (nc ns : Nat) : Option am_O := match stk with
  | y :: x :: rest => am_oIf rec d M (am_cmp A c x y) t tl lo rest h nc ns
  | _ => none
noncomputable def am_oNull (no : Bool) (t : Nat) (tl : List am_I) (lo stk : List am_V) (h : List am_C) (nc ns : Nat) : Option am_O := match stk with
  | x :: rest => bif am_tA x then am_oIf rec d M (some (Nat.beq x.1 4 != no)) t tl lo rest h nc ns else none
  | _ => none
noncomputable def am_oIinc (k : Nat) (z : Int) (tl : List am_I) (lo stk : List am_V) (h : List am_C) (nc ns : Nat) : Option am_O := match am_nth lo k with
  | some v => match am_iadd A v (am_int z) with
    | some r => rec d M (tl, am_st1 lo k r, stk, h, nc, ns)
    | none => none
  | none => none
noncomputable def am_oSwitch (pc : Nat) (dflt lw hg : Int) (offs : Array Int) (lo stk : List am_V) (h : List am_C) (nc ns : Nat) : Option am_O := match stk with
  | x :: rest => bif Nat.beq x.1 0 then (
      bif decide (am_si x.2.1 < lw) || decide (hg < am_si x.2.1) then am_oJump rec d M (am_tgt pc dflt) lo rest h nc ns else
      match offs.toList[(am_si x.2.1 - lw).toNat]? with
      | some o => am_oJump rec d M (am_tgt pc o) lo rest h nc ns
      | none => none) else none
  | _ => none
noncomputable def am_oGet (ln : List Nat) (tl : List am_I) (lo stk : List am_V) (h : List am_C) (nc ns : Nat) : Option am_O := match ln, stk with
  | ci :: k :: _, (10, a, _) :: rest => match am_nth h a with
    | some c => bif Nat.beq c.1 ci then (match am_nth c.2 k with
      | some v => rec d M (tl, lo, v :: rest, h, nc, ns)
      | none => none) else none
    | none => none
  | _, _ => none
noncomputable def am_oPut (ln : List Nat) (tl : List am_I) (lo stk : List am_V) (h : List am_C) (nc ns : Nat) : Option am_O := match ln, stk with
  | ci :: k :: _, v :: (10, a, _) :: rest => match am_nth h a with
    | some c => bif Nat.beq c.1 ci && Nat.blt k (List.length c.2) && am_fit (am_ty ci k) v then rec d M (tl, lo, rest, am_set h a (ci, am_set c.2 k v), nc, ns) else none
    | none => none
  | _, _ => none
noncomputable def am_oAld (ref : Bool) (tl : List am_I) (lo stk : List am_V) (h : List am_C) (nc ns : Nat) : Option am_O := match stk with
  | i :: (10, a, _) :: rest => bif Nat.beq i.1 0 && Nat.blt i.2.1 2147483648 then (match am_nth h a with
    | some c => bif Nat.ble 100 c.1 && (Nat.beq c.1 100 != ref) then (match am_nth c.2 i.2.1 with
      | some v => rec d M (tl, lo, v :: rest, h, nc, ns)
      | none => none) else none
    | none => none) else none
  | _ => none
noncomputable def am_oIast (tl : List am_I) (lo stk : List am_V) (h : List am_C) (nc ns : Nat) : Option am_O := match stk with
  | v :: i :: (10, a, _) :: rest => bif am_tI v && Nat.beq i.1 0 && Nat.blt i.2.1 2147483648 then (match am_nth h a with
    | some c => bif Nat.beq c.1 100 && Nat.blt i.2.1 (List.length c.2) then rec d M (tl, lo, rest, am_set h a (100, am_set c.2 i.2.1 v), nc, ns) else none
    | none => none) else none
  | _ => none
noncomputable def am_oAast (tl : List am_I) (lo stk : List am_V) (h : List am_C) (nc ns : Nat) : Option am_O := match stk with
  | (10, w, _) :: i :: (10, a, _) :: rest => bif Nat.beq i.1 0 && Nat.blt i.2.1 2147483648 then (match am_nth h a, am_nth h w with
    | some c, some cw => bif Nat.blt 100 c.1 && Nat.beq cw.1 (am_el c.1) && Nat.blt i.2.1 (List.length c.2) then rec d M (tl, lo, rest, am_set h a (c.1, am_set c.2 i.2.1 (10, w, [])), nc, ns) else none
    | _, _ => none) else none
  | _ => none
noncomputable def am_oNew (bl : List (List am_V)) (ln : List Nat) (tl : List am_I) (lo stk : List am_V) (h : List am_C) (nc ns : Nat) : Option am_O := match ln with
  | ci :: _ => match am_nth bl ci with
    | some fs => rec d M (tl, lo, (10, List.length h, []) :: stk, h ++ [(ci, fs)], nc + 1, ns + List.length fs)
    | none => none
  | _ => none
noncomputable def am_oNewa (kind : Nat) (v0 : am_V) (tl : List am_I) (lo stk : List am_V) (h : List am_C) (nc ns : Nat) : Option am_O := match stk with
  | n :: rest => bif Nat.beq n.1 0 && Nat.blt n.2.1 100000 then rec d M (tl, lo, (10, List.length h, []) :: rest, h ++ [(kind, List.replicate n.2.1 v0)], nc + 1, ns + n.2.1) else none
  | _ => none
/-- new int[a][b] -/
noncomputable def am_oMulti (tl : List am_I) (lo stk : List am_V) (h : List am_C) (nc ns : Nat) : Option am_O := match stk with
  | (0, 30, _) :: (0, 3, _) :: rest => rec d M (tl, lo, (10, List.length h, []) :: rest, h ++ [(104, [(10, List.length h + 1, []), (10, List.length h + 2, []), (10, List.length h + 3, [])]), (100, List.replicate 30 (0, 0, [])), (100, List.replicate 30 (0, 0, [])), (100, List.replicate 30 (0, 0, []))], nc + 4, ns + 93)
  | _ => none
/-- where an exception is caught: the first row of the table that covers pc and names its class -/
def am_hnd (ei pc : Nat) : List (Nat × Nat × Nat × Nat) → Option Nat
  | [] => none
  | x :: xs => bif Nat.ble x.1 pc && Nat.blt pc x.2.1 && hc.any (fun q => Nat.beq q.1 x.2.2.2 && Nat.beq q.2 ei) then some x.2.2.1 else am_hnd ei pc xs
noncomputable def am_oThrown (pc ei : Nat) (lo : List am_V) (h : List am_C) (nc ns : Nat) (is : List am_I) : Option am_O := match M.2.2.2.2.1 with
  | [] => some (2, (ei, 0, []), (is, lo, [], h, nc, ns))
  | x :: xs => match am_hnd hc ei pc (x :: xs) with
    | some t => am_oJump rec d M t lo [(8, 0, [])] h nc ns
    | none => none
/-- a call: mi the method's place, n how many values it takes off the stack (the object too) -/
noncomputable def am_oCall (mi n : Nat) (is : List am_I) (pc : Nat) (tl : List am_I) (lo stk : List am_V) (h : List am_C) (nc ns : Nat) : Option am_O := match am_nth db mi, d with
  | some M1, d1 + 1 =>
    bif Nat.ble n (List.length stk) && Nat.ble (List.length stk) (n + 4) && Nat.ble (List.length (am_lay (stk.take n).reverse)) M1.2.2.1 then (
      match rec d1 M1 (M1.2.2.2.2.2, am_lay (stk.take n).reverse ++ List.replicate (M1.2.2.1 - List.length (am_lay (stk.take n).reverse)) am_un0, [], h, 0, 0) with
      | some (0, _, _, _, _, h1, c1, s1) => bif M1.2.2.2.1.isNone then rec d M (tl, lo, stk.drop n, h1, nc + c1, ns + s1) else none
      | some (1, v, _, _, _, h1, c1, s1) => bif M1.2.2.2.1.isSome then rec d M (tl, lo, v :: stk.drop n, h1, nc + c1, ns + s1) else none
      | some (2, e, _, _, _, h1, c1, s1) => am_oThrown hc rec d M pc e.1 lo h1 (nc + c1) (ns + s1) is
      | _ => none) else none
  | _, _ => none
/-- the object of a call is of the class ci -/
noncomputable def am_isC (ci n : Nat) (stk : List am_V) (h : List am_C) : Bool := match stk.drop (n - 1) with
  | (10, a, _) :: _ => match am_nth h a with
    | some c => Nat.beq c.1 ci
    | none => false
  | _ => false
noncomputable def am_oInv (ln : List Nat) (is : List am_I) (pc : Nat) (tl : List am_I) (lo stk : List am_V) (h : List am_C) (nc ns : Nat) : Option am_O := match ln with
  | 0 :: mi :: n :: _ => am_oCall db hc rec d M mi n is pc tl lo stk h nc ns
  | 1 :: mi :: n :: ci :: _ => bif am_isC ci n stk h then am_oCall db hc rec d M mi n is pc tl lo stk h nc ns else none
  | 2 :: _ => match stk with
    | (10, _, _) :: rest => bif Nat.ble (List.length rest) 4 then rec d M (tl, lo, rest, h, nc, ns) else none
    | _ => none
  | 3 :: _ => bif Nat.ble (List.length stk) 5 then am_oUn rec d M (am_abs A) tl lo stk h nc ns else none
  | 4 :: _ => bif Nat.ble (List.length stk) 5 then am_oBin rec d M (am_i22 (fun x y => am_ofI (if y < x then y else x))) tl lo stk h nc ns else none
  | 5 :: _ => bif Nat.ble (List.length stk) 5 then am_oBin rec d M (am_l22 (fun x y => am_ofL (if y < x then y else x))) tl lo stk h nc ns else none
  | 6 :: _ => bif Nat.ble (List.length stk) 5 then am_oBin rec d M (am_l22 (fun x y => am_ofL (if x < y then y else x))) tl lo stk h nc ns else none
  | 7 :: _ => match stk with
    | (2, n, _) :: rest => bif am_n32 (UInt32.ofNat n) && Nat.ble (List.length rest) 4 then rec d M (tl, lo, am_ofI (UInt32.ofNat n).toInt32 :: rest, h, nc, ns) else none
    | _ => none
  | 8 :: _ => match stk with
    | (3, n, _) :: rest => bif (Nat.beq n 9221120237041090560 || am_n64 (UInt64.ofNat n)) && Nat.ble (List.length rest) 4 then rec d M (tl, lo, am_ofL (UInt64.ofNat n).toInt64 :: rest, h, nc, ns) else none
    | (9, n, f) :: rest => bif Nat.ble (List.length rest) 4 then rec d M (tl, lo, (11, n, f) :: rest, h, nc, ns) else none
    | _ => none
  | 9 :: mi :: _ => match stk with
    | (9, n, f) :: rest => bif Nat.ble (List.length rest) 4 && Nat.blt 2 d then rec d M (tl, lo, (11, n, f) :: rest, h, nc, ns) else none
    | _ => am_oCall db hc rec d M mi 1 is pc tl lo stk h nc ns
  | _ => none
noncomputable def am_step (bl : List (List am_V)) (st : am_S) : Option am_O := match st with
  | ([], _) => none
  | ((pc, i, len, ln) :: tl, lo, stk, h, nc, ns) => match i with
    | .iconst n => am_oPush rec d M tl lo stk h nc ns (am_int n)
    | .bipush n => am_oPush rec d M tl lo stk h nc ns (am_int n)
    | .sipush n => am_oPush rec d M tl lo stk h nc ns (am_int n)
    | .lconst n => am_oPush rec d M tl lo stk h nc ns (1, n.val, [])
    | .fconst n => match n with
      | 0 => am_oPush rec d M tl lo stk h nc ns (am_ofF FP.fconst0)
      | 1 => am_oPush rec d M tl lo stk h nc ns (am_ofF FP.fconst1)
      | 2 => am_oPush rec d M tl lo stk h nc ns (am_ofF FP.fconst2)
    | .dconst n => match n with
      | 0 => am_oPush rec d M tl lo stk h nc ns (am_ofD FP.dconst0)
      | 1 => am_oPush rec d M tl lo stk h nc ns (am_ofD FP.dconst1)
    | .ldc _ => match ln with
      | t :: n :: _ => am_oPush rec d M tl lo stk h nc ns (t, n, [])
      | _ => none
    | .ldc_w _ => match ln with
      | t :: n :: _ => am_oPush rec d M tl lo stk h nc ns (t, n, [])
      | _ => none
    | .ldc2_w _ => match ln with
      | t :: n :: _ => am_oPush rec d M tl lo stk h nc ns (t, n, [])
      | _ => none
    | .iload k => am_oLoad rec d M am_tI k tl lo stk h nc ns
    | .iload_n k => am_oLoad rec d M am_tI k.val tl lo stk h nc ns
    | .lload k => am_oLoad rec d M am_tL k tl lo stk h nc ns
    | .lload_n k => am_oLoad rec d M am_tL k.val tl lo stk h nc ns
    | .fload_n k => am_oLoad rec d M am_tF k.val tl lo stk h nc ns
    | .dload_n k => am_oLoad rec d M am_tD k.val tl lo stk h nc ns
    | .aload k => am_oLoad rec d M am_tA k tl lo stk h nc ns
    | .aload_n k => am_oLoad rec d M am_tA k.val tl lo stk h nc ns
    | .istore k => am_oStore rec d M am_tI k tl lo stk h nc ns
    | .istore_n k => am_oStore rec d M am_tI k.val tl lo stk h nc ns
    | .fstore_n k => am_oStore rec d M am_tF k.val tl lo stk h nc ns
    | .astore k => am_oStore rec d M am_tA k tl lo stk h nc ns
    | .astore_n k => am_oStore rec d M am_tA k.val tl lo stk h nc ns
    | .lstore k => am_oStore2 rec d M am_tL k tl lo stk h nc ns
    | .lstore_n k => am_oStore2 rec d M am_tL k.val tl lo stk h nc ns
    | .dstore_n k => am_oStore2 rec d M am_tD k.val tl lo stk h nc ns
    | .iinc k z => am_oIinc A rec d M k z tl lo stk h nc ns
    | .iadd => am_oBin rec d M (am_iadd A) tl lo stk h nc ns
    | .isub => am_oBin rec d M (am_isub A) tl lo stk h nc ns
    | .imul => am_oBin rec d M (am_imul A) tl lo stk h nc ns
    | .idiv => am_oBin rec d M (am_idiv A) tl lo stk h nc ns
    | .irem => am_oBin rec d M (am_irem A) tl lo stk h nc ns
    | .ior => am_oBin rec d M (am_i22 (fun x y => am_ofI (x ||| y))) tl lo stk h nc ns
    | .ishl => am_oBin rec d M (am_i22 (fun x y => am_ofI (x <<< (y &&& 31)))) tl lo stk h nc ns
    | .i2c => am_oUn rec d M (am_i1 (fun x => am_ofI (x.toUInt32 % 65536).toInt32)) tl lo stk h nc ns
    | .i2l => am_oUn rec d M (am_i1 (fun x => am_ofL x.toInt64)) tl lo stk h nc ns
    | .i2f => am_oUn rec d M (am_i1 (fun x => am_ofF (FP.i2f x))) tl lo stk h nc ns
    | .i2d => am_oUn rec d M am_i2d tl lo stk h nc ns
    | .l2i => am_oUn rec d M (am_l1 (fun x => am_ofI x.toInt32)) tl lo stk h nc ns
    | .ladd => am_oBin rec d M (am_l22 (fun x y => am_ofL (x + y))) tl lo stk h nc ns
    | .lsub => am_oBin rec d M (am_l22 (fun x y => am_ofL (x - y))) tl lo stk h nc ns
    | .lmul => am_oBin rec d M (am_l22 (fun x y => am_ofL (x * y))) tl lo stk h nc ns
    | .lor => am_oBin rec d M (am_l22 (fun x y => am_ofL (x ||| y))) tl lo stk h nc ns
    | .lshl => am_oBin rec d M (am_li (fun x y => am_ofL (x <<< (y.toInt64 &&& 63)))) tl lo stk h nc ns
    | .lcmp => am_oBin rec d M am_lcmp tl lo stk h nc ns
    | .fdiv => am_oBin rec d M (am_f22 am_n32 FP.fdiv) tl lo stk h nc ns
    | .fmul => am_oBin rec d M (am_f22 am_n32 FP.fmul) tl lo stk h nc ns
    | .fsub => am_oBin rec d M (am_f22 am_n32 FP.fsub) tl lo stk h nc ns
    | .fcmp o => am_oBin rec d M (am_fc (fun x y => Op.cmpValue (FP.fcmp x y) o)) tl lo stk h nc ns
    | .f2i => am_oUn rec d M (am_f1v (fun x => am_ofI (FP.f2i x))) tl lo stk h nc ns
    | .f2d => am_oUn rec d M (fun v => bif Nat.beq v.1 2 && am_n64 (FP.f2d (UInt32.ofNat v.2.1)) then some (am_ofD (FP.f2d (UInt32.ofNat v.2.1))) else none) tl lo stk h nc ns
    | .dadd => am_oBin rec d M (am_d22 am_n64 FP.dadd) tl lo stk h nc ns
    | .dsub => am_oBin rec d M (am_d22 am_n64 FP.dsub) tl lo stk h nc ns
    | .dmul => am_oBin rec d M (am_d22 am_n64 FP.dmul) tl lo stk h nc ns
    | .ddiv => am_oBin rec d M (am_ddiv A) tl lo stk h nc ns
    | .dcmp o => am_oBin rec d M (am_dc (fun x y => Op.cmpValue (FP.dcmp x y) o)) tl lo stk h nc ns
    | .d2l => am_oUn rec d M (am_d1v (fun x => am_ofL (FP.d2l x))) tl lo stk h nc ns
    | .dup => match stk with
      | v :: rest => bif am_c2 v then none else rec d M (tl, lo, v :: v :: rest, h, nc, ns)
      | [] => none
    | .dup2 => match stk with
      | v :: w :: rest => bif am_c2 v || am_c2 w then none else rec d M (tl, lo, v :: w :: v :: w :: rest, h, nc, ns)
      | _ => none
    | .goto o => am_oJump rec d M (am_tgt pc o) lo stk h nc ns
    | .ifCond c o => am_oIf1 A rec d M c (am_tgt pc o) tl lo stk h nc ns
    | .if_icmp c o => am_oIf2 A rec d M c (am_tgt pc o) tl lo stk h nc ns
    | .ifnull o => am_oNull rec d M false (am_tgt pc o) tl lo stk h nc ns
    | .ifnonnull o => am_oNull rec d M true (am_tgt pc o) tl lo stk h nc ns
    | .tableswitch df lw hg os => am_oSwitch rec d M pc df lw hg os lo stk h nc ns
    | .getfield _ => am_oGet rec d M ln tl lo stk h nc ns
    | .putfield _ => am_oPut rec d M ln tl lo stk h nc ns
    | .iaload => am_oAld rec d M false tl lo stk h nc ns
    | .aaload => am_oAld rec d M true tl lo stk h nc ns
    | .iastore => am_oIast rec d M tl lo stk h nc ns
    | .aastore => am_oAast rec d M tl lo stk h nc ns
    | .new _ => match ln with
      | 9 :: ei :: _ => bif List.isEmpty M.2.2.2.2.1 && Nat.blt ei 6 && Nat.ble (List.length stk) 4 then some (2, (ei, 0, []), ((pc, i, len, ln) :: tl, lo, stk, h, nc + 1, ns + 6)) else none
      | _ => am_oNew rec d M bl ln tl lo stk h nc ns
    | .newarray _ => am_oNewa rec d M 100 (0, 0, []) tl lo stk h nc ns
    | .anewarray _ => match ln with
      | k :: _ => am_oNewa rec d M k (4, 0, []) tl lo stk h nc ns
      | _ => none
    | .multianewarray _ _ => am_oMulti rec d M tl lo stk h nc ns
    | .invokestatic _ => am_oInv A db hc rec d M ln ((pc, i, len, ln) :: tl) pc tl lo stk h nc ns
    | .invokevirtual _ => am_oInv A db hc rec d M ln ((pc, i, len, ln) :: tl) pc tl lo stk h nc ns
    | .invokespecial _ => am_oInv A db hc rec d M ln ((pc, i, len, ln) :: tl) pc tl lo stk h nc ns
    | .return_ => match stk with
      | [] => some (0, (4, 0, []), ((pc, i, len, ln) :: tl, lo, stk, h, nc, ns))
      | _ => none
    | .ireturn => match stk with
      | [v] => bif am_tI v then some (1, v, ((pc, i, len, ln) :: tl, lo, stk, h, nc, ns)) else none
      | _ => none
    | .lreturn => match stk with
      | [v] => bif am_tL v then some (1, v, ((pc, i, len, ln) :: tl, lo, stk, h, nc, ns)) else none
      | _ => none
    | .freturn => match stk with
      | [v] => bif am_tF v then some (1, v, ((pc, i, len, ln) :: tl, lo, stk, h, nc, ns)) else none
      | _ => none
    | .dreturn => match stk with
      | [v] => bif am_tD v then some (1, v, ((pc, i, len, ln) :: tl, lo, stk, h, nc, ns)) else none
      | _ => none
    | .areturn => match stk with
      | [v] => bif am_tR v then some (1, v, ((pc, i, len, ln) :: tl, lo, stk, h, nc, ns)) else none
      | _ => none
    | _ => none
end AMSTEP
/-- the run, n steps at most along every path -/
noncomputable def am_run (A : am_A) (db : List am_M) (hc : List (Nat × Nat)) (bl : List (List am_V)) (n : Nat) : Nat → am_M → am_S → Option am_O :=
  Nat.rec (motive := fun _ => Nat → am_M → am_S → Option am_O) (fun _ _ st => some (3, (4, 0, []), st)) (fun _ ih d M st => am_step A db hc ih d M bl st) n
theorem am_run_0 {A : am_A} {db : List am_M} {hc : List (Nat × Nat)} {bl : List (List am_V)} {d : Nat} {M : am_M} {st : am_S} : am_run A db hc bl 0 d M st = some (3, (4, 0, []), st) := rfl
theorem am_run_s {A : am_A} {db : List am_M} {hc : List (Nat × Nat)} {bl : List (List am_V)} {n d : Nat} {M : am_M} {st : am_S} : am_run A db hc bl (n + 1) d M st = am_step A db hc (am_run A db hc bl n) d M bl st := rfl
end
