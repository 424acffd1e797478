section
-- ===== PART A: goes FIRST, ahead of the names: the tables' words, and 'selects' of the private methods out of them =====
/-- a private method of a class that the tables say can be made, by its rows of tables_1 -/
def lw_okq (q : MethodName × Nat) : Prop := (q.1.cls ≠ "java/lang/invoke/MethodHandle" ∧ q.1.cls ≠ "java/lang/invoke/VarHandle") ∧ Cond.instantiable q.1.cls q.2 ∈ tables_1 ∧ Cond.privateMethod q.1 ∈ tables_1 ∧ Cond.instanceMethod q.1 ∈ tables_1
theorem lw_p0 : lw_okq (⟨"CombCylinder$Drum", "isNear", "(LCombCylinder$Pin;III)Z"⟩, 7) := ⟨⟨by decide +kernel, by decide +kernel⟩, List.mem_of_getElem? (i := 36) (by decide +kernel), List.mem_of_getElem? (i := 352) (by decide +kernel), List.mem_of_getElem? (i := 353) (by decide +kernel)⟩
theorem lw_p1 : lw_okq (⟨"CombCylinder$Drum", "apart", "(II)I"⟩, 7) := ⟨⟨by decide +kernel, by decide +kernel⟩, List.mem_of_getElem? (i := 36) (by decide +kernel), List.mem_of_getElem? (i := 357) (by decide +kernel), List.mem_of_getElem? (i := 358) (by decide +kernel)⟩
theorem lw_p2 : lw_okq (⟨"java/lang/Throwable", "fillInStackTrace", "(I)Ljava/lang/Throwable;"⟩, 6) := ⟨⟨by decide +kernel, by decide +kernel⟩, List.mem_of_getElem? (i := 401) (by decide +kernel), List.mem_of_getElem? (i := 399) (by decide +kernel), List.mem_of_getElem? (i := 400) (by decide +kernel)⟩
theorem lw_p3 : lw_okq (⟨"CombCylinder", "replaceVoice", "(IZII)Z"⟩, 9) := ⟨⟨by decide +kernel, by decide +kernel⟩, List.mem_of_getElem? (i := 24) (by decide +kernel), List.mem_of_getElem? (i := 514) (by decide +kernel), List.mem_of_getElem? (i := 515) (by decide +kernel)⟩
theorem lw_p4 : lw_okq (⟨"CombCylinder", "voiceAt", "(I)LCombCylinder$Voice;"⟩, 9) := ⟨⟨by decide +kernel, by decide +kernel⟩, List.mem_of_getElem? (i := 24) (by decide +kernel), List.mem_of_getElem? (i := 531) (by decide +kernel), List.mem_of_getElem? (i := 532) (by decide +kernel)⟩
theorem lw_p5 : lw_okq (⟨"CombCylinder$Sheet", "isBefore", "(IIII)Z"⟩, 4) := ⟨⟨by decide +kernel, by decide +kernel⟩, List.mem_of_getElem? (i := 218) (by decide +kernel), List.mem_of_getElem? (i := 626) (by decide +kernel), List.mem_of_getElem? (i := 627) (by decide +kernel)⟩
theorem lw_p6 : lw_okq (⟨"CombCylinder", "needPinPlace", "(III)V"⟩, 9) := ⟨⟨by decide +kernel, by decide +kernel⟩, List.mem_of_getElem? (i := 24) (by decide +kernel), List.mem_of_getElem? (i := 638) (by decide +kernel), List.mem_of_getElem? (i := 639) (by decide +kernel)⟩
theorem lw_p7 : lw_okq (⟨"CombCylinder", "needAir", "(I)V"⟩, 9) := ⟨⟨by decide +kernel, by decide +kernel⟩, List.mem_of_getElem? (i := 24) (by decide +kernel), List.mem_of_getElem? (i := 642) (by decide +kernel), List.mem_of_getElem? (i := 643) (by decide +kernel)⟩
theorem lw_p8 : lw_okq (⟨"CombCylinder", "needCylinder", "()V"⟩, 9) := ⟨⟨by decide +kernel, by decide +kernel⟩, List.mem_of_getElem? (i := 24) (by decide +kernel), List.mem_of_getElem? (i := 646) (by decide +kernel), List.mem_of_getElem? (i := 647) (by decide +kernel)⟩
theorem lw_p9 : lw_okq (⟨"CombCylinder", "needSoft", "()V"⟩, 9) := ⟨⟨by decide +kernel, by decide +kernel⟩, List.mem_of_getElem? (i := 24) (by decide +kernel), List.mem_of_getElem? (i := 651) (by decide +kernel), List.mem_of_getElem? (i := 652) (by decide +kernel)⟩
theorem lw_p10 : lw_okq (⟨"CombCylinder", "arrangeNote", "(III)Z"⟩, 9) := ⟨⟨by decide +kernel, by decide +kernel⟩, List.mem_of_getElem? (i := 24) (by decide +kernel), List.mem_of_getElem? (i := 703) (by decide +kernel), List.mem_of_getElem? (i := 704) (by decide +kernel)⟩
theorem lw_p11 : lw_okq (⟨"CombCylinder", "playTurn", "()I"⟩, 9) := ⟨⟨by decide +kernel, by decide +kernel⟩, List.mem_of_getElem? (i := 24) (by decide +kernel), List.mem_of_getElem? (i := 732) (by decide +kernel), List.mem_of_getElem? (i := 733) (by decide +kernel)⟩
theorem lw_p12 : lw_okq (⟨"CombCylinder", "doesStrike", "(LCombCylinder$Pin;I)Z"⟩, 9) := ⟨⟨by decide +kernel, by decide +kernel⟩, List.mem_of_getElem? (i := 24) (by decide +kernel), List.mem_of_getElem? (i := 736) (by decide +kernel), List.mem_of_getElem? (i := 737) (by decide +kernel)⟩
theorem lw_p13 : lw_okq (⟨"CombCylinder", "doesBuzz", "(II)Z"⟩, 9) := ⟨⟨by decide +kernel, by decide +kernel⟩, List.mem_of_getElem? (i := 24) (by decide +kernel), List.mem_of_getElem? (i := 758) (by decide +kernel), List.mem_of_getElem? (i := 759) (by decide +kernel)⟩
theorem lw_p14 : lw_okq (⟨"CombCylinder$Drum", "goneRound", "(I)I"⟩, 7) := ⟨⟨by decide +kernel, by decide +kernel⟩, List.mem_of_getElem? (i := 36) (by decide +kernel), List.mem_of_getElem? (i := 770) (by decide +kernel), List.mem_of_getElem? (i := 771) (by decide +kernel)⟩
theorem lw_p15 : lw_okq (⟨"CombCylinder", "runTurn", "()I"⟩, 9) := ⟨⟨by decide +kernel, by decide +kernel⟩, List.mem_of_getElem? (i := 24) (by decide +kernel), List.mem_of_getElem? (i := 787) (by decide +kernel), List.mem_of_getElem? (i := 788) (by decide +kernel)⟩
def lw_privs_1 : List (MethodName × Nat) := [(⟨"CombCylinder$Drum", "isNear", "(LCombCylinder$Pin;III)Z"⟩, 7), (⟨"CombCylinder$Drum", "apart", "(II)I"⟩, 7), (⟨"java/lang/Throwable", "fillInStackTrace", "(I)Ljava/lang/Throwable;"⟩, 6), (⟨"CombCylinder", "replaceVoice", "(IZII)Z"⟩, 9), (⟨"CombCylinder", "voiceAt", "(I)LCombCylinder$Voice;"⟩, 9), (⟨"CombCylinder$Sheet", "isBefore", "(IIII)Z"⟩, 4), (⟨"CombCylinder", "needPinPlace", "(III)V"⟩, 9), (⟨"CombCylinder", "needAir", "(I)V"⟩, 9), (⟨"CombCylinder", "needCylinder", "()V"⟩, 9), (⟨"CombCylinder", "needSoft", "()V"⟩, 9), (⟨"CombCylinder", "arrangeNote", "(III)Z"⟩, 9), (⟨"CombCylinder", "playTurn", "()I"⟩, 9), (⟨"CombCylinder", "doesStrike", "(LCombCylinder$Pin;I)Z"⟩, 9), (⟨"CombCylinder", "doesBuzz", "(II)Z"⟩, 9), (⟨"CombCylinder$Drum", "goneRound", "(I)I"⟩, 7), (⟨"CombCylinder", "runTurn", "()I"⟩, 9)]
theorem lw_r1 : ∀ q ∈ lw_privs_1, lw_okq q := List.forall_mem_cons.mpr ⟨lw_p0, List.forall_mem_cons.mpr ⟨lw_p1, List.forall_mem_cons.mpr ⟨lw_p2, List.forall_mem_cons.mpr ⟨lw_p3, List.forall_mem_cons.mpr ⟨lw_p4, List.forall_mem_cons.mpr ⟨lw_p5, List.forall_mem_cons.mpr ⟨lw_p6, List.forall_mem_cons.mpr ⟨lw_p7, List.forall_mem_cons.mpr ⟨lw_p8, List.forall_mem_cons.mpr ⟨lw_p9, List.forall_mem_cons.mpr ⟨lw_p10, List.forall_mem_cons.mpr ⟨lw_p11, List.forall_mem_cons.mpr ⟨lw_p12, List.forall_mem_cons.mpr ⟨lw_p13, List.forall_mem_cons.mpr ⟨lw_p14, List.forall_mem_cons.mpr ⟨lw_p15, fun _ h => absurd h List.not_mem_nil⟩⟩⟩⟩⟩⟩⟩⟩⟩⟩⟩⟩⟩⟩⟩⟩
theorem lw_p16 : lw_okq (⟨"CombCylinder$Drum", "rankInTurn", "(LCombCylinder$Pin;)I"⟩, 7) := ⟨⟨by decide +kernel, by decide +kernel⟩, List.mem_of_getElem? (i := 36) (by decide +kernel), List.mem_of_getElem? (i := 795) (by decide +kernel), List.mem_of_getElem? (i := 796) (by decide +kernel)⟩
theorem lw_p17 : lw_okq (⟨"CombCylinder", "findTunings", "()V"⟩, 9) := ⟨⟨by decide +kernel, by decide +kernel⟩, List.mem_of_getElem? (i := 24) (by decide +kernel), List.mem_of_getElem? (i := 816) (by decide +kernel), List.mem_of_getElem? (i := 817) (by decide +kernel)⟩
theorem lw_p18 : lw_okq (⟨"CombCylinder$Tuner", "fits", "(ILCombCylinder$Drum;[LCombCylinder$Sheet;)Z"⟩, 7) := ⟨⟨by decide +kernel, by decide +kernel⟩, List.mem_of_getElem? (i := 131) (by decide +kernel), List.mem_of_getElem? (i := 832) (by decide +kernel), List.mem_of_getElem? (i := 833) (by decide +kernel)⟩
theorem lw_p19 : lw_okq (⟨"CombCylinder$Tuner", "howOften", "(LCombCylinder$Pin;LCombCylinder$Drum;)I"⟩, 7) := ⟨⟨by decide +kernel, by decide +kernel⟩, List.mem_of_getElem? (i := 131) (by decide +kernel), List.mem_of_getElem? (i := 840) (by decide +kernel), List.mem_of_getElem? (i := 841) (by decide +kernel)⟩
theorem lw_p20 : lw_okq (⟨"CombCylinder$Tuner", "findChoices", "(ILCombCylinder$Drum;[LCombCylinder$Sheet;)V"⟩, 7) := ⟨⟨by decide +kernel, by decide +kernel⟩, List.mem_of_getElem? (i := 131) (by decide +kernel), List.mem_of_getElem? (i := 844) (by decide +kernel), List.mem_of_getElem? (i := 845) (by decide +kernel)⟩
theorem lw_p21 : lw_okq (⟨"CombCylinder$Tuner", "keepTuning", "()V"⟩, 7) := ⟨⟨by decide +kernel, by decide +kernel⟩, List.mem_of_getElem? (i := 131) (by decide +kernel), List.mem_of_getElem? (i := 856) (by decide +kernel), List.mem_of_getElem? (i := 857) (by decide +kernel)⟩
theorem lw_p22 : lw_okq (⟨"CombCylinder$Tuner", "isTakenAhead", "(I)Z"⟩, 7) := ⟨⟨by decide +kernel, by decide +kernel⟩, List.mem_of_getElem? (i := 131) (by decide +kernel), List.mem_of_getElem? (i := 860) (by decide +kernel), List.mem_of_getElem? (i := 861) (by decide +kernel)⟩
theorem lw_p23 : lw_okq (⟨"CombCylinder", "pinsOnSheet", "(ILCombCylinder$Sheet;)I"⟩, 9) := ⟨⟨by decide +kernel, by decide +kernel⟩, List.mem_of_getElem? (i := 24) (by decide +kernel), List.mem_of_getElem? (i := 877) (by decide +kernel), List.mem_of_getElem? (i := 878) (by decide +kernel)⟩
def lw_privs_2 : List (MethodName × Nat) := [(⟨"CombCylinder$Drum", "rankInTurn", "(LCombCylinder$Pin;)I"⟩, 7), (⟨"CombCylinder", "findTunings", "()V"⟩, 9), (⟨"CombCylinder$Tuner", "fits", "(ILCombCylinder$Drum;[LCombCylinder$Sheet;)Z"⟩, 7), (⟨"CombCylinder$Tuner", "howOften", "(LCombCylinder$Pin;LCombCylinder$Drum;)I"⟩, 7), (⟨"CombCylinder$Tuner", "findChoices", "(ILCombCylinder$Drum;[LCombCylinder$Sheet;)V"⟩, 7), (⟨"CombCylinder$Tuner", "keepTuning", "()V"⟩, 7), (⟨"CombCylinder$Tuner", "isTakenAhead", "(I)Z"⟩, 7), (⟨"CombCylinder", "pinsOnSheet", "(ILCombCylinder$Sheet;)I"⟩, 9)]
theorem lw_r2 : ∀ q ∈ lw_privs_2, lw_okq q := List.forall_mem_cons.mpr ⟨lw_p16, List.forall_mem_cons.mpr ⟨lw_p17, List.forall_mem_cons.mpr ⟨lw_p18, List.forall_mem_cons.mpr ⟨lw_p19, List.forall_mem_cons.mpr ⟨lw_p20, List.forall_mem_cons.mpr ⟨lw_p21, List.forall_mem_cons.mpr ⟨lw_p22, List.forall_mem_cons.mpr ⟨lw_p23, fun _ h => absurd h List.not_mem_nil⟩⟩⟩⟩⟩⟩⟩⟩
def lw_privs : List (MethodName × Nat) := lw_privs_1 ++ (lw_privs_2)
def lw_tbl : List Cond := k2_sels lw_privs ++ tables_1
theorem lw_privs_ok : ∀ q ∈ lw_privs, lw_okq q := by
  show ∀ q ∈ lw_privs_1 ++ (lw_privs_2), lw_okq q
  exact List.forall_mem_append.mpr ⟨lw_r1, lw_r2⟩
/-- the streams that the claim lets the run draw from -/
abbrev lw_cs : List Choice := [Jvm.Choice.named "NaN.bits"]
theorem lw_bits : nanBits ∈ lw_cs := by first | decide | exact List.mem_cons_self | simp [lw_cs, nanBits]
-- ===== end of PART A; then your names; then what follows =====
/-! ===== BEGIN words of one list among another's, by their places ===== -/
theorem goodIn_r {big : List Cond} (ws : List Cond) (ps : List Nat) (hp : ws = ps.filterMap (fun i => big[i]?)) (h : ws.all goodWord = true) : GoodIn big ws := by
  intro w hw
  have h1 := List.all_eq_true.mp h w hw
  rw [hp] at hw
  obtain ⟨i, -, hi⟩ := List.mem_filterMap.mp hw
  have hm : w ∈ big := by first | exact List.mem_of_getElem? hi | exact List.getElem?_mem hi
  exact ⟨hm, good_of_word h1⟩
theorem goodIn_app {big a b : List Cond} (ha : GoodIn big a) (hb : GoodIn big b) : GoodIn big (a ++ b) := fun w h => (List.mem_append.mp h).elim (ha w) (hb w)
theorem goodIn_ca {big a b : List Cond} {c : Cond} (ha : GoodIn big (c :: a)) (hb : GoodIn big b) : GoodIn big (c :: (a ++ b)) := fun w h => (List.mem_cons.mp h).elim (fun e => ha w (List.mem_cons.mpr (Or.inl e))) (fun h => (List.mem_append.mp h).elim (fun h => ha w (List.mem_cons.mpr (Or.inr h))) (hb w))
theorem goodIn_sub {big ws : List Cond} (hm : ∀ w ∈ ws, w ∈ big) (h : ws.all goodWord = true) : GoodIn big ws := fun w hw => ⟨hm w hw, good_of_word (List.all_eq_true.mp h w hw)⟩
/-! ===== END ===== -/

/-! ===== BEGIN exceptions that leave a method, and their catching by the caller (launches without stack traces) ===== -/
section VXA
/-! The laws vx_back, vx_callV, vx_callS, vx_callSW, vx_throw0, vx_throwS follow proofs of the library, with one case more: JvmDerived/Free/Laws.lean (Back.of_free), Shelf42/LK1.lean (callV, callS), Shelf/KitTraced.lean (throwNew0V, throwNewS). -/
/-- where a method has thrown q: the class by its name, the cell, what was written, the world -/
def vx_T (XC : String → State → State → Prop) (st : State) (q : Addr) (t : State) (mc ms : Nat) (free : Addr → Prop) : Prop :=
  ∃ (E : String) (ce : Cell) (L : List Loc), XC E st t ∧ t.heap[q]? = some ce ∧ ce.vm = .none ∧ st.vm.findClass E = some ce.cls ∧ st.WarmedH t.vm ∧ st.sameButNew ({ t with vm := st.vm } : State) L mc ms ∧ ∀ z ∈ L, free z.base
def vx_Q (Qc : Array Value → State → Outcome → State → Prop) (XC : String → State → State → Prop) (mc ms : Nat) (free : Addr → Prop) : Array Value → State → Outcome → State → Prop := fun a st o t =>
  (Qc a st o t ∧ ∃ L, FrameEnd st o t L mc ms ∧ ∀ q ∈ L, free q.base) ∨ ∃ q, o = .threw q ∧ vx_T XC st q t mc ms free
/-- a callee that returns or throws -/
def vx_Met (l : Launch) (y : MethodName) (ws : List Cond) (rm : Room) (Pc : Array Value → State → Prop) (Qc : Array Value → State → Outcome → State → Prop) (XC : String → State → State → Prop) (mc ms : Nat) (free : Addr → Prop) : Prop :=
  MetFree l y (headSpec ws rm) Pc (fun _ _ _ _ _ => True) (vx_Q Qc XC mc ms free)
def vx_Post (XC : String → State → State → Prop) (mc ms : Nat) (free : Addr → Prop) : Pt → Array Value → Addr → Pt → Prop := fun A a q B =>
  ∃ (g : JFrame) (mk : MethodId) (t : State) (L : List Loc) (E : String) (ce : Cell), B.U.heap = t.heap ∧ B.U.vm = t.vm ∧ XC E (A.U.calling g mk a) t ∧ t.heap[q]? = some ce ∧ ce.vm = .none ∧ A.U.vm.findClass E = some ce.cls ∧ B.locs = A.locs ++ L ∧ (∀ z ∈ L, free z.base) ∧ B.cells = A.cells + mc ∧ B.slots = A.slots + ms
def vx_Back (l : Launch) (R : Room) (p : Program) (e : Env) (below : List Frame) (s : State) (sargs : Array Value) (y : MethodName) (len W9 : Nat)
    (Pre : Pt → Array Value → Prop) (Post : Pt → Array Value → Option Value → Pt → Prop) (PostX : Pt → Array Value → Addr → Pt → Prop) : Prop :=
  ∀ (m : MethodId) (meth : Method) (c : Code) (A : Pt) (g : JFrame) (ig : Instr) (mk : MethodId) (a : Array Value),
    Stand p l e R s m sargs below meth c A.U A.locs A.cells A.slots → g.method = m → g.locals.size = c.maxLocals → decode c.code g.pc = .ok (ig, len) →
    2 * g.monitorRoom + (g.stack.map fun v => v.category).sum ≤ W9 → A.U.methodNamed? y = some mk → Pre A a →
    (∃ (v : Option Value) (B : Pt), Stand p l e R s m sargs below meth c B.U B.locs B.cells B.slots ∧ Post A a v B ∧
      Steps p.tables e below (doInvoke e (A.U.setTop g) [] mk a).1 (B.U.setTop { g with pc := g.pc + len, stack := v.toList ++ g.stack })) ∨
    (∃ (q : Addr) (B : Pt), Stand p l e R s m sargs below meth c B.U B.locs B.cells B.slots ∧ PostX A a q B ∧
      Steps p.tables e below (doInvoke e (A.U.setTop g) [] mk a).1 ((B.U.setTop g).pushFrame (.throwing q)))
section Payer
variable {l : Launch} {R : Room} {p : Program} {e : Env} {below : List Frame} {s : State} {sargs : Array Value} {y : MethodName} {len W9 : Nat}
theorem vx_back {ws : List Cond} {rm : Room} {Pc : Array Value → State → Prop} {Qc : Array Value → State → Outcome → State → Prop} {XC : String → State → State → Prop} {mc ms : Nat} {free : Addr → Prop} {bytes : ByteArray} {maxL : Nat} {ret : Option FieldType}
    (hM : vx_Met l y ws rm Pc Qc XC mc ms free) (hblind : FrameBlind Pc) (hrc : rm.cells = mc) (hrs : rm.slots = ms)
    (hframes : rm.frames + 1 ≤ R.frames) (hlocals : W9 + (maxL + 11) + rm.locals ≤ R.locals)
    (hws : ∀ w ∈ ws, ∀ a' U, s.WarmedH U.vm → w.before a' U = true) (hcode : Cond.code y bytes maxL ret ∈ ws) (hinit : ∀ a' U, s.WarmedH U.vm → (Cond.initialized y.cls).before a' U = true) :
    vx_Back l R p e below s sargs y len W9 (PreOf R mc ms Pc) (PostOf Qc mc ms free) (vx_Post XC mc ms free) := by
  intro m meth c A g ig mk a X hg hsize hdg hW hn hp
  have h1 : (headSpec ws rm).pre.before a A.U = true := atoms_intro fun w hw => hws w hw _ _ X.warmed
  have h2 : (Cond.code y bytes maxL ret).before a A.U = true := hws _ hcode _ _ X.warmed
  have h3 : (Cond.initialized y.cls).before a A.U = true := hinit _ _ X.warmed
  have h4 : A.cells + (headSpec ws rm).room.cells ≤ R.cells := by rw [show (headSpec ws rm).room.cells = mc from hrc]; exact hp.1
  have h5 : A.slots + (headSpec ws rm).room.slots ≤ R.slots := by rw [show (headSpec ws rm).room.slots = ms from hrs]; exact hp.2.1
  have hPc : Pc a (A.U.calling g mk a) := hblind _ _ _ _ hp.2.2
  obtain ⟨U, Ls, c0, s0⟩ := A
  dsimp only [Pt.U, Pt.locs, Pt.cells, Pt.slots] at h1 h2 h3 h4 h5 X hn hPc ⊢
  obtain ⟨methY, cY, hmY, hcY, -, hlY, -, -, -, -⟩ := Cond.code_spec hn h2
  obtain ⟨kY, hkY, -⟩ := className_of_methodNamed hn
  have hinitY : kY.init = .initialized := Cond.initialized_spec (findClass_of_methodNamed hn) hkY h3
  have h : At U g.method c below := by rw [hg]; exact X.here
  have hlocals9 : W9 + (maxL + 11) + (headSpec ws rm).room.locals ≤ R.locals := hlocals
  have happ : (headSpec ws rm).appliesLoose y e.platform (U.calling g mk a) = true :=
    Spec.appliesLoose_calling (g := g) h hdg hn hkY hinitY
      (X.room_calling (g := g) (R' := (headSpec ws rm).room) hsize hmY hcY hframes (by rw [hlY]; omega) h4 h5) h1
  obtain ⟨mid, hmid⟩ := h.above
  have hfr : (U.setTop g).frames = (.java g :: mid) ++ below := by rw [State.frames_setTop' g h.top, hmid]; rfl
  obtain ⟨o, s₂, hsteps, -, hend, hq⟩ := Steps.callFree hM p X.admits X.cas X.clock (acts := []) hfr happ hPc trivial
  have hq' : vx_Q Qc XC mc ms free a (U.calling g mk a) o s₂ := hq
  rw [State.frames_setTop' g h.top] at hend
  obtain ⟨g₀, hg0⟩ := Option.isSome_iff_exists.mp h.top
  obtain ⟨r, hr⟩ := State.topJava?_eq_some.mp hg0
  have hr' : (({ U with heap := s₂.heap, slotsUsed := s₂.slotsUsed } : State).setVm s₂.vm).frames = .java g₀ :: r := hr
  rcases hq' with ⟨hqc, L, hfe, hL⟩ | ⟨q, rfl, E, ce, L, hx, hce, hcv, hcl, hW₂, hsm, hL⟩
  · obtain ⟨⟨v, rfl⟩, hW₂, e2, q2, q3, q4, q5, q6⟩ := id hfe
    have e3 : s₂ = ({ (U.calling g mk a).setFrames s₂.frames with heap := s₂.heap, slotsUsed := s₂.slotsUsed } : State).setVm s₂.vm := by
      have : s₂ = ({ s₂ with vm := (U.calling g mk a).vm } : State).setVm s₂.vm := rfl
      rw [e2] at this
      exact this
    obtain ⟨c₂, i₂, len₂, hc₂, hd₂, hf₂⟩ := hend
    have hW' : U.WarmedH s₂.vm := hW₂
    have hcc : c₂ = c := by
      have h1 : s₂.code? g.method = U.code? g.method := by
        rw [State.code?_eq, State.code?_eq, hW'.alike.method?]
      exact Option.some.inj (hc₂.symm.trans (h1.trans h.code))
    subst hcc
    have hlen : len₂ = len := by rw [hdg] at hd₂; cases hd₂; rfl
    subst hlen
    have hs₂ : s₂ = (({ U with heap := s₂.heap, slotsUsed := s₂.slotsUsed } : State).setVm s₂.vm).setTop { g with pc := g.pc + len₂, stack := v.toList ++ g.stack } := by
      refine e3.trans ?_
      rw [hf₂, State.calling_eq h.top, State.setFrames_setFrames, State.setTop_of_frames _ hr', hr]
      rfl
    have hsame : U.sameButNew ({ U with heap := s₂.heap, slotsUsed := s₂.slotsUsed } : State) L mc ms := by
      refine ⟨?_, q2, q3, q4, q5, q6⟩
      obtain ⟨t, ht, -⟩ := State.frames_cons hr
      show ({ U with heap := s₂.heap, slotsUsed := s₂.slotsUsed } : State) = { U.setFrames U.frames with heap := s₂.heap, slotsUsed := s₂.slotsUsed }
      rw [State.setFrames_self ht]
    subst hg
    refine Or.inl ⟨v, ⟨(({ U with heap := s₂.heap, slotsUsed := s₂.slotsUsed } : State).setVm s₂.vm), Ls ++ L, c0 + mc, s0 + ms⟩,
      ⟨X.admits, X.cas, X.clock, X.frames, X.room, X.hears, X.method, X.code, (X.here.setHeapUsed s₂.heap s₂.slotsUsed).setVm hW'.alike, X.tail, State.WarmedH.trans X.warmed hW', X.limits, X.bytes, X.same.trans (hsame.setVm s.vm)⟩,
      ⟨g, mk, s₂, L, rfl, rfl, hqc, rfl, hL, rfl, rfl⟩, ?_⟩
    show Steps p.tables e below _ ((({ U with heap := s₂.heap, slotsUsed := s₂.slotsUsed } : State).setVm s₂.vm).setTop { g with pc := g.pc + len₂, stack := v.toList ++ g.stack })
    rw [← hs₂]
    exact hsteps
  · obtain ⟨e2, q2, q3, q4, q5, q6⟩ := id hsm
    have e3 : s₂ = ({ (U.calling g mk a).setFrames s₂.frames with heap := s₂.heap, slotsUsed := s₂.slotsUsed } : State).setVm s₂.vm := by
      have : s₂ = ({ s₂ with vm := (U.calling g mk a).vm } : State).setVm s₂.vm := rfl
      rw [e2] at this
      exact this
    have hf₂ : s₂.frames = .throwing q :: .java g :: U.frames.tail := hend
    have hW' : U.WarmedH s₂.vm := hW₂
    have hs₂ : s₂ = ((({ U with heap := s₂.heap, slotsUsed := s₂.slotsUsed } : State).setVm s₂.vm).setTop g).pushFrame (.throwing q) := by
      refine e3.trans ?_
      rw [hf₂, State.calling_eq h.top, State.setFrames_setFrames, State.pushFrame, State.frames_setTop _ hr', State.setTop_of_frames _ hr', State.setFrames_setFrames, hr]
      rfl
    have hsame : U.sameButNew ({ U with heap := s₂.heap, slotsUsed := s₂.slotsUsed } : State) L mc ms := by
      refine ⟨?_, q2, q3, q4, q5, q6⟩
      obtain ⟨t, ht, -⟩ := State.frames_cons hr
      show ({ U with heap := s₂.heap, slotsUsed := s₂.slotsUsed } : State) = { U.setFrames U.frames with heap := s₂.heap, slotsUsed := s₂.slotsUsed }
      rw [State.setFrames_self ht]
    subst hg
    refine Or.inr ⟨q, ⟨(({ U with heap := s₂.heap, slotsUsed := s₂.slotsUsed } : State).setVm s₂.vm), Ls ++ L, c0 + mc, s0 + ms⟩,
      ⟨X.admits, X.cas, X.clock, X.frames, X.room, X.hears, X.method, X.code, (X.here.setHeapUsed s₂.heap s₂.slotsUsed).setVm hW'.alike, X.tail, State.WarmedH.trans X.warmed hW', X.limits, X.bytes, X.same.trans (hsame.setVm s.vm)⟩,
      ⟨g, mk, s₂, L, E, ce, rfl, rfl, hx, hce, hcv, hcl, rfl, hL, rfl, rfl⟩, ?_⟩
    show Steps p.tables e below _ (((({ U with heap := s₂.heap, slotsUsed := s₂.slotsUsed } : State).setVm s₂.vm).setTop g).pushFrame (.throwing q))
    rw [← hs₂]
    exact hsteps
end Payer
section Calls
variable {p : Program} {l : Launch} {e : Env} {R : Room} {s : State} {m : MethodId} {args : Array Value} {below : List Frame} {meth : Method} {c : Code} {T : State} {locs : List Loc} {cells slots : Nat}
theorem vx_callV (X : Stand p l e R s m args below meth c T locs cells slots) (hexec : p.tables.exec = Jvm.exec) {own C : String} {index : Nat} {y : MethodName} {bytes : ByteArray} {maxL : Nat} {ret : Option FieldType}
    (hown : s.vm.findClass own = some m.cls) (hlink : (Cond.methodLink own index y).before args s = true) (hinst : (Cond.instanceMethod y).before args s = true) (hsel : (Cond.selects C y y).before args s = true)
    (hcode : (Cond.code y bytes maxL ret).before args s = true) (hy : y.cls ≠ "java/lang/invoke/MethodHandle" ∧ y.cls ≠ "java/lang/invoke/VarHandle")
    {W9 : Nat} {Pre : Pt → Array Value → Prop} {Post : Pt → Array Value → Option Value → Pt → Prop} {PostX : Pt → Array Value → Addr → Pt → Prop} (hK : vx_Back l R p e below s args y 3 W9 Pre Post PostX)
    {b : Addr} {cellB : Cell} (hcell : T.heap[b]? = some cellB) (hobj : cellB.vm.isStatics = false) (hcls : s.vm.findClass C = some cellB.cls)
    {g : JFrame} (hg : g.method = m) (hsize : g.locals.size = c.maxLocals) {argsL rest : List Value} (hlen : ∀ sig, parseMethodDescriptor y.desc = some sig → argsL.length = sig.parameters.length)
    (hstack : g.stack = argsL.reverse ++ .ref b :: rest) (hW : 2 * g.monitorRoom + (rest.map fun v => v.category).sum ≤ W9) (hdg : decode c.code g.pc = .ok (.invokevirtual index, 3))
    (hpre : ∀ vm₁, s.WarmedH vm₁ → Pre ⟨T.setVm vm₁, locs, cells, slots⟩ (Value.ref b :: argsL).toArray) :
    (∃ (v : Option Value) (vm₁ : Vm) (B : Pt), s.WarmedH vm₁ ∧ Stand p l e R s m args below meth c B.U B.locs B.cells B.slots ∧ Post ⟨T.setVm vm₁, locs, cells, slots⟩ (Value.ref b :: argsL).toArray v B ∧
      ∀ target, Steps p.tables e below (B.U.setTop { g with pc := g.pc + 3, stack := v.toList ++ rest }) target → Steps p.tables e below (T.setTop g) target) ∨
    (∃ (q : Addr) (vm₁ : Vm) (B : Pt), s.WarmedH vm₁ ∧ Stand p l e R s m args below meth c B.U B.locs B.cells B.slots ∧ PostX ⟨T.setVm vm₁, locs, cells, slots⟩ (Value.ref b :: argsL).toArray q B ∧
      Steps p.tables e below (T.setTop g) ((B.U.setTop { g with stack := rest }).pushFrame (.throwing q))) := by
  obtain ⟨mk, methM, hnamed, hmethM, hstM, habM⟩ := Cond.instanceMethod_spec hinst
  obtain ⟨methM', cM, hmethM', -, -, -, -, -, -, hsigM⟩ := Cond.code_spec hnamed hcode
  cases hmethM.symm.trans hmethM'
  obtain ⟨c2, r2, m2, q1, q2, q3, q4, kP, hkP, hkPi⟩ := Cond.selects_spec hsel
  cases hcls.symm.trans q1
  cases (State.methodFound?_of_named hnamed hy).symm.trans q2
  cases hnamed.symm.trans q3
  have hselP : selectMethod e.platform s.vm cellB.cls mk = .method mk := by rw [Launch.admits_selectMethod X.admits]; exact q4
  obtain ⟨vm₁, X₁, hstep₁⟩ := X.invokevirtual hexec hown hlink hnamed hmethM hstM hkP hkPi hy (a := b) (cell := cellB) hcell
    (fun z h => by rw [h] at hobj; cases hobj) hselP hmethM habM hkP hkPi (g := g) hg (argsL := argsL) (rest := rest) (hlen _ hsigM) hstack hdg
  rcases hK m meth c ⟨T.setVm vm₁, locs, cells, slots⟩ { g with stack := rest } (.invokevirtual index) mk (Value.ref b :: argsL).toArray X₁ hg hsize hdg hW (X₁.named hnamed) (hpre vm₁ X₁.warmed) with ⟨v, B, X', hpost, hsteps⟩ | ⟨q, B, X', hpost, hsteps⟩
  · exact Or.inl ⟨v, vm₁, B, X₁.warmed, X', hpost, fun target h => hstep₁ _ fun acts => by rw [doInvoke_state]; exact hsteps.trans h⟩
  · exact Or.inr ⟨q, vm₁, B, X₁.warmed, X', hpost, hstep₁ _ fun acts => by rw [doInvoke_state]; exact hsteps⟩
theorem vx_callS (X : Stand p l e R s m args below meth c T locs cells slots) (hexec : p.tables.exec = Jvm.exec) {own : String} {index : Nat} {y : MethodName} {bytes : ByteArray} {maxL : Nat} {ret : Option FieldType}
    (hown : s.vm.findClass own = some m.cls) (hlink : (Cond.methodLink own index y).before args s = true) (hstat : (Cond.static y).before args s = true) (hinit : (Cond.initialized y.cls).before args s = true)
    (hcode : (Cond.code y bytes maxL ret).before args s = true) (hy : y.cls ≠ "java/lang/invoke/MethodHandle" ∧ y.cls ≠ "java/lang/invoke/VarHandle")
    {W9 : Nat} {Pre : Pt → Array Value → Prop} {Post : Pt → Array Value → Option Value → Pt → Prop} {PostX : Pt → Array Value → Addr → Pt → Prop} (hK : vx_Back l R p e below s args y 3 W9 Pre Post PostX)
    {g : JFrame} (hg : g.method = m) (hsize : g.locals.size = c.maxLocals) {argsL rest : List Value} (hlen : ∀ sig, parseMethodDescriptor y.desc = some sig → argsL.length = sig.parameters.length)
    (hstack : g.stack = argsL.reverse ++ rest) (hW : 2 * g.monitorRoom + (rest.map fun v => v.category).sum ≤ W9) (hdg : decode c.code g.pc = .ok (.invokestatic index, 3))
    (hpre : ∀ vm₁, s.WarmedH vm₁ → Pre ⟨T.setVm vm₁, locs, cells, slots⟩ argsL.toArray) :
    (∃ (v : Option Value) (vm₁ : Vm) (B : Pt), s.WarmedH vm₁ ∧ Stand p l e R s m args below meth c B.U B.locs B.cells B.slots ∧ Post ⟨T.setVm vm₁, locs, cells, slots⟩ argsL.toArray v B ∧
      ∀ target, Steps p.tables e below (B.U.setTop { g with pc := g.pc + 3, stack := v.toList ++ rest }) target → Steps p.tables e below (T.setTop g) target) ∨
    (∃ (q : Addr) (vm₁ : Vm) (B : Pt), s.WarmedH vm₁ ∧ Stand p l e R s m args below meth c B.U B.locs B.cells B.slots ∧ PostX ⟨T.setVm vm₁, locs, cells, slots⟩ argsL.toArray q B ∧
      Steps p.tables e below (T.setTop g) ((B.U.setTop { g with stack := rest }).pushFrame (.throwing q))) := by
  obtain ⟨mk, hnamed⟩ := Cond.code_named hcode
  obtain ⟨methM, cM, hmethM, -, -, -, -, -, -, hsigM⟩ := Cond.code_spec hnamed hcode
  have hstatic : methM.isStatic = true := Cond.static_spec hnamed hmethM hstat
  obtain ⟨kP, hkP, -⟩ := className_of_methodNamed hnamed
  have hinitP : kP.init = .initialized := Cond.initialized_spec (findClass_of_methodNamed hnamed) hkP hinit
  obtain ⟨vm₁, X₁, hstep₁⟩ := X.invokestatic hexec hown hlink hnamed hmethM hstatic hkP hinitP hy (g := g) hg (argsL := argsL) (rest := rest) (hlen _ hsigM) hstack hdg
  rcases hK m meth c ⟨T.setVm vm₁, locs, cells, slots⟩ { g with stack := rest } (.invokestatic index) mk argsL.toArray X₁ hg hsize hdg hW (X₁.named hnamed) (hpre vm₁ X₁.warmed) with ⟨v, B, X', hpost, hsteps⟩ | ⟨q, B, X', hpost, hsteps⟩
  · exact Or.inl ⟨v, vm₁, B, X₁.warmed, X', hpost, fun target h => hstep₁ _ fun acts => by rw [doInvoke_state]; exact hsteps.trans h⟩
  · exact Or.inr ⟨q, vm₁, B, X₁.warmed, X', hpost, hstep₁ _ fun acts => by rw [doInvoke_state]; exact hsteps⟩
end Calls
theorem vx_cls {s : State} {T : State} {vm₁ : Vm} {E : String} {k : ClassId} (hW : s.WarmedH vm₁) (h : (T.setVm vm₁).vm.findClass E = some k) : s.vm.findClass E = some k := by
  have h1 : vm₁.findClass E = some k := h
  rw [hW.alike.findClass] at h1
  exact h1
/-- the method's frame g, with q thrown over it -/
def vx_W (p : Program) (l : Launch) (e : Env) (R : Room) (s : State) (m : MethodId) (args : Array Value) (below : List Frame) (meth : Method) (c : Code) (H : Heap) (locs : List Loc) (cells slots : Nat) (Q : State → Prop) (g : JFrame) (q : Addr) : Prop :=
  ∀ T : State, T.heap = H → Stand p l e R s m args below meth c T locs cells slots → ∃ t, Steps p.tables e below ((T.setTop g).pushFrame (.throwing q)) t ∧ Q t
def vx_Run (p : Program) (l : Launch) (e : Env) (R : Room) (s : State) (m : MethodId) (args : Array Value) (below : List Frame) (meth : Method) (c : Code) (H : Heap) (locs : List Loc) (cells slots mc ms : Nat) (g : JFrame) (rest : List Value) (Qa : State → Outcome → State → Prop) (XC : String → State → State → Prop) (free : Addr → Prop) : Prop :=
  ∀ T : State, T.heap = H → Stand p l e R s m args below meth c T locs cells slots →
    (∃ (v : Option Value) (st₀ t T' : State) (L : List Loc), st₀.heap = H ∧ Stand p l e R s m args below meth c T' (locs ++ L) (cells + mc) (slots + ms) ∧ (∀ q ∈ L, free q.base) ∧ T'.heap = t.heap ∧ T'.vm = t.vm ∧ Qa st₀ (.returned v) t ∧
      Goes p e below T g T' { g with pc := g.pc + 3, stack := v.toList ++ rest }) ∨
    (∃ (q : Addr) (st₀ t T' : State) (L : List Loc) (E : String) (ce : Cell), st₀.heap = H ∧ Stand p l e R s m args below meth c T' (locs ++ L) (cells + mc) (slots + ms) ∧ (∀ z ∈ L, free z.base) ∧ T'.heap = t.heap ∧ T'.vm = t.vm ∧ XC E st₀ t ∧ t.heap[q]? = some ce ∧ ce.vm = .none ∧ s.vm.findClass E = some ce.cls ∧
      Steps p.tables e below (T.setTop g) ((T'.setTop { g with stack := rest }).pushFrame (.throwing q)))
def vx_X {S : Type} (px : S → Prop) (B : String → S → State → Prop) (A : Nat → Prop) : String → State → State → Prop := fun E st t => ∃ u : S, px u ∧ B E u t ∧ va_F A st t
section Runs
variable {p : Program} {l : Launch} {e : Env} {R : Room} {s : State} {m : MethodId} {args : Array Value} {below : List Frame} {meth : Method} {c : Code} {H : Heap} {locs : List Loc} {cells slots : Nat}
variable {y : MethodName} {bytes cc : ByteArray} {maxL nL mc ms n index : Nat} {ret : Option FieldType} {ws : List Cond} {rm : Room} {Pc : Array Value → State → Prop} {Qc : Array Value → State → Outcome → State → Prop} {XC : String → State → State → Prop} {free : Addr → Prop} {Ts : List Cond} {own C : String} {b : Addr} {As rest : List Value} {g : JFrame}
theorem vx_callBack (cb : CallB R s args own index y bytes maxL ret ws rm mc ms n) (hM : vx_Met l y ws rm Pc Qc XC mc ms free) (hbl : FrameBlind Pc) : vx_Back l R p e below s args y 3 8 (PreOf R mc ms Pc) (PostOf Qc mc ms free) (vx_Post XC mc ms free) := by
  obtain ⟨hrc, hrs, hfr, hlo, hws, hcw, -, hini, -⟩ := cb
  exact vx_back (bytes := bytes) (maxL := maxL) (ret := ret) hM hbl hrc hrs hfr hlo hws hcw (fun a' U hW => word_at hW (Or.inl (by first | rfl | simp [Cond.onTables, Cond.keeps, Cond.steady])) hini)
theorem vx_runV (S : CallFix p m c cc nL s args Ts own) (hM : vx_Met l y ws rm Pc Qc XC mc ms free) (cw : CallW R s args own C index y bytes maxL ret ws rm mc ms n) (hp : PreV s H C b Pc As)
    (hg : g.method = m) (hn : As.length = n) (hsize : g.locals.size = nL) (hstack : g.stack = As.reverse ++ .ref b :: rest) (hW : 2 * g.monitorRoom + (rest.map fun v => v.category).sum ≤ 8) (hdg : decode cc g.pc = .ok (.invokevirtual index, 3)) (hf : cells + mc ≤ R.cells ∧ slots + ms ≤ R.slots) :
    vx_Run p l e R s m args below meth c H locs cells slots mc ms g rest (Qc (Value.ref b :: As).toArray) XC free := by
  have hK : vx_Back l R p e below s args y 3 8 (PreOf R mc ms Pc) (PostOf Qc mc ms free) (vx_Post XC mc ms free) := vx_callBack cw.1 hM hp.1
  obtain ⟨⟨-, -, -, -, -, -, hcode, -, hy, hlen, hl⟩, hin, hse⟩ := cw
  obtain ⟨hx, hb, hml, ho, -⟩ := S
  obtain ⟨-, ⟨cellB, hcB, hoB, hclB⟩, hPc⟩ := hp
  intro T hT X
  rcases vx_callV X hx (C := C) (bytes := bytes) (maxL := maxL) (ret := ret) ho hl hin hse hcode hy hK (by rw [hT]; exact hcB) hoB hclB hg (hsize.trans hml.symm) (argsL := As) (rest := rest) (fun sig h => hn.trans (hlen sig h)) hstack hW (by rw [hb]; exact hdg)
    (fun vm₁ hW₁ => ⟨hf.1, hf.2, hPc (T.setVm vm₁) hT hW₁⟩) with ⟨v, vm₁, ⟨U', l2, c2, s2⟩, hW₁, X', ⟨g', mk, t, L, e1, e2, hq, h1, hL, h2, h3⟩, st⟩ | ⟨q, vm₁, ⟨U', l2, c2, s2⟩, hW₁, X', ⟨g', mk, t, L, E, ce, e1, e2, hq, hce, hcv, hcl, h1, hL, h2, h3⟩, st⟩
  · dsimp only [Pt.U, Pt.locs, Pt.cells, Pt.slots] at X' e1 e2 h1 h2 h3 st
    subst h1; subst h2; subst h3
    exact Or.inl ⟨v, (T.setVm vm₁).calling g' mk (Value.ref b :: As).toArray, t, U', L, hT, X', hL, e1, e2, hq, st⟩
  · dsimp only [Pt.U, Pt.locs, Pt.cells, Pt.slots] at X' e1 e2 h1 h2 h3 st hcl
    subst h1; subst h2; subst h3
    exact Or.inr ⟨q, (T.setVm vm₁).calling g' mk (Value.ref b :: As).toArray, t, U', L, E, ce, hT, X', hL, e1, e2, hq, hce, hcv, vx_cls hW₁ hcl, st⟩
theorem vx_runS (S : CallFix p m c cc nL s args Ts own) (hM : vx_Met l y ws rm Pc Qc XC mc ms free) (cw : CallB R s args own index y bytes maxL ret ws rm mc ms n ∧ (Cond.static y).before args s = true) (hp : PreS s H Pc As)
    (hg : g.method = m) (hn : As.length = n) (hsize : g.locals.size = nL) (hstack : g.stack = As.reverse ++ rest) (hW : 2 * g.monitorRoom + (rest.map fun v => v.category).sum ≤ 8) (hdg : decode cc g.pc = .ok (.invokestatic index, 3)) (hf : cells + mc ≤ R.cells ∧ slots + ms ≤ R.slots) :
    vx_Run p l e R s m args below meth c H locs cells slots mc ms g rest (Qc As.toArray) XC free := by
  have hK : vx_Back l R p e below s args y 3 8 (PreOf R mc ms Pc) (PostOf Qc mc ms free) (vx_Post XC mc ms free) := vx_callBack cw.1 hM hp.1
  obtain ⟨⟨-, -, -, -, -, -, hcode, hini, hy, hlen, hl⟩, hstt⟩ := cw
  obtain ⟨hx, hb, hml, ho, -⟩ := S
  intro T hT X
  rcases vx_callS X hx (bytes := bytes) (maxL := maxL) (ret := ret) ho hl hstt hini hcode hy hK hg (hsize.trans hml.symm) (argsL := As) (rest := rest) (fun sig h => hn.trans (hlen sig h)) hstack hW (by rw [hb]; exact hdg)
    (fun vm₁ hW₁ => ⟨hf.1, hf.2, hp.2 (T.setVm vm₁) hT hW₁⟩) with ⟨v, vm₁, ⟨U', l2, c2, s2⟩, hW₁, X', ⟨g', mk, t, L, e1, e2, hq, h1, hL, h2, h3⟩, st⟩ | ⟨q, vm₁, ⟨U', l2, c2, s2⟩, hW₁, X', ⟨g', mk, t, L, E, ce, e1, e2, hq, hce, hcv, hcl, h1, hL, h2, h3⟩, st⟩
  · dsimp only [Pt.U, Pt.locs, Pt.cells, Pt.slots] at X' e1 e2 h1 h2 h3 st
    subst h1; subst h2; subst h3
    exact Or.inl ⟨v, (T.setVm vm₁).calling g' mk As.toArray, t, U', L, hT, X', hL, e1, e2, hq, st⟩
  · dsimp only [Pt.U, Pt.locs, Pt.cells, Pt.slots] at X' e1 e2 h1 h2 h3 st hcl
    subst h1; subst h2; subst h3
    exact Or.inr ⟨q, (T.setVm vm₁).calling g' mk As.toArray, t, U', L, E, ce, hT, X', hL, e1, e2, hq, hce, hcv, vx_cls hW₁ hcl, st⟩
end Runs
section Rows
variable {p : Program} {l : Launch} {e : Env} {R : Room} {s : State} {m : MethodId} {args : Array Value} {below : List Frame} {meth : Method} {c : Code} {H : Heap} {locs : List Loc} {cells slots : Nat} {Q : State → Prop}
variable {mc ms : Nat} {free : Addr → Prop} {A0 A1 : Nat → Prop} {H0 : Heap} {a : Array Value} {pc : Nat} {ls : Array Slot} {st0 rest : List Value}
theorem vx_keep {st₀ t T' : State} {L : List Loc} (h0 : st₀.heap = H) (e1 : T'.heap = t.heap) (hS : va_S A0 H0 H locs) (hA : ∀ q, q < H.size → A1 q → A0 q) (hf : ∀ q, free q → A0 q) (hL : ∀ q ∈ L, free q.base) (hF : va_F A1 st₀ t) :
    H.size ≤ T'.heap.size ∧ (∀ q : Nat, q < H.size → ¬ A1 q → T'.heap[q]? = H[q]?) ∧ va_S A0 H0 T'.heap (locs ++ L) := by
  obtain ⟨hz, hk⟩ := hF
  rw [h0] at hz hk
  exact ⟨by rw [e1]; exact hz, fun q h1 h2 => by rw [e1]; exact hk q h1 h2,
    ⟨Nat.le_trans hS.1 (by rw [e1]; exact hz), fun q h1 h2 => by rw [e1, hk q (Nat.lt_of_lt_of_le h1 hS.1) (fun z => h2 (hA q (Nat.lt_of_lt_of_le h1 hS.1) z))]; exact hS.2.1 q h1 h2, fun q hq => by
      rcases List.mem_append.mp hq with h | h
      · exact hS.2.2 q h
      · exact hf _ (hL q h)⟩⟩
theorem vx_calli {S SX : Type} {post : Int32 → S → Prop} {px : SX → Prop} {B : S → State → Prop} {BX : String → SX → State → Prop} {AX : Nat → Prop} (hr : vx_Run p l e R s m args below meth c H locs cells slots mc ms (F0 m pc ls st0) rest (va_Qi post B A1 a) (vx_X px BX AX) free) (hS : va_S A0 H0 H locs) (hA : ∀ q, q < H.size → A1 q → A0 q) (hf : ∀ q, free q → A0 q) (hAX : ∀ q, q < H.size → AX q → A0 q)
    (kx : ∀ (E : String) (ce : Cell) (q9 : Addr) (u : SX) (t : State) (H1 : Heap) (locs1 : List Loc), t.heap = H1 → s.vm.Alike t.vm → px u → BX E u t → H.size ≤ H1.size → (∀ q : Nat, q < H.size → ¬ AX q → H1[q]? = H[q]?) → va_S A0 H0 H1 locs1 → H1[q9]? = some ce → ce.vm = .none → s.vm.findClass E = some ce.cls → vx_W p l e R s m args below meth c H1 locs1 (cells + mc) (slots + ms) Q (F0 m pc ls rest) q9)
    (kk : ∀ (r : Int32) (u : S) (t : State) (H1 : Heap) (locs1 : List Loc), t.heap = H1 → s.vm.Alike t.vm → post r u → B u t → H.size ≤ H1.size → (∀ q : Nat, q < H.size → ¬ A1 q → H1[q]? = H[q]?) → va_S A0 H0 H1 locs1 → W p l e R s m args below meth c H1 locs1 (cells + mc) (slots + ms) Q (F0 m (pc + 3) ls (.int r :: rest))) : W p l e R s m args below meth c H locs cells slots Q (F0 m pc ls st0) := by
  intro T hT X
  rcases hr T hT X with ⟨v, st₀, t, T', L, h0, X', hL, e1, e2, ⟨⟨r, u, hv, hp, hb⟩, hF⟩, st⟩ | ⟨q, st₀, t, T', L, E, ce, h0, X', hL, e1, e2, ⟨u, hp, hb, hF⟩, hce, hcv, hcl, st⟩
  · cases hv
    obtain ⟨k1, k2, k3⟩ := vx_keep h0 e1 hS hA hf hL hF
    obtain ⟨t2, a1, b1⟩ := kk r u t T'.heap (locs ++ L) e1.symm (by rw [← e2]; exact X'.warmed.alike) hp hb k1 k2 k3 T' rfl X'
    exact ⟨t2, st t2 a1, b1⟩
  · obtain ⟨k1, k2, k3⟩ := vx_keep h0 e1 hS hAX hf hL hF
    obtain ⟨t2, a1, b1⟩ := kx E ce q u t T'.heap (locs ++ L) e1.symm (by rw [← e2]; exact X'.warmed.alike) hp hb k1 k2 k3 (by rw [e1]; exact hce) hcv hcl T' rfl X'
    exact ⟨t2, st.trans a1, b1⟩
theorem vx_calll {S SX : Type} {post : Int64 → S → Prop} {px : SX → Prop} {B : S → State → Prop} {BX : String → SX → State → Prop} {AX : Nat → Prop} (hr : vx_Run p l e R s m args below meth c H locs cells slots mc ms (F0 m pc ls st0) rest (va_Ql post B A1 a) (vx_X px BX AX) free) (hS : va_S A0 H0 H locs) (hA : ∀ q, q < H.size → A1 q → A0 q) (hf : ∀ q, free q → A0 q) (hAX : ∀ q, q < H.size → AX q → A0 q)
    (kx : ∀ (E : String) (ce : Cell) (q9 : Addr) (u : SX) (t : State) (H1 : Heap) (locs1 : List Loc), t.heap = H1 → s.vm.Alike t.vm → px u → BX E u t → H.size ≤ H1.size → (∀ q : Nat, q < H.size → ¬ AX q → H1[q]? = H[q]?) → va_S A0 H0 H1 locs1 → H1[q9]? = some ce → ce.vm = .none → s.vm.findClass E = some ce.cls → vx_W p l e R s m args below meth c H1 locs1 (cells + mc) (slots + ms) Q (F0 m pc ls rest) q9)
    (kk : ∀ (r : Int64) (u : S) (t : State) (H1 : Heap) (locs1 : List Loc), t.heap = H1 → s.vm.Alike t.vm → post r u → B u t → H.size ≤ H1.size → (∀ q : Nat, q < H.size → ¬ A1 q → H1[q]? = H[q]?) → va_S A0 H0 H1 locs1 → W p l e R s m args below meth c H1 locs1 (cells + mc) (slots + ms) Q (F0 m (pc + 3) ls (.long r :: rest))) : W p l e R s m args below meth c H locs cells slots Q (F0 m pc ls st0) := by
  intro T hT X
  rcases hr T hT X with ⟨v, st₀, t, T', L, h0, X', hL, e1, e2, ⟨⟨r, u, hv, hp, hb⟩, hF⟩, st⟩ | ⟨q, st₀, t, T', L, E, ce, h0, X', hL, e1, e2, ⟨u, hp, hb, hF⟩, hce, hcv, hcl, st⟩
  · cases hv
    obtain ⟨k1, k2, k3⟩ := vx_keep h0 e1 hS hA hf hL hF
    obtain ⟨t2, a1, b1⟩ := kk r u t T'.heap (locs ++ L) e1.symm (by rw [← e2]; exact X'.warmed.alike) hp hb k1 k2 k3 T' rfl X'
    exact ⟨t2, st t2 a1, b1⟩
  · obtain ⟨k1, k2, k3⟩ := vx_keep h0 e1 hS hAX hf hL hF
    obtain ⟨t2, a1, b1⟩ := kx E ce q u t T'.heap (locs ++ L) e1.symm (by rw [← e2]; exact X'.warmed.alike) hp hb k1 k2 k3 (by rw [e1]; exact hce) hcv hcl T' rfl X'
    exact ⟨t2, st.trans a1, b1⟩
theorem vx_callf {S SX : Type} {post : UInt32 → S → Prop} {px : SX → Prop} {B : S → State → Prop} {BX : String → SX → State → Prop} {AX : Nat → Prop} (hr : vx_Run p l e R s m args below meth c H locs cells slots mc ms (F0 m pc ls st0) rest (va_Qf post B A1 a) (vx_X px BX AX) free) (hS : va_S A0 H0 H locs) (hA : ∀ q, q < H.size → A1 q → A0 q) (hf : ∀ q, free q → A0 q) (hAX : ∀ q, q < H.size → AX q → A0 q)
    (kx : ∀ (E : String) (ce : Cell) (q9 : Addr) (u : SX) (t : State) (H1 : Heap) (locs1 : List Loc), t.heap = H1 → s.vm.Alike t.vm → px u → BX E u t → H.size ≤ H1.size → (∀ q : Nat, q < H.size → ¬ AX q → H1[q]? = H[q]?) → va_S A0 H0 H1 locs1 → H1[q9]? = some ce → ce.vm = .none → s.vm.findClass E = some ce.cls → vx_W p l e R s m args below meth c H1 locs1 (cells + mc) (slots + ms) Q (F0 m pc ls rest) q9)
    (kk : ∀ (r : UInt32) (u : S) (t : State) (H1 : Heap) (locs1 : List Loc), t.heap = H1 → s.vm.Alike t.vm → post r u → B u t → H.size ≤ H1.size → (∀ q : Nat, q < H.size → ¬ A1 q → H1[q]? = H[q]?) → va_S A0 H0 H1 locs1 → W p l e R s m args below meth c H1 locs1 (cells + mc) (slots + ms) Q (F0 m (pc + 3) ls (.float r :: rest))) : W p l e R s m args below meth c H locs cells slots Q (F0 m pc ls st0) := by
  intro T hT X
  rcases hr T hT X with ⟨v, st₀, t, T', L, h0, X', hL, e1, e2, ⟨⟨r, u, hv, hp, hb⟩, hF⟩, st⟩ | ⟨q, st₀, t, T', L, E, ce, h0, X', hL, e1, e2, ⟨u, hp, hb, hF⟩, hce, hcv, hcl, st⟩
  · cases hv
    obtain ⟨k1, k2, k3⟩ := vx_keep h0 e1 hS hA hf hL hF
    obtain ⟨t2, a1, b1⟩ := kk r u t T'.heap (locs ++ L) e1.symm (by rw [← e2]; exact X'.warmed.alike) hp hb k1 k2 k3 T' rfl X'
    exact ⟨t2, st t2 a1, b1⟩
  · obtain ⟨k1, k2, k3⟩ := vx_keep h0 e1 hS hAX hf hL hF
    obtain ⟨t2, a1, b1⟩ := kx E ce q u t T'.heap (locs ++ L) e1.symm (by rw [← e2]; exact X'.warmed.alike) hp hb k1 k2 k3 (by rw [e1]; exact hce) hcv hcl T' rfl X'
    exact ⟨t2, st.trans a1, b1⟩
theorem vx_calld {S SX : Type} {post : UInt64 → S → Prop} {px : SX → Prop} {B : S → State → Prop} {BX : String → SX → State → Prop} {AX : Nat → Prop} (hr : vx_Run p l e R s m args below meth c H locs cells slots mc ms (F0 m pc ls st0) rest (va_Qd post B A1 a) (vx_X px BX AX) free) (hS : va_S A0 H0 H locs) (hA : ∀ q, q < H.size → A1 q → A0 q) (hf : ∀ q, free q → A0 q) (hAX : ∀ q, q < H.size → AX q → A0 q)
    (kx : ∀ (E : String) (ce : Cell) (q9 : Addr) (u : SX) (t : State) (H1 : Heap) (locs1 : List Loc), t.heap = H1 → s.vm.Alike t.vm → px u → BX E u t → H.size ≤ H1.size → (∀ q : Nat, q < H.size → ¬ AX q → H1[q]? = H[q]?) → va_S A0 H0 H1 locs1 → H1[q9]? = some ce → ce.vm = .none → s.vm.findClass E = some ce.cls → vx_W p l e R s m args below meth c H1 locs1 (cells + mc) (slots + ms) Q (F0 m pc ls rest) q9)
    (kk : ∀ (r : UInt64) (u : S) (t : State) (H1 : Heap) (locs1 : List Loc), t.heap = H1 → s.vm.Alike t.vm → post r u → B u t → H.size ≤ H1.size → (∀ q : Nat, q < H.size → ¬ A1 q → H1[q]? = H[q]?) → va_S A0 H0 H1 locs1 → W p l e R s m args below meth c H1 locs1 (cells + mc) (slots + ms) Q (F0 m (pc + 3) ls (.double r :: rest))) : W p l e R s m args below meth c H locs cells slots Q (F0 m pc ls st0) := by
  intro T hT X
  rcases hr T hT X with ⟨v, st₀, t, T', L, h0, X', hL, e1, e2, ⟨⟨r, u, hv, hp, hb⟩, hF⟩, st⟩ | ⟨q, st₀, t, T', L, E, ce, h0, X', hL, e1, e2, ⟨u, hp, hb, hF⟩, hce, hcv, hcl, st⟩
  · cases hv
    obtain ⟨k1, k2, k3⟩ := vx_keep h0 e1 hS hA hf hL hF
    obtain ⟨t2, a1, b1⟩ := kk r u t T'.heap (locs ++ L) e1.symm (by rw [← e2]; exact X'.warmed.alike) hp hb k1 k2 k3 T' rfl X'
    exact ⟨t2, st t2 a1, b1⟩
  · obtain ⟨k1, k2, k3⟩ := vx_keep h0 e1 hS hAX hf hL hF
    obtain ⟨t2, a1, b1⟩ := kx E ce q u t T'.heap (locs ++ L) e1.symm (by rw [← e2]; exact X'.warmed.alike) hp hb k1 k2 k3 (by rw [e1]; exact hce) hcv hcl T' rfl X'
    exact ⟨t2, st.trans a1, b1⟩
theorem vx_callv {S SX : Type} {post : S → Prop} {px : SX → Prop} {B : S → State → Prop} {BX : String → SX → State → Prop} {AX : Nat → Prop} (hr : vx_Run p l e R s m args below meth c H locs cells slots mc ms (F0 m pc ls st0) rest (va_Qv post B A1 a) (vx_X px BX AX) free) (hS : va_S A0 H0 H locs) (hA : ∀ q, q < H.size → A1 q → A0 q) (hf : ∀ q, free q → A0 q) (hAX : ∀ q, q < H.size → AX q → A0 q)
    (kx : ∀ (E : String) (ce : Cell) (q9 : Addr) (u : SX) (t : State) (H1 : Heap) (locs1 : List Loc), t.heap = H1 → s.vm.Alike t.vm → px u → BX E u t → H.size ≤ H1.size → (∀ q : Nat, q < H.size → ¬ AX q → H1[q]? = H[q]?) → va_S A0 H0 H1 locs1 → H1[q9]? = some ce → ce.vm = .none → s.vm.findClass E = some ce.cls → vx_W p l e R s m args below meth c H1 locs1 (cells + mc) (slots + ms) Q (F0 m pc ls rest) q9)
    (kk : ∀ (u : S) (t : State) (H1 : Heap) (locs1 : List Loc), t.heap = H1 → s.vm.Alike t.vm → post u → B u t → H.size ≤ H1.size → (∀ q : Nat, q < H.size → ¬ A1 q → H1[q]? = H[q]?) → va_S A0 H0 H1 locs1 → W p l e R s m args below meth c H1 locs1 (cells + mc) (slots + ms) Q (F0 m (pc + 3) ls (rest))) : W p l e R s m args below meth c H locs cells slots Q (F0 m pc ls st0) := by
  intro T hT X
  rcases hr T hT X with ⟨v, st₀, t, T', L, h0, X', hL, e1, e2, ⟨⟨u, hv, hp, hb⟩, hF⟩, st⟩ | ⟨q, st₀, t, T', L, E, ce, h0, X', hL, e1, e2, ⟨u, hp, hb, hF⟩, hce, hcv, hcl, st⟩
  · cases hv
    obtain ⟨k1, k2, k3⟩ := vx_keep h0 e1 hS hA hf hL hF
    obtain ⟨t2, a1, b1⟩ := kk u t T'.heap (locs ++ L) e1.symm (by rw [← e2]; exact X'.warmed.alike) hp hb k1 k2 k3 T' rfl X'
    exact ⟨t2, st t2 a1, b1⟩
  · obtain ⟨k1, k2, k3⟩ := vx_keep h0 e1 hS hAX hf hL hF
    obtain ⟨t2, a1, b1⟩ := kx E ce q u t T'.heap (locs ++ L) e1.symm (by rw [← e2]; exact X'.warmed.alike) hp hb k1 k2 k3 (by rw [e1]; exact hce) hcv hcl T' rfl X'
    exact ⟨t2, st.trans a1, b1⟩
/-- caught by the row x of this method's table; the rows ahead don't take it -/
theorem vx_catch {own name : String} {E : String} {ce : Cell} {q : Addr} (hown : s.vm.findClass own = some m.cls) (pre : List ExceptionTableEntry) (x : ExceptionTableEntry) (suf : List ExceptionTableEntry) (hsplit : c.exceptionTable.toList = pre ++ x :: suf)
    (hpass : ∀ z ∈ pre, covers z pc = false ∨ (z.catchType ≠ 0 ∧ ∃ nm : String, (Cond.classLink own z.catchType nm).before args s = true ∧ va_Nc E nm s)) (hx : covers x pc = true) (h0 : x.catchType ≠ 0)
    (hlink : (Cond.classLink own x.catchType name).before args s = true) (hcast : (Cond.castable E name).before args s = true) (hcell : H[q]? = some ce) (hv : ce.vm = .none) (hcl : s.vm.findClass E = some ce.cls)
    (kk : W p l e R s m args below meth c H locs cells slots Q (F0 m x.handlerPc ls [.ref q])) : vx_W p l e R s m args below meth c H locs cells slots Q (F0 m pc ls rest) q := by
  intro T hT X
  have hpl : e.platform.magicAccessors = ({} : Platform).magicAccessors := by rw [X.admits.platform]
  obtain ⟨c3, c4, hc3, hc4, hasg⟩ := Cond.castable_spec hcast
  cases Option.some.inj (hc3.symm.trans hcl)
  obtain ⟨c5, hc5, hcl5⟩ := Cond.classLink_spec hown hlink e.platform hpl
  cases Option.some.inj (hc4.symm.trans hc5)
  obtain ⟨vm', X', st⟩ := X.thenCaughtThrough q (g := F0 m pc ls rest) rfl (Steps.refl _) (by rw [hT]; exact hcell) (by rw [hv]; rfl) (by obtain ⟨k9, h9, -⟩ := Vm.findClass_spec hcl; exact ⟨k9, h9⟩) pre x suf hsplit
    (fun z hz => by
      rcases hpass z hz with h | ⟨hz0, nm, hl1, hn1⟩
      · exact Or.inl h
      · obtain ⟨c6, hc6, hcl6⟩ := Cond.classLink_spec hown hl1 e.platform hpl
        obtain ⟨a8, b8, h1, h2, h3⟩ := hn1
        cases Option.some.inj (h1.symm.trans hcl)
        cases Option.some.inj (h2.symm.trans hc6)
        exact Or.inr ⟨hz0, _, hcl6, h3⟩) hx (Or.inr ⟨h0, c4, hcl5, hasg⟩)
  obtain ⟨t, a1, b1⟩ := kk (T.setVm vm') hT X'
  exact ⟨t, st.trans a1, b1⟩
end Rows
section Ends
variable {p : Program} {l : Launch} {e : Env} {R : Room} {s : State} {m : MethodId} {args : Array Value} {below : List Frame} {meth : Method} {c : Code} {H : Heap} {locs : List Loc} {cells slots : Nat} {Q : State → Prop}
variable {mc ms : Nat} {free : Addr → Prop} {A0 A1 : Nat → Prop} {H0 : Heap} {a : Array Value} {ls : Array Slot} {st0 rest : List Value}
variable {Qc : Array Value → State → Outcome → State → Prop} {XC : String → State → State → Prop}
/-- what a body that may throw owes at its end -/
def vx_MQ (below : List Frame) (Qc : Array Value → State → Outcome → State → Prop) (XC : String → State → State → Prop) (a : Array Value) (s : State) (mc ms : Nat) (free : Addr → Prop) : State → Prop := fun t =>
  ∃ o, t.status = .running ∧ Ended t below o ∧ vx_Q Qc XC mc ms free a s o t
theorem vx_ret {g : JFrame} {mc ms : Nat} (k : W p l e R s m args below meth c H locs cells slots (MQ below Qc args s mc ms free) g) : W p l e R s m args below meth c H locs cells slots (vx_MQ below Qc XC args s mc ms free) g := by
  intro T hT X
  obtain ⟨t, a1, o, b1, b2, b3, b4⟩ := k T hT X
  exact ⟨t, a1, o, b1, b2, Or.inl ⟨b3, b4⟩⟩
/-- not caught here: it goes on to the caller -/
theorem vx_widen {g : JFrame} {q : Addr} {k n : Nat} (h1 : cells ≤ k) (h2 : slots ≤ n) (kk : vx_W p l e R s m args below meth c H locs k n Q g q) : vx_W p l e R s m args below meth c H locs cells slots Q g q := fun T hT X => kk T hT (stand_widen X h1 h2)
theorem vx_out {pc : Nat} {E : String} {ce : Cell} {q : Addr} {mc ms : Nat} (hout : ∀ x ∈ c.exceptionTable.toList, covers x pc = false) (hlocks : meth.locks = false) (hcell : H[q]? = some ce) (hv : ce.vm = .none) (hcl : s.vm.findClass E = some ce.cls)
    (hx : ∀ t : State, t.heap = H → s.vm.Alike t.vm → XC E s t) (hf : ∀ z ∈ locs, free z.base) (hc : cells ≤ mc) (hs : slots ≤ ms) :
    vx_W p l e R s m args below meth c H locs cells slots (vx_MQ below Qc XC args s mc ms free) (F0 m pc ls rest) q := by
  intro T hT X
  obtain ⟨st1, hrun, hend, hW, hsm⟩ := X.leaveThrown q (g := F0 m pc ls rest) rfl rfl rfl hout hlocks
  have hcell9 : (T.setFrames (.throwing q :: below)).heap[q]? = some ce := by
    show T.heap[q]? = some ce
    rw [hT]; exact hcell
  exact ⟨_, st1, .threw q, hrun, hend, Or.inr ⟨q, rfl, E, ce, locs, hx _ hT hW.alike, hcell9, hv, hcl, hW, hsm.mono hc hs, hf⟩⟩
theorem vx_frame {U : State} {k n : Nat} (h : s.sameButNew ({ U with vm := s.vm } : State) locs k n) : s.heap.size ≤ U.heap.size ∧ ∀ q : Nat, q < s.heap.size → (∀ z ∈ locs, z.base ≠ q) → U.heap[q]? = s.heap[q]? := by
  obtain ⟨-, h2, -, -, -, h6⟩ := h
  refine ⟨h2, fun q hq hz => ?_⟩
  obtain ⟨c9, e1, e2, e3, e4⟩ := h6 q _ (Array.getElem?_eq_getElem hq)
  have hs : c9.slots = (s.heap[q]).slots := Array.ext_getElem? fun i => e4 i fun hm => hz _ hm rfl
  have h9 : c9 = s.heap[q] := by
    rw [hs] at e2
    exact e2
  have e5 : U.heap[q]? = some c9 := e1
  rw [e5, h9, Array.getElem?_eq_getElem hq]
/-- the words of a throw but the four that speak of the heap -/
def vx_no (w : Cond) : Bool := decide (w ≠ .isRef (.static Bundle.tN "UNASSIGNED_STACK" Bundle.steD)) && decide (w ≠ .isRef (.static Bundle.tN "SUPPRESSED_SENTINEL" Bundle.listD)) && decide (w ≠ .laysStatic Bundle.tN "UNASSIGNED_STACK" Bundle.steD) && decide (w ≠ .laysStatic Bundle.tN "SUPPRESSED_SENTINEL" Bundle.listD)
def vx_at0 (own : String) (ic : Nat) (X : String) (names : List String) : List Cond := (Bundle.ownAtoms0 own ic X names).filter vx_no
def vx_atS (own : String) (ic : Nat) (X : String) (names : List String) : List Cond := (Bundle.ownAtoms own ic X names).filter vx_no
/-- a word that the tables alone decide, or a good one -/
def vx_ot (w : Cond) : Bool := w.onTables || goodWord w
theorem vx_ot_at {args a' : Array Value} {s U : State} {w : Cond} (hW : s.WarmedH U.vm) (hvm : s.vm = U.vm) (hg : vx_ot w = true) (h : w.before args s = true) : w.before a' U = true := by
  simp only [vx_ot, Bool.or_eq_true] at hg
  rcases hg with hg | hg
  · exact va_tabs hg hvm h
  · exact word_at hW (good_of_word hg) h
/-- a list's words: the good ones out of the method's own list, the others by premises of their own -/
theorem vx_hat {args : Array Value} {s : State} {L B : List Cond} (h1 : ∀ w ∈ L.filter goodWord, w.before args s = true) (h2 : ∀ w ∈ L.filter (fun w => !goodWord w), w ∈ B) (h3 : ∀ w ∈ B, w.before args s = true) : ∀ w ∈ L, w.before args s = true := by
  intro w hw
  by_cases g : goodWord w = true
  · exact h1 w (List.mem_filter.mpr ⟨hw, g⟩)
  · refine h3 w (h2 w (List.mem_filter.mpr ⟨hw, ?_⟩))
    show (!goodWord w) = true
    cases hgw : goodWord w
    · rfl
    · exact absurd hgw g
theorem vx_c {args : Array Value} {s : State} {w : Cond} {B : List Cond} (h : w.before args s = true) (t : ∀ w ∈ B, w.before args s = true) : ∀ w' ∈ w :: B, w'.before args s = true := fun w' h' => (List.mem_cons.mp h').elim (fun e => by rw [e]; exact h) (t w')
theorem vx_n {args : Array Value} {s : State} : ∀ w ∈ ([] : List Cond), w.before args s = true := fun _ h => nomatch h
theorem vx_own {args : Array Value} {s : State} {L : List Cond} (h1 : ∀ w ∈ L.filter vx_no, w.before args s = true)
    (hU : (Cond.isRef (.static Bundle.tN "UNASSIGNED_STACK" Bundle.steD)).before args s = true) (hN : (Cond.isRef (.static Bundle.tN "SUPPRESSED_SENTINEL" Bundle.listD)).before args s = true)
    (lU : (Cond.laysStatic Bundle.tN "UNASSIGNED_STACK" Bundle.steD).before args s = true) (lN : (Cond.laysStatic Bundle.tN "SUPPRESSED_SENTINEL" Bundle.listD).before args s = true) : ∀ w ∈ L, w.before args s = true := by
  intro w hw
  by_cases e1 : w = .isRef (.static Bundle.tN "UNASSIGNED_STACK" Bundle.steD)
  · rw [e1]; exact hU
  · by_cases e2 : w = .isRef (.static Bundle.tN "SUPPRESSED_SENTINEL" Bundle.listD)
    · rw [e2]; exact hN
    · by_cases e3 : w = .laysStatic Bundle.tN "UNASSIGNED_STACK" Bundle.steD
      · rw [e3]; exact lU
      · by_cases e4 : w = .laysStatic Bundle.tN "SUPPRESSED_SENTINEL" Bundle.listD
        · rw [e4]; exact lN
        · exact h1 w (List.mem_filter.mpr ⟨hw, by unfold vx_no; rw [decide_eq_true e1, decide_eq_true e2, decide_eq_true e3, decide_eq_true e4]; rfl⟩)
/-- where a static field lies, its class's statics cell in H -/
def vx_L (C n d : String) (A : Nat → Prop) (U : State) (H : Heap) : Prop := ∃ (c : ClassId) (k : Class) (i : Nat) (f : Field) (a : Nat) (cell : Cell), U.vm.findClass C = some c ∧ U.fieldFound? C n d = some (c, k, i, f) ∧ f.isStatic = true ∧ k.statics = some a ∧ H[a]? = some cell ∧ cell.vm.isStatics = true ∧ cell.cls = c ∧ f.slot < cell.slots.size ∧ k.staticTypes[f.slot]? = some f.type ∧ ¬ A a
theorem vx_L.moved {C n d : String} {A : Nat → Prop} {u U : State} {H : Heap} (hvm : u.vm.Alike U.vm) (h : vx_L C n d A u H) : vx_L C n d A U H := by
  obtain ⟨c, k, i, f, a, cell, h1, h2, h3, h4, h5, h6, h7, h8, h9, h10⟩ := h
  obtain ⟨k', hi', he⟩ := State.fieldFound?_setVm hvm h2
  exact ⟨c, k', i, f, a, cell, by rw [hvm.findClass]; exact h1, hi', h3, by rw [he]; exact h4, h5, h6, h7, h8, by rw [he]; exact h9, h10⟩
theorem vx_L.kept {C n d : String} {A : Nat → Prop} {U : State} {H H1 : Heap} (h : vx_L C n d A U H) (hq : ∀ a : Nat, a < H.size → ¬ A a → H1[a]? = H[a]?) : vx_L C n d A U H1 := by
  obtain ⟨c, k, i, f, a, cell, h1, h2, h3, h4, h5, h6, h7, h8, h9, h10⟩ := h
  exact ⟨c, k, i, f, a, cell, h1, h2, h3, h4, by rw [hq a (Array.getElem?_eq_some_iff.mp h5).1 h10]; exact h5, h6, h7, h8, h9, h10⟩
theorem vx_L.narrow {C n d : String} {A B : Nat → Prop} {U : State} {H : Heap} (h : vx_L C n d A U H) (hAB : ∀ q, B q → A q) : vx_L C n d B U H := by
  obtain ⟨c, k, i, f, a, cell, h1, h2, h3, h4, h5, h6, h7, h8, h9, h10⟩ := h
  exact ⟨c, k, i, f, a, cell, h1, h2, h3, h4, h5, h6, h7, h8, h9, fun z => h10 (hAB _ z)⟩
theorem vx_L.word {C n d : String} {A : Nat → Prop} {s : State} {args : Array Value} (h : vx_L C n d A s s.heap) : (Cond.laysStatic C n d).before args s = true := by
  obtain ⟨c, k, i, f, a, cell, h1, h2, h3, h4, h5, h6, h7, h8, h9, -⟩ := h
  show (Cond.laysStatic C n d).holds args s none s [] = true
  exact Cond.laysStatic_of h1 h2 h3 h4 h5 h6 h7 h8 h9
/-- .. and what it holds: null or some reference -/
def vx_Zq (C n d : String) (A : Nat → Prop) (U : State) (H : Heap) : Prop := va_Zq C n d A U H ∧ vx_L C n d A U H
theorem vx_Zq.moved {C n d : String} {A : Nat → Prop} {u U : State} {H : Heap} (hvm : u.vm.Alike U.vm) (h : vx_Zq C n d A u H) : vx_Zq C n d A U H := ⟨va_Zq.moved hvm h.1, vx_L.moved hvm h.2⟩
theorem vx_Zq.kept {C n d : String} {A : Nat → Prop} {U : State} {H H1 : Heap} (h : vx_Zq C n d A U H) (hq : ∀ a : Nat, a < H.size → ¬ A a → H1[a]? = H[a]?) : vx_Zq C n d A U H1 := ⟨va_Zq.kept h.1 hq, vx_L.kept h.2 hq⟩
theorem vx_Zq.narrow {C n d : String} {A B : Nat → Prop} {U : State} {H : Heap} (h : vx_Zq C n d A U H) (hAB : ∀ q, B q → A q) : vx_Zq C n d B U H := ⟨va_Zq.narrow h.1 hAB, vx_L.narrow h.2 hAB⟩
theorem vx_Zqof {args : Array Value} {s : State} {C n d : String} {A : Nat → Prop} (hl : (Cond.laysStatic C n d).before args s = true) (hini : (Cond.initialized C).before args s = true) (h : (Cond.isRef (.static C n d)).before args s = true) (hA : ∀ a : Nat, a < s.heap.size → ¬ A a) : vx_Zq C n d A s s.heap := by
  refine ⟨va_Zqof hl hini h hA, ?_⟩
  obtain ⟨c, k, i, f, a, cell, h1, h2, h3, h4, h5, h6, h7, h8, h9⟩ := Cond.laysStatic_spec hl
  exact ⟨c, k, i, f, a, cell, h1, h2, h3, h4, h5, h6, h7, h8, h9, hA a (Array.getElem?_eq_some_iff.mp h5).1⟩
theorem vx_isRef {C n d : String} {v : Value} {A : Nat → Prop} {s : State} {args : Array Value} (h : va_Z C n d v A s s.heap) (hv : v.isRef = true) : (Cond.isRef (.static C n d)).before args s = true := by
  obtain ⟨cf, kf, fi, f, a, cell, h1, h2, h3, h4, h5, h6, h7, -⟩ := h
  have he : (Term.static C n d).eval args s none [] s = some v := by
    simp [Term.eval, State.fieldNamed?, h1, h2, h4, h5, h6, h7]
  simp only [Cond.before, Cond.holds, Cond.value, he]
  cases v <;> simp_all [Value.isRef]
theorem vx_isRefq {C n d : String} {A : Nat → Prop} {s : State} {args : Array Value} (h : va_Zq C n d A s s.heap) : (Cond.isRef (.static C n d)).before args s = true := by
  rcases h with h | ⟨t, h⟩
  · exact vx_isRef h rfl
  · exact vx_isRef h rfl
/-- the same frame, seen from here: as if the method were called anew in this heap -/
theorem vx_rebase {T : State} (X : Stand p l e R s m args below meth c T locs cells slots) {R' : Room} (hf : R'.frames ≤ R.frames) (hl : R'.locals ≤ R.locals) (hc : cells + R'.cells ≤ R.cells) (hs : slots + R'.slots ≤ R.slots) :
    Stand p l e R' ((T.setVm s.vm).setFrames (.invoking m args :: below)) m args below meth c T [] 0 0 := by
  have htop : (T.setVm s.vm).topJava?.isSome := X.here.top
  have hF : ((T.setVm s.vm).setFrames (.invoking m args :: below)).frames = .invoking m args :: below := State.frames_setFrames _ (State.cur_lt_of_top htop)
  obtain ⟨g₀, hg0⟩ := Option.isSome_iff_exists.mp htop
  obtain ⟨r, hr⟩ := State.topJava?_eq_some.mp hg0
  have hl9 : e.platform.stackLimits (T.setVm s.vm).me = e.platform.stackLimits s.me := X.limits
  have hb9 : (T.setVm s.vm).me.stackBytes = s.me.stackBytes := X.bytes
  refine ⟨X.admits, X.cas, X.clock, hF, ?_, X.hears, X.method, X.code, X.here, X.tail, X.warmed, ?_, ?_, ?_⟩
  · have h := X.room
    have hU : ((T.setVm s.vm).setFrames (.invoking m args :: below)).localsInUse = s.localsInUse := by
      rw [State.localsInUse_invoking hF (meth := meth) (c := c) X.method X.code, State.localsInUse_invoking X.frames X.method X.code]
    simp only [State.hasRoom, Bool.and_eq_true, decide_eq_true_eq] at h ⊢
    obtain ⟨⟨⟨⟨h1, h2, h3, h4, h5, h6⟩, h7⟩, h8⟩, h9⟩ := h
    rw [X.frames, List.length_cons] at h2 h3
    have q1 := X.heapSize
    have q2 := X.used
    simp only [hF, hU, List.length_cons, State.stackLimits_setFrames, State.stackBytes_setFrames, hl9, hb9]
    refine ⟨⟨⟨⟨by omega, by omega, by omega, by omega, by omega, h6⟩, ?_⟩, ?_⟩, X.book⟩
    · show T.heap.size + R'.cells ≤ e.platform.maxCells
      omega
    · show T.slotsUsed + R'.slots ≤ e.platform.maxSlots
      omega
  · rw [State.stackLimits_setFrames]; rfl
  · rw [State.stackBytes_setFrames]; rfl
  · refine ⟨?_, Nat.le_refl _, Nat.le_refl _, ?_, ?_, fun a c9 h9 => ⟨c9, h9, rfl, rfl, fun _ _ => rfl⟩⟩
    · obtain ⟨t, ht, -⟩ := State.frames_cons hr
      show T.setVm s.vm = { ((T.setVm s.vm).setFrames (.invoking m args :: below)).setFrames (T.setVm s.vm).frames with heap := T.heap, slotsUsed := T.slotsUsed }
      rw [State.setFrames_setFrames, State.setFrames_self ht]
      rfl
    · show T.slotsUsed = T.slotsUsed + ((T.heap.toList.drop T.heap.size).map (·.slots.size)).sum
      rw [List.drop_eq_nil_of_le (Nat.le_of_eq Array.length_toList)]
      rfl
    · show ((T.heap.toList.drop T.heap.size).map (·.slots.size)).sum ≤ 0
      rw [List.drop_eq_nil_of_le (Nat.le_of_eq Array.length_toList)]
      exact Nat.le_refl _
/-- 'throw new E()': new; dup; invokespecial; athrow -/
theorem vx_throw0 {cc : ByteArray} {pc : Nat} (hexec : p.tables.exec = Jvm.exec) (hb : c.code = cc) (hl : l.stackTraces = false) {own cls : String} {names : List String} {ik ic mc ms : Nat} {A : Nat → Prop}
    (hown : s.vm.findClass own = some m.cls) (hcls : Bundle.fit cls = true) (hnames : ∀ n ∈ names, Bundle.fit n = true)
    (hk : (Cond.classLink own ik cls).before args s = true) (hini : (Cond.initialized cls).before args s = true) (hat : ∀ w ∈ vx_at0 own ic cls names, w.before args s = true)
    (hgood : ∀ w ∈ Cond.classLink own ik cls :: Cond.initialized cls :: vx_at0 own ic cls names, vx_ot w = true)
    (hU : vx_Zq Bundle.tN "UNASSIGNED_STACK" Bundle.steD A s s.heap) (hN : vx_Zq Bundle.tN "SUPPRESSED_SENTINEL" Bundle.listD A s s.heap) (hS : va_S A s.heap H locs) (hsize : ls.size = c.maxLocals)
    (d0 : decode cc pc = .ok (.new ik, 3)) (d3 : decode cc (pc + 3) = .ok (.dup, 1)) (d4 : decode cc (pc + 4) = .ok (.invokespecial ic, 3)) (d7 : decode cc (pc + 7) = .ok (.athrow, 1))
    (hout : ∀ x ∈ c.exceptionTable.toList, covers x (pc + 7) = false)
    (hRframes : names.length + 3 < R.frames) (hRlocals : (rest.map fun v => v.category).sum + (13 * (names.length + 1) + 42) ≤ R.locals) (hRcells : cells + 1 ≤ R.cells) (hRslots : slots + 6 ≤ R.slots) (hlocks : meth.locks = false)
    (hx : ∀ t : State, s.vm.Alike t.vm → H.size ≤ t.heap.size → (∀ q : Nat, q < H.size → t.heap[q]? = H[q]?) → XC cls s t)
    (hf : ∀ z ∈ locs, free z.base) (hc : cells + 1 ≤ mc) (hs : slots + 6 ≤ ms) :
    W p l e R s m args below meth c H locs cells slots (vx_MQ below Qc XC args s mc ms free) (F0 m pc ls rest) := by
  intro T hT X
  have htr : e.platform.stackTraces = false := (show e.platform.stackTraces = l.stackTraces by rw [X.admits.platform]).trans hl
  have Y := vx_rebase X (R' := { frames := R.frames, locals := R.locals, cells := 1, slots := 6 }) (Nat.le_refl _) (Nat.le_refl _) hRcells hRslots
  obtain ⟨s', hA⟩ : ∃ z, z = (T.setVm s.vm).setFrames (.invoking m args :: below) := ⟨_, rfl⟩
  rw [← hA] at Y
  have hvm : s'.vm = s.vm := by rw [hA]; rfl
  have hhp : s'.heap = H := by rw [hA]; exact hT
  have hW0 : s.WarmedH s'.vm := by rw [hvm]; exact State.WarmedH.refl s
  have hat' : ∀ w ∈ vx_at0 own ic cls names, w.before args s' = true := fun w hw => vx_ot_at hW0 hvm.symm (hgood w (List.mem_cons_of_mem _ (List.mem_cons_of_mem _ hw))) (hat w hw)
  have hk' : (Cond.classLink own ik cls).before args s' = true := vx_ot_at hW0 hvm.symm (hgood _ List.mem_cons_self) hk
  have hini' : (Cond.initialized cls).before args s' = true := vx_ot_at hW0 hvm.symm (hgood _ (List.mem_cons_of_mem _ List.mem_cons_self)) hini
  have hU' : vx_Zq Bundle.tN "UNASSIGNED_STACK" Bundle.steD A s' s'.heap := by rw [hhp]; exact vx_Zq.moved hW0.alike (hU.kept hS.2.1)
  have hN' : vx_Zq Bundle.tN "SUPPRESSED_SENTINEL" Bundle.listD A s' s'.heap := by rw [hhp]; exact vx_Zq.moved hW0.alike (hN.kept hS.2.1)
  have h : ∀ w ∈ Bundle.ownAtoms0 own ic cls names, w.before args s' = true := vx_own hat' (vx_isRefq hU'.1) (vx_isRefq hN'.1) hU'.2.word hN'.2.word
  have hown' : s'.vm.findClass own = some m.cls := by rw [hvm]; exact hown
  have hins : (Cond.instantiable cls 6).before args s' = true := h _ (by simp [Bundle.ownAtoms0])
  obtain ⟨vm₁, cX, kX, hfX, hkX, -, -, X₁, st1⟩ := Y.newCold hexec (own := own) (C := cls) (index := ik) (n := 6) hown' hk' hins hini'
    (g := F0 m pc ls rest) rfl (by rw [hb]; exact d0) (Nat.le_refl _) (Nat.le_refl _)
  generalize hT1 : (T.setVm vm₁).pushCell { cls := cX, slots := kX.instanceTypes.map defaultValue, vm := .none } = T1 at X₁ st1
  have hcat : (Value.ref T.heap.size).category = 1 := rfl
  have hcellA : T1.heap[T.heap.size]? = some (freshCell cX kX) := by rw [← hT1]; exact State.heap_pushCell_size _ _
  have d3' : decode c.code (pc + 3) = .ok (.dup, 1) := by rw [hb]; exact d3
  obtain ⟨U, hsteps, hrun, hend, hW, hsame, ce, hce, hO⟩ := X₁.ctorThrow0 hexec htr (own := own) (cls := cls) (names := names) (ic := ic) hown' hcls hnames h (fun x hx => nomatch hx) hfX hkX hcellA (by rw [hhp, hT]; exact Nat.le_refl _)
    (g := { method := m, pc := pc + 4, locals := ls, stack := .ref T.heap.size :: .ref T.heap.size :: rest, locked := none }) rfl hsize rfl rfl (rest := rest) rfl
    (by rw [hb]; exact d4) (by rw [hb]; exact d7) hout hRframes (by simp only [List.map_cons, List.sum_cons, hcat]; omega) hlocks
  obtain ⟨f1, f2⟩ := vx_frame hsame
  rw [hhp] at f1 f2
  have hWs : s.WarmedH U.vm := State.WarmedH.trans hW0 hW
  have hcl : s.vm.findClass cls = some ce.cls := by
    have h9 := hO.cls
    rw [hvm] at h9
    exact h9
  have hall : s.sameButNew ({ U with vm := s.vm } : State) locs mc ms := by
    subst hA
    obtain ⟨e1, e2⟩ := hsame
    rw [State.setFrames_setFrames] at e1
    have h2 : (T.setVm s.vm).sameButNew ({ U with vm := s.vm } : State) [] (0 + 1) (0 + 6) := ⟨e1, e2⟩
    have h3 := X.same.trans h2
    rw [List.append_nil] at h3
    exact h3.mono hc hs
  refine ⟨U, ?_, .threw T.heap.size, hrun, hend, Or.inr ⟨T.heap.size, rfl, cls, ce, locs, hx U hWs.alike f1 (fun q hq => f2 q hq (fun z hz => nomatch hz)), hce, hO.vm, hcl, hWs, hall, hf⟩⟩
  refine st1 _ ?_
  show Steps p.tables e below (T1.setTop { method := m, pc := pc + 3, locals := ls, stack := .ref T.heap.size :: rest, locked := none }) _
  jvm_step X₁.here [X₁.here.top, hexec, d3', Value.category]
  exact hsteps
/-- 'throw new E("text")': new; dup; ldc; invokespecial; athrow -/
theorem vx_throwS {cc : ByteArray} {pc : Nat} (hexec : p.tables.exec = Jvm.exec) (hb : c.code = cc) (hl : l.stackTraces = false) {own cls text : String} {names : List String} {ik is ic mc ms sa : Nat} {A : Nat → Prop}
    (hown : s.vm.findClass own = some m.cls) (hcls : Bundle.fit cls = true) (hnames : ∀ n ∈ names, Bundle.fit n = true)
    (hk : (Cond.classLink own ik cls).before args s = true) (hini : (Cond.initialized cls).before args s = true) (hstr : vk_R own is text sa s) (hat : ∀ w ∈ vx_atS own ic cls names, w.before args s = true)
    (hgood : ∀ w ∈ Cond.classLink own ik cls :: Cond.initialized cls :: vx_atS own ic cls names, vx_ot w = true)
    (hU : vx_Zq Bundle.tN "UNASSIGNED_STACK" Bundle.steD A s s.heap) (hN : vx_Zq Bundle.tN "SUPPRESSED_SENTINEL" Bundle.listD A s s.heap) (hS : va_S A s.heap H locs) (hsize : ls.size = c.maxLocals)
    (d0 : decode cc pc = .ok (.new ik, 3)) (d3 : decode cc (pc + 3) = .ok (.dup, 1)) (d4 : decode cc (pc + 4) = .ok (.ldc is, 2)) (d6 : decode cc (pc + 6) = .ok (.invokespecial ic, 3)) (d9 : decode cc (pc + 9) = .ok (.athrow, 1))
    (hout : ∀ x ∈ c.exceptionTable.toList, covers x (pc + 9) = false)
    (hRframes : names.length + 3 < R.frames) (hRlocals : (rest.map fun v => v.category).sum + (13 * (names.length + 1) + 43) ≤ R.locals) (hRcells : cells + 1 ≤ R.cells) (hRslots : slots + 6 ≤ R.slots) (hlocks : meth.locks = false)
    (hx : ∀ t : State, s.vm.Alike t.vm → H.size ≤ t.heap.size → (∀ q : Nat, q < H.size → t.heap[q]? = H[q]?) → XC cls s t)
    (hf : ∀ z ∈ locs, free z.base) (hc : cells + 1 ≤ mc) (hs : slots + 6 ≤ ms) :
    W p l e R s m args below meth c H locs cells slots (vx_MQ below Qc XC args s mc ms free) (F0 m pc ls rest) := by
  intro T hT X
  have htr : e.platform.stackTraces = false := (show e.platform.stackTraces = l.stackTraces by rw [X.admits.platform]).trans hl
  have Y := vx_rebase X (R' := { frames := R.frames, locals := R.locals, cells := 1, slots := 6 }) (Nat.le_refl _) (Nat.le_refl _) hRcells hRslots
  obtain ⟨s', hA⟩ : ∃ z, z = (T.setVm s.vm).setFrames (.invoking m args :: below) := ⟨_, rfl⟩
  rw [← hA] at Y
  have hvm : s'.vm = s.vm := by rw [hA]; rfl
  have hhp : s'.heap = H := by rw [hA]; exact hT
  have hW0 : s.WarmedH s'.vm := by rw [hvm]; exact State.WarmedH.refl s
  have hat' : ∀ w ∈ vx_atS own ic cls names, w.before args s' = true := fun w hw => vx_ot_at hW0 hvm.symm (hgood w (List.mem_cons_of_mem _ (List.mem_cons_of_mem _ hw))) (hat w hw)
  have hk' : (Cond.classLink own ik cls).before args s' = true := vx_ot_at hW0 hvm.symm (hgood _ List.mem_cons_self) hk
  have hini' : (Cond.initialized cls).before args s' = true := vx_ot_at hW0 hvm.symm (hgood _ (List.mem_cons_of_mem _ List.mem_cons_self)) hini
  have hU' : vx_Zq Bundle.tN "UNASSIGNED_STACK" Bundle.steD A s' s'.heap := by rw [hhp]; exact vx_Zq.moved hW0.alike (hU.kept hS.2.1)
  have hN' : vx_Zq Bundle.tN "SUPPRESSED_SENTINEL" Bundle.listD A s' s'.heap := by rw [hhp]; exact vx_Zq.moved hW0.alike (hN.kept hS.2.1)
  have h : ∀ w ∈ Bundle.ownAtoms own ic cls names, w.before args s' = true := vx_own hat' (vx_isRefq hU'.1) (vx_isRefq hN'.1) hU'.2.word hN'.2.word
  have hown' : s'.vm.findClass own = some m.cls := by rw [hvm]; exact hown
  have hins : (Cond.instantiable cls 6).before args s' = true := h _ (by simp [Bundle.ownAtoms])
  obtain ⟨vm₁, cX, kX, hfX, hkX, -, -, X₁, st1⟩ := Y.newCold hexec (own := own) (C := cls) (index := ik) (n := 6) hown' hk' hins hini'
    (g := F0 m pc ls rest) rfl (by rw [hb]; exact d0) (Nat.le_refl _) (Nat.le_refl _)
  generalize hT1 : (T.setVm vm₁).pushCell { cls := cX, slots := kX.instanceTypes.map defaultValue, vm := .none } = T1 at X₁ st1
  have hcat : (Value.ref T.heap.size).category = 1 := rfl
  have hcellA : T1.heap[T.heap.size]? = some (freshCell cX kX) := by rw [← hT1]; exact State.heap_pushCell_size _ _
  have d3' : decode c.code (pc + 3) = .ok (.dup, 1) := by rw [hb]; exact d3
  have d4' : decode c.code (pc + 4) = .ok (.ldc is, 2) := by rw [hb]; exact d4
  have hstr' : vk_R own is text sa s' := vk_R.warm hW0 hstr
  obtain ⟨U, hsteps, hrun, hend, hW, hsame, ce, hce, hO⟩ := X₁.ctorThrowS hexec htr (own := own) (cls := cls) (names := names) (ic := ic) hown' hcls hnames h (fun x hx => nomatch hx) hfX hkX hcellA (by rw [hhp, hT]; exact Nat.le_refl _) (msg := .ref sa) rfl
    (g := { method := m, pc := pc + 6, locals := ls, stack := .ref sa :: .ref T.heap.size :: .ref T.heap.size :: rest, locked := none }) rfl hsize rfl rfl (rest := rest) rfl
    (by rw [hb]; exact d6) (by rw [hb]; exact d9) hout hRframes (by simp only [List.map_cons, List.sum_cons, hcat]; omega) hlocks
  obtain ⟨f1, f2⟩ := vx_frame hsame
  rw [hhp] at f1 f2
  have hWs : s.WarmedH U.vm := State.WarmedH.trans hW0 hW
  have hcl : s.vm.findClass cls = some ce.cls := by
    have h9 := hO.cls
    rw [hvm] at h9
    exact h9
  have hall : s.sameButNew ({ U with vm := s.vm } : State) locs mc ms := by
    subst hA
    obtain ⟨e1, e2⟩ := hsame
    rw [State.setFrames_setFrames] at e1
    have h2 : (T.setVm s.vm).sameButNew ({ U with vm := s.vm } : State) [] (0 + 1) (0 + 6) := ⟨e1, e2⟩
    have h3 := X.same.trans h2
    rw [List.append_nil] at h3
    exact h3.mono hc hs
  refine ⟨U, ?_, .threw T.heap.size, hrun, hend, Or.inr ⟨T.heap.size, rfl, cls, ce, locs, hx U hWs.alike f1 (fun q hq => f2 q hq (fun z hz => nomatch hz)), hce, hO.vm, hcl, hWs, hall, hf⟩⟩
  refine st1 _ ?_
  show Steps p.tables e below (T1.setTop { method := m, pc := pc + 3, locals := ls, stack := .ref T.heap.size :: rest, locked := none }) _
  jvm_step X₁.here [X₁.here.top, hexec, d3', Value.category]
  exact X₁.ldcString hexec (own := own) (text := text) (index := is) (a := sa) hown' hstr'.1 hstr'.2
    (g := { method := m, pc := pc + 4, locals := ls, stack := .ref T.heap.size :: .ref T.heap.size :: rest, locked := none }) rfl d4' _ hsteps
/-- 'throw new E("text")', the text by a wide index -/
theorem vx_throwSW {cc : ByteArray} {pc : Nat} (hexec : p.tables.exec = Jvm.exec) (hb : c.code = cc) (hl : l.stackTraces = false) {own cls text : String} {names : List String} {ik is ic mc ms sa : Nat} {A : Nat → Prop}
    (hown : s.vm.findClass own = some m.cls) (hcls : Bundle.fit cls = true) (hnames : ∀ n ∈ names, Bundle.fit n = true)
    (hk : (Cond.classLink own ik cls).before args s = true) (hini : (Cond.initialized cls).before args s = true) (hstr : vk_R own is text sa s) (hat : ∀ w ∈ vx_atS own ic cls names, w.before args s = true)
    (hgood : ∀ w ∈ Cond.classLink own ik cls :: Cond.initialized cls :: vx_atS own ic cls names, vx_ot w = true)
    (hU : vx_Zq Bundle.tN "UNASSIGNED_STACK" Bundle.steD A s s.heap) (hN : vx_Zq Bundle.tN "SUPPRESSED_SENTINEL" Bundle.listD A s s.heap) (hS : va_S A s.heap H locs) (hsize : ls.size = c.maxLocals)
    (d0 : decode cc pc = .ok (.new ik, 3)) (d3 : decode cc (pc + 3) = .ok (.dup, 1)) (d4 : decode cc (pc + 4) = .ok (.ldc_w is, 3)) (d7 : decode cc (pc + 7) = .ok (.invokespecial ic, 3)) (d10 : decode cc (pc + 10) = .ok (.athrow, 1))
    (hout : ∀ x ∈ c.exceptionTable.toList, covers x (pc + 10) = false)
    (hRframes : names.length + 3 < R.frames) (hRlocals : (rest.map fun v => v.category).sum + (13 * (names.length + 1) + 43) ≤ R.locals) (hRcells : cells + 1 ≤ R.cells) (hRslots : slots + 6 ≤ R.slots) (hlocks : meth.locks = false)
    (hx : ∀ t : State, s.vm.Alike t.vm → H.size ≤ t.heap.size → (∀ q : Nat, q < H.size → t.heap[q]? = H[q]?) → XC cls s t)
    (hf : ∀ z ∈ locs, free z.base) (hc : cells + 1 ≤ mc) (hs : slots + 6 ≤ ms) :
    W p l e R s m args below meth c H locs cells slots (vx_MQ below Qc XC args s mc ms free) (F0 m pc ls rest) := by
  intro T hT X
  have htr : e.platform.stackTraces = false := (show e.platform.stackTraces = l.stackTraces by rw [X.admits.platform]).trans hl
  have Y := vx_rebase X (R' := { frames := R.frames, locals := R.locals, cells := 1, slots := 6 }) (Nat.le_refl _) (Nat.le_refl _) hRcells hRslots
  obtain ⟨s', hA⟩ : ∃ z, z = (T.setVm s.vm).setFrames (.invoking m args :: below) := ⟨_, rfl⟩
  rw [← hA] at Y
  have hvm : s'.vm = s.vm := by rw [hA]; rfl
  have hhp : s'.heap = H := by rw [hA]; exact hT
  have hW0 : s.WarmedH s'.vm := by rw [hvm]; exact State.WarmedH.refl s
  have hat' : ∀ w ∈ vx_atS own ic cls names, w.before args s' = true := fun w hw => vx_ot_at hW0 hvm.symm (hgood w (List.mem_cons_of_mem _ (List.mem_cons_of_mem _ hw))) (hat w hw)
  have hk' : (Cond.classLink own ik cls).before args s' = true := vx_ot_at hW0 hvm.symm (hgood _ List.mem_cons_self) hk
  have hini' : (Cond.initialized cls).before args s' = true := vx_ot_at hW0 hvm.symm (hgood _ (List.mem_cons_of_mem _ List.mem_cons_self)) hini
  have hU' : vx_Zq Bundle.tN "UNASSIGNED_STACK" Bundle.steD A s' s'.heap := by rw [hhp]; exact vx_Zq.moved hW0.alike (hU.kept hS.2.1)
  have hN' : vx_Zq Bundle.tN "SUPPRESSED_SENTINEL" Bundle.listD A s' s'.heap := by rw [hhp]; exact vx_Zq.moved hW0.alike (hN.kept hS.2.1)
  have h : ∀ w ∈ Bundle.ownAtoms own ic cls names, w.before args s' = true := vx_own hat' (vx_isRefq hU'.1) (vx_isRefq hN'.1) hU'.2.word hN'.2.word
  have hown' : s'.vm.findClass own = some m.cls := by rw [hvm]; exact hown
  have hins : (Cond.instantiable cls 6).before args s' = true := h _ (by simp [Bundle.ownAtoms])
  obtain ⟨vm₁, cX, kX, hfX, hkX, -, -, X₁, st1⟩ := Y.newCold hexec (own := own) (C := cls) (index := ik) (n := 6) hown' hk' hins hini'
    (g := F0 m pc ls rest) rfl (by rw [hb]; exact d0) (Nat.le_refl _) (Nat.le_refl _)
  generalize hT1 : (T.setVm vm₁).pushCell { cls := cX, slots := kX.instanceTypes.map defaultValue, vm := .none } = T1 at X₁ st1
  have hcat : (Value.ref T.heap.size).category = 1 := rfl
  have hcellA : T1.heap[T.heap.size]? = some (freshCell cX kX) := by rw [← hT1]; exact State.heap_pushCell_size _ _
  have d3' : decode c.code (pc + 3) = .ok (.dup, 1) := by rw [hb]; exact d3
  have d4' : decode c.code (pc + 4) = .ok (.ldc_w is, 3) := by rw [hb]; exact d4
  have hstr' : vk_R own is text sa s' := vk_R.warm hW0 hstr
  obtain ⟨U, hsteps, hrun, hend, hW, hsame, ce, hce, hO⟩ := X₁.ctorThrowS hexec htr (own := own) (cls := cls) (names := names) (ic := ic) hown' hcls hnames h (fun x hx => nomatch hx) hfX hkX hcellA (by rw [hhp, hT]; exact Nat.le_refl _) (msg := .ref sa) rfl
    (g := { method := m, pc := pc + 7, locals := ls, stack := .ref sa :: .ref T.heap.size :: .ref T.heap.size :: rest, locked := none }) rfl hsize rfl rfl (rest := rest) rfl
    (by rw [hb]; exact d7) (by rw [hb]; exact d10) hout hRframes (by simp only [List.map_cons, List.sum_cons, hcat]; omega) hlocks
  obtain ⟨f1, f2⟩ := vx_frame hsame
  rw [hhp] at f1 f2
  have hWs : s.WarmedH U.vm := State.WarmedH.trans hW0 hW
  have hcl : s.vm.findClass cls = some ce.cls := by
    have h9 := hO.cls
    rw [hvm] at h9
    exact h9
  have hall : s.sameButNew ({ U with vm := s.vm } : State) locs mc ms := by
    subst hA
    obtain ⟨e1, e2⟩ := hsame
    rw [State.setFrames_setFrames] at e1
    have h2 : (T.setVm s.vm).sameButNew ({ U with vm := s.vm } : State) [] (0 + 1) (0 + 6) := ⟨e1, e2⟩
    have h3 := X.same.trans h2
    rw [List.append_nil] at h3
    exact h3.mono hc hs
  refine ⟨U, ?_, .threw T.heap.size, hrun, hend, Or.inr ⟨T.heap.size, rfl, cls, ce, locs, hx U hWs.alike f1 (fun q hq => f2 q hq (fun z hz => nomatch hz)), hce, hO.vm, hcl, hWs, hall, hf⟩⟩
  refine st1 _ ?_
  show Steps p.tables e below (T1.setTop { method := m, pc := pc + 3, locals := ls, stack := .ref T.heap.size :: rest, locked := none }) _
  jvm_step X₁.here [X₁.here.top, hexec, d3', Value.category]
  exact X₁.ldcStringW hexec (own := own) (text := text) (index := is) (a := sa) hown' hstr'.1 hstr'.2
    (g := { method := m, pc := pc + 4, locals := ls, stack := .ref T.heap.size :: .ref T.heap.size :: rest, locked := none }) rfl d4' _ hsteps
end Ends
section Bodies
variable {l : Launch}
theorem vx_ofW {y : MethodName} {ws ws' : List Cond} {rm : Room} {Pc : Array Value → State → Prop} {Qc : Array Value → State → Outcome → State → Prop} {XC : String → State → State → Prop} {mc ms : Nat} {free : Addr → Prop} {cc : ByteArray} {maxL : Nat} {ret : Option FieldType}
    (hy : plainName y.cls = true) (hw : ws = Cond.code y cc maxL ret :: ws')
    (body : ∀ p e s m args below meth c s₁, BodyLoose p l y (headSpec ws rm) cc maxL ret e s m args below meth c s₁ → c.maxLocals = maxL → (∀ x ∈ c.exceptionTable.toList, False) → Pc args s →
      W p l e (headSpec ws rm).room s m args below meth c s.heap [] 0 0 (vx_MQ below Qc XC args s mc ms free) (entryFrame m args maxL)) : vx_Met l y ws rm Pc Qc XC mc ms free := by
  refine MetFree.of_bodyS (code := cc) (maxLocals := maxL) (ret := ret) hy ?_ ?_
  · intro args s m h hn
    obtain ⟨meth, c, h1, h2, h3, h4, h5, h6, -, -⟩ := Cond.code_spec hn (atoms_spec (ws := ws) h _ (by rw [hw]; exact List.mem_cons_self))
    exact ⟨meth, c, h1, h2, h3, h4, h5, h6⟩
  · intro p e s m args below meth c s₁ B hml hP _
    have hh0 : s₁.heap = s.heap := by rw [B.state]; rfl
    have ht : ∀ x ∈ c.exceptionTable.toList, False := by
      obtain ⟨meth9, c9, h1, h2, -, -, -, -, h7, -⟩ := Cond.code_spec B.named (atoms_spec (ws := ws) B.pre _ (by rw [hw]; exact List.mem_cons_self))
      cases Option.some.inj (h1.symm.trans B.method)
      cases Option.some.inj (h2.symm.trans (Stand.of_body B).code)
      intro x hx
      rw [Array.isEmpty_iff.mp h7] at hx
      cases hx
    obtain ⟨t, a1, o, b1, b2, b3⟩ := body p e s m args below meth c s₁ B hml ht hP s₁ hh0 (Stand.of_body B)
    exact ⟨t, o, a1, b1, b2, b3⟩
/-- the table of a body with handlers -/
theorem vx_table {p : Program} {x y : MethodName} {S : Spec} {cc bytes : ByteArray} {maxL maxL' : Nat} {ret ret' : Option FieldType} {e : Env} {s s₁ : State} {m : MethodId} {args : Array Value} {below : List Frame} {meth : Method} {c : Code} {hh : List (Nat × Nat × Nat × Nat)}
    (B : BodyLoose p l y S cc maxL ret e s m args below meth c s₁) (h : (Cond.codeWith y bytes maxL' ret' hh).before args s = true) : c.exceptionTable.toList = tableOf hh := by
  obtain ⟨m9, meth9, c9, hn9, h1, h2, -, -, h6, -⟩ := Cond.codeWith_spec h
  cases Option.some.inj (hn9.symm.trans B.named)
  cases Option.some.inj (h1.symm.trans B.method)
  cases Option.some.inj (h2.symm.trans (Stand.of_body B).code)
  rw [← h6, table_eq]
end Bodies
end VXA
/-! ===== END ===== -/
/-! ===== BEGIN a static call of a method with an exception table ===== -/
section VXS
variable {p : Program} {l : Launch} {e : Env} {R : Room} {s : State} {m : MethodId} {args : Array Value} {below : List Frame} {meth : Method} {c : Code} {T : State} {H : Heap} {locs : List Loc} {cells slots : Nat}
abbrev vx_CSW (R : Room) (s : State) (args : Array Value) (own : String) (index : Nat) (y : MethodName) (bytes : ByteArray) (maxL : Nat) (ret : Option FieldType) (hh : List (Nat × Nat × Nat × Nat)) (ws : List Cond) (rm : Room) (mc ms n : Nat) : Prop :=
  (rm.cells = mc ∧ rm.slots = ms ∧ rm.frames + 1 ≤ R.frames ∧ 8 + (maxL + 11) + rm.locals ≤ R.locals ∧ (∀ w ∈ ws, ∀ (a' : Array Value) (U : State), s.WarmedH U.vm → w.before a' U = true) ∧ Cond.codeWith y bytes maxL ret hh ∈ ws) ∧
  (Cond.codeWith y bytes maxL ret hh).before args s = true ∧ (Cond.initialized y.cls).before args s = true ∧ (y.cls ≠ "java/lang/invoke/MethodHandle" ∧ y.cls ≠ "java/lang/invoke/VarHandle") ∧
  (∀ sig, parseMethodDescriptor y.desc = some sig → n = sig.parameters.length) ∧ (Cond.methodLink own index y).before args s = true ∧ (Cond.static y).before args s = true
theorem vx_cwSW {own : String} {index maxL mc ms : Nat} {y : MethodName} {bytes : ByteArray} {ret : Option FieldType} {hh : List (Nat × Nat × Nat × Nat)} {Ts ws ws' : List Cond} {rm : Room} (n : Nat) (ht : ∀ w ∈ Ts, w.before args s = true) (hT : GoodIn Ts (va_wsS own index y ws)) (hw : ws = Cond.codeWith y bytes maxL ret hh :: ws') (hrc : rm.cells = mc) (hrs : rm.slots = ms)
    (hd : y.cls ≠ "java/lang/invoke/MethodHandle" ∧ y.cls ≠ "java/lang/invoke/VarHandle" ∧ (parseMethodDescriptor y.desc).map (fun d => d.parameters.length) = some n) (hR : rm.frames + 1 ≤ R.frames ∧ 8 + (maxL + 11) + rm.locals ≤ R.locals) :
    vx_CSW R s args own index y bytes maxL ret hh ws rm mc ms n := by
  have ok : ∀ w ∈ va_wsS own index y ws, w.before args s = true := fun w h => ht w (hT w h).1
  have hG : GoodIn Ts ws := fun w h => hT w (by unfold va_wsS; exact List.mem_append_right _ h)
  have hc : Cond.codeWith y bytes maxL ret hh ∈ ws := by rw [hw]; exact List.mem_cons_self
  refine ⟨⟨hrc, hrs, hR.1, hR.2, pay_in ht hG, hc⟩, ht _ (hG _ hc).1, ok _ (by simp [va_wsS]), ⟨hd.1, hd.2.1⟩, fun sig h => ?_, ok _ (by simp [va_wsS]), ok _ (by simp [va_wsS])⟩
  have h2 := hd.2.2
  rw [h] at h2
  exact (Option.some.inj h2).symm
theorem vx_callSW (X : Stand p l e R s m args below meth c T locs cells slots) (hexec : p.tables.exec = Jvm.exec) {own : String} {index : Nat} {y : MethodName} {bytes : ByteArray} {maxL : Nat} {ret : Option FieldType} {hh : List (Nat × Nat × Nat × Nat)}
    (hown : s.vm.findClass own = some m.cls) (hlink : (Cond.methodLink own index y).before args s = true) (hstat : (Cond.static y).before args s = true) (hinit : (Cond.initialized y.cls).before args s = true)
    (hcode : (Cond.codeWith y bytes maxL ret hh).before args s = true) (hy : y.cls ≠ "java/lang/invoke/MethodHandle" ∧ y.cls ≠ "java/lang/invoke/VarHandle")
    {W9 : Nat} {Pre : Pt → Array Value → Prop} {Post : Pt → Array Value → Option Value → Pt → Prop} (hK : Back l R p e below s args y 3 W9 Pre Post)
    {g : JFrame} (hg : g.method = m) (hsize : g.locals.size = c.maxLocals) {argsL rest : List Value} (hlen : ∀ sig, parseMethodDescriptor y.desc = some sig → argsL.length = sig.parameters.length)
    (hstack : g.stack = argsL.reverse ++ rest) (hW : 2 * g.monitorRoom + (rest.map fun v => v.category).sum ≤ W9) (hdg : decode c.code g.pc = .ok (.invokestatic index, 3))
    (hpre : ∀ vm₁, s.WarmedH vm₁ → Pre ⟨T.setVm vm₁, locs, cells, slots⟩ argsL.toArray) :
    ∃ (v : Option Value) (vm₁ : Vm) (B : Pt), s.WarmedH vm₁ ∧ Stand p l e R s m args below meth c B.U B.locs B.cells B.slots ∧ Post ⟨T.setVm vm₁, locs, cells, slots⟩ argsL.toArray v B ∧
      ∀ target, Steps p.tables e below (B.U.setTop { g with pc := g.pc + 3, stack := v.toList ++ rest }) target → Steps p.tables e below (T.setTop g) target := by
  obtain ⟨mk, methM, cM, hnamed, hmethM, -, -, -, -, -, -, hsigM⟩ := Cond.codeWith_spec hcode
  have hstatic : methM.isStatic = true := Cond.static_spec hnamed hmethM hstat
  obtain ⟨kP, hkP, -⟩ := className_of_methodNamed hnamed
  have hinitP : kP.init = .initialized := Cond.initialized_spec (findClass_of_methodNamed hnamed) hkP hinit
  obtain ⟨vm₁, X₁, hstep₁⟩ := X.invokestatic hexec hown hlink hnamed hmethM hstatic hkP hinitP hy (g := g) hg (argsL := argsL) (rest := rest) (hlen _ hsigM) hstack hdg
  obtain ⟨v, B, X', hpost, hsteps⟩ := hK m meth c ⟨T.setVm vm₁, locs, cells, slots⟩ { g with stack := rest } (.invokestatic index) mk argsL.toArray X₁ hg hsize hdg hW (X₁.named hnamed) (hpre vm₁ X₁.warmed)
  exact ⟨v, vm₁, B, X₁.warmed, X', hpost, fun target h => hstep₁ _ fun acts => by rw [doInvoke_state]; exact hsteps.trans h⟩
theorem vx_runSW {y : MethodName} {bytes cc : ByteArray} {maxL nL mc ms n index : Nat} {ret : Option FieldType} {hh : List (Nat × Nat × Nat × Nat)} {ws : List Cond} {rm : Room} {Pc : Array Value → State → Prop} {Qc : Array Value → State → Outcome → State → Prop} {free : Addr → Prop} {Ts : List Cond} {own : String} {As rest : List Value} {g : JFrame}
    (S : CallFix p m c cc nL s args Ts own) (hM : Met l y ws rm Pc Qc mc ms free) (cw : vx_CSW R s args own index y bytes maxL ret hh ws rm mc ms n) (hp : PreS s H Pc As)
    (hg : g.method = m) (hn : As.length = n) (hsize : g.locals.size = nL) (hstack : g.stack = As.reverse ++ rest) (hW : 2 * g.monitorRoom + (rest.map fun v => v.category).sum ≤ 8) (hdg : decode cc g.pc = .ok (.invokestatic index, 3)) (hf : cells + mc ≤ R.cells ∧ slots + ms ≤ R.slots) :
    va_Run p l e R s m args below meth c H locs cells slots mc ms g rest (Qc As.toArray) (free) := by
  obtain ⟨⟨hrc, hrs, hfr, hlo, hws, hcw⟩, hcode, hini, hy, hlen, hl, hstt⟩ := cw
  have hK : Back l R p e below s args y 3 8 (PreOf R mc ms Pc) (PostOf Qc mc ms free) := va_backW (hh := hh) (bytes := bytes) (maxL := maxL) (ret := ret) hM hp.1 hrc hrs hfr hlo hws hcw (fun a' U hW => word_at hW (Or.inl (by first | rfl | simp [Cond.onTables, Cond.keeps, Cond.steady])) hini)
  obtain ⟨hx, hb, hml, ho, -⟩ := S
  intro T hT X
  obtain ⟨v, vm₁, ⟨U', l2, c2, s2⟩, hW₁, X', ⟨g', mk, t, L, e1, e2, hq, h1, hL, h2, h3⟩, st⟩ := vx_callSW X hx (hh := hh) (bytes := bytes) (maxL := maxL) (ret := ret) ho hl hstt hini hcode hy hK hg (hsize.trans hml.symm) (argsL := As) (rest := rest) (fun sig h => hn.trans (hlen sig h)) hstack hW (by rw [hb]; exact hdg)
    (fun vm₁ hW₁ => ⟨hf.1, hf.2, hp.2 (T.setVm vm₁) hT hW₁⟩)
  dsimp only [Pt.U, Pt.locs, Pt.cells, Pt.slots] at X' e1 e2 h1 h2 h3 st
  subst h1; subst h2; subst h3
  exact ⟨v, (T.setVm vm₁).calling g' mk As.toArray, t, U', L, hT, X', hL, e1, e2, hq, st⟩
/-- not caught here, past rows that name other classes: it goes on to the caller -/
theorem vx_outP {p : Program} {l : Launch} {e : Env} {R : Room} {s : State} {m : MethodId} {args : Array Value} {below : List Frame} {meth : Method} {c : Code} {H : Heap} {locs : List Loc} {cells slots : Nat} {free : Addr → Prop} {ls : Array Slot} {rest : List Value} {Qc : Array Value → State → Outcome → State → Prop} {XC : String → State → State → Prop}
    {pc : Nat} {own E : String} {ce : Cell} {q : Addr} {mc ms : Nat} (hown : s.vm.findClass own = some m.cls) (hlocks : meth.locks = false)
    (hpass : ∀ z ∈ c.exceptionTable.toList, covers z pc = false ∨ (z.catchType ≠ 0 ∧ ∃ nm : String, (Cond.classLink own z.catchType nm).before args s = true ∧ va_Nc E nm s)) (hcell : H[q]? = some ce) (hv : ce.vm = .none) (hcl : s.vm.findClass E = some ce.cls)
    (hx : ∀ t : State, t.heap = H → s.vm.Alike t.vm → XC E s t) (hf : ∀ z ∈ locs, free z.base) (hc : cells ≤ mc) (hs : slots ≤ ms) :
    vx_W p l e R s m args below meth c H locs cells slots (vx_MQ below Qc XC args s mc ms free) (F0 m pc ls rest) q := by
  intro T hT X
  have hpl : e.platform.magicAccessors = ({} : Platform).magicAccessors := by rw [X.admits.platform]
  obtain ⟨vm', hW', X', st⟩ := X.outThrough hlocks q (g := F0 m pc ls rest) rfl rfl rfl (cell := ce) (by rw [hT]; exact hcell) (by rw [hv]; rfl)
    (by obtain ⟨k9, h9, -⟩ := Vm.findClass_spec hcl; exact ⟨k9, h9⟩) (fun z hz => by
      rcases hpass z hz with h | ⟨hz0, nm, hl1, hn1⟩
      · exact Or.inl h
      · obtain ⟨c6, hc6, hcl6⟩ := Cond.classLink_spec hown hl1 e.platform hpl
        obtain ⟨a8, b8, h1, h2, h3⟩ := hn1
        cases Option.some.inj (h1.symm.trans hcl)
        cases Option.some.inj (h2.symm.trans hc6)
        exact Or.inr ⟨hz0, _, hcl6, h3⟩)
  obtain ⟨g₀, hfr⟩ := X'.frames_eq
  have hcell9 : ((T.setVm vm').setFrames (.throwing q :: below)).heap[q]? = some ce := by
    show T.heap[q]? = some ce
    rw [hT]; exact hcell
  have hend : Ended ((T.setVm vm').setFrames (.throwing q :: below)) below (.threw q) := State.frames_setFrames _ (State.cur_lt_of_frames hfr)
  refine ⟨(T.setVm vm').setFrames (.throwing q :: below), ?_, .threw q, X'.here.running, hend, Or.inr ⟨q, rfl, E, ce, locs, hx _ hT (X'.ends _).1.alike, hcell9, hv, hcl, (X'.ends _).1, (X'.ends _).2.mono hc hs, hf⟩⟩
  rw [X.pushThrowing_eq]
  exact st
/-- a thing of a world lies in the heap -/
theorem vx_lt {D : va_G} {cl : List vw_C} {ws : va_W} {H1 : Heap} (h : va_P D cl ws H1) {k : Nat} {q : Nat × va_E} (hk : ws[k]? = some q) : q.1 < H1.size := (h k q hk).lt
end VXS
/-! ===== END ===== -/
/-! ===== BEGIN methods with a table of their own: called by a name, returning or throwing ===== -/
section VXH
/-! vx_backW, vx_callVX, vx_callSX, vx_callVW, vx_runVW, vx_runVX, vx_runSX, vx_ofWH follow the same proofs as their sisters above (Free/Laws.lean, Shelf42/LK1.lean); vx_outP calls Shelf42/NT130.lean (outThrough). -/
section
variable {l : Launch} {R : Room} {p : Program} {e : Env} {below : List Frame} {s : State} {sargs : Array Value} {y : MethodName} {len W9 : Nat}
theorem vx_backW {ws : List Cond} {rm : Room} {Pc : Array Value → State → Prop} {Qc : Array Value → State → Outcome → State → Prop} {XC : String → State → State → Prop} {mc ms : Nat} {free : Addr → Prop} {bytes : ByteArray} {maxL : Nat} {ret : Option FieldType} {hh : List (Nat × Nat × Nat × Nat)}
    (hM : vx_Met l y ws rm Pc Qc XC mc ms free) (hblind : FrameBlind Pc) (hrc : rm.cells = mc) (hrs : rm.slots = ms)
    (hframes : rm.frames + 1 ≤ R.frames) (hlocals : W9 + (maxL + 11) + rm.locals ≤ R.locals)
    (hws : ∀ w ∈ ws, ∀ a' U, s.WarmedH U.vm → w.before a' U = true) (hcode : Cond.codeWith y bytes maxL ret hh ∈ ws) (hinit : ∀ a' U, s.WarmedH U.vm → (Cond.initialized y.cls).before a' U = true) :
    vx_Back l R p e below s sargs y len W9 (PreOf R mc ms Pc) (PostOf Qc mc ms free) (vx_Post XC mc ms free) := by
  intro m meth c A g ig mk a X hg hsize hdg hW hn hp
  have h1 : (headSpec ws rm).pre.before a A.U = true := atoms_intro fun w hw => hws w hw _ _ X.warmed
  have h2 : (Cond.codeWith y bytes maxL ret hh).before a A.U = true := hws _ hcode _ _ X.warmed
  have h3 : (Cond.initialized y.cls).before a A.U = true := hinit _ _ X.warmed
  have h4 : A.cells + (headSpec ws rm).room.cells ≤ R.cells := by rw [show (headSpec ws rm).room.cells = mc from hrc]; exact hp.1
  have h5 : A.slots + (headSpec ws rm).room.slots ≤ R.slots := by rw [show (headSpec ws rm).room.slots = ms from hrs]; exact hp.2.1
  have hPc : Pc a (A.U.calling g mk a) := hblind _ _ _ _ hp.2.2
  obtain ⟨U, Ls, c0, s0⟩ := A
  dsimp only [Pt.U, Pt.locs, Pt.cells, Pt.slots] at h1 h2 h3 h4 h5 X hn hPc ⊢
  obtain ⟨m9, methY, cY, hn9, hmY, hcY, -, hlY, -⟩ := Cond.codeWith_spec h2
  cases Option.some.inj (hn9.symm.trans hn)
  obtain ⟨kY, hkY, -⟩ := className_of_methodNamed hn
  have hinitY : kY.init = .initialized := Cond.initialized_spec (findClass_of_methodNamed hn) hkY h3
  have h : At U g.method c below := by rw [hg]; exact X.here
  have hlocals9 : W9 + (maxL + 11) + (headSpec ws rm).room.locals ≤ R.locals := hlocals
  have happ : (headSpec ws rm).appliesLoose y e.platform (U.calling g mk a) = true :=
    Spec.appliesLoose_calling (g := g) h hdg hn hkY hinitY
      (X.room_calling (g := g) (R' := (headSpec ws rm).room) hsize hmY hcY hframes (by rw [hlY]; omega) h4 h5) h1
  obtain ⟨mid, hmid⟩ := h.above
  have hfr : (U.setTop g).frames = (.java g :: mid) ++ below := by rw [State.frames_setTop' g h.top, hmid]; rfl
  obtain ⟨o, s₂, hsteps, -, hend, hq⟩ := Steps.callFree hM p X.admits X.cas X.clock (acts := []) hfr happ hPc trivial
  have hq' : vx_Q Qc XC mc ms free a (U.calling g mk a) o s₂ := hq
  rw [State.frames_setTop' g h.top] at hend
  obtain ⟨g₀, hg0⟩ := Option.isSome_iff_exists.mp h.top
  obtain ⟨r, hr⟩ := State.topJava?_eq_some.mp hg0
  have hr' : (({ U with heap := s₂.heap, slotsUsed := s₂.slotsUsed } : State).setVm s₂.vm).frames = .java g₀ :: r := hr
  rcases hq' with ⟨hqc, L, hfe, hL⟩ | ⟨q, rfl, E, ce, L, hx, hce, hcv, hcl, hW₂, hsm, hL⟩
  · obtain ⟨⟨v, rfl⟩, hW₂, e2, q2, q3, q4, q5, q6⟩ := id hfe
    have e3 : s₂ = ({ (U.calling g mk a).setFrames s₂.frames with heap := s₂.heap, slotsUsed := s₂.slotsUsed } : State).setVm s₂.vm := by
      have : s₂ = ({ s₂ with vm := (U.calling g mk a).vm } : State).setVm s₂.vm := rfl
      rw [e2] at this
      exact this
    obtain ⟨c₂, i₂, len₂, hc₂, hd₂, hf₂⟩ := hend
    have hW' : U.WarmedH s₂.vm := hW₂
    have hcc : c₂ = c := by
      have h1 : s₂.code? g.method = U.code? g.method := by
        rw [State.code?_eq, State.code?_eq, hW'.alike.method?]
      exact Option.some.inj (hc₂.symm.trans (h1.trans h.code))
    subst hcc
    have hlen : len₂ = len := by rw [hdg] at hd₂; cases hd₂; rfl
    subst hlen
    have hs₂ : s₂ = (({ U with heap := s₂.heap, slotsUsed := s₂.slotsUsed } : State).setVm s₂.vm).setTop { g with pc := g.pc + len₂, stack := v.toList ++ g.stack } := by
      refine e3.trans ?_
      rw [hf₂, State.calling_eq h.top, State.setFrames_setFrames, State.setTop_of_frames _ hr', hr]
      rfl
    have hsame : U.sameButNew ({ U with heap := s₂.heap, slotsUsed := s₂.slotsUsed } : State) L mc ms := by
      refine ⟨?_, q2, q3, q4, q5, q6⟩
      obtain ⟨t, ht, -⟩ := State.frames_cons hr
      show ({ U with heap := s₂.heap, slotsUsed := s₂.slotsUsed } : State) = { U.setFrames U.frames with heap := s₂.heap, slotsUsed := s₂.slotsUsed }
      rw [State.setFrames_self ht]
    subst hg
    refine Or.inl ⟨v, ⟨(({ U with heap := s₂.heap, slotsUsed := s₂.slotsUsed } : State).setVm s₂.vm), Ls ++ L, c0 + mc, s0 + ms⟩,
      ⟨X.admits, X.cas, X.clock, X.frames, X.room, X.hears, X.method, X.code, (X.here.setHeapUsed s₂.heap s₂.slotsUsed).setVm hW'.alike, X.tail, State.WarmedH.trans X.warmed hW', X.limits, X.bytes, X.same.trans (hsame.setVm s.vm)⟩,
      ⟨g, mk, s₂, L, rfl, rfl, hqc, rfl, hL, rfl, rfl⟩, ?_⟩
    show Steps p.tables e below _ ((({ U with heap := s₂.heap, slotsUsed := s₂.slotsUsed } : State).setVm s₂.vm).setTop { g with pc := g.pc + len₂, stack := v.toList ++ g.stack })
    rw [← hs₂]
    exact hsteps
  · obtain ⟨e2, q2, q3, q4, q5, q6⟩ := id hsm
    have e3 : s₂ = ({ (U.calling g mk a).setFrames s₂.frames with heap := s₂.heap, slotsUsed := s₂.slotsUsed } : State).setVm s₂.vm := by
      have : s₂ = ({ s₂ with vm := (U.calling g mk a).vm } : State).setVm s₂.vm := rfl
      rw [e2] at this
      exact this
    have hf₂ : s₂.frames = .throwing q :: .java g :: U.frames.tail := hend
    have hW' : U.WarmedH s₂.vm := hW₂
    have hs₂ : s₂ = ((({ U with heap := s₂.heap, slotsUsed := s₂.slotsUsed } : State).setVm s₂.vm).setTop g).pushFrame (.throwing q) := by
      refine e3.trans ?_
      rw [hf₂, State.calling_eq h.top, State.setFrames_setFrames, State.pushFrame, State.frames_setTop _ hr', State.setTop_of_frames _ hr', State.setFrames_setFrames, hr]
      rfl
    have hsame : U.sameButNew ({ U with heap := s₂.heap, slotsUsed := s₂.slotsUsed } : State) L mc ms := by
      refine ⟨?_, q2, q3, q4, q5, q6⟩
      obtain ⟨t, ht, -⟩ := State.frames_cons hr
      show ({ U with heap := s₂.heap, slotsUsed := s₂.slotsUsed } : State) = { U.setFrames U.frames with heap := s₂.heap, slotsUsed := s₂.slotsUsed }
      rw [State.setFrames_self ht]
    subst hg
    refine Or.inr ⟨q, ⟨(({ U with heap := s₂.heap, slotsUsed := s₂.slotsUsed } : State).setVm s₂.vm), Ls ++ L, c0 + mc, s0 + ms⟩,
      ⟨X.admits, X.cas, X.clock, X.frames, X.room, X.hears, X.method, X.code, (X.here.setHeapUsed s₂.heap s₂.slotsUsed).setVm hW'.alike, X.tail, State.WarmedH.trans X.warmed hW', X.limits, X.bytes, X.same.trans (hsame.setVm s.vm)⟩,
      ⟨g, mk, s₂, L, E, ce, rfl, rfl, hx, hce, hcv, hcl, rfl, hL, rfl, rfl⟩, ?_⟩
    show Steps p.tables e below _ (((({ U with heap := s₂.heap, slotsUsed := s₂.slotsUsed } : State).setVm s₂.vm).setTop g).pushFrame (.throwing q))
    rw [← hs₂]
    exact hsteps
end
variable {p : Program} {l : Launch} {e : Env} {R : Room} {s : State} {m : MethodId} {args : Array Value} {below : List Frame} {meth : Method} {c : Code} {T : State} {H : Heap} {locs : List Loc} {cells slots : Nat}
theorem vx_callVX (X : Stand p l e R s m args below meth c T locs cells slots) (hexec : p.tables.exec = Jvm.exec) {own C : String} {index : Nat} {y : MethodName} {bytes : ByteArray} {maxL : Nat} {ret : Option FieldType} {hh : List (Nat × Nat × Nat × Nat)}
    (hown : s.vm.findClass own = some m.cls) (hlink : (Cond.methodLink own index y).before args s = true) (hinst : (Cond.instanceMethod y).before args s = true) (hsel : (Cond.selects C y y).before args s = true)
    (hcode : (Cond.codeWith y bytes maxL ret hh).before args s = true) (hy : y.cls ≠ "java/lang/invoke/MethodHandle" ∧ y.cls ≠ "java/lang/invoke/VarHandle")
    {W9 : Nat} {Pre : Pt → Array Value → Prop} {Post : Pt → Array Value → Option Value → Pt → Prop} {PostX : Pt → Array Value → Addr → Pt → Prop} (hK : vx_Back l R p e below s args y 3 W9 Pre Post PostX)
    {b : Addr} {cellB : Cell} (hcell : T.heap[b]? = some cellB) (hobj : cellB.vm.isStatics = false) (hcls : s.vm.findClass C = some cellB.cls)
    {g : JFrame} (hg : g.method = m) (hsize : g.locals.size = c.maxLocals) {argsL rest : List Value} (hlen : ∀ sig, parseMethodDescriptor y.desc = some sig → argsL.length = sig.parameters.length)
    (hstack : g.stack = argsL.reverse ++ .ref b :: rest) (hW : 2 * g.monitorRoom + (rest.map fun v => v.category).sum ≤ W9) (hdg : decode c.code g.pc = .ok (.invokevirtual index, 3))
    (hpre : ∀ vm₁, s.WarmedH vm₁ → Pre ⟨T.setVm vm₁, locs, cells, slots⟩ (Value.ref b :: argsL).toArray) :
    (∃ (v : Option Value) (vm₁ : Vm) (B : Pt), s.WarmedH vm₁ ∧ Stand p l e R s m args below meth c B.U B.locs B.cells B.slots ∧ Post ⟨T.setVm vm₁, locs, cells, slots⟩ (Value.ref b :: argsL).toArray v B ∧
      ∀ target, Steps p.tables e below (B.U.setTop { g with pc := g.pc + 3, stack := v.toList ++ rest }) target → Steps p.tables e below (T.setTop g) target) ∨
    (∃ (q : Addr) (vm₁ : Vm) (B : Pt), s.WarmedH vm₁ ∧ Stand p l e R s m args below meth c B.U B.locs B.cells B.slots ∧ PostX ⟨T.setVm vm₁, locs, cells, slots⟩ (Value.ref b :: argsL).toArray q B ∧
      Steps p.tables e below (T.setTop g) ((B.U.setTop { g with stack := rest }).pushFrame (.throwing q))) := by
  obtain ⟨mk, methM, hnamed, hmethM, hstM, habM⟩ := Cond.instanceMethod_spec hinst
  obtain ⟨m8, methM', cM, hn8, hmethM', -, -, -, -, -, -, hsigM⟩ := Cond.codeWith_spec hcode
  cases Option.some.inj (hn8.symm.trans hnamed)
  cases hmethM.symm.trans hmethM'
  obtain ⟨c2, r2, m2, q1, q2, q3, q4, kP, hkP, hkPi⟩ := Cond.selects_spec hsel
  cases hcls.symm.trans q1
  cases (State.methodFound?_of_named hnamed hy).symm.trans q2
  cases hnamed.symm.trans q3
  have hselP : selectMethod e.platform s.vm cellB.cls mk = .method mk := by rw [Launch.admits_selectMethod X.admits]; exact q4
  obtain ⟨vm₁, X₁, hstep₁⟩ := X.invokevirtual hexec hown hlink hnamed hmethM hstM hkP hkPi hy (a := b) (cell := cellB) hcell
    (fun z h => by rw [h] at hobj; cases hobj) hselP hmethM habM hkP hkPi (g := g) hg (argsL := argsL) (rest := rest) (hlen _ hsigM) hstack hdg
  rcases hK m meth c ⟨T.setVm vm₁, locs, cells, slots⟩ { g with stack := rest } (.invokevirtual index) mk (Value.ref b :: argsL).toArray X₁ hg hsize hdg hW (X₁.named hnamed) (hpre vm₁ X₁.warmed) with ⟨v, B, X', hpost, hsteps⟩ | ⟨q, B, X', hpost, hsteps⟩
  · exact Or.inl ⟨v, vm₁, B, X₁.warmed, X', hpost, fun target h => hstep₁ _ fun acts => by rw [doInvoke_state]; exact hsteps.trans h⟩
  · exact Or.inr ⟨q, vm₁, B, X₁.warmed, X', hpost, hstep₁ _ fun acts => by rw [doInvoke_state]; exact hsteps⟩
theorem vx_callSX (X : Stand p l e R s m args below meth c T locs cells slots) (hexec : p.tables.exec = Jvm.exec) {own : String} {index : Nat} {y : MethodName} {bytes : ByteArray} {maxL : Nat} {ret : Option FieldType} {hh : List (Nat × Nat × Nat × Nat)}
    (hown : s.vm.findClass own = some m.cls) (hlink : (Cond.methodLink own index y).before args s = true) (hstat : (Cond.static y).before args s = true) (hinit : (Cond.initialized y.cls).before args s = true)
    (hcode : (Cond.codeWith y bytes maxL ret hh).before args s = true) (hy : y.cls ≠ "java/lang/invoke/MethodHandle" ∧ y.cls ≠ "java/lang/invoke/VarHandle")
    {W9 : Nat} {Pre : Pt → Array Value → Prop} {Post : Pt → Array Value → Option Value → Pt → Prop} {PostX : Pt → Array Value → Addr → Pt → Prop} (hK : vx_Back l R p e below s args y 3 W9 Pre Post PostX)
    {g : JFrame} (hg : g.method = m) (hsize : g.locals.size = c.maxLocals) {argsL rest : List Value} (hlen : ∀ sig, parseMethodDescriptor y.desc = some sig → argsL.length = sig.parameters.length)
    (hstack : g.stack = argsL.reverse ++ rest) (hW : 2 * g.monitorRoom + (rest.map fun v => v.category).sum ≤ W9) (hdg : decode c.code g.pc = .ok (.invokestatic index, 3))
    (hpre : ∀ vm₁, s.WarmedH vm₁ → Pre ⟨T.setVm vm₁, locs, cells, slots⟩ argsL.toArray) :
    (∃ (v : Option Value) (vm₁ : Vm) (B : Pt), s.WarmedH vm₁ ∧ Stand p l e R s m args below meth c B.U B.locs B.cells B.slots ∧ Post ⟨T.setVm vm₁, locs, cells, slots⟩ argsL.toArray v B ∧
      ∀ target, Steps p.tables e below (B.U.setTop { g with pc := g.pc + 3, stack := v.toList ++ rest }) target → Steps p.tables e below (T.setTop g) target) ∨
    (∃ (q : Addr) (vm₁ : Vm) (B : Pt), s.WarmedH vm₁ ∧ Stand p l e R s m args below meth c B.U B.locs B.cells B.slots ∧ PostX ⟨T.setVm vm₁, locs, cells, slots⟩ argsL.toArray q B ∧
      Steps p.tables e below (T.setTop g) ((B.U.setTop { g with stack := rest }).pushFrame (.throwing q))) := by
  obtain ⟨mk, methM, cM, hnamed, hmethM, -, -, -, -, -, -, hsigM⟩ := Cond.codeWith_spec hcode
  have hstatic : methM.isStatic = true := Cond.static_spec hnamed hmethM hstat
  obtain ⟨kP, hkP, -⟩ := className_of_methodNamed hnamed
  have hinitP : kP.init = .initialized := Cond.initialized_spec (findClass_of_methodNamed hnamed) hkP hinit
  obtain ⟨vm₁, X₁, hstep₁⟩ := X.invokestatic hexec hown hlink hnamed hmethM hstatic hkP hinitP hy (g := g) hg (argsL := argsL) (rest := rest) (hlen _ hsigM) hstack hdg
  rcases hK m meth c ⟨T.setVm vm₁, locs, cells, slots⟩ { g with stack := rest } (.invokestatic index) mk argsL.toArray X₁ hg hsize hdg hW (X₁.named hnamed) (hpre vm₁ X₁.warmed) with ⟨v, B, X', hpost, hsteps⟩ | ⟨q, B, X', hpost, hsteps⟩
  · exact Or.inl ⟨v, vm₁, B, X₁.warmed, X', hpost, fun target h => hstep₁ _ fun acts => by rw [doInvoke_state]; exact hsteps.trans h⟩
  · exact Or.inr ⟨q, vm₁, B, X₁.warmed, X', hpost, hstep₁ _ fun acts => by rw [doInvoke_state]; exact hsteps⟩
theorem vx_callVW (X : Stand p l e R s m args below meth c T locs cells slots) (hexec : p.tables.exec = Jvm.exec) {own C : String} {index : Nat} {y : MethodName} {bytes : ByteArray} {maxL : Nat} {ret : Option FieldType} {hh : List (Nat × Nat × Nat × Nat)}
    (hown : s.vm.findClass own = some m.cls) (hlink : (Cond.methodLink own index y).before args s = true) (hinst : (Cond.instanceMethod y).before args s = true) (hsel : (Cond.selects C y y).before args s = true)
    (hcode : (Cond.codeWith y bytes maxL ret hh).before args s = true) (hy : y.cls ≠ "java/lang/invoke/MethodHandle" ∧ y.cls ≠ "java/lang/invoke/VarHandle")
    {W9 : Nat} {Pre : Pt → Array Value → Prop} {Post : Pt → Array Value → Option Value → Pt → Prop} (hK : Back l R p e below s args y 3 W9 Pre Post)
    {b : Addr} {cellB : Cell} (hcell : T.heap[b]? = some cellB) (hobj : cellB.vm.isStatics = false) (hcls : s.vm.findClass C = some cellB.cls)
    {g : JFrame} (hg : g.method = m) (hsize : g.locals.size = c.maxLocals) {argsL rest : List Value} (hlen : ∀ sig, parseMethodDescriptor y.desc = some sig → argsL.length = sig.parameters.length)
    (hstack : g.stack = argsL.reverse ++ .ref b :: rest) (hW : 2 * g.monitorRoom + (rest.map fun v => v.category).sum ≤ W9) (hdg : decode c.code g.pc = .ok (.invokevirtual index, 3))
    (hpre : ∀ vm₁, s.WarmedH vm₁ → Pre ⟨T.setVm vm₁, locs, cells, slots⟩ (Value.ref b :: argsL).toArray) :
    ∃ (v : Option Value) (vm₁ : Vm) (B : Pt), s.WarmedH vm₁ ∧ Stand p l e R s m args below meth c B.U B.locs B.cells B.slots ∧ Post ⟨T.setVm vm₁, locs, cells, slots⟩ (Value.ref b :: argsL).toArray v B ∧
      ∀ target, Steps p.tables e below (B.U.setTop { g with pc := g.pc + 3, stack := v.toList ++ rest }) target → Steps p.tables e below (T.setTop g) target := by
  obtain ⟨mk, methM, hnamed, hmethM, hstM, habM⟩ := Cond.instanceMethod_spec hinst
  obtain ⟨m8, methM', cM, hn8, hmethM', -, -, -, -, -, -, hsigM⟩ := Cond.codeWith_spec hcode
  cases Option.some.inj (hn8.symm.trans hnamed)
  cases hmethM.symm.trans hmethM'
  obtain ⟨c2, r2, m2, q1, q2, q3, q4, kP, hkP, hkPi⟩ := Cond.selects_spec hsel
  cases hcls.symm.trans q1
  cases (State.methodFound?_of_named hnamed hy).symm.trans q2
  cases hnamed.symm.trans q3
  have hselP : selectMethod e.platform s.vm cellB.cls mk = .method mk := by rw [Launch.admits_selectMethod X.admits]; exact q4
  obtain ⟨vm₁, X₁, hstep₁⟩ := X.invokevirtual hexec hown hlink hnamed hmethM hstM hkP hkPi hy (a := b) (cell := cellB) hcell
    (fun z h => by rw [h] at hobj; cases hobj) hselP hmethM habM hkP hkPi (g := g) hg (argsL := argsL) (rest := rest) (hlen _ hsigM) hstack hdg
  obtain ⟨v, B, X', hpost, hsteps⟩ := hK m meth c ⟨T.setVm vm₁, locs, cells, slots⟩ { g with stack := rest } (.invokevirtual index) mk (Value.ref b :: argsL).toArray X₁ hg hsize hdg hW (X₁.named hnamed) (hpre vm₁ X₁.warmed)
  exact ⟨v, vm₁, B, X₁.warmed, X', hpost, fun target h => hstep₁ _ fun acts => by rw [doInvoke_state]; exact hsteps.trans h⟩
abbrev vx_CVW (R : Room) (s : State) (args : Array Value) (own C : String) (index : Nat) (y : MethodName) (bytes : ByteArray) (maxL : Nat) (ret : Option FieldType) (hh : List (Nat × Nat × Nat × Nat)) (ws : List Cond) (rm : Room) (mc ms n : Nat) : Prop :=
  (rm.cells = mc ∧ rm.slots = ms ∧ rm.frames + 1 ≤ R.frames ∧ 8 + (maxL + 11) + rm.locals ≤ R.locals ∧ (∀ w ∈ ws, ∀ (a' : Array Value) (U : State), s.WarmedH U.vm → w.before a' U = true) ∧ Cond.codeWith y bytes maxL ret hh ∈ ws) ∧
  (Cond.codeWith y bytes maxL ret hh).before args s = true ∧ (Cond.initialized y.cls).before args s = true ∧ (y.cls ≠ "java/lang/invoke/MethodHandle" ∧ y.cls ≠ "java/lang/invoke/VarHandle") ∧
  (∀ sig, parseMethodDescriptor y.desc = some sig → n = sig.parameters.length) ∧ (Cond.methodLink own index y).before args s = true ∧ (Cond.instanceMethod y).before args s = true ∧ (Cond.selects C y y).before args s = true
theorem vx_cwVW {own C : String} {index maxL mc ms : Nat} {y : MethodName} {bytes : ByteArray} {ret : Option FieldType} {hh : List (Nat × Nat × Nat × Nat)} {Ts ws ws' : List Cond} {rm : Room} (n : Nat) (ht : ∀ w ∈ Ts, w.before args s = true) (hT : GoodIn Ts (wsV own index C y ws)) (hw : ws = Cond.codeWith y bytes maxL ret hh :: ws') (hrc : rm.cells = mc) (hrs : rm.slots = ms)
    (hd : y.cls = C ∧ y.cls ≠ "java/lang/invoke/MethodHandle" ∧ y.cls ≠ "java/lang/invoke/VarHandle" ∧ (parseMethodDescriptor y.desc).map (fun d => d.parameters.length) = some n) (hR : rm.frames + 1 ≤ R.frames ∧ 8 + (maxL + 11) + rm.locals ≤ R.locals) :
    vx_CVW R s args own C index y bytes maxL ret hh ws rm mc ms n := by
  obtain ⟨hC, hd⟩ := hd
  subst hC
  have ok : ∀ w ∈ wsV own index y.cls y ws, w.before args s = true := fun w h => ht w (hT w h).1
  have hG : GoodIn Ts ws := fun w h => hT w (by unfold wsV; exact List.mem_append_right _ h)
  have hc : Cond.codeWith y bytes maxL ret hh ∈ ws := by rw [hw]; exact List.mem_cons_self
  refine ⟨⟨hrc, hrs, hR.1, hR.2, pay_in ht hG, hc⟩, ht _ (hG _ hc).1, ok _ (by simp [wsV]), ⟨hd.1, hd.2.1⟩, fun sig h => ?_, ok _ (by simp [wsV]), ok _ (by simp [wsV]), ok _ (by simp [wsV])⟩
  have h2 := hd.2.2
  rw [h] at h2
  exact (Option.some.inj h2).symm
theorem vx_runVW {y : MethodName} {bytes cc : ByteArray} {maxL nL mc ms n index : Nat} {ret : Option FieldType} {hh : List (Nat × Nat × Nat × Nat)} {ws : List Cond} {rm : Room} {Pc : Array Value → State → Prop} {Qc : Array Value → State → Outcome → State → Prop} {free : Addr → Prop} {Ts : List Cond} {own C : String} {b : Addr} {As rest : List Value} {g : JFrame}
    (S : CallFix p m c cc nL s args Ts own) (hM : Met l y ws rm Pc Qc mc ms free) (cw : vx_CVW R s args own C index y bytes maxL ret hh ws rm mc ms n) (hp : PreV s H C b Pc As)
    (hg : g.method = m) (hn : As.length = n) (hsize : g.locals.size = nL) (hstack : g.stack = As.reverse ++ .ref b :: rest) (hW : 2 * g.monitorRoom + (rest.map fun v => v.category).sum ≤ 8) (hdg : decode cc g.pc = .ok (.invokevirtual index, 3)) (hf : cells + mc ≤ R.cells ∧ slots + ms ≤ R.slots) :
    va_Run p l e R s m args below meth c H locs cells slots mc ms g rest (Qc (Value.ref b :: As).toArray) free := by
  obtain ⟨⟨hrc, hrs, hfr, hlo, hws, hcw⟩, hcode, hini, hy, hlen, hl, hin, hse⟩ := cw
  have hK : Back l R p e below s args y 3 8 (PreOf R mc ms Pc) (PostOf Qc mc ms free) := va_backW (hh := hh) (bytes := bytes) (maxL := maxL) (ret := ret) hM hp.1 hrc hrs hfr hlo hws hcw (fun a' U hW => word_at hW (Or.inl (by first | rfl | simp [Cond.onTables, Cond.keeps, Cond.steady])) hini)
  obtain ⟨hx, hb, hml, ho, -⟩ := S
  obtain ⟨-, ⟨cellB, hcB, hoB, hclB⟩, hPc⟩ := hp
  intro T hT X
  obtain ⟨v, vm₁, ⟨U', l2, c2, s2⟩, hW₁, X', ⟨g', mk, t, L, e1, e2, hq, h1, hL, h2, h3⟩, st⟩ := vx_callVW X hx (C := C) (hh := hh) (bytes := bytes) (maxL := maxL) (ret := ret) ho hl hin hse hcode hy hK (by rw [hT]; exact hcB) hoB hclB hg (hsize.trans hml.symm) (argsL := As) (rest := rest) (fun sig h => hn.trans (hlen sig h)) hstack hW (by rw [hb]; exact hdg)
    (fun vm₁ hW₁ => ⟨hf.1, hf.2, hPc (T.setVm vm₁) hT hW₁⟩)
  dsimp only [Pt.U, Pt.locs, Pt.cells, Pt.slots] at X' e1 e2 h1 h2 h3 st
  subst h1; subst h2; subst h3
  exact ⟨v, (T.setVm vm₁).calling g' mk (Value.ref b :: As).toArray, t, U', L, hT, X', hL, e1, e2, hq, st⟩
section
variable {y : MethodName} {bytes cc : ByteArray} {maxL nL mc ms n index : Nat} {ret : Option FieldType} {ws : List Cond} {rm : Room} {Pc : Array Value → State → Prop} {Qc : Array Value → State → Outcome → State → Prop} {XC : String → State → State → Prop} {free : Addr → Prop} {Ts : List Cond} {own C : String} {b : Addr} {As rest : List Value} {g : JFrame}
theorem vx_runVX {hh : List (Nat × Nat × Nat × Nat)} (S : CallFix p m c cc nL s args Ts own) (hM : vx_Met l y ws rm Pc Qc XC mc ms free) (cw : vx_CVW R s args own C index y bytes maxL ret hh ws rm mc ms n) (hp : PreV s H C b Pc As)
    (hg : g.method = m) (hn : As.length = n) (hsize : g.locals.size = nL) (hstack : g.stack = As.reverse ++ .ref b :: rest) (hW : 2 * g.monitorRoom + (rest.map fun v => v.category).sum ≤ 8) (hdg : decode cc g.pc = .ok (.invokevirtual index, 3)) (hf : cells + mc ≤ R.cells ∧ slots + ms ≤ R.slots) :
    vx_Run p l e R s m args below meth c H locs cells slots mc ms g rest (Qc (Value.ref b :: As).toArray) XC free := by
  obtain ⟨⟨hrc, hrs, hfr, hlo, hws, hcw⟩, hcode, hini, hy, hlen, hl, hin, hse⟩ := cw
  have hK : vx_Back l R p e below s args y 3 8 (PreOf R mc ms Pc) (PostOf Qc mc ms free) (vx_Post XC mc ms free) := vx_backW (hh := hh) (bytes := bytes) (maxL := maxL) (ret := ret) hM hp.1 hrc hrs hfr hlo hws hcw (fun a' U hW => word_at hW (Or.inl (by first | rfl | simp [Cond.onTables, Cond.keeps, Cond.steady])) hini)
  obtain ⟨hx, hb, hml, ho, -⟩ := S
  obtain ⟨-, ⟨cellB, hcB, hoB, hclB⟩, hPc⟩ := hp
  intro T hT X
  rcases vx_callVX X hx (C := C) (hh := hh) (bytes := bytes) (maxL := maxL) (ret := ret) ho hl hin hse hcode hy hK (by rw [hT]; exact hcB) hoB hclB hg (hsize.trans hml.symm) (argsL := As) (rest := rest) (fun sig h => hn.trans (hlen sig h)) hstack hW (by rw [hb]; exact hdg)
    (fun vm₁ hW₁ => ⟨hf.1, hf.2, hPc (T.setVm vm₁) hT hW₁⟩) with ⟨v, vm₁, ⟨U', l2, c2, s2⟩, hW₁, X', ⟨g', mk, t, L, e1, e2, hq, h1, hL, h2, h3⟩, st⟩ | ⟨q, vm₁, ⟨U', l2, c2, s2⟩, hW₁, X', ⟨g', mk, t, L, E, ce, e1, e2, hq, hce, hcv, hcl, h1, hL, h2, h3⟩, st⟩
  · dsimp only [Pt.U, Pt.locs, Pt.cells, Pt.slots] at X' e1 e2 h1 h2 h3 st
    subst h1; subst h2; subst h3
    exact Or.inl ⟨v, (T.setVm vm₁).calling g' mk (Value.ref b :: As).toArray, t, U', L, hT, X', hL, e1, e2, hq, st⟩
  · dsimp only [Pt.U, Pt.locs, Pt.cells, Pt.slots] at X' e1 e2 h1 h2 h3 st hcl
    subst h1; subst h2; subst h3
    exact Or.inr ⟨q, (T.setVm vm₁).calling g' mk (Value.ref b :: As).toArray, t, U', L, E, ce, hT, X', hL, e1, e2, hq, hce, hcv, vx_cls hW₁ hcl, st⟩
theorem vx_runSX {hh : List (Nat × Nat × Nat × Nat)} (S : CallFix p m c cc nL s args Ts own) (hM : vx_Met l y ws rm Pc Qc XC mc ms free) (cw : vx_CSW R s args own index y bytes maxL ret hh ws rm mc ms n) (hp : PreS s H Pc As)
    (hg : g.method = m) (hn : As.length = n) (hsize : g.locals.size = nL) (hstack : g.stack = As.reverse ++ rest) (hW : 2 * g.monitorRoom + (rest.map fun v => v.category).sum ≤ 8) (hdg : decode cc g.pc = .ok (.invokestatic index, 3)) (hf : cells + mc ≤ R.cells ∧ slots + ms ≤ R.slots) :
    vx_Run p l e R s m args below meth c H locs cells slots mc ms g rest (Qc As.toArray) XC free := by
  obtain ⟨⟨hrc, hrs, hfr, hlo, hws, hcw⟩, hcode, hini, hy, hlen, hl, hstt⟩ := cw
  have hK : vx_Back l R p e below s args y 3 8 (PreOf R mc ms Pc) (PostOf Qc mc ms free) (vx_Post XC mc ms free) := vx_backW (hh := hh) (bytes := bytes) (maxL := maxL) (ret := ret) hM hp.1 hrc hrs hfr hlo hws hcw (fun a' U hW => word_at hW (Or.inl (by first | rfl | simp [Cond.onTables, Cond.keeps, Cond.steady])) hini)
  obtain ⟨hx, hb, hml, ho, -⟩ := S
  intro T hT X
  rcases vx_callSX X hx (hh := hh) (bytes := bytes) (maxL := maxL) (ret := ret) ho hl hstt hini hcode hy hK hg (hsize.trans hml.symm) (argsL := As) (rest := rest) (fun sig h => hn.trans (hlen sig h)) hstack hW (by rw [hb]; exact hdg)
    (fun vm₁ hW₁ => ⟨hf.1, hf.2, hp.2 (T.setVm vm₁) hT hW₁⟩) with ⟨v, vm₁, ⟨U', l2, c2, s2⟩, hW₁, X', ⟨g', mk, t, L, e1, e2, hq, h1, hL, h2, h3⟩, st⟩ | ⟨q, vm₁, ⟨U', l2, c2, s2⟩, hW₁, X', ⟨g', mk, t, L, E, ce, e1, e2, hq, hce, hcv, hcl, h1, hL, h2, h3⟩, st⟩
  · dsimp only [Pt.U, Pt.locs, Pt.cells, Pt.slots] at X' e1 e2 h1 h2 h3 st
    subst h1; subst h2; subst h3
    exact Or.inl ⟨v, (T.setVm vm₁).calling g' mk As.toArray, t, U', L, hT, X', hL, e1, e2, hq, st⟩
  · dsimp only [Pt.U, Pt.locs, Pt.cells, Pt.slots] at X' e1 e2 h1 h2 h3 st hcl
    subst h1; subst h2; subst h3
    exact Or.inr ⟨q, (T.setVm vm₁).calling g' mk As.toArray, t, U', L, E, ce, hT, X', hL, e1, e2, hq, hce, hcv, vx_cls hW₁ hcl, st⟩
end
end VXH
theorem vx_ofWH {l : Launch} {y : MethodName} {ws ws' : List Cond} {rm : Room} {Pc : Array Value → State → Prop} {Qc : Array Value → State → Outcome → State → Prop} {XC : String → State → State → Prop} {mc ms : Nat} {free : Addr → Prop} {cc : ByteArray} {maxL : Nat} {ret : Option FieldType} {hh : List (Nat × Nat × Nat × Nat)}
    (hy : plainName y.cls = true) (hw : ws = Cond.codeWith y cc maxL ret hh :: ws')
    (body : ∀ p e s m args below meth c s₁, BodyLoose p l y (headSpec ws rm) cc maxL ret e s m args below meth c s₁ → c.maxLocals = maxL → Pc args s →
      W p l e (headSpec ws rm).room s m args below meth c s.heap [] 0 0 (vx_MQ below Qc XC args s mc ms free) (entryFrame m args maxL)) : vx_Met l y ws rm Pc Qc XC mc ms free := by
  refine MetFree.of_bodyS (code := cc) (maxLocals := maxL) (ret := ret) hy ?_ ?_
  · intro args s m h hn
    obtain ⟨m9, meth, c, hn9, h1, h2, h3, h4, -, h5, h6, -⟩ := Cond.codeWith_spec (atoms_spec (ws := ws) h _ (by rw [hw]; exact List.mem_cons_self))
    cases hn.symm.trans hn9
    exact ⟨meth, c, h1, h2, h3, h4, h5, h6⟩
  · intro p e s m args below meth c s₁ B hml hP _
    have hh0 : s₁.heap = s.heap := by rw [B.state]; rfl
    obtain ⟨t, a1, o, b1, b2, b3⟩ := body p e s m args below meth c s₁ B hml hP s₁ hh0 (Stand.of_body B)
    exact ⟨t, o, a1, b1, b2, b3⟩
/-! ===== END ===== -/

def RX0 : String := "CombCylinder$Drum"
def TX0 : u_T := fun k => match k with
  | 0 => ("CombCylinder$Drum", "ticks", "I", false)
  | 1 => ("CombCylinder$Drum", "airs", "I", false)
  | 2 => ("CombCylinder$Drum", "shift", "I", false)
  | 3 => ("CombCylinder$Drum", "isCemented", "Z", false)
  | 4 => ("CombCylinder$Drum", "size", "I", false)
  | 5 => ("CombCylinder$Drum", "pins", "[LCombCylinder$Pin;", true)
  | _ => ("CombCylinder$Drum", "runOrder", "[LCombCylinder$Pin;", true)
def tyX0 : Nat → FieldType := fun k => match k with
  | 0 => .int
  | 1 => .int
  | 2 => .int
  | 3 => .boolean
  | 4 => .int
  | 5 => .array (.object "CombCylinder$Pin")
  | _ => .array (.object "CombCylinder$Pin")
theorem nmX0 : ∀ a, a < 7 → ∀ b, b < 7 → a ≠ b → (TX0 a).2.1 ≠ (TX0 b).2.1 := by decide +kernel
theorem tyX0_ok : ∀ k, k < 7 → parseFieldDescriptor (TX0 k).2.2.1 = some (tyX0 k) := by decide +kernel
def RX1 : String := "CombCylinder$Pin"
def TX1 : u_T := fun k => match k with
  | 0 => ("CombCylinder$Pin", "air", "I", false)
  | 1 => ("CombCylinder$Pin", "tick", "I", false)
  | 2 => ("CombCylinder$Pin", "place", "I", false)
  | 3 => ("CombCylinder$Pin", "lean", "I", false)
  | 4 => ("CombCylinder$Pin", "rank", "I", false)
  | _ => ("CombCylinder$Pin", "runRank", "I", false)
def tyX1 : Nat → FieldType := fun k => match k with
  | 0 => .int
  | 1 => .int
  | 2 => .int
  | 3 => .int
  | 4 => .int
  | _ => .int
theorem nmX1 : ∀ a, a < 6 → ∀ b, b < 6 → a ≠ b → (TX1 a).2.1 ≠ (TX1 b).2.1 := by decide +kernel
theorem tyX1_ok : ∀ k, k < 6 → parseFieldDescriptor (TX1 k).2.2.1 = some (tyX1 k) := by decide +kernel
def RX2 : String := "CombCylinder$Sheet"
def TX2 : u_T := fun k => match k with
  | 0 => ("CombCylinder$Sheet", "ticks", "[I", true)
  | 1 => ("CombCylinder$Sheet", "parts", "[I", true)
  | 2 => ("CombCylinder$Sheet", "numbers", "[I", true)
  | _ => ("CombCylinder$Sheet", "size", "I", false)
def tyX2 : Nat → FieldType := fun k => match k with
  | 0 => .array .int
  | 1 => .array .int
  | 2 => .array .int
  | _ => .int
theorem nmX2 : ∀ a, a < 4 → ∀ b, b < 4 → a ≠ b → (TX2 a).2.1 ≠ (TX2 b).2.1 := by decide +kernel
theorem tyX2_ok : ∀ k, k < 4 → parseFieldDescriptor (TX2 k).2.2.1 = some (tyX2 k) := by decide +kernel
def RX3 : String := "CombCylinder$Spring"
def TX3 : u_T := fun k => match k with
  | 0 => ("CombCylinder$Spring", "quarters", "I", false)
  | 1 => ("CombCylinder$Spring", "fanSize", "I", false)
  | _ => ("CombCylinder$Spring", "time", "D", false)
def tyX3 : Nat → FieldType := fun k => match k with
  | 0 => .int
  | 1 => .int
  | _ => .double
theorem nmX3 : ∀ a, a < 3 → ∀ b, b < 3 → a ≠ b → (TX3 a).2.1 ≠ (TX3 b).2.1 := by decide +kernel
theorem tyX3_ok : ∀ k, k < 3 → parseFieldDescriptor (TX3 k).2.2.1 = some (tyX3 k) := by decide +kernel
def RX4 : String := "CombCylinder$Tuner"
def TX4 : u_T := fun k => match k with
  | 0 => ("CombCylinder$Tuner", "lostCount", "I", false)
  | 1 => ("CombCylinder$Tuner", "lostPlaces", "[I", true)
  | 2 => ("CombCylinder$Tuner", "given", "[I", true)
  | 3 => ("CombCylinder$Tuner", "choices", "[[I", true)
  | 4 => ("CombCylinder$Tuner", "choiceCounts", "[I", true)
  | 5 => ("CombCylinder$Tuner", "first", "[I", true)
  | _ => ("CombCylinder$Tuner", "found", "I", false)
def tyX4 : Nat → FieldType := fun k => match k with
  | 0 => .int
  | 1 => .array .int
  | 2 => .array .int
  | 3 => .array (.array .int)
  | 4 => .array .int
  | 5 => .array .int
  | _ => .int
theorem nmX4 : ∀ a, a < 7 → ∀ b, b < 7 → a ≠ b → (TX4 a).2.1 ≠ (TX4 b).2.1 := by decide +kernel
theorem tyX4_ok : ∀ k, k < 7 → parseFieldDescriptor (TX4 k).2.2.1 = some (tyX4 k) := by decide +kernel
def RX5 : String := "CombCylinder$Voice"
def TX5 : u_T := fun k => match k with
  | 0 => ("CombCylinder$Voice", "isThere", "Z", false)
  | 1 => ("CombCylinder$Voice", "isTooth", "Z", false)
  | 2 => ("CombCylinder$Voice", "size", "I", false)
  | 3 => ("CombCylinder$Voice", "reach", "I", false)
  | 4 => ("CombCylinder$Voice", "filedTip", "I", false)
  | 5 => ("CombCylinder$Voice", "filedRoot", "I", false)
  | 6 => ("CombCylinder$Voice", "leadOn", "I", false)
  | 7 => ("CombCylinder$Voice", "damperKind", "C", false)
  | 8 => ("CombCylinder$Voice", "isBent", "Z", false)
  | 9 => ("CombCylinder$Voice", "broken", "Z", false)
  | 10 => ("CombCylinder$Voice", "struck", "I", false)
  | _ => ("CombCylinder$Voice", "struckInRun", "I", false)
def tyX5 : Nat → FieldType := fun k => match k with
  | 0 => .boolean
  | 1 => .boolean
  | 2 => .int
  | 3 => .int
  | 4 => .int
  | 5 => .int
  | 6 => .int
  | 7 => .char
  | 8 => .boolean
  | 9 => .boolean
  | 10 => .int
  | _ => .int
theorem nmX5 : ∀ a, a < 12 → ∀ b, b < 12 → a ≠ b → (TX5 a).2.1 ≠ (TX5 b).2.1 := by decide +kernel
theorem tyX5_ok : ∀ k, k < 12 → parseFieldDescriptor (TX5 k).2.2.1 = some (tyX5 k) := by decide +kernel
def RX6 : String := "CombCylinder"
def TX6 : u_T := fun k => match k with
  | 0 => ("CombCylinder", "voices", "[LCombCylinder$Voice;", true)
  | 1 => ("CombCylinder", "sheets", "[LCombCylinder$Sheet;", true)
  | 2 => ("CombCylinder", "drum", "LCombCylinder$Drum;", true)
  | 3 => ("CombCylinder", "spring", "LCombCylinder$Spring;", true)
  | 4 => ("CombCylinder", "tuner", "LCombCylinder$Tuner;", true)
  | 5 => ("CombCylinder", "hasSnail", "Z", false)
  | 6 => ("CombCylinder", "coinsTaken", "I", false)
  | 7 => ("CombCylinder", "struckInAll", "I", false)
  | _ => ("CombCylinder", "struckOfGone", "I", false)
def tyX6 : Nat → FieldType := fun k => match k with
  | 0 => .array (.object "CombCylinder$Voice")
  | 1 => .array (.object "CombCylinder$Sheet")
  | 2 => .object "CombCylinder$Drum"
  | 3 => .object "CombCylinder$Spring"
  | 4 => .object "CombCylinder$Tuner"
  | 5 => .boolean
  | 6 => .int
  | 7 => .int
  | _ => .int
theorem nmX6 : ∀ a, a < 9 → ∀ b, b < 9 → a ≠ b → (TX6 a).2.1 ≠ (TX6 b).2.1 := by decide +kernel
theorem tyX6_ok : ∀ k, k < 9 → parseFieldDescriptor (TX6 k).2.2.1 = some (tyX6 k) := by decide +kernel
end
section
/-! ===== an abstract machine over closed data: the walk of a method by computation; its soundness stands in the parts behind =====
A value: (tag, number, form). 0 int (the number mod 2^32), 6 int (the form's), 1 long (mod 2^64), 2 float, 3 double (their bits), 4 null, 8 some reference, 10 the reference to the cell 'number', 12 the script, 98 nothing; 7 the double of the form, 9 that by the double 'number', 11 the bits of that. Odd tags take two words. A form: constant :: coefficients of the unknowns. -/
abbrev am_V : Type := Nat × Nat × List Int
/-- a cell: below 100 an object of that class, its fields; 100 an int array, 101 and on arrays of references -/
abbrev am_C : Type := Nat × List am_V
/-- pc, instruction, length, places of the words that it needs -/
abbrev am_I : Type := Nat × Instr × Nat × List Nat
/-- name, code, locals, what it returns, table, instructions -/
abbrev am_M : Type := MethodName × ByteArray × Nat × Option FieldType × List (Nat × Nat × Nat × Nat) × List am_I
/-- what is known of the unknowns: bounds, equal forms, forms with their absolute values -/
abbrev am_A : Type := List (Int × Int) × List (List Int × List Int) × List (List Int × List Int)
/-- instructions from here, locals, stack, heap, cells and slots made -/
abbrev am_S : Type := List am_I × List am_V × List am_V × List am_C × Nat × Nat
/-- 0 returned, 1 returned a value, 2 threw (the class' number), 3 stopped -/
abbrev am_O : Type := Nat × am_V × am_S

noncomputable def am_nth {α : Type} (l : List α) (k : Nat) : Option α :=
  List.rec (motive := fun _ => Nat → Option α) (fun _ => none) (fun a _ ih k => Nat.rec (motive := fun _ => Option α) (some a) (fun k _ => ih k) k) l k
noncomputable def am_set {α : Type} (l : List α) (k : Nat) (x : α) : List α :=
  List.rec (motive := fun _ => Nat → List α) (fun _ => []) (fun a t ih k => Nat.rec (motive := fun _ => List α) (x :: t) (fun k _ => a :: ih k) k) l k
theorem am_nth_eq {α : Type} (l : List α) : ∀ k, am_nth l k = l[k]? := by
  induction l with
  | nil => intro k; rfl
  | cons a t ih =>
    intro k
    cases k with
    | zero => rfl
    | succ k => exact (ih k).trans (by simp)
theorem am_set_eq {α : Type} (l : List α) (x : α) : ∀ k, am_set l k x = l.set k x := by
  induction l with
  | nil => intro k; rfl
  | cons a t ih =>
    intro k
    cases k with
    | zero => rfl
    | succ k =>
      show a :: am_set t k x = _
      rw [ih k]
      rfl

-- forms
def am_dot : List Int → List Int → Int
  | c :: cs, x :: xs => c * x + am_dot cs xs
  | _, _ => 0
def am_ev (X : List Int) : List Int → Int
  | [] => 0
  | c :: cs => c + am_dot cs X
def am_fadd : List Int → List Int → List Int
  | [], g => g
  | f, [] => f
  | a :: f, b :: g => (a + b) :: am_fadd f g
def am_fmul (k : Int) (f : List Int) : List Int := f.map (fun c => k * c)
def am_fsub (f g : List Int) : List Int := am_fadd f (am_fmul (-1) g)
def am_zero (f : List Int) : Bool := f.all (fun c => c == 0)
def am_feq (f g : List Int) : Bool := am_zero (am_fsub f g)
def am_rng : List (Int × Int) → List Int → Option (Int × Int)
  | _, [] => some (0, 0)
  | [], c :: cs => if c = 0 then am_rng [] cs else none
  | b :: bs, c :: cs => match am_rng bs cs with
    | none => none
    | some r => if 0 ≤ c then some (r.1 + c * b.1, r.2 + c * b.2) else some (r.1 + c * b.2, r.2 + c * b.1)
def am_lim (A : am_A) : List Int → Option (Int × Int)
  | [] => some (0, 0)
  | c :: cs => match am_rng A.1 cs with
    | none => none
    | some r => some (c + r.1, c + r.2)
def am_rw : List (List Int × List Int) → List Int → List Int
  | [], f => f
  | e :: es, f => bif am_feq f e.1 then e.2 else am_rw es f
def am_look : List (List Int × List Int) → List Int → Option (List Int)
  | [], _ => none
  | e :: es, f => bif am_feq f e.1 then some e.2 else am_look es f
/-- the number mod 2^32 as an Int; an Int mod 2^32 -/
def am_si (n : Nat) : Int := bif Nat.blt n 2147483648 then (n : Int) else (n : Int) - 4294967296
def am_un (z : Int) : Nat := (z % 4294967296).toNat
def am_int (z : Int) : am_V := (0, am_un z, [])
def am_form (v : am_V) : Option (List Int) := bif Nat.beq v.1 0 then some [am_si v.2.1] else bif Nat.beq v.1 6 then some v.2.2 else none
def am_mk (A : am_A) (f : List Int) : am_V := match am_rw A.2.1 f with
  | [] => (0, 0, [])
  | c :: cs => bif am_zero cs then am_int c else (6, 0, c :: cs)
def am_k2 (a b : am_V) : Bool := Nat.beq a.1 0 && Nat.beq b.1 0
def am_iadd (A : am_A) (a b : am_V) : Option am_V := bif am_k2 a b then some (0, (a.2.1 + b.2.1) % 4294967296, []) else match am_form a, am_form b with
  | some f, some g => some (am_mk A (am_fadd f g))
  | _, _ => none
def am_isub (A : am_A) (a b : am_V) : Option am_V := match am_form a, am_form b with
  | some f, some g => some (am_mk A (am_fsub f g))
  | _, _ => none
def am_imul (A : am_A) (a b : am_V) : Option am_V := bif am_k2 a b then some (0, (a.2.1 * b.2.1) % 4294967296, []) else match am_form a, am_form b with
  | some [c], some g => some (am_mk A (am_fmul c g))
  | some f, some [c] => some (am_mk A (am_fmul c f))
  | _, _ => none
/-- f = f1 + d * g: f1's coefficients aren't divisible -/
def am_f1 (d : Int) (f : List Int) : List Int := f.map (fun c => if c % d = 0 then 0 else c)
def am_fg (d : Int) (f : List Int) : List Int := f.map (fun c => if c % d = 0 then c / d else 0)
def am_qr (A : am_A) (f : List Int) (d : Int) : Option (List Int × List Int) := match f with
  | [] => none
  | c :: cs => match am_lim A f, am_lim A (c % d :: am_f1 d cs) with
    | some r, some r1 => bif decide (0 < d) && decide (d < 2147483648) && decide (0 ≤ r.1) && decide (r.2 < 2147483648) && decide (0 ≤ r1.1) && decide (r1.2 < d) then some (c / d :: am_fg d cs, c % d :: am_f1 d cs) else none
    | _, _ => none
def am_idiv (A : am_A) (a b : am_V) : Option am_V := match am_form a, am_form b with
  | some f, some [d] => match am_qr A f d with
    | some q => some (am_mk A q.1)
    | none => none
  | _, _ => none
def am_irem (A : am_A) (a b : am_V) : Option am_V := match am_form a, am_form b with
  | some f, some [d] => match am_qr A f d with
    | some q => some (am_mk A q.2)
    | none => none
  | _, _ => none
def am_in32 (r : Int × Int) : Bool := decide (-2147483648 ≤ r.1) && decide (r.2 < 2147483648)
/-- a < b -/
def am_lt (A : am_A) (a b : am_V) : Option Bool := bif am_k2 a b then some (Nat.blt ((a.2.1 + 2147483648) % 4294967296) ((b.2.1 + 2147483648) % 4294967296)) else match am_form a, am_form b with
  | some f, some g => match am_lim A f, am_lim A g, am_lim A (am_fsub f g) with
    | some r, some q, some t => bif am_in32 r && am_in32 q then (bif decide (t.2 < 0) then some true else bif decide (0 ≤ t.1) then some false else none) else none
    | _, _, _ => none
  | _, _ => none
def am_eq (A : am_A) (a b : am_V) : Option Bool := bif am_k2 a b then some (Nat.beq (a.2.1 % 4294967296) (b.2.1 % 4294967296)) else match am_form a, am_form b with
  | some f, some g => bif am_feq f g then some true else match am_lim A f, am_lim A g, am_lim A (am_fsub f g) with
    | some r, some q, some t => bif am_in32 r && am_in32 q && (decide (t.2 < 0) || decide (0 < t.1)) then some false else none
    | _, _, _ => none
  | _, _ => none
def am_not : Option Bool → Option Bool
  | some b => some (!b)
  | none => none
def am_cmp (A : am_A) (c : ClassFile.Cond) (a b : am_V) : Option Bool := match c with
  | .eq => am_eq A a b
  | .ne => am_not (am_eq A a b)
  | .lt => am_lt A a b
  | .ge => am_not (am_lt A a b)
  | .gt => am_lt A b a
  | .le => am_not (am_lt A b a)
def am_abs (A : am_A) (a : am_V) : Option am_V := match am_form a with
  | none => none
  | some f => match am_look A.2.2 f with
    | some g => match am_lim A f with
      | some r => bif am_in32 r then some (am_mk A g) else none
      | none => none
    | none => match am_lim A f with
      | some r => bif am_in32 r then (bif decide (0 ≤ r.1) then some (am_mk A f) else bif decide (r.2 < 0) then some (am_mk A (am_fmul (-1) f)) else none) else none
      | none => none
def am_isu (i : am_V) : Bool := Nat.beq i.1 98
/-- words -/
def am_c2 (v : am_V) : Bool := Nat.beq (v.1 % 2) 1
def am_un0 : am_V := (98, 0, [])
def am_lay : List am_V → List am_V
  | [] => []
  | v :: vs => bif am_c2 v then v :: am_un0 :: am_lay vs else v :: am_lay vs
/-- a store of a value of one word: what stood in two words there is gone -/
noncomputable def am_st1 (lo : List am_V) (k : Nat) (v : am_V) : List am_V := match k with
  | 0 => am_set lo 0 v
  | j + 1 => match am_nth lo j with
    | some w => bif am_c2 w then am_set (am_set lo j am_un0) (j + 1) v else am_set lo (j + 1) v
    | none => am_set lo (j + 1) v
noncomputable def am_st2 (lo : List am_V) (k : Nat) (v : am_V) : List am_V := am_set (am_st1 lo k v) (k + 1) am_un0
def am_suf (l : List am_I) (t : Nat) : List am_I := match l with
  | [] => []
  | x :: xs => bif Nat.beq x.1 t then x :: xs else am_suf xs t
def am_tgt (pc : Nat) (off : Int) : Nat := ((pc : Int) + off).toNat
end
section
/-! ===== what the abstract machine's numbers stand for ===== -/
theorem am_dot_add (f : List Int) : ∀ (g X : List Int), am_dot (am_fadd f g) X = am_dot f X + am_dot g X := by
  induction f with
  | nil => intro g X; simp [am_fadd, am_dot]
  | cons a f ih =>
    intro g X
    cases g with
    | nil => simp [am_fadd, am_dot]
    | cons b g =>
      cases X with
      | nil => simp [am_fadd, am_dot]
      | cons x X =>
        simp only [am_fadd, am_dot, ih g X, Int.add_mul]
        omega
theorem am_dot_mul (k : Int) (f : List Int) : ∀ X, am_dot (am_fmul k f) X = k * am_dot f X := by
  induction f with
  | nil => intro X; simp [am_fmul, am_dot]
  | cons a f ih =>
    intro X
    cases X with
    | nil => simp [am_fmul, am_dot]
    | cons x X =>
      have h := ih X
      simp only [am_fmul] at h
      simp only [am_fmul, List.map_cons, am_dot, h, Int.mul_add, Int.mul_assoc]
theorem am_ev_add (X f g : List Int) : am_ev X (am_fadd f g) = am_ev X f + am_ev X g := by
  cases f with
  | nil => simp [am_fadd, am_ev]
  | cons a f =>
    cases g with
    | nil => simp [am_fadd, am_ev]
    | cons b g =>
      simp only [am_fadd, am_ev, am_dot_add]
      omega
theorem am_ev_mul (X : List Int) (k : Int) (f : List Int) : am_ev X (am_fmul k f) = k * am_ev X f := by
  cases f with
  | nil => simp [am_fmul, am_ev]
  | cons a f =>
    have h := am_dot_mul k f X
    simp only [am_fmul] at h
    simp only [am_fmul, List.map_cons, am_ev, h, Int.mul_add]
theorem am_ev_sub (X f g : List Int) : am_ev X (am_fsub f g) = am_ev X f - am_ev X g := by
  unfold am_fsub
  rw [am_ev_add, am_ev_mul]
  omega
theorem am_dot_zero (f : List Int) : ∀ X, am_zero f = true → am_dot f X = 0 := by
  induction f with
  | nil => intro X _; simp [am_dot]
  | cons a f ih =>
    intro X h
    simp only [am_zero, List.all_cons, Bool.and_eq_true, beq_iff_eq] at h
    cases X with
    | nil => simp [am_dot]
    | cons x X =>
      have h2 : am_zero f = true := h.2
      simp [am_dot, h.1, ih X h2]
theorem am_ev_zero (X f : List Int) (h : am_zero f = true) : am_ev X f = 0 := by
  cases f with
  | nil => rfl
  | cons a f =>
    simp only [am_zero, List.all_cons, Bool.and_eq_true, beq_iff_eq] at h
    have h2 : am_zero f = true := h.2
    simp [am_ev, h.1, am_dot_zero f X h2]
theorem am_ev_eq (X f g : List Int) (h : am_feq f g = true) : am_ev X f = am_ev X g := by
  have h1 := am_ev_zero X _ h
  rw [am_ev_sub] at h1
  omega
/-- the unknowns keep to their bounds -/
def am_bx : List (Int × Int) → List Int → Prop
  | [], _ => True
  | b :: bs, x :: xs => b.1 ≤ x ∧ x ≤ b.2 ∧ am_bx bs xs
  | _ :: _, [] => False
theorem am_rng_ok (cs : List Int) : ∀ (bs : List (Int × Int)) (X : List Int) (r : Int × Int), am_bx bs X → am_rng bs cs = some r → r.1 ≤ am_dot cs X ∧ am_dot cs X ≤ r.2 := by
  induction cs with
  | nil =>
    intro bs X r _ h
    simp only [am_rng, Option.some.injEq] at h
    subst h
    simp [am_dot]
  | cons c cs ih =>
    intro bs X r hb h
    cases bs with
    | nil =>
      simp only [am_rng] at h
      split at h
      · rename_i hc
        subst hc
        cases X with
        | nil =>
          have h2 := ih [] [] r trivial h
          simpa [am_dot] using (show r.1 ≤ 0 ∧ 0 ≤ r.2 by cases cs <;> simpa [am_dot] using h2)
        | cons x X =>
          have h2 := ih [] X r trivial h
          simpa [am_dot] using h2
      · cases h
    | cons b bs =>
      cases X with
      | nil => exact hb.elim
      | cons x X =>
        obtain ⟨h1, h2, h3⟩ := hb
        simp only [am_rng] at h
        cases hr : am_rng bs cs with
        | none => rw [hr] at h; cases h
        | some q =>
          rw [hr] at h
          obtain ⟨k1, k2⟩ := ih bs X q h3 hr
          simp only [am_dot]
          simp only at h
          split at h
          · rename_i hc
            cases h
            have e1 := Int.mul_le_mul_of_nonneg_left h1 hc
            have e2 := Int.mul_le_mul_of_nonneg_left h2 hc
            constructor <;> simp only <;> omega
          · rename_i hc
            cases h
            have hc' : c ≤ 0 := by omega
            have e1 := Int.mul_le_mul_of_nonpos_left hc' h1
            have e2 := Int.mul_le_mul_of_nonpos_left hc' h2
            constructor <;> simp only <;> omega
/-- what is known of the unknowns holds -/
def am_kn (A : am_A) (X : List Int) : Prop := am_bx A.1 X ∧ (∀ e ∈ A.2.1, am_ev X e.1 = am_ev X e.2) ∧ ∀ e ∈ A.2.2, am_ev X e.2 = ((am_ev X e.1).natAbs : Int)
theorem am_lim_ok {A : am_A} {X f : List Int} {r : Int × Int} (hA : am_kn A X) (h : am_lim A f = some r) : r.1 ≤ am_ev X f ∧ am_ev X f ≤ r.2 := by
  cases f with
  | nil =>
    simp only [am_lim, Option.some.injEq] at h
    subst h
    simp [am_ev]
  | cons c cs =>
    simp only [am_lim] at h
    cases hr : am_rng A.1 cs with
    | none => rw [hr] at h; cases h
    | some q =>
      rw [hr] at h
      cases h
      have := am_rng_ok cs A.1 X q hA.1 hr
      simp only [am_ev]
      omega
theorem am_rw_ok {X : List Int} : ∀ (es : List (List Int × List Int)) (f : List Int), (∀ e ∈ es, am_ev X e.1 = am_ev X e.2) → am_ev X (am_rw es f) = am_ev X f := by
  intro es
  induction es with
  | nil => intro f _; rfl
  | cons e es ih =>
    intro f h
    simp only [am_rw]
    cases hq : am_feq f e.1 with
    | true =>
      simp only [cond_true]
      rw [am_ev_eq X _ _ hq, h e List.mem_cons_self]
    | false =>
      simp only [cond_false]
      exact ih f (fun x hx => h x (List.mem_cons_of_mem _ hx))
theorem am_look_ok {X : List Int} : ∀ (es : List (List Int × List Int)) (f g : List Int), (∀ e ∈ es, am_ev X e.2 = ((am_ev X e.1).natAbs : Int)) → am_look es f = some g → am_ev X g = ((am_ev X f).natAbs : Int) := by
  intro es
  induction es with
  | nil => intro f g _ h; cases h
  | cons e es ih =>
    intro f g h hl
    simp only [am_look] at hl
    cases hq : am_feq f e.1 with
    | true =>
      rw [hq] at hl
      simp only [cond_true, Option.some.injEq] at hl
      subst hl
      rw [h e List.mem_cons_self, am_ev_eq X _ _ hq]
    | false =>
      rw [hq] at hl
      simp only [cond_false] at hl
      exact ih f g (fun x hx => h x (List.mem_cons_of_mem _ hx)) hl
-- 32 bits
def am_i (z : Int) : Int32 := Int32.ofInt z
theorem am_bm (z : Int) : z.bmod 4294967296 = if z % 4294967296 < 2147483648 then z % 4294967296 else z % 4294967296 - 4294967296 := by
  rw [Int.bmod_def]
  rfl
theorem am_i_t (z : Int) : (am_i z).toInt = z.bmod 4294967296 := by
  unfold am_i
  rw [Int32.toInt_ofInt]
theorem am_i_ext {x : Int32} {z : Int} (h : x.toInt = z.bmod 4294967296) : x = am_i z := by
  apply Int32.toInt_inj.mp
  rw [h, am_i_t]
theorem am_i_nat (n : Nat) : Int32.ofNat n = am_i (n : Int) := by
  apply am_i_ext
  rw [Int32.toInt_ofNat']
theorem am_i_mod (z : Int) : am_i (z % 4294967296) = am_i z := by
  apply am_i_ext
  rw [am_i_t, am_bm, am_bm]
  split <;> split <;> omega
theorem am_i_un (z : Int) : Int32.ofNat (am_un z) = am_i z := by
  rw [am_i_nat]
  unfold am_un
  rw [Int.toNat_of_nonneg (by omega), am_i_mod]
theorem am_i_si (n : Nat) : Int32.ofNat n = am_i (am_si n) := by
  rw [am_i_nat]
  unfold am_si
  cases h : Nat.blt n 2147483648 with
  | true => rfl
  | false =>
    apply am_i_ext
    rw [am_i_t]
    simp only [cond_false]
    rw [am_bm, am_bm]
    split <;> split <;> omega
theorem am_i_nmod (n : Nat) : Int32.ofNat (n % 4294967296) = Int32.ofNat n := by
  rw [am_i_nat, am_i_nat]
  apply am_i_ext
  rw [am_i_t, am_bm, am_bm]
  split <;> split <;> omega
theorem am_i_add (a b : Int) : am_i a + am_i b = am_i (a + b) := by
  apply am_i_ext
  rw [Int32.toInt_add, am_i_t, am_i_t]
  simp
theorem am_i_sub (a b : Int) : am_i a - am_i b = am_i (a - b) := by
  apply am_i_ext
  rw [Int32.toInt_sub, am_i_t, am_i_t]
  simp
theorem am_i_mul (a b : Int) : am_i a * am_i b = am_i (a * b) := by
  apply am_i_ext
  rw [Int32.toInt_mul, am_i_t, am_i_t]
  simp
theorem am_i_in {z : Int} (h1 : -2147483648 ≤ z) (h2 : z < 2147483648) : (am_i z).toInt = z := by
  rw [am_i_t, am_bm]
  split <;> omega
theorem am_i_div {a d : Int} (h1 : 0 ≤ a) (h2 : a < 2147483648) (h3 : 0 < d) (h4 : d < 2147483648) : am_i a / am_i d = am_i (a / d) := by
  apply am_i_ext
  rw [Int32.toInt_div, am_i_in (by omega) h2, am_i_in (by omega) h4, Int.tdiv_eq_ediv_of_nonneg h1]
theorem am_i_lt {a b : Int} (h1 : -2147483648 ≤ a) (h2 : a < 2147483648) (h3 : -2147483648 ≤ b) (h4 : b < 2147483648) : am_i a < am_i b ↔ a < b := by
  rw [Int32.lt_iff_toInt_lt, am_i_in h1 h2, am_i_in h3 h4]
theorem am_i_eq {a b : Int} (h1 : -2147483648 ≤ a) (h2 : a < 2147483648) (h3 : -2147483648 ≤ b) (h4 : b < 2147483648) : am_i a = am_i b ↔ a = b := by
  rw [← Int32.toInt_inj, am_i_in h1 h2, am_i_in h3 h4]
theorem am_n_lt (a b : Nat) : Int32.ofNat a < Int32.ofNat b ↔ Nat.blt ((a + 2147483648) % 4294967296) ((b + 2147483648) % 4294967296) = true := by
  rw [Int32.lt_iff_toInt_lt, am_i_nat, am_i_nat, am_i_t, am_i_t, Nat.blt_eq, am_bm, am_bm]
  split <;> split <;> omega
theorem am_n_eq (a b : Nat) : Int32.ofNat a = Int32.ofNat b ↔ Nat.beq (a % 4294967296) (b % 4294967296) = true := by
  rw [← Int32.toInt_inj, am_i_nat, am_i_nat, am_i_t, am_i_t, Nat.beq_eq, am_bm, am_bm]
  split <;> split <;> omega
end
section
/-! ===== a value of the abstract machine and a value of the machine: X the unknowns, b the script's cell, ad the cells' addresses ===== -/
def am_dq (X : List Int) (n : Nat) (f : List Int) : UInt64 := FP.ddiv (FP.i2d (am_i (am_ev X f))) (UInt64.ofNat n)
def am_R (X : List Int) (b : Nat) (ad : List Nat) (v : am_V) (V : Value) : Prop := match v.1 with
  | 0 => V = .int (Int32.ofNat v.2.1)
  | 1 => V = .long (Int64.ofNat v.2.1)
  | 2 => V = .float (UInt32.ofNat v.2.1)
  | 3 => V = .double (UInt64.ofNat v.2.1)
  | 4 => V = .null
  | 6 => V = .int (am_i (am_ev X v.2.2))
  | 7 => V = .double (FP.i2d (am_i (am_ev X v.2.2)))
  | 8 => ∃ a, V = .ref a
  | 9 => V = .double (am_dq X v.2.1 v.2.2)
  | 10 => ∃ a, ad[v.2.1]? = some a ∧ V = .ref a
  | 11 => V = .long (am_dq X v.2.1 v.2.2).toInt64
  | 12 => V = .ref b
  | _ => False
theorem am_R_grow {X : List Int} {b : Nat} {ad ad' : List Nat} {v : am_V} {V : Value} (h : am_R X b ad v V) (hp : ∀ (k a : Nat), ad[k]? = some a → ad'[k]? = some a) : am_R X b ad' v V := by
  obtain ⟨t, n, f⟩ := v
  unfold am_R at h ⊢
  split at h <;> simp_all
  obtain ⟨a, h1, h2⟩ := h
  exact ⟨a, hp _ _ h1, h2⟩
section AMV
variable {X : List Int} {b : Nat} {ad : List Nat} {A : am_A}
theorem am_R_int {v : am_V} {V : Value} {f : List Int} (h : am_R X b ad v V) (hf : am_form v = some f) : V = .int (am_i (am_ev X f)) := by
  obtain ⟨t, n, g⟩ := v
  unfold am_form at hf
  cases h0 : Nat.beq t 0 with
  | true =>
    simp only [h0, cond_true, Option.some.injEq] at hf
    have ht : t = 0 := Nat.eq_of_beq_eq_true h0
    subst ht
    subst hf
    have h2 : V = .int (Int32.ofNat n) := h
    rw [h2, am_i_si]
    simp [am_ev, am_dot]
  | false =>
    simp only [h0, cond_false] at hf
    cases h6 : Nat.beq t 6 with
    | true =>
      simp only [h6, cond_true, Option.some.injEq] at hf
      have ht : t = 6 := Nat.eq_of_beq_eq_true h6
      subst ht
      subst hf
      exact h
    | false =>
      simp only [h6, cond_false] at hf
      cases hf
theorem am_R_k2 {u v : am_V} {U V : Value} (h : am_k2 u v = true) (hu : am_R X b ad u U) (hv : am_R X b ad v V) : U = .int (Int32.ofNat u.2.1) ∧ V = .int (Int32.ofNat v.2.1) := by
  unfold am_k2 at h
  simp only [Bool.and_eq_true] at h
  obtain ⟨t, n, f⟩ := u
  obtain ⟨t', n', f'⟩ := v
  have h1 : t = 0 := Nat.eq_of_beq_eq_true h.1
  have h2 : t' = 0 := Nat.eq_of_beq_eq_true h.2
  subst h1
  subst h2
  exact ⟨hu, hv⟩
theorem am_R_mk (hA : am_kn A X) (f : List Int) : am_R X b ad (am_mk A f) (.int (am_i (am_ev X f))) := by
  rw [← am_rw_ok A.2.1 f hA.2.1]
  unfold am_mk
  generalize am_rw A.2.1 f = g
  cases g with
  | nil =>
    show Value.int _ = .int (Int32.ofNat 0)
    rw [am_i_nat]
    rfl
  | cons c cs =>
    cases hz : am_zero cs with
    | false => simp only [hz, cond_false]; rfl
    | true =>
      simp only [hz, cond_true]
      show Value.int _ = .int (Int32.ofNat (am_un c))
      rw [am_i_un]
      simp only [am_ev, am_dot_zero cs X hz, Int.add_zero]
theorem am_R_0 (n : Nat) : am_R X b ad (0, n, []) (.int (Int32.ofNat n)) := rfl
theorem am_R_i (z : Int) : am_R X b ad (am_int z) (.int (am_i z)) := by
  show Value.int _ = .int (Int32.ofNat (am_un z))
  rw [am_i_un]
theorem am_R_iadd (hA : am_kn A X) {u v r : am_V} {U V : Value} (hu : am_R X b ad u U) (hv : am_R X b ad v V) (h : am_iadd A u v = some r) : ∃ x y : Int32, U = .int x ∧ V = .int y ∧ am_R X b ad r (.int (x + y)) := by
  unfold am_iadd at h
  cases hk : am_k2 u v with
  | true =>
    simp only [hk, cond_true, Option.some.injEq] at h
    obtain ⟨h1, h2⟩ := am_R_k2 hk hu hv
    refine ⟨_, _, h1, h2, ?_⟩
    subst h
    show Value.int _ = .int (Int32.ofNat _)
    rw [am_i_nmod, am_i_nat, am_i_nat, am_i_nat, am_i_add]
    rfl
  | false =>
    simp only [hk, cond_false] at h
    split at h
    · rename_i f g hf hg
      cases h
      refine ⟨_, _, am_R_int hu hf, am_R_int hv hg, ?_⟩
      rw [am_i_add, ← am_ev_add]
      exact am_R_mk hA _
    · cases h
theorem am_R_isub (hA : am_kn A X) {u v r : am_V} {U V : Value} (hu : am_R X b ad u U) (hv : am_R X b ad v V) (h : am_isub A u v = some r) : ∃ x y : Int32, U = .int x ∧ V = .int y ∧ am_R X b ad r (.int (x - y)) := by
  unfold am_isub at h
  split at h
  · rename_i f g hf hg
    cases h
    refine ⟨_, _, am_R_int hu hf, am_R_int hv hg, ?_⟩
    rw [am_i_sub, ← am_ev_sub]
    exact am_R_mk hA _
  · cases h
theorem am_R_imul (hA : am_kn A X) {u v r : am_V} {U V : Value} (hu : am_R X b ad u U) (hv : am_R X b ad v V) (h : am_imul A u v = some r) : ∃ x y : Int32, U = .int x ∧ V = .int y ∧ am_R X b ad r (.int (x * y)) := by
  unfold am_imul at h
  cases hk : am_k2 u v with
  | true =>
    simp only [hk, cond_true, Option.some.injEq] at h
    obtain ⟨h1, h2⟩ := am_R_k2 hk hu hv
    refine ⟨_, _, h1, h2, ?_⟩
    subst h
    show Value.int _ = .int (Int32.ofNat _)
    rw [am_i_nmod, am_i_nat, am_i_nat, am_i_nat, am_i_mul]
    rfl
  | false =>
    simp only [hk, cond_false] at h
    split at h
    · rename_i c g hf hg
      cases h
      refine ⟨_, _, am_R_int hu hf, am_R_int hv hg, ?_⟩
      rw [am_i_mul, show am_ev X [c] = c by simp [am_ev, am_dot], ← am_ev_mul]
      exact am_R_mk hA _
    · rename_i f c _ hf hg
      cases h
      refine ⟨_, _, am_R_int hu hf, am_R_int hv hg, ?_⟩
      rw [am_i_mul, show am_ev X [c] = c by simp [am_ev, am_dot], Int.mul_comm, ← am_ev_mul]
      exact am_R_mk hA _
    · cases h
theorem am_dot_qr (d : Int) (f : List Int) : ∀ X, am_dot f X = am_dot (am_f1 d f) X + d * am_dot (am_fg d f) X := by
  induction f with
  | nil => intro X; simp [am_f1, am_fg, am_dot]
  | cons c f ih =>
    intro X
    cases X with
    | nil => simp [am_f1, am_fg, am_dot]
    | cons x X =>
      have h := ih X
      simp only [am_f1, am_fg] at h
      simp only [am_f1, am_fg, List.map_cons, am_dot]
      rw [h]
      by_cases hc : c % d = 0
      · simp only [if_pos hc, Int.zero_mul, Int.mul_add]
        have e : d * (c / d * x) = c * x := by
          rw [← Int.mul_assoc, Int.mul_ediv_cancel' (Int.dvd_of_emod_eq_zero hc)]
        omega
      · simp only [if_neg hc, Int.zero_mul, Int.mul_add]
        omega
theorem am_qr_ok (hA : am_kn A X) {f : List Int} {d : Int} {q : List Int × List Int} (h : am_qr A f d = some q) : 0 < d ∧ d < 2147483648 ∧ 0 ≤ am_ev X f ∧ am_ev X f < 2147483648 ∧ am_ev X q.1 = am_ev X f / d ∧ am_ev X q.2 = am_ev X f % d := by
  cases f with
  | nil => cases h
  | cons c cs =>
    simp only [am_qr] at h
    split at h
    · rename_i r r1 hr hr1
      cases hb : (decide (0 < d) && decide (d < 2147483648) && decide (0 ≤ r.1) && decide (r.2 < 2147483648) && decide (0 ≤ r1.1) && decide (r1.2 < d)) with
      | false => rw [hb] at h; cases h
      | true =>
        rw [hb] at h
        simp only [cond_true, Option.some.injEq] at h
        simp only [Bool.and_eq_true, decide_eq_true_eq] at hb
        obtain ⟨⟨⟨⟨⟨b1, b2⟩, b3⟩, b4⟩, b5⟩, b6⟩ := hb
        have l1 := am_lim_ok hA hr
        have l2 := am_lim_ok hA hr1
        subst h
        have e := am_dot_qr d cs X
        have e2 := Int.emod_add_mul_ediv c d
        simp only [am_ev] at l1 l2 ⊢
        have key : c + am_dot cs X = (c % d + am_dot (am_f1 d cs) X) + d * (c / d + am_dot (am_fg d cs) X) := by
          rw [e, Int.mul_add]
          omega
        have hlo : 0 ≤ c % d + am_dot (am_f1 d cs) X := by omega
        have hhi : c % d + am_dot (am_f1 d cs) X < d := by omega
        refine ⟨b1, b2, by omega, by omega, ?_, ?_⟩
        · rw [key, Int.add_mul_ediv_left _ _ (by omega), Int.ediv_eq_zero_of_lt hlo hhi]
          omega
        · rw [key, Int.add_mul_emod_self_left, Int.emod_eq_of_lt hlo hhi]
    · cases h
theorem am_R_idiv (hA : am_kn A X) {u v r : am_V} {U V : Value} (hu : am_R X b ad u U) (hv : am_R X b ad v V) (h : am_idiv A u v = some r) : ∃ x y : Int32, U = .int x ∧ V = .int y ∧ ¬ y = 0 ∧ am_R X b ad r (.int (x / y)) := by
  unfold am_idiv at h
  split at h
  · rename_i f d hf hg
    split at h
    · rename_i q hq
      cases h
      obtain ⟨k1, k2, k3, k4, k5, k6⟩ := am_qr_ok hA hq
      have e0 : am_ev X [d] = d := by simp [am_ev, am_dot]
      refine ⟨_, _, am_R_int hu hf, am_R_int hv hg, ?_, ?_⟩
      · rw [e0]
        intro hz
        have hz2 : am_i d = am_i 0 := hz
        rw [am_i_eq (by omega) k2 (by omega) (by omega)] at hz2
        omega
      · rw [e0, am_i_div k3 k4 k1 k2, ← k5]
        exact am_R_mk hA _
    · cases h
  · cases h
theorem am_R_irem (hA : am_kn A X) {u v r : am_V} {U V : Value} (hu : am_R X b ad u U) (hv : am_R X b ad v V) (h : am_irem A u v = some r) : ∃ x y : Int32, U = .int x ∧ V = .int y ∧ ¬ y = 0 ∧ am_R X b ad r (.int (x - x / y * y)) := by
  unfold am_irem at h
  split at h
  · rename_i f d hf hg
    split at h
    · rename_i q hq
      cases h
      obtain ⟨k1, k2, k3, k4, k5, k6⟩ := am_qr_ok hA hq
      have e0 : am_ev X [d] = d := by simp [am_ev, am_dot]
      refine ⟨_, _, am_R_int hu hf, am_R_int hv hg, ?_, ?_⟩
      · rw [e0]
        intro hz
        have hz2 : am_i d = am_i 0 := hz
        rw [am_i_eq (by omega) k2 (by omega) (by omega)] at hz2
        omega
      · have e1 := Int.emod_add_mul_ediv (am_ev X f) d
        have e2 : am_ev X f - am_ev X f / d * d = am_ev X q.2 := by
          rw [k6, Int.mul_comm]
          omega
        rw [e0, am_i_div k3 k4 k1 k2, am_i_mul, am_i_sub, e2]
        exact am_R_mk hA _
    · cases h
  · cases h
theorem am_in_ok {r : Int × Int} {z : Int} (h : am_in32 r = true) (h1 : r.1 ≤ z ∧ z ≤ r.2) : -2147483648 ≤ z ∧ z < 2147483648 := by
  simp only [am_in32, Bool.and_eq_true, decide_eq_true_eq] at h
  omega
theorem am_R_lt (hA : am_kn A X) {u v : am_V} {U V : Value} {r : Bool} (hu : am_R X b ad u U) (hv : am_R X b ad v V) (h : am_lt A u v = some r) : ∃ x y : Int32, U = .int x ∧ V = .int y ∧ (x < y ↔ r = true) := by
  unfold am_lt at h
  cases hk : am_k2 u v with
  | true =>
    simp only [hk, cond_true, Option.some.injEq] at h
    obtain ⟨h1, h2⟩ := am_R_k2 hk hu hv
    exact ⟨_, _, h1, h2, by rw [am_n_lt, h]⟩
  | false =>
    simp only [hk, cond_false] at h
    split at h
    · rename_i f g hf hg
      split at h
      · rename_i r1 q1 t1 hr hq ht
        refine ⟨_, _, am_R_int hu hf, am_R_int hv hg, ?_⟩
        have l1 := am_lim_ok hA hr
        have l2 := am_lim_ok hA hq
        have l3 := am_lim_ok hA ht
        rw [am_ev_sub] at l3
        cases hb : (am_in32 r1 && am_in32 q1) with
        | false => rw [hb] at h; cases h
        | true =>
          rw [hb] at h
          simp only [cond_true] at h
          simp only [Bool.and_eq_true] at hb
          have i1 := am_in_ok hb.1 l1
          have i2 := am_in_ok hb.2 l2
          rw [am_i_lt i1.1 i1.2 i2.1 i2.2]
          by_cases c1 : t1.2 < 0
          · simp only [decide_eq_true c1, cond_true, Option.some.injEq] at h
            subst h
            simp only [iff_true]
            omega
          · simp only [decide_eq_false c1, cond_false] at h
            by_cases c2 : 0 ≤ t1.1
            · simp only [decide_eq_true c2, cond_true, Option.some.injEq] at h
              subst h
              simp only [Bool.false_eq_true, iff_false]
              omega
            · simp only [decide_eq_false c2, cond_false] at h
              cases h
      · cases h
    · cases h
theorem am_R_eq (hA : am_kn A X) {u v : am_V} {U V : Value} {r : Bool} (hu : am_R X b ad u U) (hv : am_R X b ad v V) (h : am_eq A u v = some r) : ∃ x y : Int32, U = .int x ∧ V = .int y ∧ (x = y ↔ r = true) := by
  unfold am_eq at h
  cases hk : am_k2 u v with
  | true =>
    simp only [hk, cond_true, Option.some.injEq] at h
    obtain ⟨h1, h2⟩ := am_R_k2 hk hu hv
    exact ⟨_, _, h1, h2, by rw [am_n_eq, h]⟩
  | false =>
    simp only [hk, cond_false] at h
    split at h
    · rename_i f g hf hg
      refine ⟨_, _, am_R_int hu hf, am_R_int hv hg, ?_⟩
      cases hq0 : am_feq f g with
      | true =>
        simp only [hq0, cond_true, Option.some.injEq] at h
        subst h
        rw [am_ev_eq X f g hq0]
        simp
      | false =>
        simp only [hq0, cond_false] at h
        split at h
        · rename_i r1 q1 t1 hr hq ht
          have l1 := am_lim_ok hA hr
          have l2 := am_lim_ok hA hq
          have l3 := am_lim_ok hA ht
          rw [am_ev_sub] at l3
          cases hb : (am_in32 r1 && am_in32 q1 && (decide (t1.2 < 0) || decide (0 < t1.1))) with
          | false => rw [hb] at h; cases h
          | true =>
            rw [hb] at h
            simp only [cond_true, Option.some.injEq] at h
            subst h
            simp only [Bool.and_eq_true, Bool.or_eq_true, decide_eq_true_eq] at hb
            have i1 := am_in_ok hb.1.1 l1
            have i2 := am_in_ok hb.1.2 l2
            rw [am_i_eq i1.1 i1.2 i2.1 i2.2]
            simp only [Bool.false_eq_true, iff_false]
            rcases hb.2 with c | c <;> omega
        · cases h
    · cases h
theorem am_R_abs (hA : am_kn A X) {u r : am_V} {U : Value} (hu : am_R X b ad u U) (h : am_abs A u = some r) : ∃ x : Int32, U = .int x ∧ am_R X b ad r (.int (if 0 ≤ x then x else 0 - x)) := by
  have key : ∀ z : Int, -2147483648 ≤ z → z < 2147483648 → (if 0 ≤ am_i z then am_i z else 0 - am_i z) = am_i (z.natAbs : Int) := by
    intro z h1 h2
    have e0 : (0 : Int32) = am_i 0 := rfl
    by_cases hz : 0 ≤ z
    · rw [if_pos]
      · congr 1
        omega
      · rw [e0, ← Int32.not_lt, am_i_lt h1 h2 (by omega) (by omega)]
        omega
    · rw [if_neg]
      · rw [e0, am_i_sub]
        congr 1
        omega
      · rw [e0, ← Int32.not_lt, am_i_lt h1 h2 (by omega) (by omega)]
        omega
  unfold am_abs at h
  split at h
  · cases h
  · rename_i f hf
    split at h
    · rename_i g hg
      split at h
      · rename_i q hq
        cases hb : am_in32 q with
        | false => rw [hb] at h; cases h
        | true =>
          rw [hb] at h
          simp only [cond_true, Option.some.injEq] at h
          subst h
          have i1 := am_in_ok hb (am_lim_ok hA hq)
          refine ⟨_, am_R_int hu hf, ?_⟩
          rw [key _ i1.1 i1.2, ← am_look_ok A.2.2 f g hA.2.2 hg]
          exact am_R_mk hA _
      · cases h
    · split at h
      · rename_i q hq
        cases hb : am_in32 q with
        | false => rw [hb] at h; cases h
        | true =>
          rw [hb] at h
          simp only [cond_true] at h
          have l1 := am_lim_ok hA hq
          have i1 := am_in_ok hb l1
          refine ⟨_, am_R_int hu hf, ?_⟩
          rw [key _ i1.1 i1.2]
          by_cases c1 : 0 ≤ q.1
          · simp only [decide_eq_true c1, cond_true, Option.some.injEq] at h
            subst h
            rw [show ((am_ev X f).natAbs : Int) = am_ev X f by omega]
            exact am_R_mk hA _
          · simp only [decide_eq_false c1, cond_false] at h
            by_cases c2 : q.2 < 0
            · simp only [decide_eq_true c2, cond_true, Option.some.injEq] at h
              subst h
              rw [show ((am_ev X f).natAbs : Int) = -1 * am_ev X f by omega, ← am_ev_mul]
              exact am_R_mk hA _
            · simp only [decide_eq_false c2, cond_false] at h
              cases h
      · cases h
end AMV
end
section
/-! ===== one step of the abstract machine; 'rec' is the rest of the run ===== -/
def am_tI (v : am_V) : Bool := Nat.beq v.1 0 || Nat.beq v.1 6
def am_tL (v : am_V) : Bool := Nat.beq v.1 1 || Nat.beq v.1 11
def am_tF (v : am_V) : Bool := Nat.beq v.1 2
def am_tD (v : am_V) : Bool := Nat.beq v.1 3 || Nat.beq v.1 7 || Nat.beq v.1 9
def am_tR (v : am_V) : Bool := Nat.beq v.1 8 || Nat.beq v.1 10 || Nat.beq v.1 12
def am_tA (v : am_V) : Bool := Nat.beq v.1 4 || am_tR v
/-- the classes, their fields' types -/
abbrev am_cl : List vw_C := [(RX0, TX0, 7), (RX1, TX1, 6), (RX2, TX2, 4), (RX3, TX3, 3), (RX4, TX4, 7), (RX5, TX5, 12), (RX6, TX6, 9)]
def am_tys : List (Nat → FieldType) := [tyX0, tyX1, tyX2, tyX3, tyX4, tyX5, tyX6]
def am_ty (ci k : Nat) : FieldType := match am_tys[ci]? with
  | some t => t k
  | none => .int
def am_df (t : FieldType) : am_V := match t with
  | .long => (1, 0, [])
  | .float => (2, 0, [])
  | .double => (3, 0, [])
  | .object _ => (4, 0, [])
  | .array _ => (4, 0, [])
  | _ => (0, 0, [])
/-- a value may be put into a field of that type -/
def am_fit (t : FieldType) (v : am_V) : Bool := match t with
  | .int => am_tI v
  | .boolean => Nat.beq v.1 0 && Nat.blt v.2.1 2
  | .char => Nat.beq v.1 0 && Nat.blt v.2.1 65536
  | .long => am_tL v
  | .float => am_tF v
  | .double => am_tD v
  | .object _ => am_tA v
  | .array _ => am_tA v
  | _ => false
/-- the kinds of arrays: 100 int[], 101 Voice[], 102 Sheet[], 103 Pin[], 104 int[][] -/
def am_at (k : Nat) : Option FieldType := match k with
  | 100 => some .int
  | 101 => some (.object RX5)
  | 102 => some (.object RX2)
  | 103 => some (.object RX1)
  | 104 => some (.array .int)
  | _ => none
/-- what may be put into an array of that kind: the kind of the cell -/
def am_el (k : Nat) : Nat := match k with
  | 101 => 5
  | 102 => 2
  | 103 => 1
  | 104 => 100
  | _ => 999
/-- longs -/
def am_un8 (z : Int) : Nat := (z % 18446744073709551616).toNat
def am_si8 (n : Nat) : Int := bif Nat.blt n 9223372036854775808 then (n : Int) else (n : Int) - 18446744073709551616
def am_ofL (x : Int64) : am_V := (1, x.toBitVec.toNat, [])
def am_ofI (x : Int32) : am_V := (0, x.toBitVec.toNat, [])
def am_ofF (x : UInt32) : am_V := (2, x.toNat, [])
def am_ofD (x : UInt64) : am_V := (3, x.toNat, [])
def am_i1 (f : Int32 → am_V) (a : am_V) : Option am_V := bif Nat.beq a.1 0 then some (f (Int32.ofNat a.2.1)) else none
def am_i22 (f : Int32 → Int32 → am_V) (a b : am_V) : Option am_V := bif am_k2 a b then some (f (Int32.ofNat a.2.1) (Int32.ofNat b.2.1)) else none
def am_l1 (f : Int64 → am_V) (a : am_V) : Option am_V := bif Nat.beq a.1 1 then some (f (Int64.ofNat a.2.1)) else none
def am_l22 (f : Int64 → Int64 → am_V) (a b : am_V) : Option am_V := bif Nat.beq a.1 1 && Nat.beq b.1 1 then some (f (Int64.ofNat a.2.1) (Int64.ofNat b.2.1)) else none
def am_li (f : Int64 → Int32 → am_V) (a b : am_V) : Option am_V := bif Nat.beq a.1 1 && Nat.beq b.1 0 then some (f (Int64.ofNat a.2.1) (Int32.ofNat b.2.1)) else none
def am_f1v (f : UInt32 → am_V) (a : am_V) : Option am_V := bif Nat.beq a.1 2 then some (f (UInt32.ofNat a.2.1)) else none
def am_f22 (ok : UInt32 → Bool) (f : UInt32 → UInt32 → UInt32) (a b : am_V) : Option am_V := bif Nat.beq a.1 2 && Nat.beq b.1 2 && ok (f (UInt32.ofNat a.2.1) (UInt32.ofNat b.2.1)) then some (am_ofF (f (UInt32.ofNat a.2.1) (UInt32.ofNat b.2.1))) else none
def am_fc (f : UInt32 → UInt32 → Int32) (a b : am_V) : Option am_V := bif Nat.beq a.1 2 && Nat.beq b.1 2 then some (am_ofI (f (UInt32.ofNat a.2.1) (UInt32.ofNat b.2.1))) else none
def am_d1v (f : UInt64 → am_V) (a : am_V) : Option am_V := bif Nat.beq a.1 3 then some (f (UInt64.ofNat a.2.1)) else none
def am_d22 (ok : UInt64 → Bool) (f : UInt64 → UInt64 → UInt64) (a b : am_V) : Option am_V := bif Nat.beq a.1 3 && Nat.beq b.1 3 && ok (f (UInt64.ofNat a.2.1) (UInt64.ofNat b.2.1)) then some (am_ofD (f (UInt64.ofNat a.2.1) (UInt64.ofNat b.2.1))) else none
def am_dc (f : UInt64 → UInt64 → Int32) (a b : am_V) : Option am_V := bif Nat.beq a.1 3 && Nat.beq b.1 3 then some (am_ofI (f (UInt64.ofNat a.2.1) (UInt64.ofNat b.2.1))) else none
def am_n32 (r : UInt32) : Bool := decide (r &&& 0x7fffffff ≤ 0x7f800000)
def am_n64 (r : UInt64) : Bool := decide (r &&& 0x7fffffffffffffff ≤ 0x7ff0000000000000)
def am_i2d (a : am_V) : Option am_V := bif Nat.beq a.1 0 then some (am_ofD (FP.i2d (Int32.ofNat a.2.1))) else bif Nat.beq a.1 6 then some (7, 0, a.2.2) else none
/-- the doubles of 1, 2, 3, 4 -/
def am_d14 (n : Nat) : Bool := Nat.beq n 4607182418800017408 || Nat.beq n 4611686018427387904 || Nat.beq n 4613937818241073152 || Nat.beq n 4616189618054758400
def am_ddiv (A : am_A) (a b : am_V) : Option am_V := bif Nat.beq a.1 7 && Nat.beq b.1 3 && am_d14 b.2.1 then (match am_lim A a.2.2 with
  | some r => bif decide (0 ≤ r.1) && decide (r.2 ≤ 200) then some (9, b.2.1, a.2.2) else none
  | none => none) else am_d22 am_n64 FP.ddiv a b
def am_lcmp (a b : am_V) : Option am_V := bif Nat.beq a.1 11 && Nat.beq b.1 11 && Nat.beq a.2.1 b.2.1 && am_feq a.2.2 b.2.2 then some (0, 0, []) else am_l22 (fun x y => am_ofI (lg_cmp x y)) a b
/-- classes of the exceptions by their numbers; in the law's own constant pool -/
def am_ex : List String := ["java/lang/IndexOutOfBoundsException", "java/lang/IllegalArgumentException", "java/lang/IllegalStateException", "java/lang/UnsupportedOperationException", "java/util/NoSuchElementException", "java/lang/ArithmeticException"]
section AMSTEP
variable (A : am_A) (db : List am_M) (hc : List (Nat × Nat)) (sub : am_M → am_S → Option am_O) (rec : am_S → Option am_O) (d : Nat) (M : am_M)
noncomputable def am_oPush (tl : List am_I) (lo stk : List am_V) (h : List am_C) (nc ns : Nat) (v : am_V) : Option am_O := rec (tl, lo, v :: stk, h, nc, ns)
noncomputable def am_oLoad (ok : am_V → Bool) (k : Nat) (tl : List am_I) (lo stk : List am_V) (h : List am_C) (nc ns : Nat) : Option am_O := match am_nth lo k with
  | some v => bif ok v then rec (tl, lo, v :: stk, h, nc, ns) else none
  | none => none
noncomputable def am_oStore (ok : am_V → Bool) (k : Nat) (tl : List am_I) (lo stk : List am_V) (h : List am_C) (nc ns : Nat) : Option am_O := match stk with
  | v :: rest => bif ok v && Nat.blt k (List.length lo) then rec (tl, am_st1 lo k v, rest, h, nc, ns) else none
  | [] => none
noncomputable def am_oStore2 (ok : am_V → Bool) (k : Nat) (tl : List am_I) (lo stk : List am_V) (h : List am_C) (nc ns : Nat) : Option am_O := match stk with
  | v :: rest => bif ok v && Nat.blt (k + 1) (List.length lo) then rec (tl, am_st2 lo k v, rest, h, nc, ns) else none
  | [] => none
noncomputable def am_oBin (f : am_V → am_V → Option am_V) (tl : List am_I) (lo stk : List am_V) (h : List am_C) (nc ns : Nat) : Option am_O := match stk with
  | y :: x :: rest => match f x y with
    | some r => rec (tl, lo, r :: rest, h, nc, ns)
    | none => none
  | _ => none
noncomputable def am_oUn (f : am_V → Option am_V) (tl : List am_I) (lo stk : List am_V) (h : List am_C) (nc ns : Nat) : Option am_O := match stk with
  | x :: rest => match f x with
    | some r => rec (tl, lo, r :: rest, h, nc, ns)
    | none => none
  | _ => none
noncomputable def am_oJump (t : Nat) (lo stk : List am_V) (h : List am_C) (nc ns : Nat) : Option am_O := match am_suf M.2.2.2.2.2 t with
  | [] => none
  | x :: xs => rec (x :: xs, lo, stk, h, nc, ns)
noncomputable def am_oIf (c : Option Bool) (t : Nat) (tl : List am_I) (lo stk : List am_V) (h : List am_C) (nc ns : Nat) : Option am_O := match c with
  | some true => am_oJump rec M t lo stk h nc ns
  | some false => rec (tl, lo, stk, h, nc, ns)
  | none => none
noncomputable def am_oIf1 (c : ClassFile.Cond) (t : Nat) (tl : List am_I) (lo stk : List am_V) (h : List am_C) (nc ns : Nat) : Option am_O := match stk with
  | x :: rest => am_oIf rec M (am_cmp A c x (0, 0, [])) t tl lo rest h nc ns
  | _ => none
noncomputable def am_oIf2 (c : ClassFile.Cond) (t : Nat) (tl : List am_I) (lo stk : List am_V) (h : List am_C) (nc ns : Nat) : Option am_O := match stk with
  | y :: x :: rest => am_oIf rec M (am_cmp A c x y) t tl lo rest h nc ns
  | _ => none
noncomputable def am_oNull (no : Bool) (t : Nat) (tl : List am_I) (lo stk : List am_V) (h : List am_C) (nc ns : Nat) : Option am_O := match stk with
  | x :: rest => bif am_tA x then am_oIf rec M (some (Nat.beq x.1 4 != no)) t tl lo rest h nc ns else none
  | _ => none
noncomputable def am_oIinc (k : Nat) (z : Int) (tl : List am_I) (lo stk : List am_V) (h : List am_C) (nc ns : Nat) : Option am_O := match am_nth lo k with
  | some v => match am_iadd A v (am_int z) with
    | some r => rec (tl, am_st1 lo k r, stk, h, nc, ns)
    | none => none
  | none => none
noncomputable def am_oSwitch (pc : Nat) (dflt lw hg : Int) (offs : Array Int) (lo stk : List am_V) (h : List am_C) (nc ns : Nat) : Option am_O := match stk with
  | x :: rest => bif Nat.beq x.1 0 then (
      bif decide (am_si x.2.1 < lw) || decide (hg < am_si x.2.1) then am_oJump rec M (am_tgt pc dflt) lo rest h nc ns else
      match offs.toList[(am_si x.2.1 - lw).toNat]? with
      | some o => am_oJump rec M (am_tgt pc o) lo rest h nc ns
      | none => none) else none
  | _ => none
noncomputable def am_oGet (ln : List Nat) (tl : List am_I) (lo stk : List am_V) (h : List am_C) (nc ns : Nat) : Option am_O := match ln, stk with
  | ci :: k :: _, (10, a, _) :: rest => match am_nth h a with
    | some c => bif Nat.beq c.1 ci then (match am_nth c.2 k with
      | some v => rec (tl, lo, v :: rest, h, nc, ns)
      | none => none) else none
    | none => none
  | _, _ => none
noncomputable def am_oPut (ln : List Nat) (tl : List am_I) (lo stk : List am_V) (h : List am_C) (nc ns : Nat) : Option am_O := match ln, stk with
  | ci :: k :: _, v :: (10, a, _) :: rest => match am_nth h a with
    | some c => bif Nat.beq c.1 ci && Nat.blt k (List.length c.2) && am_fit (am_ty ci k) v then rec (tl, lo, rest, am_set h a (ci, am_set c.2 k v), nc, ns) else none
    | none => none
  | _, _ => none
noncomputable def am_oAld (ref : Bool) (tl : List am_I) (lo stk : List am_V) (h : List am_C) (nc ns : Nat) : Option am_O := match stk with
  | i :: (10, a, _) :: rest => bif Nat.beq i.1 0 && Nat.blt i.2.1 2147483648 then (match am_nth h a with
    | some c => bif Nat.ble 100 c.1 && (Nat.beq c.1 100 != ref) then (match am_nth c.2 i.2.1 with
      | some v => rec (tl, lo, v :: rest, h, nc, ns)
      | none => none) else none
    | none => none) else none
  | _ => none
noncomputable def am_oIast (tl : List am_I) (lo stk : List am_V) (h : List am_C) (nc ns : Nat) : Option am_O := match stk with
  | v :: i :: (10, a, _) :: rest => bif am_tI v && Nat.beq i.1 0 && Nat.blt i.2.1 2147483648 then (match am_nth h a with
    | some c => bif Nat.beq c.1 100 && Nat.blt i.2.1 (List.length c.2) then rec (tl, lo, rest, am_set h a (100, am_set c.2 i.2.1 v), nc, ns) else none
    | none => none) else none
  | _ => none
noncomputable def am_oAast (tl : List am_I) (lo stk : List am_V) (h : List am_C) (nc ns : Nat) : Option am_O := match stk with
  | (10, w, _) :: i :: (10, a, _) :: rest => bif Nat.beq i.1 0 && Nat.blt i.2.1 2147483648 then (match am_nth h a, am_nth h w with
    | some c, some cw => bif Nat.blt 100 c.1 && Nat.beq cw.1 (am_el c.1) && Nat.blt i.2.1 (List.length c.2) then rec (tl, lo, rest, am_set h a (c.1, am_set c.2 i.2.1 (10, w, [])), nc, ns) else none
    | _, _ => none) else none
  | _ => none
noncomputable def am_oNew (bl : List (List am_V)) (ln : List Nat) (tl : List am_I) (lo stk : List am_V) (h : List am_C) (nc ns : Nat) : Option am_O := match ln with
  | ci :: _ => match am_nth bl ci with
    | some fs => rec (tl, lo, (10, List.length h, []) :: stk, h ++ [(ci, fs)], nc + 1, ns + List.length fs)
    | none => none
  | _ => none
noncomputable def am_oNewa (kind : Nat) (v0 : am_V) (tl : List am_I) (lo stk : List am_V) (h : List am_C) (nc ns : Nat) : Option am_O := match stk with
  | n :: rest => bif Nat.beq n.1 0 && Nat.blt n.2.1 100000 then rec (tl, lo, (10, List.length h, []) :: rest, h ++ [(kind, List.replicate n.2.1 v0)], nc + 1, ns + n.2.1) else none
  | _ => none
/-- new int[a][b] -/
noncomputable def am_oMulti (tl : List am_I) (lo stk : List am_V) (h : List am_C) (nc ns : Nat) : Option am_O := match stk with
  | (0, 30, _) :: (0, 3, _) :: rest => rec (tl, lo, (10, List.length h, []) :: rest, h ++ [(104, [(10, List.length h + 1, []), (10, List.length h + 2, []), (10, List.length h + 3, [])]), (100, List.replicate 30 (0, 0, [])), (100, List.replicate 30 (0, 0, [])), (100, List.replicate 30 (0, 0, []))], nc + 4, ns + 93)
  | _ => none
/-- where an exception is caught: the first row of the table that covers pc and names its class -/
def am_hnd (ei pc : Nat) : List (Nat × Nat × Nat × Nat) → Option Nat
  | [] => none
  | x :: xs => bif Nat.ble x.1 pc && Nat.blt pc x.2.1 && hc.any (fun q => Nat.beq q.1 x.2.2.2 && Nat.beq q.2 ei) then some x.2.2.1 else am_hnd ei pc xs
noncomputable def am_oThrown (pc ei : Nat) (lo : List am_V) (h : List am_C) (nc ns : Nat) (is : List am_I) : Option am_O := match M.2.2.2.2.1 with
  | [] => some (2, (ei, 0, []), (is, lo, [], h, nc, ns))
  | x :: xs => match am_hnd hc ei pc (x :: xs) with
    | some t => am_oJump rec M t lo [(8, 0, [])] h nc ns
    | none => none
/-- a call: mi the method's place, n how many values it takes off the stack (the object too) -/
noncomputable def am_oCall (mi n : Nat) (is : List am_I) (pc : Nat) (tl : List am_I) (lo stk : List am_V) (h : List am_C) (nc ns : Nat) : Option am_O := match am_nth db mi with
  | some M1 =>
    bif Nat.ble n (List.length stk) && Nat.ble (List.length stk) (n + 4) && Nat.ble (List.length (am_lay (stk.take n).reverse)) M1.2.2.1 then (
      match sub M1 (M1.2.2.2.2.2, am_lay (stk.take n).reverse ++ List.replicate (M1.2.2.1 - List.length (am_lay (stk.take n).reverse)) am_un0, [], h, 0, 0) with
      | some (0, _, _, _, _, h1, c1, s1) => bif M1.2.2.2.1.isNone then rec (tl, lo, stk.drop n, h1, nc + c1, ns + s1) else none
      | some (1, v, _, _, _, h1, c1, s1) => bif M1.2.2.2.1.isSome then rec (tl, lo, v :: stk.drop n, h1, nc + c1, ns + s1) else none
      | some (2, e, _, _, _, h1, c1, s1) => am_oThrown hc rec M pc e.1 lo h1 (nc + c1) (ns + s1) is
      | _ => none) else none
  | none => none
/-- the object of a call is of the class ci -/
noncomputable def am_isC (ci n : Nat) (stk : List am_V) (h : List am_C) : Bool := match stk.drop (n - 1) with
  | (10, a, _) :: _ => match am_nth h a with
    | some c => Nat.beq c.1 ci
    | none => false
  | _ => false
noncomputable def am_oInv (ln : List Nat) (is : List am_I) (pc : Nat) (tl : List am_I) (lo stk : List am_V) (h : List am_C) (nc ns : Nat) : Option am_O := match ln with
  | 0 :: mi :: n :: _ => am_oCall db hc sub rec M mi n is pc tl lo stk h nc ns
  | 1 :: mi :: n :: ci :: _ => bif am_isC ci n stk h then am_oCall db hc sub rec M mi n is pc tl lo stk h nc ns else none
  | 2 :: _ => match stk with
    | (10, _, _) :: rest => bif Nat.ble (List.length rest) 4 then rec (tl, lo, rest, h, nc, ns) else none
    | _ => none
  | 3 :: _ => bif Nat.ble (List.length stk) 5 then am_oUn rec (am_abs A) tl lo stk h nc ns else none
  | 4 :: _ => bif Nat.ble (List.length stk) 5 then am_oBin rec (am_i22 (fun x y => am_ofI (if y < x then y else x))) tl lo stk h nc ns else none
  | 5 :: _ => bif Nat.ble (List.length stk) 5 then am_oBin rec (am_l22 (fun x y => am_ofL (if y < x then y else x))) tl lo stk h nc ns else none
  | 6 :: _ => bif Nat.ble (List.length stk) 5 then am_oBin rec (am_l22 (fun x y => am_ofL (if x < y then y else x))) tl lo stk h nc ns else none
  | 7 :: _ => match stk with
    | (2, n, _) :: rest => bif am_n32 (UInt32.ofNat n) && Nat.ble (List.length rest) 4 then rec (tl, lo, am_ofI (UInt32.ofNat n).toInt32 :: rest, h, nc, ns) else none
    | _ => none
  | 8 :: _ => match stk with
    | (3, n, _) :: rest => bif (Nat.beq n 9221120237041090560 || am_n64 (UInt64.ofNat n)) && Nat.ble (List.length rest) 4 then rec (tl, lo, am_ofL (UInt64.ofNat n).toInt64 :: rest, h, nc, ns) else none
    | (9, n, f) :: rest => bif Nat.ble (List.length rest) 4 then rec (tl, lo, (11, n, f) :: rest, h, nc, ns) else none
    | _ => none
  | 9 :: mi :: _ => match stk with
    | (9, n, f) :: rest => bif Nat.ble (List.length rest) 4 && Nat.blt 2 d then rec (tl, lo, (11, n, f) :: rest, h, nc, ns) else none
    | _ => am_oCall db hc sub rec M mi 1 is pc tl lo stk h nc ns
  | _ => none
noncomputable def am_step (bl : List (List am_V)) (st : am_S) : Option am_O := match st with
  | ([], _) => none
  | ((pc, i, len, ln) :: tl, lo, stk, h, nc, ns) => match i with
    | .iconst n => am_oPush rec tl lo stk h nc ns (am_int n)
    | .bipush n => am_oPush rec tl lo stk h nc ns (am_int n)
    | .sipush n => am_oPush rec tl lo stk h nc ns (am_int n)
    | .lconst n => am_oPush rec tl lo stk h nc ns (1, n.val, [])
    | .fconst n => match n with
      | 0 => am_oPush rec tl lo stk h nc ns (am_ofF FP.fconst0)
      | 1 => am_oPush rec tl lo stk h nc ns (am_ofF FP.fconst1)
      | 2 => am_oPush rec tl lo stk h nc ns (am_ofF FP.fconst2)
    | .dconst n => match n with
      | 0 => am_oPush rec tl lo stk h nc ns (am_ofD FP.dconst0)
      | 1 => am_oPush rec tl lo stk h nc ns (am_ofD FP.dconst1)
    | .ldc _ => match ln with
      | t :: n :: _ => am_oPush rec tl lo stk h nc ns (t, n, [])
      | _ => none
    | .ldc_w _ => match ln with
      | t :: n :: _ => am_oPush rec tl lo stk h nc ns (t, n, [])
      | _ => none
    | .ldc2_w _ => match ln with
      | t :: n :: _ => am_oPush rec tl lo stk h nc ns (t, n, [])
      | _ => none
    | .iload k => am_oLoad rec am_tI k tl lo stk h nc ns
    | .iload_n k => am_oLoad rec am_tI k.val tl lo stk h nc ns
    | .lload k => am_oLoad rec am_tL k tl lo stk h nc ns
    | .lload_n k => am_oLoad rec am_tL k.val tl lo stk h nc ns
    | .fload_n k => am_oLoad rec am_tF k.val tl lo stk h nc ns
    | .dload_n k => am_oLoad rec am_tD k.val tl lo stk h nc ns
    | .aload k => am_oLoad rec am_tA k tl lo stk h nc ns
    | .aload_n k => am_oLoad rec am_tA k.val tl lo stk h nc ns
    | .istore k => am_oStore rec am_tI k tl lo stk h nc ns
    | .istore_n k => am_oStore rec am_tI k.val tl lo stk h nc ns
    | .fstore_n k => am_oStore rec am_tF k.val tl lo stk h nc ns
    | .astore k => am_oStore rec am_tA k tl lo stk h nc ns
    | .astore_n k => am_oStore rec am_tA k.val tl lo stk h nc ns
    | .lstore k => am_oStore2 rec am_tL k tl lo stk h nc ns
    | .lstore_n k => am_oStore2 rec am_tL k.val tl lo stk h nc ns
    | .dstore_n k => am_oStore2 rec am_tD k.val tl lo stk h nc ns
    | .iinc k z => am_oIinc A rec k z tl lo stk h nc ns
    | .iadd => am_oBin rec (am_iadd A) tl lo stk h nc ns
    | .isub => am_oBin rec (am_isub A) tl lo stk h nc ns
    | .imul => am_oBin rec (am_imul A) tl lo stk h nc ns
    | .idiv => am_oBin rec (am_idiv A) tl lo stk h nc ns
    | .irem => am_oBin rec (am_irem A) tl lo stk h nc ns
    | .ior => am_oBin rec (am_i22 (fun x y => am_ofI (x ||| y))) tl lo stk h nc ns
    | .ishl => am_oBin rec (am_i22 (fun x y => am_ofI (x <<< (y &&& 31)))) tl lo stk h nc ns
    | .i2c => am_oUn rec (am_i1 (fun x => am_ofI (x.toUInt32 % 65536).toInt32)) tl lo stk h nc ns
    | .i2l => am_oUn rec (am_i1 (fun x => am_ofL x.toInt64)) tl lo stk h nc ns
    | .i2f => am_oUn rec (am_i1 (fun x => am_ofF (FP.i2f x))) tl lo stk h nc ns
    | .i2d => am_oUn rec am_i2d tl lo stk h nc ns
    | .l2i => am_oUn rec (am_l1 (fun x => am_ofI x.toInt32)) tl lo stk h nc ns
    | .ladd => am_oBin rec (am_l22 (fun x y => am_ofL (x + y))) tl lo stk h nc ns
    | .lsub => am_oBin rec (am_l22 (fun x y => am_ofL (x - y))) tl lo stk h nc ns
    | .lmul => am_oBin rec (am_l22 (fun x y => am_ofL (x * y))) tl lo stk h nc ns
    | .lor => am_oBin rec (am_l22 (fun x y => am_ofL (x ||| y))) tl lo stk h nc ns
    | .lshl => am_oBin rec (am_li (fun x y => am_ofL (x <<< (y.toInt64 &&& 63)))) tl lo stk h nc ns
    | .lcmp => am_oBin rec am_lcmp tl lo stk h nc ns
    | .fdiv => am_oBin rec (am_f22 am_n32 FP.fdiv) tl lo stk h nc ns
    | .fmul => am_oBin rec (am_f22 am_n32 FP.fmul) tl lo stk h nc ns
    | .fsub => am_oBin rec (am_f22 am_n32 FP.fsub) tl lo stk h nc ns
    | .fcmp o => am_oBin rec (am_fc (fun x y => Op.cmpValue (FP.fcmp x y) o)) tl lo stk h nc ns
    | .f2i => am_oUn rec (am_f1v (fun x => am_ofI (FP.f2i x))) tl lo stk h nc ns
    | .f2d => am_oUn rec (fun v => bif Nat.beq v.1 2 && am_n64 (FP.f2d (UInt32.ofNat v.2.1)) then some (am_ofD (FP.f2d (UInt32.ofNat v.2.1))) else none) tl lo stk h nc ns
    | .dadd => am_oBin rec (am_d22 am_n64 FP.dadd) tl lo stk h nc ns
    | .dsub => am_oBin rec (am_d22 am_n64 FP.dsub) tl lo stk h nc ns
    | .dmul => am_oBin rec (am_d22 am_n64 FP.dmul) tl lo stk h nc ns
    | .ddiv => am_oBin rec (am_ddiv A) tl lo stk h nc ns
    | .dcmp o => am_oBin rec (am_dc (fun x y => Op.cmpValue (FP.dcmp x y) o)) tl lo stk h nc ns
    | .d2l => am_oUn rec (am_d1v (fun x => am_ofL (FP.d2l x))) tl lo stk h nc ns
    | .dup => match stk with
      | v :: rest => bif am_c2 v then none else rec (tl, lo, v :: v :: rest, h, nc, ns)
      | [] => none
    | .dup2 => match stk with
      | v :: w :: rest => bif am_c2 v || am_c2 w then none else rec (tl, lo, v :: w :: v :: w :: rest, h, nc, ns)
      | _ => none
    | .goto o => am_oJump rec M (am_tgt pc o) lo stk h nc ns
    | .ifCond c o => am_oIf1 A rec M c (am_tgt pc o) tl lo stk h nc ns
    | .if_icmp c o => am_oIf2 A rec M c (am_tgt pc o) tl lo stk h nc ns
    | .ifnull o => am_oNull rec M false (am_tgt pc o) tl lo stk h nc ns
    | .ifnonnull o => am_oNull rec M true (am_tgt pc o) tl lo stk h nc ns
    | .tableswitch df lw hg os => am_oSwitch rec M pc df lw hg os lo stk h nc ns
    | .getfield _ => am_oGet rec ln tl lo stk h nc ns
    | .putfield _ => am_oPut rec ln tl lo stk h nc ns
    | .iaload => am_oAld rec false tl lo stk h nc ns
    | .aaload => am_oAld rec true tl lo stk h nc ns
    | .iastore => am_oIast rec tl lo stk h nc ns
    | .aastore => am_oAast rec tl lo stk h nc ns
    | .new _ => match ln with
      | 9 :: ei :: _ => bif List.isEmpty M.2.2.2.2.1 && Nat.blt ei 6 && Nat.ble (List.length stk) 4 then some (2, (ei, 0, []), ((pc, i, len, ln) :: tl, lo, stk, h, nc + 1, ns + 6)) else none
      | _ => am_oNew rec bl ln tl lo stk h nc ns
    | .newarray _ => am_oNewa rec 100 (0, 0, []) tl lo stk h nc ns
    | .anewarray _ => match ln with
      | k :: _ => am_oNewa rec k (4, 0, []) tl lo stk h nc ns
      | _ => none
    | .multianewarray _ _ => am_oMulti rec tl lo stk h nc ns
    | .invokestatic _ => am_oInv A db hc sub rec d M ln ((pc, i, len, ln) :: tl) pc tl lo stk h nc ns
    | .invokevirtual _ => am_oInv A db hc sub rec d M ln ((pc, i, len, ln) :: tl) pc tl lo stk h nc ns
    | .invokespecial _ => am_oInv A db hc sub rec d M ln ((pc, i, len, ln) :: tl) pc tl lo stk h nc ns
    | .return_ => match stk with
      | [] => some (0, (4, 0, []), ((pc, i, len, ln) :: tl, lo, stk, h, nc, ns))
      | _ => none
    | .ireturn => match stk, M.2.2.2.1 with
      | [v], some rt => bif am_tI v && am_fit rt v then some (1, v, ((pc, i, len, ln) :: tl, lo, stk, h, nc, ns)) else none
      | _, _ => none
    | .lreturn => match stk, M.2.2.2.1 with
      | [v], some rt => bif am_tL v && am_fit rt v then some (1, v, ((pc, i, len, ln) :: tl, lo, stk, h, nc, ns)) else none
      | _, _ => none
    | .freturn => match stk, M.2.2.2.1 with
      | [v], some rt => bif am_tF v && am_fit rt v then some (1, v, ((pc, i, len, ln) :: tl, lo, stk, h, nc, ns)) else none
      | _, _ => none
    | .dreturn => match stk, M.2.2.2.1 with
      | [v], some rt => bif am_tD v && am_fit rt v then some (1, v, ((pc, i, len, ln) :: tl, lo, stk, h, nc, ns)) else none
      | _, _ => none
    | .areturn => match stk, M.2.2.2.1 with
      | [v], some rt => bif am_tR v && am_fit rt v then some (1, v, ((pc, i, len, ln) :: tl, lo, stk, h, nc, ns)) else none
      | _, _ => none
    | _ => none
end AMSTEP
/-- the run of a frame at depth d: n steps of its own at most; a callee runs at the depth below, F steps at most -/
noncomputable def am_run (A : am_A) (db : List am_M) (hc : List (Nat × Nat)) (bl : List (List am_V)) (F : Nat) (d : Nat) : Nat → am_M → am_S → Option am_O :=
  Nat.rec (motive := fun _ => Nat → am_M → am_S → Option am_O) (fun _ _ _ => none) (fun d sub n M st => Nat.rec (motive := fun _ => am_S → Option am_O) (fun st => some (3, (4, 0, []), st)) (fun _ ih st => am_step A db hc (sub F) ih d M bl st) n st) d
theorem am_run_0 {A : am_A} {db : List am_M} {hc : List (Nat × Nat)} {bl : List (List am_V)} {F d : Nat} {M : am_M} {st : am_S} : am_run A db hc bl F (d + 1) 0 M st = some (3, (4, 0, []), st) := rfl
theorem am_run_s {A : am_A} {db : List am_M} {hc : List (Nat × Nat)} {bl : List (List am_V)} {F n d : Nat} {M : am_M} {st : am_S} : am_run A db hc bl F (d + 1) (n + 1) M st = am_step A db hc (am_run A db hc bl F d F) (am_run A db hc bl F (d + 1) n M) d M bl st := rfl
end
section
/-! ===== the program: every method of the class and of the law, its instructions and the places of their words (laid by wip/p46/gen06.py) ===== -/
def am_i0_0 : List am_I := [(0, .aload_n 0, 1, []), (1, .invokespecial 1, 3, [2, 52, 53, 54]), (4, .aload_n 0, 1, []), (5, .bipush 28, 2, []), (7, .anewarray 9, 3, [101, 55, 56]), (10, .putfield 11, 3, [6, 0, 263]), (13, .aload_n 0, 1, []), (14, .bipush 6, 2, []), (16, .anewarray 15, 3, [102, 57, 58]), (19, .putfield 17, 3, [6, 1, 264]), (22, .aload_n 0, 1, []), (23, .new 21, 3, [0, 59, 60, 26]), (26, .dup, 1, []), (27, .invokespecial 23, 3, [0, 1, 1, 61, 62, 26, 63]), (30, .putfield 24, 3, [6, 2, 265]), (33, .aload_n 0, 1, []), (34, .new 28, 3, [3, 135, 136, 28]), (37, .dup, 1, []), (38, .invokespecial 30, 3, [0, 3, 1, 137, 138, 28, 139]), (41, .putfield 31, 3, [6, 3, 266]), (44, .aload_n 0, 1, []), (45, .new 35, 3, [4, 154, 155, 29]), (48, .dup, 1, []), (49, .invokespecial 37, 3, [0, 4, 1, 156, 157, 29, 158]), (52, .putfield 38, 3, [6, 4, 267]), (55, .aload_n 0, 1, []), (56, .iconst 0, 1, []), (57, .putfield 42, 3, [6, 5, 268]), (60, .aload_n 0, 1, []), (61, .iconst 0, 1, []), (62, .putfield 46, 3, [6, 6, 269]), (65, .aload_n 0, 1, []), (66, .iconst 0, 1, []), (67, .putfield 50, 3, [6, 7, 270]), (70, .aload_n 0, 1, []), (71, .iconst 0, 1, []), (72, .putfield 53, 3, [6, 8, 271]), (75, .iconst 0, 1, []), (76, .istore_n 1, 1, []), (77, .iload_n 1, 1, []), (78, .bipush 28, 2, []), (80, .if_icmp .ge 22, 3, []), (83, .aload_n 0, 1, []), (84, .getfield 11, 3, [6, 0, 263]), (87, .iload_n 1, 1, []), (88, .new 9, 3, [5, 55, 190, 30]), (91, .dup, 1, []), (92, .invokespecial 56, 3, [0, 5, 1, 191, 192, 30, 193]), (95, .aastore, 1, []), (96, .iinc 1 1, 3, []), (99, .goto (-22), 3, []), (102, .iconst 0, 1, []), (103, .istore_n 1, 1, []), (104, .iload_n 1, 1, []), (105, .bipush 6, 2, []), (107, .if_icmp .ge 22, 3, []), (110, .aload_n 0, 1, []), (111, .getfield 17, 3, [6, 1, 264]), (114, .iload_n 1, 1, []), (115, .new 15, 3, [2, 57, 242, 31])]
def am_i0_1 : List am_I := [(118, .dup, 1, []), (119, .invokespecial 57, 3, [0, 6, 1, 243, 244, 31, 245]), (122, .aastore, 1, []), (123, .iinc 1 1, 3, []), (126, .goto (-22), 3, []), (129, .return_, 1, [])]
def am_m0 : am_M := (⟨"CombCylinder", "<init>", "()V"⟩, prog_1_method_1_code, 2, none, [], am_i0_0 ++ (am_i0_1))
def am_i1_0 : List am_I := [(0, .aload_n 0, 1, []), (1, .invokespecial 3, 3, [2, 64, 53, 54]), (4, .aload_n 0, 1, []), (5, .iconst 0, 1, []), (6, .putfield 9, 3, [0, 0, 104]), (9, .aload_n 0, 1, []), (10, .iconst 0, 1, []), (11, .putfield 15, 3, [0, 1, 106]), (14, .aload_n 0, 1, []), (15, .iconst 0, 1, []), (16, .putfield 18, 3, [0, 2, 108]), (19, .aload_n 0, 1, []), (20, .iconst 0, 1, []), (21, .putfield 21, 3, [0, 3, 110]), (24, .aload_n 0, 1, []), (25, .iconst 0, 1, []), (26, .putfield 25, 3, [0, 4, 112]), (29, .aload_n 0, 1, []), (30, .bipush 60, 2, []), (32, .anewarray 28, 3, [103, 65, 66]), (35, .putfield 30, 3, [0, 5, 115]), (38, .aload_n 0, 1, []), (39, .bipush 60, 2, []), (41, .anewarray 28, 3, [103, 65, 66]), (44, .putfield 34, 3, [0, 6, 118]), (47, .iconst 0, 1, []), (48, .istore_n 1, 1, []), (49, .iload_n 1, 1, []), (50, .bipush 60, 2, []), (52, .if_icmp .ge 31, 3, []), (55, .new 28, 3, [1, 65, 67, 27]), (58, .dup, 1, []), (59, .invokespecial 37, 3, [0, 2, 1, 68, 69, 27, 70]), (62, .astore_n 2, 1, []), (63, .aload_n 0, 1, []), (64, .getfield 30, 3, [0, 5, 115]), (67, .iload_n 1, 1, []), (68, .aload_n 2, 1, []), (69, .aastore, 1, []), (70, .aload_n 0, 1, []), (71, .getfield 34, 3, [0, 6, 118]), (74, .iload_n 1, 1, []), (75, .aload_n 2, 1, []), (76, .aastore, 1, []), (77, .iinc 1 1, 3, []), (80, .goto (-31), 3, []), (83, .return_, 1, [])]
def am_m1 : am_M := (⟨"CombCylinder$Drum", "<init>", "()V"⟩, prog_2_method_1_code, 3, none, [], am_i1_0)
def am_i2_0 : List am_I := [(0, .aload_n 0, 1, []), (1, .invokespecial 1, 3, [2, 71, 53, 54]), (4, .aload_n 0, 1, []), (5, .iconst 0, 1, []), (6, .putfield 7, 3, [1, 0, 72]), (9, .aload_n 0, 1, []), (10, .iconst 0, 1, []), (11, .putfield 13, 3, [1, 1, 76]), (14, .aload_n 0, 1, []), (15, .iconst 0, 1, []), (16, .putfield 16, 3, [1, 2, 80]), (19, .aload_n 0, 1, []), (20, .iconst 0, 1, []), (21, .putfield 19, 3, [1, 3, 84]), (24, .aload_n 0, 1, []), (25, .iconst 0, 1, []), (26, .putfield 22, 3, [1, 4, 87]), (29, .aload_n 0, 1, []), (30, .iconst 0, 1, []), (31, .putfield 25, 3, [1, 5, 89]), (34, .return_, 1, [])]
def am_m2 : am_M := (⟨"CombCylinder$Pin", "<init>", "()V"⟩, prog_3_method_1_code, 1, none, [], am_i2_0)
def am_i3_0 : List am_I := [(0, .aload_n 0, 1, []), (1, .invokespecial 1, 3, [2, 140, 53, 54]), (4, .aload_n 0, 1, []), (5, .iconst 0, 1, []), (6, .putfield 7, 3, [3, 0, 141]), (9, .aload_n 0, 1, []), (10, .bipush 10, 2, []), (12, .putfield 13, 3, [3, 1, 143]), (15, .aload_n 0, 1, []), (16, .dconst 0, 1, []), (17, .putfield 16, 3, [3, 2, 145]), (20, .return_, 1, [])]
def am_m3 : am_M := (⟨"CombCylinder$Spring", "<init>", "()V"⟩, prog_5_method_1_code, 1, none, [], am_i3_0)
def am_i4_0 : List am_I := [(0, .aload_n 0, 1, []), (1, .invokespecial 3, 3, [2, 159, 53, 54]), (4, .aload_n 0, 1, []), (5, .iconst 0, 1, []), (6, .putfield 9, 3, [4, 0, 162]), (9, .aload_n 0, 1, []), (10, .iconst 3, 1, []), (11, .newarray .int, 2, [189]), (13, .putfield 15, 3, [4, 1, 164]), (16, .aload_n 0, 1, []), (17, .bipush 28, 2, []), (19, .newarray .int, 2, [189]), (21, .putfield 19, 3, [4, 2, 166]), (24, .aload_n 0, 1, []), (25, .iconst 3, 1, []), (26, .bipush 30, 2, []), (28, .multianewarray 22 2, 4, []), (32, .putfield 24, 3, [4, 3, 168]), (35, .aload_n 0, 1, []), (36, .iconst 3, 1, []), (37, .newarray .int, 2, [189]), (39, .putfield 27, 3, [4, 4, 169]), (42, .aload_n 0, 1, []), (43, .iconst 3, 1, []), (44, .newarray .int, 2, [189]), (46, .putfield 30, 3, [4, 5, 170]), (49, .aload_n 0, 1, []), (50, .iconst 0, 1, []), (51, .putfield 33, 3, [4, 6, 172]), (54, .return_, 1, [])]
def am_m4 : am_M := (⟨"CombCylinder$Tuner", "<init>", "()V"⟩, prog_6_method_1_code, 1, none, [], am_i4_0)
def am_i5_0 : List am_I := [(0, .aload_n 0, 1, []), (1, .invokespecial 3, 3, [2, 194, 53, 54]), (4, .aload_n 0, 1, []), (5, .iconst 0, 1, []), (6, .putfield 9, 3, [5, 0, 195]), (9, .aload_n 0, 1, []), (10, .iconst 0, 1, []), (11, .putfield 15, 3, [5, 1, 197]), (14, .aload_n 0, 1, []), (15, .iconst 0, 1, []), (16, .putfield 18, 3, [5, 2, 198]), (19, .aload_n 0, 1, []), (20, .iconst 0, 1, []), (21, .putfield 22, 3, [5, 3, 199]), (24, .aload_n 0, 1, []), (25, .iconst 0, 1, []), (26, .putfield 25, 3, [5, 4, 201]), (29, .aload_n 0, 1, []), (30, .iconst 0, 1, []), (31, .putfield 28, 3, [5, 5, 203]), (34, .aload_n 0, 1, []), (35, .iconst 0, 1, []), (36, .putfield 31, 3, [5, 6, 205]), (39, .aload_n 0, 1, []), (40, .bipush 45, 2, []), (42, .putfield 34, 3, [5, 7, 207]), (45, .aload_n 0, 1, []), (46, .iconst 0, 1, []), (47, .putfield 38, 3, [5, 8, 209]), (50, .aload_n 0, 1, []), (51, .iconst 0, 1, []), (52, .putfield 41, 3, [5, 9, 211]), (55, .aload_n 0, 1, []), (56, .iconst 0, 1, []), (57, .putfield 44, 3, [5, 10, 213]), (60, .aload_n 0, 1, []), (61, .iconst 0, 1, []), (62, .putfield 47, 3, [5, 11, 215]), (65, .return_, 1, [])]
def am_m5 : am_M := (⟨"CombCylinder$Voice", "<init>", "()V"⟩, prog_7_method_1_code, 1, none, [], am_i5_0)
def am_i6_0 : List am_I := [(0, .aload_n 0, 1, []), (1, .invokespecial 3, 3, [2, 246, 53, 54]), (4, .aload_n 0, 1, []), (5, .bipush 30, 2, []), (7, .newarray .int, 2, [189]), (9, .putfield 9, 3, [2, 0, 247]), (12, .aload_n 0, 1, []), (13, .bipush 30, 2, []), (15, .newarray .int, 2, [189]), (17, .putfield 15, 3, [2, 1, 249]), (20, .aload_n 0, 1, []), (21, .bipush 30, 2, []), (23, .newarray .int, 2, [189]), (25, .putfield 18, 3, [2, 2, 250]), (28, .aload_n 0, 1, []), (29, .iconst 0, 1, []), (30, .putfield 21, 3, [2, 3, 252]), (33, .return_, 1, [])]
def am_m6 : am_M := (⟨"CombCylinder$Sheet", "<init>", "()V"⟩, prog_4_method_1_code, 1, none, [], am_i6_0)
def am_i7_0 : List am_I := [(0, .aload_n 0, 1, []), (1, .getfield 42, 3, [6, 5, 268]), (4, .istore_n 2, 1, []), (5, .aload_n 0, 1, []), (6, .iload_n 1, 1, []), (7, .putfield 42, 3, [6, 5, 268]), (10, .iload_n 2, 1, []), (11, .ireturn, 1, [])]
def am_m7 : am_M := (⟨"CombCylinder", "snail", "(Z)Z"⟩, prog_1_method_28_code, 3, (some FieldType.boolean), [], am_i7_0)
def am_i8_0 : List am_I := [(0, .aload_n 0, 1, []), (1, .getfield 31, 3, [6, 3, 266]), (4, .invokevirtual 252, 3, [1, 9, 1, 3, 299, 300, 301, 28, 302]), (7, .invokestatic 256, 3, [0, 10, 1, 303, 304, 25, 305]), (10, .ireturn, 1, [])]
def am_m8 : am_M := (⟨"CombCylinder", "speedBits", "()I"⟩, prog_1_method_31_code, 1, (some FieldType.int), [], am_i8_0)
def am_i9_0 : List am_I := [(0, .bipush 10, 2, []), (2, .aload_n 0, 1, []), (3, .getfield 7, 3, [3, 0, 141]), (6, .iadd, 1, []), (7, .i2f, 1, []), (8, .aload_n 0, 1, []), (9, .getfield 13, 3, [3, 1, 143]), (12, .i2f, 1, []), (13, .fdiv, 1, []), (14, .freturn, 1, [])]
def am_m9 : am_M := (⟨"CombCylinder$Spring", "speed", "()F"⟩, prog_5_method_2_code, 1, (some FieldType.float), [], am_i9_0)
def am_i10_0 : List am_I := [(0, .fload_n 0, 1, []), (1, .fconst 0, 1, []), (2, .fcmp .l, 1, []), (3, .ifCond .gt 5, 3, []), (6, .iconst 0, 1, []), (7, .ireturn, 1, []), (8, .fload_n 0, 1, []), (9, .fstore_n 1, 1, []), (10, .bipush 127, 2, []), (12, .istore_n 2, 1, []), (13, .iconst 0, 1, []), (14, .istore_n 3, 1, []), (15, .iload_n 3, 1, []), (16, .bipush 127, 2, []), (18, .if_icmp .ge 22, 3, []), (21, .fload_n 1, 1, []), (22, .fconst 2, 1, []), (23, .fcmp .l, 1, []), (24, .ifCond .lt 16, 3, []), (27, .fload_n 1, 1, []), (28, .fconst 2, 1, []), (29, .fdiv, 1, []), (30, .fstore_n 1, 1, []), (31, .iinc 2 1, 3, []), (34, .iinc 3 1, 3, []), (37, .goto (-22), 3, []), (40, .iconst 0, 1, []), (41, .istore_n 3, 1, []), (42, .iload_n 3, 1, []), (43, .bipush 126, 2, []), (45, .if_icmp .ge 22, 3, []), (48, .fload_n 1, 1, []), (49, .fconst 1, 1, []), (50, .fcmp .g, 1, []), (51, .ifCond .ge 16, 3, []), (54, .fload_n 1, 1, []), (55, .fconst 2, 1, []), (56, .fmul, 1, []), (57, .fstore_n 1, 1, []), (58, .iinc 2 (-1), 3, []), (61, .iinc 3 1, 3, []), (64, .goto (-22), 3, []), (67, .iload_n 2, 1, []), (68, .bipush 23, 2, []), (70, .ishl, 1, []), (71, .fload_n 1, 1, []), (72, .fconst 1, 1, []), (73, .fsub, 1, []), (74, .ldc_w 414, 3, [2, 1258291200, 306]), (77, .fmul, 1, []), (78, .f2i, 1, []), (79, .ior, 1, []), (80, .ireturn, 1, [])]
def am_m10 : am_M := (⟨"CombCylinder", "bitsOfFloat", "(F)I"⟩, prog_1_method_63_code, 4, (some FieldType.int), [], am_i10_0)
def am_i11_0 : List am_I := [(0, .aload_n 0, 1, []), (1, .getfield 31, 3, [6, 3, 266]), (4, .getfield 283, 3, [3, 2, 146]), (7, .dreturn, 1, [])]
def am_m11 : am_M := (⟨"CombCylinder", "played", "()D"⟩, prog_1_method_35_code, 1, (some FieldType.double), [], am_i11_0)
def am_i12_0 : List am_I := [(0, .aload_n 0, 1, []), (1, .getfield 46, 3, [6, 6, 269]), (4, .i2l, 1, []), (5, .iload_n 1, 1, []), (6, .i2l, 1, []), (7, .lmul, 1, []), (8, .lstore_n 2, 1, []), (9, .ldc2_w 365, 3, [1, 18446744071562067968, 315]), (12, .ldc2_w 367, 3, [1, 2147483647, 316]), (15, .lload_n 2, 1, []), (16, .invokestatic 369, 3, [5, 317, 318, 37, 319]), (19, .invokestatic 372, 3, [6, 320, 321, 37, 322]), (22, .l2i, 1, []), (23, .ireturn, 1, [])]
def am_m12 : am_M := (⟨"CombCylinder", "takings", "(I)I"⟩, prog_1_method_49_code, 4, (some FieldType.int), [], am_i12_0)
def am_i13_0 : List am_I := [(0, .iconst 0, 1, []), (1, .istore_n 1, 1, []), (2, .iconst 0, 1, []), (3, .istore_n 2, 1, []), (4, .iconst 0, 1, []), (5, .istore_n 3, 1, []), (6, .iload_n 3, 1, []), (7, .bipush 28, 2, []), (9, .if_icmp .ge 36, 3, []), (12, .aload_n 0, 1, []), (13, .getfield 11, 3, [6, 0, 263]), (16, .iload_n 3, 1, []), (17, .aaload, 1, []), (18, .invokevirtual 230, 3, [1, 14, 1, 5, 327, 328, 329, 30, 330]), (21, .ifCond .eq 18, 3, []), (24, .iinc 2 1, 3, []), (27, .iload_n 1, 1, []), (28, .aload_n 0, 1, []), (29, .getfield 11, 3, [6, 0, 263]), (32, .iload_n 3, 1, []), (33, .aaload, 1, []), (34, .invokevirtual 380, 3, [1, 15, 1, 5, 331, 332, 333, 30, 334]), (37, .iadd, 1, []), (38, .istore_n 1, 1, []), (39, .iinc 3 1, 3, []), (42, .goto (-36), 3, []), (45, .iload_n 2, 1, []), (46, .ifCond .ne 9, 3, []), (49, .ldc2_w 383, 3, [1, 9221120237041090560, 346]), (52, .goto 11, 3, []), (55, .iload_n 1, 1, []), (56, .i2d, 1, []), (57, .iload_n 2, 1, []), (58, .i2d, 1, []), (59, .ddiv, 1, []), (60, .invokestatic 385, 3, [9, 18, 1, 347, 348, 25, 349]), (63, .lreturn, 1, [])]
def am_m13 : am_M := (⟨"CombCylinder", "meanOffBits", "()J"⟩, prog_1_method_51_code, 4, (some FieldType.long), [], am_i13_0)
def am_i14_0 : List am_I := [(0, .aload_n 0, 1, []), (1, .getfield 9, 3, [5, 0, 195]), (4, .ifCond .eq 14, 3, []), (7, .aload_n 0, 1, []), (8, .getfield 41, 3, [5, 9, 211]), (11, .ifCond .ne 7, 3, []), (14, .iconst 1, 1, []), (15, .goto 4, 3, []), (18, .iconst 0, 1, []), (19, .ireturn, 1, [])]
def am_m14 : am_M := (⟨"CombCylinder$Voice", "sounds", "()Z"⟩, prog_7_method_3_code, 1, (some FieldType.boolean), [], am_i14_0)
def am_i15_0 : List am_I := [(0, .aload_n 0, 1, []), (1, .invokevirtual 50, 3, [1, 16, 1, 5, 335, 336, 337, 30, 338]), (4, .bipush 100, 2, []), (6, .aload_n 0, 1, []), (7, .invokevirtual 54, 3, [1, 17, 1, 5, 339, 340, 341, 30, 342]), (10, .imul, 1, []), (11, .isub, 1, []), (12, .invokestatic 57, 3, [3, 343, 344, 37, 345]), (15, .ireturn, 1, [])]
def am_m15 : am_M := (⟨"CombCylinder$Voice", "howFarOff", "()I"⟩, prog_7_method_7_code, 1, (some FieldType.int), [], am_i15_0)
def am_i16_0 : List am_I := [(0, .aload_n 0, 1, []), (1, .getfield 15, 3, [5, 1, 197]), (4, .ifCond .ne 11, 3, []), (7, .bipush 100, 2, []), (9, .aload_n 0, 1, []), (10, .getfield 18, 3, [5, 2, 198]), (13, .imul, 1, []), (14, .ireturn, 1, []), (15, .sipush 10000, 3, []), (18, .bipush 20, 2, []), (20, .aload_n 0, 1, []), (21, .getfield 18, 3, [5, 2, 198]), (24, .imul, 1, []), (25, .isub, 1, []), (26, .iconst 4, 1, []), (27, .aload_n 0, 1, []), (28, .getfield 25, 3, [5, 4, 201]), (31, .imul, 1, []), (32, .iadd, 1, []), (33, .bipush 6, 2, []), (35, .aload_n 0, 1, []), (36, .getfield 28, 3, [5, 5, 203]), (39, .imul, 1, []), (40, .isub, 1, []), (41, .iconst 3, 1, []), (42, .aload_n 0, 1, []), (43, .getfield 31, 3, [5, 6, 205]), (46, .imul, 1, []), (47, .isub, 1, []), (48, .aload_n 0, 1, []), (49, .getfield 44, 3, [5, 10, 213]), (52, .bipush 50, 2, []), (54, .idiv, 1, []), (55, .isub, 1, []), (56, .ireturn, 1, [])]
def am_m16 : am_M := (⟨"CombCylinder$Voice", "hundredths", "()I"⟩, prog_7_method_5_code, 1, (some FieldType.int), [], am_i16_0)
def am_i17_0 : List am_I := [(0, .aload_n 0, 1, []), (1, .invokevirtual 50, 3, [1, 16, 1, 5, 335, 336, 337, 30, 338]), (4, .bipush 50, 2, []), (6, .iadd, 1, []), (7, .bipush 100, 2, []), (9, .idiv, 1, []), (10, .ireturn, 1, [])]
def am_m17 : am_M := (⟨"CombCylinder$Voice", "nearestNote", "()I"⟩, prog_7_method_6_code, 1, (some FieldType.int), [], am_i17_0)
def am_i18_0 : List am_I := [(0, .dload_n 0, 1, []), (1, .dconst 0, 1, []), (2, .dcmp .l, 1, []), (3, .ifCond .gt 5, 3, []), (6, .lconst 0, 1, []), (7, .lreturn, 1, []), (8, .dload_n 0, 1, []), (9, .dstore_n 2, 1, []), (10, .ldc2_w 415, 3, [1, 1023, 350]), (13, .lstore 4, 2, []), (15, .iconst 0, 1, []), (16, .istore 6, 2, []), (18, .iload 6, 2, []), (20, .sipush 1023, 3, []), (23, .if_icmp .ge 29, 3, []), (26, .dload_n 2, 1, []), (27, .ldc2_w 417, 3, [3, 4611686018427387904, 351]), (30, .dcmp .l, 1, []), (31, .ifCond .lt 21, 3, []), (34, .dload_n 2, 1, []), (35, .ldc2_w 417, 3, [3, 4611686018427387904, 351]), (38, .ddiv, 1, []), (39, .dstore_n 2, 1, []), (40, .lload 4, 2, []), (42, .lconst 1, 1, []), (43, .ladd, 1, []), (44, .lstore 4, 2, []), (46, .iinc 6 1, 3, []), (49, .goto (-31), 3, []), (52, .iconst 0, 1, []), (53, .istore 6, 2, []), (55, .iload 6, 2, []), (57, .sipush 1022, 3, []), (60, .if_icmp .ge 27, 3, []), (63, .dload_n 2, 1, []), (64, .dconst 1, 1, []), (65, .dcmp .g, 1, []), (66, .ifCond .ge 21, 3, []), (69, .dload_n 2, 1, []), (70, .ldc2_w 417, 3, [3, 4611686018427387904, 351]), (73, .dmul, 1, []), (74, .dstore_n 2, 1, []), (75, .lload 4, 2, []), (77, .lconst 1, 1, []), (78, .lsub, 1, []), (79, .lstore 4, 2, []), (81, .iinc 6 1, 3, []), (84, .goto (-29), 3, []), (87, .lload 4, 2, []), (89, .bipush 52, 2, []), (91, .lshl, 1, []), (92, .dload_n 2, 1, []), (93, .dconst 1, 1, []), (94, .dsub, 1, []), (95, .ldc2_w 419, 3, [3, 4841369599423283200, 352]), (98, .dmul, 1, []), (99, .d2l, 1, []), (100, .lor, 1, []), (101, .lreturn, 1, [])]
def am_m18 : am_M := (⟨"CombCylinder", "bitsOfDouble", "(D)J"⟩, prog_1_method_64_code, 7, (some FieldType.long), [], am_i18_0)
def am_i19_0 : List am_I := [(0, .ldc2_w 389, 3, [1, 7, 357]), (3, .lstore_n 1, 1, []), (4, .iconst 0, 1, []), (5, .istore_n 3, 1, []), (6, .iload_n 3, 1, []), (7, .bipush 28, 2, []), (9, .if_icmp .ge 51, 3, []), (12, .aload_n 0, 1, []), (13, .getfield 11, 3, [6, 0, 263]), (16, .iload_n 3, 1, []), (17, .aaload, 1, []), (18, .astore 4, 2, []), (20, .aload 4, 2, []), (22, .getfield 79, 3, [5, 0, 196]), (25, .ifCond .eq 29, 3, []), (28, .ldc2_w 391, 3, [1, 31, 358]), (31, .lload_n 1, 1, []), (32, .lmul, 1, []), (33, .aload 4, 2, []), (35, .invokevirtual 93, 3, [1, 16, 1, 5, 359, 336, 337, 30, 338]), (38, .i2l, 1, []), (39, .ladd, 1, []), (40, .lstore_n 1, 1, []), (41, .ldc2_w 391, 3, [1, 31, 358]), (44, .lload_n 1, 1, []), (45, .lmul, 1, []), (46, .aload 4, 2, []), (48, .getfield 82, 3, [5, 10, 214]), (51, .i2l, 1, []), (52, .ladd, 1, []), (53, .lstore_n 1, 1, []), (54, .iinc 3 1, 3, []), (57, .goto (-51), 3, []), (60, .iconst 0, 1, []), (61, .istore_n 3, 1, []), (62, .iload_n 3, 1, []), (63, .aload_n 0, 1, []), (64, .getfield 24, 3, [6, 2, 265]), (67, .getfield 161, 3, [0, 4, 114]), (70, .if_icmp .ge 59, 3, []), (73, .aload_n 0, 1, []), (74, .getfield 24, 3, [6, 2, 265]), (77, .getfield 190, 3, [0, 5, 117]), (80, .iload_n 3, 1, []), (81, .aaload, 1, []), (82, .astore 4, 2, []), (84, .ldc2_w 391, 3, [1, 31, 358]), (87, .lload_n 1, 1, []), (88, .lmul, 1, []), (89, .aload 4, 2, []), (91, .getfield 359, 3, [1, 1, 79]), (94, .i2l, 1, []), (95, .ladd, 1, []), (96, .lstore_n 1, 1, []), (97, .ldc2_w 391, 3, [1, 31, 358]), (100, .lload_n 1, 1, []), (101, .lmul, 1, []), (102, .aload 4, 2, []), (104, .getfield 273, 3, [1, 2, 83]), (107, .i2l, 1, [])]
def am_i19_1 : List am_I := [(108, .ladd, 1, []), (109, .lstore_n 1, 1, []), (110, .ldc2_w 391, 3, [1, 31, 358]), (113, .lload_n 1, 1, []), (114, .lmul, 1, []), (115, .aload 4, 2, []), (117, .getfield 194, 3, [1, 3, 86]), (120, .i2l, 1, []), (121, .ladd, 1, []), (122, .lstore_n 1, 1, []), (123, .iinc 3 1, 3, []), (126, .goto (-64), 3, []), (129, .ldc2_w 391, 3, [1, 31, 358]), (132, .lload_n 1, 1, []), (133, .lmul, 1, []), (134, .aload_n 0, 1, []), (135, .getfield 31, 3, [6, 3, 266]), (138, .getfield 240, 3, [3, 0, 142]), (141, .i2l, 1, []), (142, .ladd, 1, []), (143, .lreturn, 1, [])]
def am_m19 : am_M := (⟨"CombCylinder", "checksum", "()J"⟩, prog_1_method_52_code, 5, (some FieldType.long), [], am_i19_0 ++ (am_i19_1))
def am_i20_0 : List am_I := [(0, .aload_n 0, 1, []), (1, .getfield 53, 3, [6, 8, 271]), (4, .istore_n 1, 1, []), (5, .iconst 0, 1, []), (6, .istore_n 2, 1, []), (7, .iload_n 2, 1, []), (8, .bipush 28, 2, []), (10, .if_icmp .ge 52, 3, []), (13, .aload_n 0, 1, []), (14, .getfield 11, 3, [6, 0, 263]), (17, .iload_n 2, 1, []), (18, .aaload, 1, []), (19, .astore_n 3, 1, []), (20, .iload_n 1, 1, []), (21, .aload_n 3, 1, []), (22, .getfield 82, 3, [5, 10, 214]), (25, .iadd, 1, []), (26, .istore_n 1, 1, []), (27, .aload_n 3, 1, []), (28, .invokevirtual 113, 3, [1, 21, 1, 5, 364, 365, 366, 30, 367]), (31, .bipush 40, 2, []), (33, .bipush 100, 2, []), (35, .invokestatic 127, 3, [0, 22, 3, 368, 369, 25, 370]), (38, .ifCond .eq 16, 3, []), (41, .aload_n 3, 1, []), (42, .getfield 124, 3, [5, 6, 206]), (45, .iconst 0, 1, []), (46, .bipush 100, 2, []), (48, .invokestatic 127, 3, [0, 22, 3, 368, 369, 25, 370]), (51, .ifCond .ne 5, 3, []), (54, .iconst 0, 1, []), (55, .ireturn, 1, []), (56, .iinc 2 1, 3, []), (59, .goto (-52), 3, []), (62, .iload_n 1, 1, []), (63, .aload_n 0, 1, []), (64, .getfield 50, 3, [6, 7, 270]), (67, .if_icmp .ne 17, 3, []), (70, .aload_n 0, 1, []), (71, .getfield 24, 3, [6, 2, 265]), (74, .invokevirtual 393, 3, [1, 23, 1, 0, 371, 372, 373, 26, 374]), (77, .ifCond .ne 7, 3, []), (80, .iconst 1, 1, []), (81, .goto 4, 3, []), (84, .iconst 0, 1, []), (85, .ireturn, 1, [])]
def am_m20 : am_M := (⟨"CombCylinder", "isTrue", "()Z"⟩, prog_1_method_53_code, 4, (some FieldType.boolean), [], am_i20_0)
def am_i21_0 : List am_I := [(0, .bipush 100, 2, []), (2, .aload_n 0, 1, []), (3, .getfield 25, 3, [5, 4, 201]), (6, .isub, 1, []), (7, .aload_n 0, 1, []), (8, .getfield 28, 3, [5, 5, 203]), (11, .isub, 1, []), (12, .ireturn, 1, [])]
def am_m21 : am_M := (⟨"CombCylinder$Voice", "steelLeft", "()I"⟩, prog_7_method_4_code, 1, (some FieldType.int), [], am_i21_0)
def am_i22_0 : List am_I := [(0, .iload_n 0, 1, []), (1, .iload_n 1, 1, []), (2, .if_icmp .lt 12, 3, []), (5, .iload_n 0, 1, []), (6, .iload_n 2, 1, []), (7, .if_icmp .gt 7, 3, []), (10, .iconst 1, 1, []), (11, .goto 4, 3, []), (14, .iconst 0, 1, []), (15, .ireturn, 1, [])]
def am_m22 : am_M := (⟨"CombCylinder", "isWithin", "(III)Z"⟩, prog_1_method_54_code, 3, (some FieldType.boolean), [], am_i22_0)
def am_i23_0 : List am_I := [(0, .iconst 0, 1, []), (1, .istore_n 1, 1, []), (2, .iload_n 1, 1, []), (3, .aload_n 0, 1, []), (4, .getfield 25, 3, [0, 4, 112]), (7, .if_icmp .ge 64, 3, []), (10, .iconst 0, 1, []), (11, .istore_n 2, 1, []), (12, .iload_n 2, 1, []), (13, .iload_n 1, 1, []), (14, .if_icmp .ge 51, 3, []), (17, .aload_n 0, 1, []), (18, .aload_n 0, 1, []), (19, .getfield 30, 3, [0, 5, 115]), (22, .iload_n 2, 1, []), (23, .aaload, 1, []), (24, .aload_n 0, 1, []), (25, .getfield 30, 3, [0, 5, 115]), (28, .iload_n 1, 1, []), (29, .aaload, 1, []), (30, .getfield 38, 3, [1, 0, 73]), (33, .aload_n 0, 1, []), (34, .getfield 30, 3, [0, 5, 115]), (37, .iload_n 1, 1, []), (38, .aaload, 1, []), (39, .getfield 41, 3, [1, 1, 77]), (42, .aload_n 0, 1, []), (43, .getfield 30, 3, [0, 5, 115]), (46, .iload_n 1, 1, []), (47, .aaload, 1, []), (48, .getfield 44, 3, [1, 2, 81]), (51, .invokevirtual 70, 3, [1, 24, 5, 0, 375, 377, 0, 26, 378]), (54, .ifCond .eq 5, 3, []), (57, .iconst 1, 1, []), (58, .ireturn, 1, []), (59, .iinc 2 1, 3, []), (62, .goto (-50), 3, []), (65, .iinc 1 1, 3, []), (68, .goto (-66), 3, []), (71, .iconst 0, 1, []), (72, .ireturn, 1, [])]
def am_m23 : am_M := (⟨"CombCylinder$Drum", "hasNearPins", "()Z"⟩, prog_2_method_13_code, 3, (some FieldType.boolean), [], am_i23_0)
def am_i24_0 : List am_I := [(0, .aload_n 1, 1, []), (1, .getfield 44, 3, [1, 2, 81]), (4, .iload 4, 2, []), (6, .if_icmp .ne 33, 3, []), (9, .aload_n 1, 1, []), (10, .getfield 38, 3, [1, 0, 73]), (13, .iload_n 2, 1, []), (14, .isub, 1, []), (15, .invokestatic 57, 3, [3, 379, 344, 37, 345]), (18, .iconst 1, 1, []), (19, .if_icmp .gt 20, 3, []), (22, .aload_n 0, 1, []), (23, .aload_n 1, 1, []), (24, .getfield 41, 3, [1, 1, 77]), (27, .iload_n 3, 1, []), (28, .invokevirtual 67, 3, [1, 25, 3, 0, 380, 382, 1, 26, 383]), (31, .iconst 1, 1, []), (32, .if_icmp .gt 7, 3, []), (35, .iconst 1, 1, []), (36, .goto 4, 3, []), (39, .iconst 0, 1, []), (40, .ireturn, 1, [])]
def am_m24 : am_M := (⟨"CombCylinder$Drum", "isNear", "(LCombCylinder$Pin;III)Z"⟩, prog_2_method_11_code, 5, (some FieldType.boolean), [], am_i24_0)
def am_i25_0 : List am_I := [(0, .iload_n 1, 1, []), (1, .iload_n 2, 1, []), (2, .isub, 1, []), (3, .invokestatic 57, 3, [3, 379, 344, 37, 345]), (6, .istore_n 3, 1, []), (7, .iload_n 3, 1, []), (8, .aload_n 0, 1, []), (9, .getfield 9, 3, [0, 0, 104]), (12, .iload_n 3, 1, []), (13, .isub, 1, []), (14, .invokestatic 63, 3, [4, 384, 385, 37, 386]), (17, .ireturn, 1, [])]
def am_m25 : am_M := (⟨"CombCylinder$Drum", "apart", "(II)I"⟩, prog_2_method_10_code, 4, (some FieldType.int), [], am_i25_0)
def am_i26_0 : List am_I := [(0, .iload_n 1, 1, []), (1, .tableswitch 453 66 119 #[264, 231, 349, 453, 315, 453, 453, 453, 453, 453, 330, 453, 453, 453, 422, 453, 453, 453, 242, 439, 453, 453, 453, 453, 453, 453, 453, 453, 453, 453, 453, 453, 361, 453, 389, 414, 453, 453, 453, 453, 453, 453, 453, 453, 291, 453, 283, 453, 453, 341, 299, 453, 453, 397], 231, []), (232, .aload_n 0, 1, []), (233, .aload_n 2, 1, []), (234, .iconst 0, 1, []), (235, .iaload, 1, []), (236, .aload_n 2, 1, []), (237, .iconst 1, 1, []), (238, .iaload, 1, []), (239, .invokevirtual 7, 3, [1, 27, 3, 6, 474, 475, 476, 25, 477]), (242, .ireturn, 1, []), (243, .aload_n 0, 1, []), (244, .aload_n 2, 1, []), (245, .iconst 0, 1, []), (246, .iaload, 1, []), (247, .aload_n 2, 1, []), (248, .iconst 1, 1, []), (249, .iaload, 1, []), (250, .aload_n 2, 1, []), (251, .iconst 2, 1, []), (252, .iaload, 1, []), (253, .invokevirtual 13, 3, [1, 30, 4, 6, 501, 502, 503, 25, 504]), (256, .ifCond .eq 7, 3, []), (259, .iconst 1, 1, []), (260, .goto 4, 3, []), (263, .iconst 0, 1, []), (264, .ireturn, 1, []), (265, .aload_n 0, 1, []), (266, .aload_n 2, 1, []), (267, .iconst 0, 1, []), (268, .iaload, 1, []), (269, .aload_n 2, 1, []), (270, .iconst 1, 1, []), (271, .iaload, 1, []), (272, .invokevirtual 17, 3, [1, 34, 3, 6, 545, 546, 547, 25, 548]), (275, .ifCond .eq 7, 3, []), (278, .iconst 1, 1, []), (279, .goto 4, 3, []), (282, .iconst 0, 1, []), (283, .ireturn, 1, []), (284, .aload_n 0, 1, []), (285, .aload_n 2, 1, []), (286, .iconst 0, 1, []), (287, .iaload, 1, []), (288, .invokevirtual 21, 3, [1, 35, 2, 6, 550, 551, 552, 25, 553]), (291, .ireturn, 1, []), (292, .aload_n 0, 1, []), (293, .aload_n 2, 1, []), (294, .iconst 0, 1, []), (295, .iaload, 1, []), (296, .invokevirtual 25, 3, [1, 37, 2, 6, 574, 575, 576, 25, 577]), (299, .ireturn, 1, []), (300, .aload_n 0, 1, []), (301, .aload_n 2, 1, []), (302, .iconst 0, 1, []), (303, .iaload, 1, []), (304, .invokevirtual 28, 3, [1, 38, 2, 6, 579, 580, 581, 25, 582]), (307, .ifCond .eq 7, 3, []), (310, .iconst 1, 1, []), (311, .goto 4, 3, [])]
def am_i26_1 : List am_I := [(314, .iconst 0, 1, []), (315, .ireturn, 1, []), (316, .aload_n 0, 1, []), (317, .aload_n 2, 1, []), (318, .iconst 0, 1, []), (319, .iaload, 1, []), (320, .aload_n 2, 1, []), (321, .iconst 1, 1, []), (322, .iaload, 1, []), (323, .i2c, 1, []), (324, .aload_n 2, 1, []), (325, .iconst 2, 1, []), (326, .iaload, 1, []), (327, .invokevirtual 32, 3, [1, 40, 4, 6, 588, 589, 590, 25, 591]), (330, .ireturn, 1, []), (331, .aload_n 0, 1, []), (332, .aload_n 2, 1, []), (333, .iconst 0, 1, []), (334, .iaload, 1, []), (335, .aload_n 2, 1, []), (336, .iconst 1, 1, []), (337, .iaload, 1, []), (338, .invokevirtual 36, 3, [1, 42, 3, 6, 598, 599, 600, 25, 601]), (341, .ireturn, 1, []), (342, .aload_n 0, 1, []), (343, .aload_n 2, 1, []), (344, .iconst 0, 1, []), (345, .iaload, 1, []), (346, .invokevirtual 39, 3, [1, 43, 2, 6, 603, 604, 605, 25, 606]), (349, .ireturn, 1, []), (350, .aload_n 0, 1, []), (351, .aload_n 2, 1, []), (352, .iconst 0, 1, []), (353, .iaload, 1, []), (354, .aload_n 2, 1, []), (355, .iconst 1, 1, []), (356, .iaload, 1, []), (357, .i2c, 1, []), (358, .invokevirtual 42, 3, [1, 44, 3, 6, 607, 608, 609, 25, 610]), (361, .ireturn, 1, []), (362, .aload_n 0, 1, []), (363, .aload_n 2, 1, []), (364, .iconst 0, 1, []), (365, .iaload, 1, []), (366, .aload_n 2, 1, []), (367, .iconst 1, 1, []), (368, .iaload, 1, []), (369, .iconst 1, 1, []), (370, .if_icmp .ne 7, 3, []), (373, .iconst 1, 1, []), (374, .goto 4, 3, []), (377, .iconst 0, 1, []), (378, .invokevirtual 46, 3, [1, 45, 3, 6, 612, 613, 614, 25, 615]), (381, .ifCond .eq 7, 3, []), (384, .iconst 1, 1, []), (385, .goto 4, 3, []), (388, .iconst 0, 1, []), (389, .ireturn, 1, []), (390, .aload_n 0, 1, []), (391, .aload_n 2, 1, [])]
def am_i26_2 : List am_I := [(392, .iconst 0, 1, []), (393, .iaload, 1, []), (394, .invokevirtual 50, 3, [1, 46, 2, 6, 617, 618, 619, 25, 620]), (397, .ireturn, 1, []), (398, .aload_n 0, 1, []), (399, .aload_n 2, 1, []), (400, .iconst 0, 1, []), (401, .iaload, 1, []), (402, .aload_n 2, 1, []), (403, .iconst 1, 1, []), (404, .iaload, 1, []), (405, .aload_n 2, 1, []), (406, .iconst 2, 1, []), (407, .iaload, 1, []), (408, .aload_n 2, 1, []), (409, .iconst 3, 1, []), (410, .iaload, 1, []), (411, .invokevirtual 53, 3, [1, 48, 5, 6, 625, 626, 627, 25, 628]), (414, .ireturn, 1, []), (415, .aload_n 0, 1, []), (416, .aload_n 2, 1, []), (417, .iconst 0, 1, []), (418, .iaload, 1, []), (419, .invokevirtual 57, 3, [1, 51, 2, 6, 653, 654, 655, 25, 656]), (422, .ireturn, 1, []), (423, .aload_n 0, 1, []), (424, .aload_n 2, 1, []), (425, .iconst 0, 1, []), (426, .iaload, 1, []), (427, .aload_n 2, 1, []), (428, .iconst 1, 1, []), (429, .iaload, 1, []), (430, .aload_n 2, 1, []), (431, .iconst 2, 1, []), (432, .iaload, 1, []), (433, .aload_n 2, 1, []), (434, .iconst 3, 1, []), (435, .iaload, 1, []), (436, .invokevirtual 60, 3, [1, 52, 5, 6, 657, 658, 659, 25, 660]), (439, .ireturn, 1, []), (440, .aload_n 0, 1, []), (441, .aload_n 2, 1, []), (442, .iconst 0, 1, []), (443, .iaload, 1, []), (444, .aload_n 2, 1, []), (445, .iconst 1, 1, []), (446, .iaload, 1, []), (447, .aload_n 2, 1, []), (448, .iconst 2, 1, []), (449, .iaload, 1, []), (450, .invokevirtual 63, 3, [1, 59, 4, 6, 689, 690, 691, 25, 692]), (453, .ireturn, 1, []), (454, .aload_n 0, 1, []), (455, .iload_n 1, 1, []), (456, .aload_n 2, 1, []), (457, .invokestatic 67, 3, [0, 62, 3, 702, 703, 24, 704]), (460, .ireturn, 1, []), (461, .astore_n 3, 1, []), (462, .ldc 75, 2, [0, 2294967295, 906]), (464, .ireturn, 1, [])]
def am_i26_3 : List am_I := [(465, .astore_n 3, 1, []), (466, .ldc 78, 2, [0, 2294967294, 907]), (468, .ireturn, 1, []), (469, .astore_n 3, 1, []), (470, .ldc 81, 2, [0, 2294967293, 908]), (472, .ireturn, 1, []), (473, .astore_n 3, 1, []), (474, .ldc 84, 2, [0, 2294967292, 909]), (476, .ireturn, 1, []), (477, .astore_n 3, 1, []), (478, .ldc 87, 2, [0, 2294967291, 910]), (480, .ireturn, 1, [])]
def am_m26 : am_M := (⟨"CombCylinderLaw", "ask", "(LCombCylinder;C[I)I"⟩, method_4_code, 4, (some FieldType.int), [(0, 242, 461, 73), (243, 264, 461, 73), (265, 283, 461, 73), (284, 291, 461, 73), (292, 299, 461, 73), (300, 315, 461, 73), (316, 330, 461, 73), (331, 341, 461, 73), (342, 349, 461, 73), (350, 361, 461, 73), (362, 389, 461, 73), (390, 397, 461, 73), (398, 414, 461, 73), (415, 422, 461, 73), (423, 439, 461, 73), (440, 453, 461, 73), (454, 460, 461, 73), (0, 242, 465, 76), (243, 264, 465, 76), (265, 283, 465, 76), (284, 291, 465, 76), (292, 299, 465, 76), (300, 315, 465, 76), (316, 330, 465, 76), (331, 341, 465, 76), (342, 349, 465, 76), (350, 361, 465, 76), (362, 389, 465, 76), (390, 397, 465, 76), (398, 414, 465, 76), (415, 422, 465, 76), (423, 439, 465, 76), (440, 453, 465, 76), (454, 460, 465, 76), (0, 242, 469, 79), (243, 264, 469, 79), (265, 283, 469, 79), (284, 291, 469, 79), (292, 299, 469, 79), (300, 315, 469, 79), (316, 330, 469, 79), (331, 341, 469, 79), (342, 349, 469, 79), (350, 361, 469, 79), (362, 389, 469, 79), (390, 397, 469, 79), (398, 414, 469, 79), (415, 422, 469, 79), (423, 439, 469, 79), (440, 453, 469, 79), (454, 460, 469, 79), (0, 242, 473, 82), (243, 264, 473, 82), (265, 283, 473, 82), (284, 291, 473, 82), (292, 299, 473, 82), (300, 315, 473, 82), (316, 330, 473, 82), (331, 341, 473, 82), (342, 349, 473, 82), (350, 361, 473, 82), (362, 389, 473, 82), (390, 397, 473, 82), (398, 414, 473, 82), (415, 422, 473, 82), (423, 439, 473, 82), (440, 453, 473, 82), (454, 460, 473, 82), (0, 242, 477, 85), (243, 264, 477, 85), (265, 283, 477, 85), (284, 291, 477, 85), (292, 299, 477, 85), (300, 315, 477, 85), (316, 330, 477, 85), (331, 341, 477, 85), (342, 349, 477, 85), (350, 361, 477, 85), (362, 389, 477, 85), (390, 397, 477, 85), (398, 414, 477, 85), (415, 422, 477, 85), (423, 439, 477, 85), (440, 453, 477, 85), (454, 460, 477, 85)], am_i26_0 ++ (am_i26_1 ++ (am_i26_2 ++ (am_i26_3))))
def am_i27_0 : List am_I := [(0, .iload_n 1, 1, []), (1, .bipush 40, 2, []), (3, .sipush 600, 3, []), (6, .invokestatic 62, 3, [0, 28, 3, 478, 479, 25, 480]), (9, .iload_n 2, 1, []), (10, .iconst 1, 1, []), (11, .bipush 6, 2, []), (13, .invokestatic 62, 3, [0, 28, 3, 478, 479, 25, 480]), (16, .aload_n 0, 1, []), (17, .getfield 24, 3, [6, 2, 265]), (20, .getfield 161, 3, [0, 4, 114]), (23, .istore_n 3, 1, []), (24, .aload_n 0, 1, []), (25, .getfield 24, 3, [6, 2, 265]), (28, .iload_n 1, 1, []), (29, .iload_n 2, 1, []), (30, .invokevirtual 162, 3, [1, 29, 3, 0, 497, 498, 499, 26, 500]), (33, .iload_n 3, 1, []), (34, .ireturn, 1, [])]
def am_m27 : am_M := (⟨"CombCylinder", "cylinder", "(II)I"⟩, prog_1_method_18_code, 4, (some FieldType.int), [], am_i27_0)
def am_i28_0 : List am_I := [(0, .iload_n 0, 1, []), (1, .iload_n 1, 1, []), (2, .iload_n 2, 1, []), (3, .invokestatic 127, 3, [0, 22, 3, 368, 369, 25, 370]), (6, .ifCond .ne 14, 3, []), (9, .new 104, 3, [9, 1]), (12, .dup, 1, []), (13, .ldc_w 396, 3, []), (16, .invokespecial 108, 3, []), (19, .athrow, 1, []), (20, .return_, 1, [])]
def am_m28 : am_M := (⟨"CombCylinder", "needNumber", "(III)V"⟩, prog_1_method_55_code, 3, none, [], am_i28_0)
def am_i29_0 : List am_I := [(0, .aload_n 0, 1, []), (1, .iload_n 1, 1, []), (2, .putfield 9, 3, [0, 0, 104]), (5, .aload_n 0, 1, []), (6, .iload_n 2, 1, []), (7, .putfield 15, 3, [0, 1, 106]), (10, .aload_n 0, 1, []), (11, .iconst 0, 1, []), (12, .putfield 18, 3, [0, 2, 108]), (15, .aload_n 0, 1, []), (16, .iconst 0, 1, []), (17, .putfield 21, 3, [0, 3, 110]), (20, .aload_n 0, 1, []), (21, .iconst 0, 1, []), (22, .putfield 25, 3, [0, 4, 112]), (25, .return_, 1, [])]
def am_m29 : am_M := (⟨"CombCylinder$Drum", "make", "(II)V"⟩, prog_2_method_2_code, 3, none, [], am_i29_0)
def am_i30_0 : List am_I := [(0, .iload_n 1, 1, []), (1, .bipush 28, 2, []), (3, .invokestatic 58, 3, [0, 31, 2, 505, 506, 25, 507]), (6, .iload_n 2, 1, []), (7, .bipush 100, 2, []), (9, .sipush 400, 3, []), (12, .invokestatic 62, 3, [0, 28, 3, 478, 479, 25, 480]), (15, .iload_n 3, 1, []), (16, .iconst 0, 1, []), (17, .iconst 2, 1, []), (18, .invokestatic 62, 3, [0, 28, 3, 478, 479, 25, 480]), (21, .iload_n 1, 1, []), (22, .bipush 24, 2, []), (24, .if_icmp .lt 13, 3, []), (27, .new 66, 3, [9, 3]), (30, .dup, 1, []), (31, .ldc 68, 2, []), (33, .invokespecial 70, 3, []), (36, .athrow, 1, []), (37, .aload_n 0, 1, []), (38, .iload_n 1, 1, []), (39, .iconst 1, 1, []), (40, .iload_n 2, 1, []), (41, .iload_n 3, 1, []), (42, .invokevirtual 73, 3, [1, 32, 5, 6, 537, 539, 3, 25, 540]), (45, .ireturn, 1, [])]
def am_m30 : am_M := (⟨"CombCylinder", "tooth", "(III)Z"⟩, prog_1_method_2_code, 4, (some FieldType.boolean), [], am_i30_0)
def am_i31_0 : List am_I := [(0, .iload_n 0, 1, []), (1, .ifCond .lt 8, 3, []), (4, .iload_n 0, 1, []), (5, .iload_n 1, 1, []), (6, .if_icmp .lt 14, 3, []), (9, .new 398, 3, [9, 0]), (12, .dup, 1, []), (13, .ldc_w 400, 3, []), (16, .invokespecial 402, 3, []), (19, .athrow, 1, []), (20, .return_, 1, [])]
def am_m31 : am_M := (⟨"CombCylinder", "needIndex", "(II)V"⟩, prog_1_method_56_code, 2, none, [], am_i31_0)
def am_i32_0 : List am_I := [(0, .aload_n 0, 1, []), (1, .getfield 11, 3, [6, 0, 263]), (4, .iload_n 1, 1, []), (5, .aaload, 1, []), (6, .astore 5, 2, []), (8, .aload 5, 2, []), (10, .getfield 79, 3, [5, 0, 196]), (13, .istore 6, 2, []), (15, .aload_n 0, 1, []), (16, .dup, 1, []), (17, .getfield 53, 3, [6, 8, 271]), (20, .aload 5, 2, []), (22, .getfield 82, 3, [5, 10, 214]), (25, .iadd, 1, []), (26, .putfield 53, 3, [6, 8, 271]), (29, .aload 5, 2, []), (31, .iload_n 2, 1, []), (32, .iload_n 3, 1, []), (33, .iload 4, 2, []), (35, .invokevirtual 85, 3, [1, 33, 4, 5, 541, 542, 543, 30, 544]), (38, .iload 6, 2, []), (40, .ireturn, 1, [])]
def am_m32 : am_M := (⟨"CombCylinder", "replaceVoice", "(IZII)Z"⟩, prog_1_method_4_code, 7, (some FieldType.boolean), [], am_i32_0)
def am_i33_0 : List am_I := [(0, .aload_n 0, 1, []), (1, .iconst 1, 1, []), (2, .putfield 9, 3, [5, 0, 195]), (5, .aload_n 0, 1, []), (6, .iload_n 1, 1, []), (7, .putfield 15, 3, [5, 1, 197]), (10, .aload_n 0, 1, []), (11, .iload_n 2, 1, []), (12, .putfield 18, 3, [5, 2, 198]), (15, .aload_n 0, 1, []), (16, .iload_n 3, 1, []), (17, .putfield 22, 3, [5, 3, 199]), (20, .aload_n 0, 1, []), (21, .iconst 0, 1, []), (22, .putfield 25, 3, [5, 4, 201]), (25, .aload_n 0, 1, []), (26, .iconst 0, 1, []), (27, .putfield 28, 3, [5, 5, 203]), (30, .aload_n 0, 1, []), (31, .iconst 0, 1, []), (32, .putfield 31, 3, [5, 6, 205]), (35, .aload_n 0, 1, []), (36, .bipush 45, 2, []), (38, .putfield 34, 3, [5, 7, 207]), (41, .aload_n 0, 1, []), (42, .iconst 0, 1, []), (43, .putfield 38, 3, [5, 8, 209]), (46, .aload_n 0, 1, []), (47, .iconst 0, 1, []), (48, .putfield 41, 3, [5, 9, 211]), (51, .aload_n 0, 1, []), (52, .iconst 0, 1, []), (53, .putfield 44, 3, [5, 10, 213]), (56, .aload_n 0, 1, []), (57, .iconst 0, 1, []), (58, .putfield 47, 3, [5, 11, 215]), (61, .return_, 1, [])]
def am_m33 : am_M := (⟨"CombCylinder$Voice", "put", "(ZII)V"⟩, prog_7_method_2_code, 4, none, [], am_i33_0)
def am_i34_0 : List am_I := [(0, .iload_n 1, 1, []), (1, .bipush 28, 2, []), (3, .invokestatic 58, 3, [0, 31, 2, 505, 506, 25, 507]), (6, .iload_n 2, 1, []), (7, .iconst 1, 1, []), (8, .bipush 120, 2, []), (10, .invokestatic 62, 3, [0, 28, 3, 478, 479, 25, 480]), (13, .iload_n 1, 1, []), (14, .bipush 24, 2, []), (16, .if_icmp .ge 13, 3, []), (19, .new 66, 3, [9, 3]), (22, .dup, 1, []), (23, .ldc 77, 2, []), (25, .invokespecial 70, 3, []), (28, .athrow, 1, []), (29, .aload_n 0, 1, []), (30, .iload_n 1, 1, []), (31, .iconst 0, 1, []), (32, .iload_n 2, 1, []), (33, .iconst 0, 1, []), (34, .invokevirtual 73, 3, [1, 32, 5, 6, 537, 539, 3, 25, 540]), (37, .ireturn, 1, [])]
def am_m34 : am_M := (⟨"CombCylinder", "bell", "(II)Z"⟩, prog_1_method_3_code, 3, (some FieldType.boolean), [], am_i34_0)
def am_i35_0 : List am_I := [(0, .aload_n 0, 1, []), (1, .iload_n 1, 1, []), (2, .invokevirtual 89, 3, [1, 36, 2, 6, 554, 556, 4, 25, 557]), (5, .invokevirtual 93, 3, [1, 16, 1, 5, 359, 336, 337, 30, 338]), (8, .ireturn, 1, [])]
def am_m35 : am_M := (⟨"CombCylinder", "pitch", "(I)I"⟩, prog_1_method_5_code, 2, (some FieldType.int), [], am_i35_0)
def am_i36_0 : List am_I := [(0, .iload_n 1, 1, []), (1, .bipush 28, 2, []), (3, .invokestatic 58, 3, [0, 31, 2, 505, 506, 25, 507]), (6, .aload_n 0, 1, []), (7, .getfield 11, 3, [6, 0, 263]), (10, .iload_n 1, 1, []), (11, .aaload, 1, []), (12, .astore_n 2, 1, []), (13, .aload_n 2, 1, []), (14, .getfield 79, 3, [5, 0, 196]), (17, .ifCond .ne 14, 3, []), (20, .new 185, 3, [9, 4]), (23, .dup, 1, []), (24, .ldc_w 405, 3, []), (27, .invokespecial 189, 3, []), (30, .athrow, 1, []), (31, .aload_n 2, 1, []), (32, .areturn, 1, [])]
def am_m36 : am_M := (⟨"CombCylinder", "voiceAt", "(I)LCombCylinder$Voice;"⟩, prog_1_method_58_code, 3, (some (FieldType.object "CombCylinder$Voice")), [], am_i36_0)
def am_i37_0 : List am_I := [(0, .aload_n 0, 1, []), (1, .iload_n 1, 1, []), (2, .invokevirtual 89, 3, [1, 36, 2, 6, 554, 556, 4, 25, 557]), (5, .invokevirtual 97, 3, [1, 17, 1, 5, 578, 340, 341, 30, 342]), (8, .ireturn, 1, [])]
def am_m37 : am_M := (⟨"CombCylinder", "note", "(I)I"⟩, prog_1_method_6_code, 2, (some FieldType.int), [], am_i37_0)
def am_i38_0 : List am_I := [(0, .aload_n 0, 1, []), (1, .iload_n 1, 1, []), (2, .invokevirtual 89, 3, [1, 36, 2, 6, 554, 556, 4, 25, 557]), (5, .invokevirtual 100, 3, [1, 39, 1, 5, 583, 584, 585, 30, 586]), (8, .ireturn, 1, [])]
def am_m38 : am_M := (⟨"CombCylinder", "isInTune", "(I)Z"⟩, prog_1_method_7_code, 2, (some FieldType.boolean), [], am_i38_0)
def am_i39_0 : List am_I := [(0, .aload_n 0, 1, []), (1, .invokevirtual 63, 3, [1, 15, 1, 5, 587, 332, 333, 30, 334]), (4, .iconst 5, 1, []), (5, .if_icmp .gt 7, 3, []), (8, .iconst 1, 1, []), (9, .goto 4, 3, []), (12, .iconst 0, 1, []), (13, .ireturn, 1, [])]
def am_m39 : am_M := (⟨"CombCylinder$Voice", "isTuned", "()Z"⟩, prog_7_method_8_code, 1, (some FieldType.boolean), [], am_i39_0)
def am_i40_0 : List am_I := [(0, .iload_n 1, 1, []), (1, .bipush 24, 2, []), (3, .invokestatic 58, 3, [0, 31, 2, 505, 506, 25, 507]), (6, .iload_n 2, 1, []), (7, .bipush 116, 2, []), (9, .if_icmp .eq 19, 3, []), (12, .iload_n 2, 1, []), (13, .bipush 114, 2, []), (15, .if_icmp .eq 13, 3, []), (18, .new 104, 3, [9, 1]), (21, .dup, 1, []), (22, .ldc 106, 2, []), (24, .invokespecial 108, 3, []), (27, .athrow, 1, []), (28, .iload_n 3, 1, []), (29, .iconst 1, 1, []), (30, .bipush 60, 2, []), (32, .invokestatic 62, 3, [0, 28, 3, 478, 479, 25, 480]), (35, .aload_n 0, 1, []), (36, .iload_n 1, 1, []), (37, .invokevirtual 89, 3, [1, 36, 2, 6, 554, 556, 4, 25, 557]), (40, .astore 4, 2, []), (42, .aload 4, 2, []), (44, .invokestatic 109, 3, [0, 41, 1, 593, 594, 25, 595]), (47, .aload 4, 2, []), (49, .invokevirtual 113, 3, [1, 21, 1, 5, 364, 365, 366, 30, 367]), (52, .iload_n 3, 1, []), (53, .isub, 1, []), (54, .bipush 40, 2, []), (56, .if_icmp .ge 13, 3, []), (59, .new 66, 3, [9, 3]), (62, .dup, 1, []), (63, .ldc 116, 2, []), (65, .invokespecial 70, 3, []), (68, .athrow, 1, []), (69, .iload_n 2, 1, []), (70, .bipush 116, 2, []), (72, .if_icmp .ne 17, 3, []), (75, .aload 4, 2, []), (77, .dup, 1, []), (78, .getfield 118, 3, [5, 4, 202]), (81, .iload_n 3, 1, []), (82, .iadd, 1, []), (83, .putfield 118, 3, [5, 4, 202]), (86, .goto 14, 3, []), (89, .aload 4, 2, []), (91, .dup, 1, []), (92, .getfield 121, 3, [5, 5, 204]), (95, .iload_n 3, 1, []), (96, .iadd, 1, []), (97, .putfield 121, 3, [5, 5, 204]), (100, .aload 4, 2, []), (102, .invokevirtual 93, 3, [1, 16, 1, 5, 359, 336, 337, 30, 338]), (105, .ireturn, 1, [])]
def am_m40 : am_M := (⟨"CombCylinder", "file", "(ICI)I"⟩, prog_1_method_8_code, 5, (some FieldType.int), [], am_i40_0)
def am_i41_0 : List am_I := [(0, .aload_n 0, 1, []), (1, .getfield 147, 3, [5, 9, 212]), (4, .ifCond .eq 14, 3, []), (7, .new 66, 3, [9, 3]), (10, .dup, 1, []), (11, .ldc_w 403, 3, []), (14, .invokespecial 70, 3, []), (17, .athrow, 1, []), (18, .return_, 1, [])]
def am_m41 : am_M := (⟨"CombCylinder", "needWhole", "(LCombCylinder$Voice;)V"⟩, prog_1_method_57_code, 1, none, [], am_i41_0)
def am_i42_0 : List am_I := [(0, .iload_n 1, 1, []), (1, .bipush 24, 2, []), (3, .invokestatic 58, 3, [0, 31, 2, 505, 506, 25, 507]), (6, .iload_n 2, 1, []), (7, .bipush (-50), 2, []), (9, .bipush 50, 2, []), (11, .invokestatic 62, 3, [0, 28, 3, 478, 479, 25, 480]), (14, .aload_n 0, 1, []), (15, .iload_n 1, 1, []), (16, .invokevirtual 89, 3, [1, 36, 2, 6, 554, 556, 4, 25, 557]), (19, .astore_n 3, 1, []), (20, .aload_n 3, 1, []), (21, .invokestatic 109, 3, [0, 41, 1, 593, 594, 25, 595]), (24, .aload_n 3, 1, []), (25, .getfield 124, 3, [5, 6, 206]), (28, .iload_n 2, 1, []), (29, .iadd, 1, []), (30, .iconst 0, 1, []), (31, .bipush 100, 2, []), (33, .invokestatic 127, 3, [0, 22, 3, 368, 369, 25, 370]), (36, .ifCond .ne 13, 3, []), (39, .new 66, 3, [9, 3]), (42, .dup, 1, []), (43, .ldc 131, 2, []), (45, .invokespecial 70, 3, []), (48, .athrow, 1, []), (49, .aload_n 3, 1, []), (50, .dup, 1, []), (51, .getfield 124, 3, [5, 6, 206]), (54, .iload_n 2, 1, []), (55, .iadd, 1, []), (56, .putfield 124, 3, [5, 6, 206]), (59, .aload_n 3, 1, []), (60, .invokevirtual 93, 3, [1, 16, 1, 5, 359, 336, 337, 30, 338]), (63, .ireturn, 1, [])]
def am_m42 : am_M := (⟨"CombCylinder", "lead", "(II)I"⟩, prog_1_method_9_code, 4, (some FieldType.int), [], am_i42_0)
def am_i43_0 : List am_I := [(0, .iload_n 1, 1, []), (1, .bipush 24, 2, []), (3, .invokestatic 58, 3, [0, 31, 2, 505, 506, 25, 507]), (6, .aload_n 0, 1, []), (7, .iload_n 1, 1, []), (8, .invokevirtual 89, 3, [1, 36, 2, 6, 554, 556, 4, 25, 557]), (11, .invokevirtual 113, 3, [1, 21, 1, 5, 364, 365, 366, 30, 367]), (14, .ireturn, 1, [])]
def am_m43 : am_M := (⟨"CombCylinder", "steel", "(I)I"⟩, prog_1_method_10_code, 2, (some FieldType.int), [], am_i43_0)
def am_i44_0 : List am_I := [(0, .iload_n 1, 1, []), (1, .bipush 28, 2, []), (3, .invokestatic 58, 3, [0, 31, 2, 505, 506, 25, 507]), (6, .iload_n 2, 1, []), (7, .bipush 45, 2, []), (9, .if_icmp .eq 25, 3, []), (12, .iload_n 2, 1, []), (13, .bipush 119, 2, []), (15, .if_icmp .eq 19, 3, []), (18, .iload_n 2, 1, []), (19, .bipush 102, 2, []), (21, .if_icmp .eq 13, 3, []), (24, .new 104, 3, [9, 1]), (27, .dup, 1, []), (28, .ldc 133, 2, []), (30, .invokespecial 108, 3, []), (33, .athrow, 1, []), (34, .aload_n 0, 1, []), (35, .iload_n 1, 1, []), (36, .invokevirtual 89, 3, [1, 36, 2, 6, 554, 556, 4, 25, 557]), (39, .astore_n 3, 1, []), (40, .aload_n 3, 1, []), (41, .getfield 135, 3, [5, 7, 208]), (44, .istore 4, 2, []), (46, .aload_n 3, 1, []), (47, .iload_n 2, 1, []), (48, .putfield 135, 3, [5, 7, 208]), (51, .aload_n 3, 1, []), (52, .iconst 0, 1, []), (53, .putfield 139, 3, [5, 8, 210]), (56, .iload 4, 2, []), (58, .ireturn, 1, [])]
def am_m44 : am_M := (⟨"CombCylinder", "damper", "(IC)C"⟩, prog_1_method_11_code, 5, (some FieldType.char), [], am_i44_0)
def am_i45_0 : List am_I := [(0, .aload_n 0, 1, []), (1, .iload_n 1, 1, []), (2, .invokevirtual 89, 3, [1, 36, 2, 6, 554, 556, 4, 25, 557]), (5, .astore_n 3, 1, []), (6, .aload_n 3, 1, []), (7, .getfield 135, 3, [5, 7, 208]), (10, .bipush 45, 2, []), (12, .if_icmp .ne 13, 3, []), (15, .new 66, 3, [9, 3]), (18, .dup, 1, []), (19, .ldc 142, 2, []), (21, .invokespecial 70, 3, []), (24, .athrow, 1, []), (25, .aload_n 3, 1, []), (26, .getfield 139, 3, [5, 8, 210]), (29, .istore 4, 2, []), (31, .aload_n 3, 1, []), (32, .iload_n 2, 1, []), (33, .putfield 139, 3, [5, 8, 210]), (36, .iload 4, 2, []), (38, .ireturn, 1, [])]
def am_m45 : am_M := (⟨"CombCylinder", "bend", "(IZ)Z"⟩, prog_1_method_12_code, 5, (some FieldType.boolean), [], am_i45_0)
def am_i46_0 : List am_I := [(0, .aload_n 0, 1, []), (1, .iload_n 1, 1, []), (2, .invokevirtual 89, 3, [1, 36, 2, 6, 554, 556, 4, 25, 557]), (5, .invokevirtual 144, 3, [1, 47, 1, 5, 621, 622, 623, 30, 624]), (8, .ireturn, 1, [])]
def am_m46 : am_M := (⟨"CombCylinder", "damping", "(I)I"⟩, prog_1_method_13_code, 2, (some FieldType.int), [], am_i46_0)
def am_i47_0 : List am_I := [(0, .bipush 8, 2, []), (2, .istore_n 1, 1, []), (3, .aload_n 0, 1, []), (4, .getfield 15, 3, [5, 1, 197]), (7, .ifCond .ne 8, 3, []), (10, .iconst 1, 1, []), (11, .istore_n 1, 1, []), (12, .goto 28, 3, []), (15, .aload_n 0, 1, []), (16, .getfield 34, 3, [5, 7, 207]), (19, .bipush 119, 2, []), (21, .if_icmp .ne 8, 3, []), (24, .iconst 4, 1, []), (25, .istore_n 1, 1, []), (26, .goto 14, 3, []), (29, .aload_n 0, 1, []), (30, .getfield 34, 3, [5, 7, 207]), (33, .bipush 102, 2, []), (35, .if_icmp .ne 5, 3, []), (38, .iconst 2, 1, []), (39, .istore_n 1, 1, []), (40, .aload_n 0, 1, []), (41, .getfield 38, 3, [5, 8, 209]), (44, .ifCond .eq 9, 3, []), (47, .iconst 2, 1, []), (48, .iload_n 1, 1, []), (49, .imul, 1, []), (50, .goto 4, 3, []), (53, .iload_n 1, 1, []), (54, .ireturn, 1, [])]
def am_m47 : am_M := (⟨"CombCylinder$Voice", "stillAfter", "()I"⟩, prog_7_method_9_code, 2, (some FieldType.int), [], am_i47_0)
def am_i48_0 : List am_I := [(0, .iload_n 1, 1, []), (1, .bipush 6, 2, []), (3, .invokestatic 58, 3, [0, 31, 2, 505, 506, 25, 507]), (6, .iload_n 2, 1, []), (7, .iconst 0, 1, []), (8, .sipush 599, 3, []), (11, .invokestatic 62, 3, [0, 28, 3, 478, 479, 25, 480]), (14, .iload_n 3, 1, []), (15, .iconst 1, 1, []), (16, .bipush 120, 2, []), (18, .invokestatic 62, 3, [0, 28, 3, 478, 479, 25, 480]), (21, .iload 4, 2, []), (23, .iconst 0, 1, []), (24, .iconst 3, 1, []), (25, .invokestatic 62, 3, [0, 28, 3, 478, 479, 25, 480]), (28, .aload_n 0, 1, []), (29, .getfield 17, 3, [6, 1, 264]), (32, .iload_n 1, 1, []), (33, .aaload, 1, []), (34, .astore 5, 2, []), (36, .aload 5, 2, []), (38, .getfield 150, 3, [2, 3, 253]), (41, .bipush 30, 2, []), (43, .if_icmp .lt 13, 3, []), (46, .new 153, 3, [9, 2]), (49, .dup, 1, []), (50, .ldc 155, 2, []), (52, .invokespecial 157, 3, []), (55, .athrow, 1, []), (56, .aload 5, 2, []), (58, .iload_n 2, 1, []), (59, .iload_n 3, 1, []), (60, .iload 4, 2, []), (62, .invokevirtual 158, 3, [1, 49, 4, 2, 645, 646, 647, 31, 648]), (65, .aload 5, 2, []), (67, .getfield 150, 3, [2, 3, 253]), (70, .ireturn, 1, [])]
def am_m48 : am_M := (⟨"CombCylinder", "write", "(IIII)I"⟩, prog_1_method_16_code, 6, (some FieldType.int), [], am_i48_0)
def am_i49_0 : List am_I := [(0, .aload_n 0, 1, []), (1, .getfield 21, 3, [2, 3, 252]), (4, .bipush 30, 2, []), (6, .if_icmp .lt 4, 3, []), (9, .return_, 1, []), (10, .aload_n 0, 1, []), (11, .getfield 21, 3, [2, 3, 252]), (14, .istore 4, 2, []), (16, .iload 4, 2, []), (18, .ifCond .le 71, 3, []), (21, .aload_n 0, 1, []), (22, .iload_n 1, 1, []), (23, .iload_n 3, 1, []), (24, .iload_n 2, 1, []), (25, .iload 4, 2, []), (27, .iconst 1, 1, []), (28, .isub, 1, []), (29, .invokevirtual 25, 3, [1, 50, 5, 2, 649, 651, 5, 31, 652]), (32, .ifCond .eq 57, 3, []), (35, .aload_n 0, 1, []), (36, .getfield 9, 3, [2, 0, 247]), (39, .iload 4, 2, []), (41, .aload_n 0, 1, []), (42, .getfield 9, 3, [2, 0, 247]), (45, .iload 4, 2, []), (47, .iconst 1, 1, []), (48, .isub, 1, []), (49, .iaload, 1, []), (50, .iastore, 1, []), (51, .aload_n 0, 1, []), (52, .getfield 15, 3, [2, 1, 249]), (55, .iload 4, 2, []), (57, .aload_n 0, 1, []), (58, .getfield 15, 3, [2, 1, 249]), (61, .iload 4, 2, []), (63, .iconst 1, 1, []), (64, .isub, 1, []), (65, .iaload, 1, []), (66, .iastore, 1, []), (67, .aload_n 0, 1, []), (68, .getfield 18, 3, [2, 2, 250]), (71, .iload 4, 2, []), (73, .aload_n 0, 1, []), (74, .getfield 18, 3, [2, 2, 250]), (77, .iload 4, 2, []), (79, .iconst 1, 1, []), (80, .isub, 1, []), (81, .iaload, 1, []), (82, .iastore, 1, []), (83, .iinc 4 (-1), 3, []), (86, .goto (-70), 3, []), (89, .aload_n 0, 1, []), (90, .getfield 9, 3, [2, 0, 247]), (93, .iload 4, 2, []), (95, .iload_n 1, 1, []), (96, .iastore, 1, []), (97, .aload_n 0, 1, []), (98, .getfield 15, 3, [2, 1, 249]), (101, .iload 4, 2, []), (103, .iload_n 3, 1, [])]
def am_i49_1 : List am_I := [(104, .iastore, 1, []), (105, .aload_n 0, 1, []), (106, .getfield 18, 3, [2, 2, 250]), (109, .iload 4, 2, []), (111, .iload_n 2, 1, []), (112, .iastore, 1, []), (113, .aload_n 0, 1, []), (114, .dup, 1, []), (115, .getfield 21, 3, [2, 3, 252]), (118, .iconst 1, 1, []), (119, .iadd, 1, []), (120, .putfield 21, 3, [2, 3, 252]), (123, .return_, 1, [])]
def am_m49 : am_M := (⟨"CombCylinder$Sheet", "add", "(III)V"⟩, prog_4_method_2_code, 5, none, [], am_i49_0 ++ (am_i49_1))
def am_i50_0 : List am_I := [(0, .iload_n 1, 1, []), (1, .aload_n 0, 1, []), (2, .getfield 9, 3, [2, 0, 247]), (5, .iload 4, 2, []), (7, .iaload, 1, []), (8, .if_icmp .eq 20, 3, []), (11, .iload_n 1, 1, []), (12, .aload_n 0, 1, []), (13, .getfield 9, 3, [2, 0, 247]), (16, .iload 4, 2, []), (18, .iaload, 1, []), (19, .if_icmp .ge 7, 3, []), (22, .iconst 1, 1, []), (23, .goto 4, 3, []), (26, .iconst 0, 1, []), (27, .ireturn, 1, []), (28, .iload_n 2, 1, []), (29, .aload_n 0, 1, []), (30, .getfield 15, 3, [2, 1, 249]), (33, .iload 4, 2, []), (35, .iaload, 1, []), (36, .if_icmp .eq 20, 3, []), (39, .iload_n 2, 1, []), (40, .aload_n 0, 1, []), (41, .getfield 15, 3, [2, 1, 249]), (44, .iload 4, 2, []), (46, .iaload, 1, []), (47, .if_icmp .ge 7, 3, []), (50, .iconst 1, 1, []), (51, .goto 4, 3, []), (54, .iconst 0, 1, []), (55, .ireturn, 1, []), (56, .iload_n 3, 1, []), (57, .aload_n 0, 1, []), (58, .getfield 18, 3, [2, 2, 250]), (61, .iload 4, 2, []), (63, .iaload, 1, []), (64, .if_icmp .ge 7, 3, []), (67, .iconst 1, 1, []), (68, .goto 4, 3, []), (71, .iconst 0, 1, []), (72, .ireturn, 1, [])]
def am_m50 : am_M := (⟨"CombCylinder$Sheet", "isBefore", "(IIII)Z"⟩, prog_4_method_3_code, 5, (some FieldType.boolean), [], am_i50_0)
def am_i51_0 : List am_I := [(0, .iload_n 1, 1, []), (1, .bipush 6, 2, []), (3, .invokestatic 58, 3, [0, 31, 2, 505, 506, 25, 507]), (6, .aload_n 0, 1, []), (7, .getfield 17, 3, [6, 1, 264]), (10, .iload_n 1, 1, []), (11, .aaload, 1, []), (12, .getfield 150, 3, [2, 3, 253]), (15, .istore_n 2, 1, []), (16, .aload_n 0, 1, []), (17, .getfield 17, 3, [6, 1, 264]), (20, .iload_n 1, 1, []), (21, .aaload, 1, []), (22, .iconst 0, 1, []), (23, .putfield 150, 3, [2, 3, 253]), (26, .iload_n 2, 1, []), (27, .ireturn, 1, [])]
def am_m51 : am_M := (⟨"CombCylinder", "erase", "(I)I"⟩, prog_1_method_17_code, 3, (some FieldType.int), [], am_i51_0)
def am_i52_0 : List am_I := [(0, .aload_n 0, 1, []), (1, .iload_n 1, 1, []), (2, .iload_n 2, 1, []), (3, .iload_n 3, 1, []), (4, .invokevirtual 165, 3, [1, 53, 4, 6, 661, 663, 6, 25, 664]), (7, .iload 4, 2, []), (9, .bipush (-2), 2, []), (11, .iconst 2, 1, []), (12, .invokestatic 62, 3, [0, 28, 3, 478, 479, 25, 480]), (15, .aload_n 0, 1, []), (16, .invokevirtual 168, 3, [1, 56, 1, 6, 674, 676, 9, 25, 677]), (19, .aload_n 0, 1, []), (20, .getfield 24, 3, [6, 2, 265]), (23, .getfield 161, 3, [0, 4, 114]), (26, .bipush 60, 2, []), (28, .if_icmp .lt 13, 3, []), (31, .new 66, 3, [9, 3]), (34, .dup, 1, []), (35, .ldc 171, 2, []), (37, .invokespecial 70, 3, []), (40, .athrow, 1, []), (41, .aload_n 0, 1, []), (42, .getfield 24, 3, [6, 2, 265]), (45, .iload_n 1, 1, []), (46, .iload_n 2, 1, []), (47, .iload_n 3, 1, []), (48, .invokevirtual 173, 3, [1, 57, 4, 0, 680, 681, 682, 26, 683]), (51, .ifCond .eq 13, 3, []), (54, .new 66, 3, [9, 3]), (57, .dup, 1, []), (58, .ldc 176, 2, []), (60, .invokespecial 70, 3, []), (63, .athrow, 1, []), (64, .aload_n 0, 1, []), (65, .getfield 24, 3, [6, 2, 265]), (68, .iload_n 1, 1, []), (69, .iload_n 2, 1, []), (70, .iload_n 3, 1, []), (71, .iload 4, 2, []), (73, .invokevirtual 178, 3, [1, 58, 5, 0, 685, 686, 687, 26, 688]), (76, .aload_n 0, 1, []), (77, .getfield 24, 3, [6, 2, 265]), (80, .getfield 161, 3, [0, 4, 114]), (83, .ireturn, 1, [])]
def am_m52 : am_M := (⟨"CombCylinder", "pin", "(IIII)I"⟩, prog_1_method_19_code, 5, (some FieldType.int), [], am_i52_0)
def am_i53_0 : List am_I := [(0, .aload_n 0, 1, []), (1, .iload_n 1, 1, []), (2, .invokevirtual 212, 3, [1, 54, 2, 6, 665, 667, 7, 25, 668]), (5, .iload_n 2, 1, []), (6, .aload_n 0, 1, []), (7, .getfield 24, 3, [6, 2, 265]), (10, .getfield 228, 3, [0, 0, 105]), (13, .invokestatic 58, 3, [0, 31, 2, 505, 506, 25, 507]), (16, .iload_n 3, 1, []), (17, .bipush 28, 2, []), (19, .invokestatic 58, 3, [0, 31, 2, 505, 506, 25, 507]), (22, .return_, 1, [])]
def am_m53 : am_M := (⟨"CombCylinder", "needPinPlace", "(III)V"⟩, prog_1_method_61_code, 4, none, [], am_i53_0)
def am_i54_0 : List am_I := [(0, .aload_n 0, 1, []), (1, .invokevirtual 206, 3, [1, 55, 1, 6, 669, 671, 8, 25, 672]), (4, .iload_n 1, 1, []), (5, .aload_n 0, 1, []), (6, .getfield 24, 3, [6, 2, 265]), (9, .getfield 409, 3, [0, 1, 107]), (12, .invokestatic 58, 3, [0, 31, 2, 505, 506, 25, 507]), (15, .return_, 1, [])]
def am_m54 : am_M := (⟨"CombCylinder", "needAir", "(I)V"⟩, prog_1_method_60_code, 2, none, [], am_i54_0)
def am_i55_0 : List am_I := [(0, .aload_n 0, 1, []), (1, .getfield 24, 3, [6, 2, 265]), (4, .getfield 228, 3, [0, 0, 105]), (7, .ifCond .ne 14, 3, []), (10, .new 153, 3, [9, 2]), (13, .dup, 1, []), (14, .ldc_w 407, 3, []), (17, .invokespecial 157, 3, []), (20, .athrow, 1, []), (21, .return_, 1, [])]
def am_m55 : am_M := (⟨"CombCylinder", "needCylinder", "()V"⟩, prog_1_method_59_code, 1, none, [], am_i55_0)
def am_i56_0 : List am_I := [(0, .aload_n 0, 1, []), (1, .getfield 24, 3, [6, 2, 265]), (4, .getfield 209, 3, [0, 3, 111]), (7, .ifCond .eq 14, 3, []), (10, .new 66, 3, [9, 3]), (13, .dup, 1, []), (14, .ldc_w 412, 3, []), (17, .invokespecial 70, 3, []), (20, .athrow, 1, []), (21, .return_, 1, [])]
def am_m56 : am_M := (⟨"CombCylinder", "needSoft", "()V"⟩, prog_1_method_62_code, 1, none, [], am_i56_0)
def am_i57_0 : List am_I := [(0, .iconst 0, 1, []), (1, .istore 4, 2, []), (3, .iload 4, 2, []), (5, .aload_n 0, 1, []), (6, .getfield 25, 3, [0, 4, 112]), (9, .if_icmp .ge 28, 3, []), (12, .aload_n 0, 1, []), (13, .aload_n 0, 1, []), (14, .getfield 30, 3, [0, 5, 115]), (17, .iload 4, 2, []), (19, .aaload, 1, []), (20, .iload_n 1, 1, []), (21, .iload_n 2, 1, []), (22, .iload_n 3, 1, []), (23, .invokevirtual 70, 3, [1, 24, 5, 0, 375, 377, 0, 26, 378]), (26, .ifCond .eq 5, 3, []), (29, .iconst 1, 1, []), (30, .ireturn, 1, []), (31, .iinc 4 1, 3, []), (34, .goto (-31), 3, []), (37, .iconst 0, 1, []), (38, .ireturn, 1, [])]
def am_m57 : am_M := (⟨"CombCylinder$Drum", "isNearAny", "(III)Z"⟩, prog_2_method_12_code, 5, (some FieldType.boolean), [], am_i57_0)
def am_i58_0 : List am_I := [(0, .aload_n 0, 1, []), (1, .getfield 25, 3, [0, 4, 112]), (4, .bipush 60, 2, []), (6, .if_icmp .lt 4, 3, []), (9, .return_, 1, []), (10, .aload_n 0, 1, []), (11, .getfield 30, 3, [0, 5, 115]), (14, .aload_n 0, 1, []), (15, .getfield 25, 3, [0, 4, 112]), (18, .aaload, 1, []), (19, .astore 5, 2, []), (21, .aload 5, 2, []), (23, .iload_n 1, 1, []), (24, .putfield 38, 3, [1, 0, 73]), (27, .aload 5, 2, []), (29, .iload_n 2, 1, []), (30, .putfield 41, 3, [1, 1, 77]), (33, .aload 5, 2, []), (35, .iload_n 3, 1, []), (36, .putfield 44, 3, [1, 2, 81]), (39, .aload 5, 2, []), (41, .iload 4, 2, []), (43, .putfield 47, 3, [1, 3, 85]), (46, .aload 5, 2, []), (48, .iload_n 1, 1, []), (49, .sipush 600, 3, []), (52, .imul, 1, []), (53, .iload_n 2, 1, []), (54, .iadd, 1, []), (55, .bipush 28, 2, []), (57, .imul, 1, []), (58, .iload_n 3, 1, []), (59, .iadd, 1, []), (60, .putfield 50, 3, [1, 4, 88]), (63, .aload_n 0, 1, []), (64, .getfield 25, 3, [0, 4, 112]), (67, .istore 6, 2, []), (69, .iload 6, 2, []), (71, .ifCond .le 45, 3, []), (74, .aload_n 0, 1, []), (75, .getfield 30, 3, [0, 5, 115]), (78, .iload 6, 2, []), (80, .iconst 1, 1, []), (81, .isub, 1, []), (82, .aaload, 1, []), (83, .getfield 50, 3, [1, 4, 88]), (86, .aload 5, 2, []), (88, .getfield 50, 3, [1, 4, 88]), (91, .if_icmp .le 25, 3, []), (94, .aload_n 0, 1, []), (95, .getfield 30, 3, [0, 5, 115]), (98, .iload 6, 2, []), (100, .aload_n 0, 1, []), (101, .getfield 30, 3, [0, 5, 115]), (104, .iload 6, 2, []), (106, .iconst 1, 1, []), (107, .isub, 1, []), (108, .aaload, 1, []), (109, .aastore, 1, []), (110, .iinc 6 (-1), 3, [])]
def am_i58_1 : List am_I := [(113, .goto (-44), 3, []), (116, .aload_n 0, 1, []), (117, .getfield 30, 3, [0, 5, 115]), (120, .iload 6, 2, []), (122, .aload 5, 2, []), (124, .aastore, 1, []), (125, .aload_n 0, 1, []), (126, .dup, 1, []), (127, .getfield 25, 3, [0, 4, 112]), (130, .iconst 1, 1, []), (131, .iadd, 1, []), (132, .putfield 25, 3, [0, 4, 112]), (135, .return_, 1, [])]
def am_m58 : am_M := (⟨"CombCylinder$Drum", "add", "(IIII)V"⟩, prog_2_method_4_code, 7, none, [], am_i58_0 ++ (am_i58_1))
def am_i59_0 : List am_I := [(0, .aload_n 0, 1, []), (1, .iload_n 1, 1, []), (2, .iload_n 2, 1, []), (3, .iload_n 3, 1, []), (4, .invokevirtual 165, 3, [1, 53, 4, 6, 661, 663, 6, 25, 664]), (7, .aload_n 0, 1, []), (8, .getfield 24, 3, [6, 2, 265]), (11, .iload_n 1, 1, []), (12, .iload_n 2, 1, []), (13, .iload_n 3, 1, []), (14, .invokevirtual 181, 3, [1, 60, 4, 0, 693, 694, 695, 26, 696]), (17, .istore 4, 2, []), (19, .iload 4, 2, []), (21, .ifCond .ge 13, 3, []), (24, .new 185, 3, [9, 4]), (27, .dup, 1, []), (28, .ldc 187, 2, []), (30, .invokespecial 189, 3, []), (33, .athrow, 1, []), (34, .aload_n 0, 1, []), (35, .invokevirtual 168, 3, [1, 56, 1, 6, 674, 676, 9, 25, 677]), (38, .aload_n 0, 1, []), (39, .getfield 24, 3, [6, 2, 265]), (42, .getfield 190, 3, [0, 5, 117]), (45, .iload 4, 2, []), (47, .aaload, 1, []), (48, .getfield 194, 3, [1, 3, 86]), (51, .istore 5, 2, []), (53, .aload_n 0, 1, []), (54, .getfield 24, 3, [6, 2, 265]), (57, .iload 4, 2, []), (59, .invokevirtual 199, 3, [1, 61, 2, 0, 698, 699, 700, 26, 701]), (62, .iload 5, 2, []), (64, .ireturn, 1, [])]
def am_m59 : am_M := (⟨"CombCylinder", "pull", "(III)I"⟩, prog_1_method_20_code, 6, (some FieldType.int), [], am_i59_0)
def am_i60_0 : List am_I := [(0, .iconst 0, 1, []), (1, .istore 4, 2, []), (3, .iload 4, 2, []), (5, .aload_n 0, 1, []), (6, .getfield 25, 3, [0, 4, 112]), (9, .if_icmp .ge 54, 3, []), (12, .aload_n 0, 1, []), (13, .getfield 30, 3, [0, 5, 115]), (16, .iload 4, 2, []), (18, .aaload, 1, []), (19, .getfield 38, 3, [1, 0, 73]), (22, .iload_n 1, 1, []), (23, .if_icmp .ne 34, 3, []), (26, .aload_n 0, 1, []), (27, .getfield 30, 3, [0, 5, 115]), (30, .iload 4, 2, []), (32, .aaload, 1, []), (33, .getfield 41, 3, [1, 1, 77]), (36, .iload_n 2, 1, []), (37, .if_icmp .ne 20, 3, []), (40, .aload_n 0, 1, []), (41, .getfield 30, 3, [0, 5, 115]), (44, .iload 4, 2, []), (46, .aaload, 1, []), (47, .getfield 44, 3, [1, 2, 81]), (50, .iload_n 3, 1, []), (51, .if_icmp .ne 6, 3, []), (54, .iload 4, 2, []), (56, .ireturn, 1, []), (57, .iinc 4 1, 3, []), (60, .goto (-57), 3, []), (63, .iconst (-1), 1, []), (64, .ireturn, 1, [])]
def am_m60 : am_M := (⟨"CombCylinder$Drum", "find", "(III)I"⟩, prog_2_method_8_code, 5, (some FieldType.int), [], am_i60_0)
def am_i61_0 : List am_I := [(0, .iload_n 1, 1, []), (1, .ifCond .lt 11, 3, []), (4, .iload_n 1, 1, []), (5, .aload_n 0, 1, []), (6, .getfield 25, 3, [0, 4, 112]), (9, .if_icmp .lt 4, 3, []), (12, .return_, 1, []), (13, .aload_n 0, 1, []), (14, .getfield 30, 3, [0, 5, 115]), (17, .iload_n 1, 1, []), (18, .aaload, 1, []), (19, .astore_n 2, 1, []), (20, .iload_n 1, 1, []), (21, .iconst 1, 1, []), (22, .iadd, 1, []), (23, .istore_n 3, 1, []), (24, .iload_n 3, 1, []), (25, .aload_n 0, 1, []), (26, .getfield 25, 3, [0, 4, 112]), (29, .if_icmp .ge 23, 3, []), (32, .aload_n 0, 1, []), (33, .getfield 30, 3, [0, 5, 115]), (36, .iload_n 3, 1, []), (37, .iconst 1, 1, []), (38, .isub, 1, []), (39, .aload_n 0, 1, []), (40, .getfield 30, 3, [0, 5, 115]), (43, .iload_n 3, 1, []), (44, .aaload, 1, []), (45, .aastore, 1, []), (46, .iinc 3 1, 3, []), (49, .goto (-25), 3, []), (52, .aload_n 0, 1, []), (53, .dup, 1, []), (54, .getfield 25, 3, [0, 4, 112]), (57, .iconst 1, 1, []), (58, .isub, 1, []), (59, .putfield 25, 3, [0, 4, 112]), (62, .aload_n 0, 1, []), (63, .getfield 30, 3, [0, 5, 115]), (66, .aload_n 0, 1, []), (67, .getfield 25, 3, [0, 4, 112]), (70, .aload_n 2, 1, []), (71, .aastore, 1, []), (72, .return_, 1, [])]
def am_m61 : am_M := (⟨"CombCylinder$Drum", "remove", "(I)V"⟩, prog_2_method_5_code, 4, none, [], am_i61_0)
def am_i62_0 : List am_I := [(0, .iload_n 1, 1, []), (1, .tableswitch 387 65 122 #[273, 387, 387, 387, 387, 387, 387, 342, 387, 387, 387, 387, 387, 374, 387, 387, 387, 353, 281, 387, 387, 387, 294, 387, 310, 387, 387, 387, 387, 387, 387, 387, 387, 387, 260, 387, 387, 302, 387, 289, 387, 387, 318, 379, 247, 387, 334, 387, 387, 255, 387, 387, 387, 387, 387, 358, 387, 326], 247, []), (248, .aload_n 0, 1, []), (249, .aload_n 2, 1, []), (250, .iconst 0, 1, []), (251, .iaload, 1, []), (252, .invokevirtual 88, 3, [1, 63, 2, 6, 705, 706, 707, 25, 708]), (255, .ireturn, 1, []), (256, .aload_n 0, 1, []), (257, .invokevirtual 91, 3, [1, 64, 1, 6, 709, 710, 711, 25, 712]), (260, .ireturn, 1, []), (261, .aload_n 0, 1, []), (262, .invokevirtual 95, 3, [1, 65, 1, 6, 713, 714, 715, 25, 716]), (265, .ifCond .eq 7, 3, []), (268, .iconst 1, 1, []), (269, .goto 4, 3, []), (272, .iconst 0, 1, []), (273, .ireturn, 1, []), (274, .aload_n 0, 1, []), (275, .aload_n 2, 1, []), (276, .iconst 0, 1, []), (277, .iaload, 1, []), (278, .invokevirtual 99, 3, [1, 66, 2, 6, 717, 718, 719, 25, 720]), (281, .ireturn, 1, []), (282, .aload_n 0, 1, []), (283, .aload_n 2, 1, []), (284, .iconst 0, 1, []), (285, .iaload, 1, []), (286, .invokevirtual 102, 3, [1, 70, 2, 6, 734, 735, 736, 25, 737]), (289, .ireturn, 1, []), (290, .aload_n 0, 1, []), (291, .invokevirtual 105, 3, [1, 71, 1, 6, 738, 739, 740, 25, 741]), (294, .ireturn, 1, []), (295, .aload_n 0, 1, []), (296, .aload_n 2, 1, []), (297, .iconst 0, 1, []), (298, .iaload, 1, []), (299, .invokevirtual 108, 3, [1, 72, 2, 6, 742, 743, 744, 25, 745]), (302, .ireturn, 1, []), (303, .aload_n 0, 1, []), (304, .aload_n 2, 1, []), (305, .iconst 0, 1, []), (306, .iaload, 1, []), (307, .invokevirtual 111, 3, [1, 73, 2, 6, 747, 748, 749, 25, 750]), (310, .ireturn, 1, []), (311, .aload_n 0, 1, []), (312, .aload_n 2, 1, []), (313, .iconst 0, 1, []), (314, .iaload, 1, []), (315, .invokevirtual 114, 3, [1, 74, 2, 6, 751, 752, 753, 25, 754]), (318, .ireturn, 1, []), (319, .aload_n 0, 1, []), (320, .aload_n 2, 1, []), (321, .iconst 0, 1, []), (322, .iaload, 1, []), (323, .invokevirtual 117, 3, [1, 79, 2, 6, 773, 774, 775, 25, 776]), (326, .ireturn, 1, []), (327, .aload_n 0, 1, []), (328, .aload_n 2, 1, []), (329, .iconst 0, 1, [])]
def am_i62_1 : List am_I := [(330, .iaload, 1, []), (331, .invokevirtual 120, 3, [1, 80, 2, 6, 777, 778, 779, 25, 780]), (334, .ireturn, 1, []), (335, .aload_n 0, 1, []), (336, .aload_n 2, 1, []), (337, .iconst 0, 1, []), (338, .iaload, 1, []), (339, .invokevirtual 123, 3, [1, 85, 2, 6, 797, 798, 799, 25, 800]), (342, .ireturn, 1, []), (343, .aload_n 0, 1, []), (344, .aload_n 2, 1, []), (345, .iconst 0, 1, []), (346, .iaload, 1, []), (347, .aload_n 2, 1, []), (348, .iconst 1, 1, []), (349, .iaload, 1, []), (350, .invokevirtual 126, 3, [1, 86, 3, 6, 801, 802, 803, 25, 804]), (353, .ireturn, 1, []), (354, .aload_n 0, 1, []), (355, .invokevirtual 129, 3, [1, 87, 1, 6, 806, 807, 808, 25, 809]), (358, .ireturn, 1, []), (359, .aload_n 0, 1, []), (360, .aload_n 2, 1, []), (361, .iconst 0, 1, []), (362, .iaload, 1, []), (363, .invokevirtual 132, 3, [1, 93, 2, 6, 831, 832, 833, 25, 834]), (366, .ifCond .eq 7, 3, []), (369, .iconst 1, 1, []), (370, .goto 4, 3, []), (373, .iconst 0, 1, []), (374, .ireturn, 1, []), (375, .aload_n 0, 1, []), (376, .invokevirtual 135, 3, [1, 94, 1, 6, 835, 836, 837, 25, 838]), (379, .ireturn, 1, []), (380, .aload_n 0, 1, []), (381, .aload_n 2, 1, []), (382, .iconst 0, 1, []), (383, .iaload, 1, []), (384, .invokevirtual 138, 3, [1, 107, 2, 6, 887, 888, 889, 25, 890]), (387, .ireturn, 1, []), (388, .aload_n 0, 1, []), (389, .aload_n 2, 1, []), (390, .iconst 0, 1, []), (391, .iaload, 1, []), (392, .invokevirtual 141, 3, [1, 109, 2, 6, 896, 897, 898, 25, 899]), (395, .ireturn, 1, [])]
def am_m62 : am_M := (⟨"CombCylinderLaw", "asked", "(LCombCylinder;C[I)I"⟩, method_5_code, 3, (some FieldType.int), [], am_i62_0 ++ (am_i62_1))
def am_i63_0 : List am_I := [(0, .iload_n 1, 1, []), (1, .bipush 6, 2, []), (3, .invokestatic 58, 3, [0, 31, 2, 505, 506, 25, 507]), (6, .iconst 0, 1, []), (7, .istore_n 2, 1, []), (8, .iconst 0, 1, []), (9, .istore_n 3, 1, []), (10, .iload_n 3, 1, []), (11, .aload_n 0, 1, []), (12, .getfield 24, 3, [6, 2, 265]), (15, .getfield 161, 3, [0, 4, 114]), (18, .if_icmp .ge 28, 3, []), (21, .aload_n 0, 1, []), (22, .getfield 24, 3, [6, 2, 265]), (25, .getfield 190, 3, [0, 5, 117]), (28, .iload_n 3, 1, []), (29, .aaload, 1, []), (30, .getfield 203, 3, [1, 0, 75]), (33, .iload_n 1, 1, []), (34, .if_icmp .ne 6, 3, []), (37, .iinc 2 1, 3, []), (40, .iinc 3 1, 3, []), (43, .goto (-33), 3, []), (46, .iload_n 2, 1, []), (47, .ireturn, 1, [])]
def am_m63 : am_M := (⟨"CombCylinder", "pins", "(I)I"⟩, prog_1_method_21_code, 4, (some FieldType.int), [], am_i63_0)
def am_i64_0 : List am_I := [(0, .aload_n 0, 1, []), (1, .invokevirtual 206, 3, [1, 55, 1, 6, 669, 671, 8, 25, 672]), (4, .aload_n 0, 1, []), (5, .invokevirtual 168, 3, [1, 56, 1, 6, 674, 676, 9, 25, 677]), (8, .iconst 0, 1, []), (9, .istore_n 1, 1, []), (10, .iconst 0, 1, []), (11, .istore_n 2, 1, []), (12, .iload_n 2, 1, []), (13, .aload_n 0, 1, []), (14, .getfield 24, 3, [6, 2, 265]), (17, .getfield 161, 3, [0, 4, 114]), (20, .if_icmp .ge 34, 3, []), (23, .aload_n 0, 1, []), (24, .getfield 24, 3, [6, 2, 265]), (27, .getfield 190, 3, [0, 5, 117]), (30, .iload_n 2, 1, []), (31, .aaload, 1, []), (32, .astore_n 3, 1, []), (33, .aload_n 3, 1, []), (34, .getfield 194, 3, [1, 3, 86]), (37, .ifCond .eq 11, 3, []), (40, .iinc 1 1, 3, []), (43, .aload_n 3, 1, []), (44, .iconst 0, 1, []), (45, .putfield 194, 3, [1, 3, 86]), (48, .iinc 2 1, 3, []), (51, .goto (-39), 3, []), (54, .iload_n 1, 1, []), (55, .ireturn, 1, [])]
def am_m64 : am_M := (⟨"CombCylinder", "rake", "()I"⟩, prog_1_method_22_code, 4, (some FieldType.int), [], am_i64_0)
def am_i65_0 : List am_I := [(0, .aload_n 0, 1, []), (1, .invokevirtual 206, 3, [1, 55, 1, 6, 669, 671, 8, 25, 672]), (4, .aload_n 0, 1, []), (5, .getfield 24, 3, [6, 2, 265]), (8, .getfield 209, 3, [0, 3, 111]), (11, .istore_n 1, 1, []), (12, .aload_n 0, 1, []), (13, .getfield 24, 3, [6, 2, 265]), (16, .iconst 1, 1, []), (17, .putfield 209, 3, [0, 3, 111]), (20, .iload_n 1, 1, []), (21, .ireturn, 1, [])]
def am_m65 : am_M := (⟨"CombCylinder", "cement", "()Z"⟩, prog_1_method_23_code, 2, (some FieldType.boolean), [], am_i65_0)
def am_i66_0 : List am_I := [(0, .aload_n 0, 1, []), (1, .iload_n 1, 1, []), (2, .invokevirtual 212, 3, [1, 54, 2, 6, 665, 667, 7, 25, 668]), (5, .aload_n 0, 1, []), (6, .invokevirtual 168, 3, [1, 56, 1, 6, 674, 676, 9, 25, 677]), (9, .aload_n 0, 1, []), (10, .getfield 24, 3, [6, 2, 265]), (13, .iload_n 1, 1, []), (14, .invokevirtual 215, 3, [1, 67, 2, 0, 721, 722, 723, 26, 724]), (17, .aload_n 0, 1, []), (18, .getfield 17, 3, [6, 1, 264]), (21, .iload_n 1, 1, []), (22, .aaload, 1, []), (23, .astore_n 2, 1, []), (24, .iconst 0, 1, []), (25, .istore_n 3, 1, []), (26, .iconst 0, 1, []), (27, .istore 4, 2, []), (29, .iload 4, 2, []), (31, .aload_n 2, 1, []), (32, .getfield 150, 3, [2, 3, 253]), (35, .if_icmp .ge 34, 3, []), (38, .aload_n 0, 1, []), (39, .iload_n 1, 1, []), (40, .aload_n 2, 1, []), (41, .getfield 218, 3, [2, 0, 248]), (44, .iload 4, 2, []), (46, .iaload, 1, []), (47, .aload_n 2, 1, []), (48, .getfield 222, 3, [2, 2, 251]), (51, .iload 4, 2, []), (53, .iaload, 1, []), (54, .invokevirtual 225, 3, [1, 68, 4, 6, 726, 728, 10, 25, 729]), (57, .ifCond .ne 6, 3, []), (60, .iinc 3 1, 3, []), (63, .iinc 4 1, 3, []), (66, .goto (-37), 3, []), (69, .iload_n 3, 1, []), (70, .ireturn, 1, [])]
def am_m66 : am_M := (⟨"CombCylinder", "arrange", "(I)I"⟩, prog_1_method_24_code, 5, (some FieldType.int), [], am_i66_0)
def am_i67_0 : List am_I := [(0, .aload_n 0, 1, []), (1, .getfield 25, 3, [0, 4, 112]), (4, .iconst 1, 1, []), (5, .isub, 1, []), (6, .istore_n 2, 1, []), (7, .iload_n 2, 1, []), (8, .ifCond .lt 27, 3, []), (11, .aload_n 0, 1, []), (12, .getfield 30, 3, [0, 5, 115]), (15, .iload_n 2, 1, []), (16, .aaload, 1, []), (17, .getfield 38, 3, [1, 0, 73]), (20, .iload_n 1, 1, []), (21, .if_icmp .ne 8, 3, []), (24, .aload_n 0, 1, []), (25, .iload_n 2, 1, []), (26, .invokevirtual 53, 3, [1, 61, 2, 0, 725, 699, 700, 26, 701]), (29, .iinc 2 (-1), 3, []), (32, .goto (-25), 3, []), (35, .return_, 1, [])]
def am_m67 : am_M := (⟨"CombCylinder$Drum", "removeAir", "(I)V"⟩, prog_2_method_6_code, 3, none, [], am_i67_0)
def am_i68_0 : List am_I := [(0, .iload_n 2, 1, []), (1, .aload_n 0, 1, []), (2, .getfield 24, 3, [6, 2, 265]), (5, .getfield 228, 3, [0, 0, 105]), (8, .if_icmp .ge 15, 3, []), (11, .aload_n 0, 1, []), (12, .getfield 24, 3, [6, 2, 265]), (15, .getfield 161, 3, [0, 4, 114]), (18, .bipush 60, 2, []), (20, .if_icmp .lt 5, 3, []), (23, .iconst 0, 1, []), (24, .ireturn, 1, []), (25, .iconst 0, 1, []), (26, .istore 4, 2, []), (28, .iload 4, 2, []), (30, .bipush 28, 2, []), (32, .if_icmp .ge 90, 3, []), (35, .aload_n 0, 1, []), (36, .getfield 11, 3, [6, 0, 263]), (39, .iload 4, 2, []), (41, .aaload, 1, []), (42, .astore 5, 2, []), (44, .aload 5, 2, []), (46, .invokevirtual 230, 3, [1, 14, 1, 5, 327, 328, 329, 30, 330]), (49, .ifCond .eq 67, 3, []), (52, .aload 5, 2, []), (54, .invokevirtual 100, 3, [1, 39, 1, 5, 583, 584, 585, 30, 586]), (57, .ifCond .eq 59, 3, []), (60, .aload 5, 2, []), (62, .invokevirtual 97, 3, [1, 17, 1, 5, 578, 340, 341, 30, 342]), (65, .iload_n 3, 1, []), (66, .if_icmp .ne 50, 3, []), (69, .aload_n 0, 1, []), (70, .getfield 24, 3, [6, 2, 265]), (73, .iload_n 1, 1, []), (74, .iload_n 2, 1, []), (75, .iload 4, 2, []), (77, .aload 5, 2, []), (79, .invokevirtual 144, 3, [1, 47, 1, 5, 621, 622, 623, 30, 624]), (82, .invokevirtual 233, 3, [1, 69, 5, 0, 730, 731, 732, 26, 733]), (85, .ifCond .eq 31, 3, []), (88, .aload_n 0, 1, []), (89, .getfield 24, 3, [6, 2, 265]), (92, .iload_n 1, 1, []), (93, .iload_n 2, 1, []), (94, .iload 4, 2, []), (96, .invokevirtual 173, 3, [1, 57, 4, 0, 680, 681, 682, 26, 683]), (99, .ifCond .ne 17, 3, []), (102, .aload_n 0, 1, []), (103, .getfield 24, 3, [6, 2, 265]), (106, .iload_n 1, 1, []), (107, .iload_n 2, 1, []), (108, .iload 4, 2, []), (110, .iconst 0, 1, []), (111, .invokevirtual 178, 3, [1, 58, 5, 0, 685, 686, 687, 26, 688]), (114, .iconst 1, 1, []), (115, .ireturn, 1, []), (116, .iinc 4 1, 3, []), (119, .goto (-91), 3, []), (122, .iconst 0, 1, [])]
def am_i68_1 : List am_I := [(123, .ireturn, 1, [])]
def am_m68 : am_M := (⟨"CombCylinder", "arrangeNote", "(III)Z"⟩, prog_1_method_25_code, 6, (some FieldType.boolean), [], am_i68_0 ++ (am_i68_1))
def am_i69_0 : List am_I := [(0, .iconst 0, 1, []), (1, .istore 5, 2, []), (3, .iload 5, 2, []), (5, .aload_n 0, 1, []), (6, .getfield 25, 3, [0, 4, 112]), (9, .if_icmp .ge 53, 3, []), (12, .aload_n 0, 1, []), (13, .getfield 30, 3, [0, 5, 115]), (16, .iload 5, 2, []), (18, .aaload, 1, []), (19, .astore 6, 2, []), (21, .aload 6, 2, []), (23, .getfield 38, 3, [1, 0, 73]), (26, .iload_n 1, 1, []), (27, .if_icmp .ne 29, 3, []), (30, .aload 6, 2, []), (32, .getfield 44, 3, [1, 2, 81]), (35, .iload_n 3, 1, []), (36, .if_icmp .ne 20, 3, []), (39, .aload_n 0, 1, []), (40, .aload 6, 2, []), (42, .getfield 41, 3, [1, 1, 77]), (45, .iload_n 2, 1, []), (46, .invokevirtual 67, 3, [1, 25, 3, 0, 380, 382, 1, 26, 383]), (49, .iload 4, 2, []), (51, .if_icmp .ge 5, 3, []), (54, .iconst 0, 1, []), (55, .ireturn, 1, []), (56, .iinc 5 1, 3, []), (59, .goto (-56), 3, []), (62, .iconst 1, 1, []), (63, .ireturn, 1, [])]
def am_m69 : am_M := (⟨"CombCylinder$Drum", "isStill", "(IIII)Z"⟩, prog_2_method_14_code, 7, (some FieldType.boolean), [], am_i69_0)
def am_i70_0 : List am_I := [(0, .aload_n 0, 1, []), (1, .iload_n 1, 1, []), (2, .invokevirtual 212, 3, [1, 54, 2, 6, 665, 667, 7, 25, 668]), (5, .aload_n 0, 1, []), (6, .getfield 24, 3, [6, 2, 265]), (9, .getfield 237, 3, [0, 2, 109]), (12, .istore_n 2, 1, []), (13, .aload_n 0, 1, []), (14, .getfield 24, 3, [6, 2, 265]), (17, .iload_n 1, 1, []), (18, .putfield 237, 3, [0, 2, 109]), (21, .iload_n 2, 1, []), (22, .ireturn, 1, [])]
def am_m70 : am_M := (⟨"CombCylinder", "shift", "(I)I"⟩, prog_1_method_26_code, 3, (some FieldType.int), [], am_i70_0)
def am_i71_0 : List am_I := [(0, .aload_n 0, 1, []), (1, .invokevirtual 206, 3, [1, 55, 1, 6, 669, 671, 8, 25, 672]), (4, .aload_n 0, 1, []), (5, .getfield 24, 3, [6, 2, 265]), (8, .getfield 237, 3, [0, 2, 109]), (11, .ireturn, 1, [])]
def am_m71 : am_M := (⟨"CombCylinder", "shifted", "()I"⟩, prog_1_method_27_code, 1, (some FieldType.int), [], am_i71_0)
def am_i72_0 : List am_I := [(0, .iload_n 1, 1, []), (1, .iconst 1, 1, []), (2, .bipush 20, 2, []), (4, .invokestatic 62, 3, [0, 28, 3, 478, 479, 25, 480]), (7, .aload_n 0, 1, []), (8, .getfield 31, 3, [6, 3, 266]), (11, .bipush 80, 2, []), (13, .aload_n 0, 1, []), (14, .getfield 31, 3, [6, 3, 266]), (17, .getfield 240, 3, [3, 0, 142]), (20, .iconst 4, 1, []), (21, .iload_n 1, 1, []), (22, .imul, 1, []), (23, .iadd, 1, []), (24, .invokestatic 243, 3, [4, 746, 385, 37, 386]), (27, .putfield 240, 3, [3, 0, 142]), (30, .aload_n 0, 1, []), (31, .getfield 31, 3, [6, 3, 266]), (34, .getfield 240, 3, [3, 0, 142]), (37, .ireturn, 1, [])]
def am_m72 : am_M := (⟨"CombCylinder", "wind", "(I)I"⟩, prog_1_method_29_code, 2, (some FieldType.int), [], am_i72_0)
def am_i73_0 : List am_I := [(0, .iload_n 1, 1, []), (1, .iconst 1, 1, []), (2, .bipush 50, 2, []), (4, .invokestatic 62, 3, [0, 28, 3, 478, 479, 25, 480]), (7, .aload_n 0, 1, []), (8, .getfield 31, 3, [6, 3, 266]), (11, .getfield 249, 3, [3, 1, 144]), (14, .istore_n 2, 1, []), (15, .aload_n 0, 1, []), (16, .getfield 31, 3, [6, 3, 266]), (19, .iload_n 1, 1, []), (20, .putfield 249, 3, [3, 1, 144]), (23, .iload_n 2, 1, []), (24, .ireturn, 1, [])]
def am_m73 : am_M := (⟨"CombCylinder", "fan", "(I)I"⟩, prog_1_method_30_code, 3, (some FieldType.int), [], am_i73_0)
def am_i74_0 : List am_I := [(0, .aload_n 0, 1, []), (1, .invokevirtual 206, 3, [1, 55, 1, 6, 669, 671, 8, 25, 672]), (4, .iload_n 1, 1, []), (5, .iconst 1, 1, []), (6, .bipush 40, 2, []), (8, .invokestatic 62, 3, [0, 28, 3, 478, 479, 25, 480]), (11, .iconst 0, 1, []), (12, .istore_n 2, 1, []), (13, .iconst 0, 1, []), (14, .istore_n 3, 1, []), (15, .iload_n 3, 1, []), (16, .iload_n 1, 1, []), (17, .if_icmp .ge 54, 3, []), (20, .aload_n 0, 1, []), (21, .getfield 31, 3, [6, 3, 266]), (24, .getfield 240, 3, [3, 0, 142]), (27, .ifCond .le 44, 3, []), (30, .iload_n 2, 1, []), (31, .aload_n 0, 1, []), (32, .invokevirtual 260, 3, [1, 75, 1, 6, 755, 757, 11, 25, 758]), (35, .iadd, 1, []), (36, .istore_n 2, 1, []), (37, .aload_n 0, 1, []), (38, .getfield 31, 3, [6, 3, 266]), (41, .aload_n 0, 1, []), (42, .getfield 24, 3, [6, 2, 265]), (45, .getfield 228, 3, [0, 0, 105]), (48, .invokevirtual 263, 3, [1, 77, 2, 3, 764, 765, 766, 28, 767]), (51, .aload_n 0, 1, []), (52, .getfield 42, 3, [6, 5, 268]), (55, .ifCond .eq 10, 3, []), (58, .aload_n 0, 1, []), (59, .getfield 24, 3, [6, 2, 265]), (62, .invokevirtual 266, 3, [1, 78, 1, 0, 769, 770, 771, 26, 772]), (65, .iinc 3 1, 3, []), (68, .goto (-53), 3, []), (71, .aload_n 0, 1, []), (72, .dup, 1, []), (73, .getfield 50, 3, [6, 7, 270]), (76, .iload_n 2, 1, []), (77, .iadd, 1, []), (78, .putfield 50, 3, [6, 7, 270]), (81, .iload_n 2, 1, []), (82, .ireturn, 1, [])]
def am_m74 : am_M := (⟨"CombCylinder", "play", "(I)I"⟩, prog_1_method_32_code, 4, (some FieldType.int), [], am_i74_0)
def am_i75_0 : List am_I := [(0, .iconst 0, 1, []), (1, .istore_n 1, 1, []), (2, .iconst 0, 1, []), (3, .istore_n 2, 1, []), (4, .iload_n 2, 1, []), (5, .aload_n 0, 1, []), (6, .getfield 24, 3, [6, 2, 265]), (9, .getfield 161, 3, [0, 4, 114]), (12, .if_icmp .ge 55, 3, []), (15, .aload_n 0, 1, []), (16, .getfield 24, 3, [6, 2, 265]), (19, .getfield 190, 3, [0, 5, 117]), (22, .iload_n 2, 1, []), (23, .aaload, 1, []), (24, .astore_n 3, 1, []), (25, .aload_n 0, 1, []), (26, .aload_n 3, 1, []), (27, .aload_n 0, 1, []), (28, .getfield 24, 3, [6, 2, 265]), (31, .getfield 237, 3, [0, 2, 109]), (34, .invokevirtual 269, 3, [1, 76, 3, 6, 759, 761, 12, 25, 762]), (37, .ifCond .eq 24, 3, []), (40, .aload_n 0, 1, []), (41, .getfield 11, 3, [6, 0, 263]), (44, .aload_n 3, 1, []), (45, .getfield 273, 3, [1, 2, 83]), (48, .aaload, 1, []), (49, .dup, 1, []), (50, .getfield 82, 3, [5, 10, 214]), (53, .iconst 1, 1, []), (54, .iadd, 1, []), (55, .putfield 82, 3, [5, 10, 214]), (58, .iinc 1 1, 3, []), (61, .iinc 2 1, 3, []), (64, .goto (-60), 3, []), (67, .iload_n 1, 1, []), (68, .ireturn, 1, [])]
def am_m75 : am_M := (⟨"CombCylinder", "playTurn", "()I"⟩, prog_1_method_33_code, 4, (some FieldType.int), [], am_i75_0)
def am_i76_0 : List am_I := [(0, .aload_n 0, 1, []), (1, .getfield 11, 3, [6, 0, 263]), (4, .aload_n 1, 1, []), (5, .getfield 273, 3, [1, 2, 83]), (8, .aaload, 1, []), (9, .astore_n 3, 1, []), (10, .aload_n 3, 1, []), (11, .invokevirtual 230, 3, [1, 14, 1, 5, 327, 328, 329, 30, 330]), (14, .ifCond .eq 23, 3, []), (17, .aload_n 1, 1, []), (18, .getfield 203, 3, [1, 0, 75]), (21, .iload_n 2, 1, []), (22, .isub, 1, []), (23, .invokestatic 276, 3, [3, 763, 344, 37, 345]), (26, .aload_n 3, 1, []), (27, .getfield 280, 3, [5, 3, 200]), (30, .if_icmp .gt 7, 3, []), (33, .iconst 1, 1, []), (34, .goto 4, 3, []), (37, .iconst 0, 1, []), (38, .ireturn, 1, [])]
def am_m76 : am_M := (⟨"CombCylinder", "doesStrike", "(LCombCylinder$Pin;I)Z"⟩, prog_1_method_34_code, 4, (some FieldType.boolean), [], am_i76_0)
def am_i77_0 : List am_I := [(0, .aload_n 0, 1, []), (1, .aload_n 0, 1, []), (2, .getfield 16, 3, [3, 2, 145]), (5, .iload_n 1, 1, []), (6, .i2f, 1, []), (7, .aload_n 0, 1, []), (8, .invokevirtual 20, 3, [1, 9, 1, 3, 768, 300, 301, 28, 302]), (11, .fdiv, 1, []), (12, .f2d, 1, []), (13, .dadd, 1, []), (14, .putfield 16, 3, [3, 2, 145]), (17, .aload_n 0, 1, []), (18, .dup, 1, []), (19, .getfield 7, 3, [3, 0, 141]), (22, .iconst 1, 1, []), (23, .isub, 1, []), (24, .putfield 7, 3, [3, 0, 141]), (27, .return_, 1, [])]
def am_m77 : am_M := (⟨"CombCylinder$Spring", "driveTurn", "(I)V"⟩, prog_5_method_3_code, 2, none, [], am_i77_0)
def am_i78_0 : List am_I := [(0, .aload_n 0, 1, []), (1, .aload_n 0, 1, []), (2, .getfield 18, 3, [0, 2, 108]), (5, .iconst 1, 1, []), (6, .iadd, 1, []), (7, .aload_n 0, 1, []), (8, .getfield 15, 3, [0, 1, 106]), (11, .if_icmp .ge 12, 3, []), (14, .aload_n 0, 1, []), (15, .getfield 18, 3, [0, 2, 108]), (18, .iconst 1, 1, []), (19, .iadd, 1, []), (20, .goto 4, 3, []), (23, .iconst 0, 1, []), (24, .putfield 18, 3, [0, 2, 108]), (27, .return_, 1, [])]
def am_m78 : am_M := (⟨"CombCylinder$Drum", "shiftOn", "()V"⟩, prog_2_method_3_code, 1, none, [], am_i78_0)
def am_i79_0 : List am_I := [(0, .aload_n 0, 1, []), (1, .iload_n 1, 1, []), (2, .invokevirtual 89, 3, [1, 36, 2, 6, 554, 556, 4, 25, 557]), (5, .getfield 82, 3, [5, 10, 214]), (8, .ireturn, 1, [])]
def am_m79 : am_M := (⟨"CombCylinder", "strikes", "(I)I"⟩, prog_1_method_14_code, 2, (some FieldType.int), [], am_i79_0)
def am_i80_0 : List am_I := [(0, .aload_n 0, 1, []), (1, .iload_n 1, 1, []), (2, .invokevirtual 212, 3, [1, 54, 2, 6, 665, 667, 7, 25, 668]), (5, .iconst 0, 1, []), (6, .istore_n 2, 1, []), (7, .iconst 0, 1, []), (8, .istore_n 3, 1, []), (9, .iload_n 3, 1, []), (10, .aload_n 0, 1, []), (11, .getfield 24, 3, [6, 2, 265]), (14, .getfield 161, 3, [0, 4, 114]), (17, .if_icmp .ge 38, 3, []), (20, .aload_n 0, 1, []), (21, .aload_n 0, 1, []), (22, .getfield 24, 3, [6, 2, 265]), (25, .getfield 190, 3, [0, 5, 117]), (28, .iload_n 3, 1, []), (29, .aaload, 1, []), (30, .iload_n 1, 1, []), (31, .invokevirtual 269, 3, [1, 76, 3, 6, 759, 761, 12, 25, 762]), (34, .ifCond .eq 15, 3, []), (37, .aload_n 0, 1, []), (38, .iload_n 3, 1, []), (39, .iload_n 1, 1, []), (40, .invokevirtual 287, 3, [1, 81, 3, 6, 781, 783, 13, 25, 784]), (43, .ifCond .eq 6, 3, []), (46, .iinc 2 1, 3, []), (49, .iinc 3 1, 3, []), (52, .goto (-43), 3, []), (55, .iload_n 2, 1, []), (56, .ireturn, 1, [])]
def am_m80 : am_M := (⟨"CombCylinder", "buzzes", "(I)I"⟩, prog_1_method_36_code, 4, (some FieldType.int), [], am_i80_0)
def am_i81_0 : List am_I := [(0, .aload_n 0, 1, []), (1, .getfield 24, 3, [6, 2, 265]), (4, .getfield 190, 3, [0, 5, 117]), (7, .iload_n 1, 1, []), (8, .aaload, 1, []), (9, .astore_n 3, 1, []), (10, .aload_n 0, 1, []), (11, .getfield 11, 3, [6, 0, 263]), (14, .aload_n 3, 1, []), (15, .getfield 273, 3, [1, 2, 83]), (18, .aaload, 1, []), (19, .invokevirtual 144, 3, [1, 47, 1, 5, 621, 622, 623, 30, 624]), (22, .istore 4, 2, []), (24, .iconst 0, 1, []), (25, .istore 5, 2, []), (27, .iload 5, 2, []), (29, .aload_n 0, 1, []), (30, .getfield 24, 3, [6, 2, 265]), (33, .getfield 161, 3, [0, 4, 114]), (36, .if_icmp .ge 66, 3, []), (39, .aload_n 0, 1, []), (40, .getfield 24, 3, [6, 2, 265]), (43, .getfield 190, 3, [0, 5, 117]), (46, .iload 5, 2, []), (48, .aaload, 1, []), (49, .astore 6, 2, []), (51, .iload 5, 2, []), (53, .iload_n 1, 1, []), (54, .if_icmp .eq 42, 3, []), (57, .aload 6, 2, []), (59, .getfield 273, 3, [1, 2, 83]), (62, .aload_n 3, 1, []), (63, .getfield 273, 3, [1, 2, 83]), (66, .if_icmp .ne 30, 3, []), (69, .aload_n 0, 1, []), (70, .aload 6, 2, []), (72, .iload_n 2, 1, []), (73, .invokevirtual 269, 3, [1, 76, 3, 6, 759, 761, 12, 25, 762]), (76, .ifCond .eq 20, 3, []), (79, .aload_n 0, 1, []), (80, .getfield 24, 3, [6, 2, 265]), (83, .aload 6, 2, []), (85, .aload_n 3, 1, []), (86, .invokevirtual 291, 3, [1, 82, 3, 0, 785, 786, 787, 26, 788]), (89, .iload 4, 2, []), (91, .if_icmp .ge 5, 3, []), (94, .iconst 1, 1, []), (95, .ireturn, 1, []), (96, .iinc 5 1, 3, []), (99, .goto (-72), 3, []), (102, .iconst 0, 1, []), (103, .ireturn, 1, [])]
def am_m81 : am_M := (⟨"CombCylinder", "doesBuzz", "(II)Z"⟩, prog_1_method_37_code, 7, (some FieldType.boolean), [], am_i81_0)
def am_i82_0 : List am_I := [(0, .aload_n 0, 1, []), (1, .aload_n 0, 1, []), (2, .aload_n 2, 1, []), (3, .invokevirtual 77, 3, [1, 83, 2, 0, 789, 790, 791, 26, 792]), (6, .aload_n 0, 1, []), (7, .aload_n 1, 1, []), (8, .invokevirtual 77, 3, [1, 83, 2, 0, 789, 790, 791, 26, 792]), (11, .isub, 1, []), (12, .invokevirtual 74, 3, [1, 84, 2, 0, 793, 795, 14, 26, 796]), (15, .ireturn, 1, [])]
def am_m82 : am_M := (⟨"CombCylinder$Drum", "ticksAhead", "(LCombCylinder$Pin;LCombCylinder$Pin;)I"⟩, prog_2_method_17_code, 3, (some FieldType.int), [], am_i82_0)
def am_i83_0 : List am_I := [(0, .aload_n 0, 1, []), (1, .aload_n 1, 1, []), (2, .getfield 41, 3, [1, 1, 77]), (5, .aload_n 1, 1, []), (6, .getfield 47, 3, [1, 3, 85]), (9, .iadd, 1, []), (10, .invokevirtual 74, 3, [1, 84, 2, 0, 793, 795, 14, 26, 796]), (13, .ireturn, 1, [])]
def am_m83 : am_M := (⟨"CombCylinder$Drum", "strikeTick", "(LCombCylinder$Pin;)I"⟩, prog_2_method_16_code, 2, (some FieldType.int), [], am_i83_0)
def am_i84_0 : List am_I := [(0, .iload_n 1, 1, []), (1, .ifCond .ge 10, 3, []), (4, .iload_n 1, 1, []), (5, .aload_n 0, 1, []), (6, .getfield 9, 3, [0, 0, 104]), (9, .iadd, 1, []), (10, .ireturn, 1, []), (11, .iload_n 1, 1, []), (12, .aload_n 0, 1, []), (13, .getfield 9, 3, [0, 0, 104]), (16, .if_icmp .lt 12, 3, []), (19, .iload_n 1, 1, []), (20, .aload_n 0, 1, []), (21, .getfield 9, 3, [0, 0, 104]), (24, .isub, 1, []), (25, .goto 4, 3, []), (28, .iload_n 1, 1, []), (29, .ireturn, 1, [])]
def am_m84 : am_M := (⟨"CombCylinder$Drum", "goneRound", "(I)I"⟩, prog_2_method_15_code, 2, (some FieldType.int), [], am_i84_0)
def am_i85_0 : List am_I := [(0, .aload_n 0, 1, []), (1, .iload_n 1, 1, []), (2, .invokevirtual 212, 3, [1, 54, 2, 6, 665, 667, 7, 25, 668]), (5, .iconst 0, 1, []), (6, .istore_n 2, 1, []), (7, .iconst 0, 1, []), (8, .istore_n 3, 1, []), (9, .iload_n 3, 1, []), (10, .aload_n 0, 1, []), (11, .getfield 24, 3, [6, 2, 265]), (14, .getfield 161, 3, [0, 4, 114]), (17, .if_icmp .ge 42, 3, []), (20, .aload_n 0, 1, []), (21, .getfield 24, 3, [6, 2, 265]), (24, .getfield 190, 3, [0, 5, 117]), (27, .iload_n 3, 1, []), (28, .aaload, 1, []), (29, .astore 4, 2, []), (31, .aload 4, 2, []), (33, .getfield 203, 3, [1, 0, 75]), (36, .iload_n 1, 1, []), (37, .if_icmp .eq 16, 3, []), (40, .aload_n 0, 1, []), (41, .aload 4, 2, []), (43, .iload_n 1, 1, []), (44, .invokevirtual 269, 3, [1, 76, 3, 6, 759, 761, 12, 25, 762]), (47, .ifCond .eq 6, 3, []), (50, .iinc 2 1, 3, []), (53, .iinc 3 1, 3, []), (56, .goto (-47), 3, []), (59, .iload_n 2, 1, []), (60, .ireturn, 1, [])]
def am_m85 : am_M := (⟨"CombCylinder", "foreign", "(I)I"⟩, prog_1_method_38_code, 5, (some FieldType.int), [], am_i85_0)
def am_i86_0 : List am_I := [(0, .aload_n 0, 1, []), (1, .iload_n 1, 1, []), (2, .invokevirtual 212, 3, [1, 54, 2, 6, 665, 667, 7, 25, 668]), (5, .iload_n 2, 1, []), (6, .aload_n 0, 1, []), (7, .getfield 24, 3, [6, 2, 265]), (10, .getfield 228, 3, [0, 0, 105]), (13, .invokestatic 58, 3, [0, 31, 2, 505, 506, 25, 507]), (16, .iconst 0, 1, []), (17, .istore_n 3, 1, []), (18, .iconst 0, 1, []), (19, .istore 4, 2, []), (21, .iload 4, 2, []), (23, .aload_n 0, 1, []), (24, .getfield 24, 3, [6, 2, 265]), (27, .getfield 161, 3, [0, 4, 114]), (30, .if_icmp .ge 47, 3, []), (33, .aload_n 0, 1, []), (34, .getfield 24, 3, [6, 2, 265]), (37, .getfield 190, 3, [0, 5, 117]), (40, .iload 4, 2, []), (42, .aaload, 1, []), (43, .astore 5, 2, []), (45, .aload_n 0, 1, []), (46, .getfield 24, 3, [6, 2, 265]), (49, .aload 5, 2, []), (51, .invokevirtual 295, 3, [1, 83, 2, 0, 805, 790, 791, 26, 792]), (54, .iload_n 2, 1, []), (55, .if_icmp .ne 16, 3, []), (58, .aload_n 0, 1, []), (59, .aload 5, 2, []), (61, .iload_n 1, 1, []), (62, .invokevirtual 269, 3, [1, 76, 3, 6, 759, 761, 12, 25, 762]), (65, .ifCond .eq 6, 3, []), (68, .iinc 3 1, 3, []), (71, .iinc 4 1, 3, []), (74, .goto (-53), 3, []), (77, .iload_n 3, 1, []), (78, .ireturn, 1, [])]
def am_m86 : am_M := (⟨"CombCylinder", "heard", "(II)I"⟩, prog_1_method_39_code, 6, (some FieldType.int), [], am_i86_0)
def am_i87_0 : List am_I := [(0, .aload_n 0, 1, []), (1, .invokevirtual 206, 3, [1, 55, 1, 6, 669, 671, 8, 25, 672]), (4, .iconst 0, 1, []), (5, .istore_n 1, 1, []), (6, .iload_n 1, 1, []), (7, .bipush 28, 2, []), (9, .if_icmp .ge 19, 3, []), (12, .aload_n 0, 1, []), (13, .getfield 11, 3, [6, 0, 263]), (16, .iload_n 1, 1, []), (17, .aaload, 1, []), (18, .iconst 0, 1, []), (19, .putfield 299, 3, [5, 11, 216]), (22, .iinc 1 1, 3, []), (25, .goto (-19), 3, []), (28, .iconst 0, 1, []), (29, .istore_n 1, 1, []), (30, .iconst 0, 1, []), (31, .istore_n 2, 1, []), (32, .iload_n 2, 1, []), (33, .iconst 3, 1, []), (34, .if_icmp .ge 16, 3, []), (37, .iload_n 1, 1, []), (38, .aload_n 0, 1, []), (39, .invokevirtual 302, 3, [1, 88, 1, 6, 810, 812, 15, 25, 813]), (42, .iadd, 1, []), (43, .istore_n 1, 1, []), (44, .iinc 2 1, 3, []), (47, .goto (-15), 3, []), (50, .iload_n 1, 1, []), (51, .ireturn, 1, [])]
def am_m87 : am_M := (⟨"CombCylinder", "run", "()I"⟩, prog_1_method_40_code, 3, (some FieldType.int), [], am_i87_0)
def am_i88_0 : List am_I := [(0, .aload_n 0, 1, []), (1, .getfield 24, 3, [6, 2, 265]), (4, .invokevirtual 305, 3, [1, 89, 1, 0, 814, 815, 816, 26, 817]), (7, .iconst 0, 1, []), (8, .istore_n 1, 1, []), (9, .iconst 0, 1, []), (10, .istore_n 2, 1, []), (11, .iload_n 2, 1, []), (12, .aload_n 0, 1, []), (13, .getfield 24, 3, [6, 2, 265]), (16, .getfield 161, 3, [0, 4, 114]), (19, .if_icmp .ge 72, 3, []), (22, .aload_n 0, 1, []), (23, .getfield 24, 3, [6, 2, 265]), (26, .getfield 308, 3, [0, 6, 119]), (29, .iload_n 2, 1, []), (30, .aaload, 1, []), (31, .astore_n 3, 1, []), (32, .aload_n 0, 1, []), (33, .aload_n 3, 1, []), (34, .aload_n 0, 1, []), (35, .getfield 24, 3, [6, 2, 265]), (38, .getfield 237, 3, [0, 2, 109]), (41, .invokevirtual 269, 3, [1, 76, 3, 6, 759, 761, 12, 25, 762]), (44, .ifCond .eq 41, 3, []), (47, .aload_n 3, 1, []), (48, .dup, 1, []), (49, .getfield 194, 3, [1, 3, 86]), (52, .iconst 1, 1, []), (53, .iadd, 1, []), (54, .putfield 194, 3, [1, 3, 86]), (57, .aload_n 0, 1, []), (58, .dup, 1, []), (59, .getfield 50, 3, [6, 7, 270]), (62, .iconst 1, 1, []), (63, .iadd, 1, []), (64, .putfield 50, 3, [6, 7, 270]), (67, .aload_n 0, 1, []), (68, .getfield 11, 3, [6, 0, 263]), (71, .aload_n 3, 1, []), (72, .getfield 273, 3, [1, 2, 83]), (75, .aaload, 1, []), (76, .invokevirtual 311, 3, [1, 91, 1, 5, 822, 823, 824, 30, 825]), (79, .ifCond .eq 6, 3, []), (82, .iinc 1 1, 3, []), (85, .iinc 2 1, 3, []), (88, .goto (-77), 3, []), (91, .aload_n 0, 1, []), (92, .getfield 24, 3, [6, 2, 265]), (95, .invokevirtual 314, 3, [1, 92, 1, 0, 827, 828, 829, 26, 830]), (98, .iload_n 1, 1, []), (99, .ireturn, 1, [])]
def am_m88 : am_M := (⟨"CombCylinder", "runTurn", "()I"⟩, prog_1_method_41_code, 4, (some FieldType.int), [], am_i88_0)
def am_i89_0 : List am_I := [(0, .iconst 0, 1, []), (1, .istore_n 1, 1, []), (2, .iload_n 1, 1, []), (3, .aload_n 0, 1, []), (4, .getfield 25, 3, [0, 4, 112]), (7, .if_icmp .ge 76, 3, []), (10, .aload_n 0, 1, []), (11, .getfield 30, 3, [0, 5, 115]), (14, .iload_n 1, 1, []), (15, .aaload, 1, []), (16, .astore_n 2, 1, []), (17, .aload_n 2, 1, []), (18, .aload_n 0, 1, []), (19, .aload_n 2, 1, []), (20, .invokevirtual 81, 3, [1, 90, 2, 0, 818, 820, 16, 26, 821]), (23, .putfield 84, 3, [1, 5, 90]), (26, .iload_n 1, 1, []), (27, .istore_n 3, 1, []), (28, .iload_n 3, 1, []), (29, .ifCond .le 41, 3, []), (32, .aload_n 0, 1, []), (33, .getfield 34, 3, [0, 6, 118]), (36, .iload_n 3, 1, []), (37, .iconst 1, 1, []), (38, .isub, 1, []), (39, .aaload, 1, []), (40, .getfield 84, 3, [1, 5, 90]), (43, .aload_n 2, 1, []), (44, .getfield 84, 3, [1, 5, 90]), (47, .if_icmp .le 23, 3, []), (50, .aload_n 0, 1, []), (51, .getfield 34, 3, [0, 6, 118]), (54, .iload_n 3, 1, []), (55, .aload_n 0, 1, []), (56, .getfield 34, 3, [0, 6, 118]), (59, .iload_n 3, 1, []), (60, .iconst 1, 1, []), (61, .isub, 1, []), (62, .aaload, 1, []), (63, .aastore, 1, []), (64, .iinc 3 (-1), 3, []), (67, .goto (-39), 3, []), (70, .aload_n 0, 1, []), (71, .getfield 34, 3, [0, 6, 118]), (74, .iload_n 3, 1, []), (75, .aload_n 2, 1, []), (76, .aastore, 1, []), (77, .iinc 1 1, 3, []), (80, .goto (-78), 3, []), (83, .return_, 1, [])]
def am_m89 : am_M := (⟨"CombCylinder$Drum", "sortForRun", "()V"⟩, prog_2_method_18_code, 4, none, [], am_i89_0)
def am_i90_0 : List am_I := [(0, .aload_n 0, 1, []), (1, .aload_n 1, 1, []), (2, .invokevirtual 77, 3, [1, 83, 2, 0, 789, 790, 791, 26, 792]), (5, .bipush 28, 2, []), (7, .imul, 1, []), (8, .aload_n 1, 1, []), (9, .getfield 44, 3, [1, 2, 81]), (12, .iadd, 1, []), (13, .bipush 6, 2, []), (15, .imul, 1, []), (16, .aload_n 1, 1, []), (17, .getfield 38, 3, [1, 0, 73]), (20, .iadd, 1, []), (21, .sipush 600, 3, []), (24, .imul, 1, []), (25, .aload_n 1, 1, []), (26, .getfield 41, 3, [1, 1, 77]), (29, .iadd, 1, []), (30, .ireturn, 1, [])]
def am_m90 : am_M := (⟨"CombCylinder$Drum", "rankInTurn", "(LCombCylinder$Pin;)I"⟩, prog_2_method_19_code, 2, (some FieldType.int), [], am_i90_0)
def am_i91_0 : List am_I := [(0, .aload_n 0, 1, []), (1, .dup, 1, []), (2, .getfield 44, 3, [5, 10, 213]), (5, .iconst 1, 1, []), (6, .iadd, 1, []), (7, .putfield 44, 3, [5, 10, 213]), (10, .aload_n 0, 1, []), (11, .dup, 1, []), (12, .getfield 47, 3, [5, 11, 215]), (15, .iconst 1, 1, []), (16, .iadd, 1, []), (17, .putfield 47, 3, [5, 11, 215]), (20, .aload_n 0, 1, []), (21, .invokevirtual 66, 3, [1, 21, 1, 5, 826, 365, 366, 30, 367]), (24, .bipush 60, 2, []), (26, .if_icmp .ge 7, 3, []), (29, .iconst 1, 1, []), (30, .goto 4, 3, []), (33, .iconst 3, 1, []), (34, .istore_n 1, 1, []), (35, .aload_n 0, 1, []), (36, .aload_n 0, 1, []), (37, .getfield 15, 3, [5, 1, 197]), (40, .ifCond .eq 15, 3, []), (43, .aload_n 0, 1, []), (44, .getfield 47, 3, [5, 11, 215]), (47, .iload_n 1, 1, []), (48, .if_icmp .lt 7, 3, []), (51, .iconst 1, 1, []), (52, .goto 4, 3, []), (55, .iconst 0, 1, []), (56, .putfield 41, 3, [5, 9, 211]), (59, .aload_n 0, 1, []), (60, .getfield 41, 3, [5, 9, 211]), (63, .ireturn, 1, [])]
def am_m91 : am_M := (⟨"CombCylinder$Voice", "breaksWhenStruck", "()Z"⟩, prog_7_method_10_code, 2, (some FieldType.boolean), [], am_i91_0)
def am_i92_0 : List am_I := [(0, .aload_n 0, 1, []), (1, .getfield 25, 3, [0, 4, 112]), (4, .iconst 1, 1, []), (5, .isub, 1, []), (6, .istore_n 1, 1, []), (7, .iload_n 1, 1, []), (8, .ifCond .lt 27, 3, []), (11, .aload_n 0, 1, []), (12, .getfield 30, 3, [0, 5, 115]), (15, .iload_n 1, 1, []), (16, .aaload, 1, []), (17, .getfield 47, 3, [1, 3, 85]), (20, .iconst 2, 1, []), (21, .if_icmp .le 8, 3, []), (24, .aload_n 0, 1, []), (25, .iload_n 1, 1, []), (26, .invokevirtual 53, 3, [1, 61, 2, 0, 725, 699, 700, 26, 701]), (29, .iinc 1 (-1), 3, []), (32, .goto (-25), 3, []), (35, .return_, 1, [])]
def am_m92 : am_M := (⟨"CombCylinder$Drum", "dropFallen", "()V"⟩, prog_2_method_7_code, 2, none, [], am_i92_0)
def am_i93_0 : List am_I := [(0, .aload_n 0, 1, []), (1, .iload_n 1, 1, []), (2, .invokevirtual 89, 3, [1, 36, 2, 6, 554, 556, 4, 25, 557]), (5, .getfield 147, 3, [5, 9, 212]), (8, .ireturn, 1, [])]
def am_m93 : am_M := (⟨"CombCylinder", "isBroken", "(I)Z"⟩, prog_1_method_15_code, 2, (some FieldType.boolean), [], am_i93_0)
def am_i94_0 : List am_I := [(0, .aload_n 0, 1, []), (1, .invokevirtual 206, 3, [1, 55, 1, 6, 669, 671, 8, 25, 672]), (4, .aload_n 0, 1, []), (5, .invokevirtual 317, 3, [1, 95, 1, 6, 839, 841, 17, 25, 842]), (8, .aload_n 0, 1, []), (9, .getfield 38, 3, [6, 4, 267]), (12, .getfield 320, 3, [4, 6, 173]), (15, .ireturn, 1, [])]
def am_m94 : am_M := (⟨"CombCylinder", "tunings", "()I"⟩, prog_1_method_42_code, 1, (some FieldType.int), [], am_i94_0)
def am_i95_0 : List am_I := [(0, .aload_n 0, 1, []), (1, .getfield 38, 3, [6, 4, 267]), (4, .iconst 0, 1, []), (5, .putfield 331, 3, [4, 0, 163]), (8, .iconst 0, 1, []), (9, .istore_n 1, 1, []), (10, .iload_n 1, 1, []), (11, .bipush 24, 2, []), (13, .if_icmp .ge 95, 3, []), (16, .aload_n 0, 1, []), (17, .getfield 11, 3, [6, 0, 263]), (20, .iload_n 1, 1, []), (21, .aaload, 1, []), (22, .getfield 79, 3, [5, 0, 196]), (25, .ifCond .eq 77, 3, []), (28, .aload_n 0, 1, []), (29, .getfield 11, 3, [6, 0, 263]), (32, .iload_n 1, 1, []), (33, .aaload, 1, []), (34, .getfield 147, 3, [5, 9, 212]), (37, .ifCond .eq 65, 3, []), (40, .aload_n 0, 1, []), (41, .getfield 24, 3, [6, 2, 265]), (44, .iload_n 1, 1, []), (45, .invokevirtual 334, 3, [1, 96, 2, 0, 843, 844, 845, 26, 846]), (48, .ifCond .lt 54, 3, []), (51, .aload_n 0, 1, []), (52, .getfield 38, 3, [6, 4, 267]), (55, .getfield 331, 3, [4, 0, 163]), (58, .iconst 3, 1, []), (59, .if_icmp .lt 14, 3, []), (62, .new 66, 3, [9, 3]), (65, .dup, 1, []), (66, .ldc_w 337, 3, []), (69, .invokespecial 70, 3, []), (72, .athrow, 1, []), (73, .aload_n 0, 1, []), (74, .getfield 38, 3, [6, 4, 267]), (77, .getfield 339, 3, [4, 1, 165]), (80, .aload_n 0, 1, []), (81, .getfield 38, 3, [6, 4, 267]), (84, .getfield 331, 3, [4, 0, 163]), (87, .iload_n 1, 1, []), (88, .iastore, 1, []), (89, .aload_n 0, 1, []), (90, .getfield 38, 3, [6, 4, 267]), (93, .dup, 1, []), (94, .getfield 331, 3, [4, 0, 163]), (97, .iconst 1, 1, []), (98, .iadd, 1, []), (99, .putfield 331, 3, [4, 0, 163]), (102, .iinc 1 1, 3, []), (105, .goto (-95), 3, []), (108, .iconst 0, 1, []), (109, .istore_n 1, 1, []), (110, .iload_n 1, 1, []), (111, .bipush 28, 2, []), (113, .if_icmp .ge 27, 3, []), (116, .aload_n 0, 1, []), (117, .getfield 38, 3, [6, 4, 267])]
def am_i95_1 : List am_I := [(120, .getfield 342, 3, [4, 2, 167]), (123, .iload_n 1, 1, []), (124, .aload_n 0, 1, []), (125, .getfield 11, 3, [6, 0, 263]), (128, .iload_n 1, 1, []), (129, .aaload, 1, []), (130, .invokestatic 345, 3, [0, 97, 1, 848, 849, 25, 850]), (133, .iastore, 1, []), (134, .iinc 1 1, 3, []), (137, .goto (-27), 3, []), (140, .aload_n 0, 1, []), (141, .getfield 38, 3, [6, 4, 267]), (144, .aload_n 0, 1, []), (145, .getfield 24, 3, [6, 2, 265]), (148, .aload_n 0, 1, []), (149, .getfield 17, 3, [6, 1, 264]), (152, .invokevirtual 349, 3, [1, 98, 3, 4, 851, 852, 853, 29, 854]), (155, .return_, 1, [])]
def am_m95 : am_M := (⟨"CombCylinder", "findTunings", "()V"⟩, prog_1_method_44_code, 2, none, [], am_i95_0 ++ (am_i95_1))
def am_i96_0 : List am_I := [(0, .iconst 0, 1, []), (1, .istore_n 2, 1, []), (2, .iload_n 2, 1, []), (3, .aload_n 0, 1, []), (4, .getfield 25, 3, [0, 4, 112]), (7, .if_icmp .ge 24, 3, []), (10, .aload_n 0, 1, []), (11, .getfield 30, 3, [0, 5, 115]), (14, .iload_n 2, 1, []), (15, .aaload, 1, []), (16, .getfield 44, 3, [1, 2, 81]), (19, .iload_n 1, 1, []), (20, .if_icmp .ne 5, 3, []), (23, .iload_n 2, 1, []), (24, .ireturn, 1, []), (25, .iinc 2 1, 3, []), (28, .goto (-26), 3, []), (31, .iconst (-1), 1, []), (32, .ireturn, 1, [])]
def am_m96 : am_M := (⟨"CombCylinder$Drum", "firstPinFor", "(I)I"⟩, prog_2_method_9_code, 3, (some FieldType.int), [], am_i96_0)
def am_i97_0 : List am_I := [(0, .aload_n 0, 1, []), (1, .invokevirtual 230, 3, [1, 14, 1, 5, 327, 328, 329, 30, 330]), (4, .ifCond .eq 17, 3, []), (7, .aload_n 0, 1, []), (8, .invokevirtual 100, 3, [1, 39, 1, 5, 583, 584, 585, 30, 586]), (11, .ifCond .eq 10, 3, []), (14, .aload_n 0, 1, []), (15, .invokevirtual 97, 3, [1, 17, 1, 5, 578, 340, 341, 30, 342]), (18, .goto 4, 3, []), (21, .iconst (-1), 1, []), (22, .ireturn, 1, [])]
def am_m97 : am_M := (⟨"CombCylinder", "knownNote", "(LCombCylinder$Voice;)I"⟩, prog_1_method_45_code, 1, (some FieldType.int), [], am_i97_0)
def am_i98_0 : List am_I := [(0, .aload_n 0, 1, []), (1, .iconst 0, 1, []), (2, .putfield 33, 3, [4, 6, 172]), (5, .iconst 0, 1, []), (6, .istore_n 3, 1, []), (7, .iload_n 3, 1, []), (8, .bipush 28, 2, []), (10, .if_icmp .ge 20, 3, []), (13, .aload_n 0, 1, []), (14, .iload_n 3, 1, []), (15, .aload_n 1, 1, []), (16, .aload_n 2, 1, []), (17, .invokevirtual 36, 3, [1, 99, 4, 4, 855, 857, 18, 29, 858]), (20, .ifCond .ne 4, 3, []), (23, .return_, 1, []), (24, .iinc 3 1, 3, []), (27, .goto (-20), 3, []), (30, .iconst 0, 1, []), (31, .istore_n 3, 1, []), (32, .iload_n 3, 1, []), (33, .aload_n 0, 1, []), (34, .getfield 9, 3, [4, 0, 162]), (37, .if_icmp .ge 16, 3, []), (40, .aload_n 0, 1, []), (41, .iload_n 3, 1, []), (42, .aload_n 1, 1, []), (43, .aload_n 2, 1, []), (44, .invokevirtual 40, 3, [1, 102, 4, 4, 867, 869, 20, 29, 870]), (47, .iinc 3 1, 3, []), (50, .goto (-18), 3, []), (53, .iconst 0, 1, []), (54, .aload_n 0, 1, []), (55, .aload_n 1, 1, []), (56, .aload_n 2, 1, []), (57, .invokestatic 44, 3, [0, 104, 4, 876, 877, 29, 878]), (60, .return_, 1, [])]
def am_m98 : am_M := (⟨"CombCylinder$Tuner", "search", "(LCombCylinder$Drum;[LCombCylinder$Sheet;)V"⟩, prog_6_method_3_code, 4, none, [], am_i98_0)
def am_i99_0 : List am_I := [(0, .aload_n 0, 1, []), (1, .getfield 19, 3, [4, 2, 166]), (4, .iload_n 1, 1, []), (5, .iaload, 1, []), (6, .istore 4, 2, []), (8, .iload 4, 2, []), (10, .iconst (-1), 1, []), (11, .if_icmp .ne 5, 3, []), (14, .iconst 1, 1, []), (15, .ireturn, 1, []), (16, .iconst 0, 1, []), (17, .istore 5, 2, []), (19, .iload 5, 2, []), (21, .aload_n 2, 1, []), (22, .getfield 48, 3, [0, 4, 113]), (25, .if_icmp .ge 56, 3, []), (28, .aload_n 2, 1, []), (29, .getfield 53, 3, [0, 5, 116]), (32, .iload 5, 2, []), (34, .aaload, 1, []), (35, .astore 6, 2, []), (37, .aload 6, 2, []), (39, .getfield 57, 3, [1, 2, 82]), (42, .iload_n 1, 1, []), (43, .if_icmp .ne 32, 3, []), (46, .aload_n 3, 1, []), (47, .aload 6, 2, []), (49, .getfield 62, 3, [1, 0, 74]), (52, .aaload, 1, []), (53, .aload 6, 2, []), (55, .getfield 65, 3, [1, 1, 78]), (58, .iload 4, 2, []), (60, .invokevirtual 68, 3, [1, 100, 3, 2, 859, 860, 861, 31, 862]), (63, .aload_n 0, 1, []), (64, .aload 6, 2, []), (66, .aload_n 2, 1, []), (67, .invokevirtual 74, 3, [1, 101, 3, 4, 863, 865, 19, 29, 866]), (70, .if_icmp .ge 5, 3, []), (73, .iconst 0, 1, []), (74, .ireturn, 1, []), (75, .iinc 5 1, 3, []), (78, .goto (-59), 3, []), (81, .iconst 1, 1, []), (82, .ireturn, 1, [])]
def am_m99 : am_M := (⟨"CombCylinder$Tuner", "fits", "(ILCombCylinder$Drum;[LCombCylinder$Sheet;)Z"⟩, prog_6_method_4_code, 7, (some FieldType.boolean), [], am_i99_0)
def am_i100_0 : List am_I := [(0, .iconst 0, 1, []), (1, .istore_n 3, 1, []), (2, .iconst 0, 1, []), (3, .istore 4, 2, []), (5, .iload 4, 2, []), (7, .aload_n 0, 1, []), (8, .getfield 21, 3, [2, 3, 252]), (11, .if_icmp .ge 34, 3, []), (14, .aload_n 0, 1, []), (15, .getfield 9, 3, [2, 0, 247]), (18, .iload 4, 2, []), (20, .iaload, 1, []), (21, .iload_n 1, 1, []), (22, .if_icmp .ne 17, 3, []), (25, .aload_n 0, 1, []), (26, .getfield 18, 3, [2, 2, 250]), (29, .iload 4, 2, []), (31, .iaload, 1, []), (32, .iload_n 2, 1, []), (33, .if_icmp .ne 6, 3, []), (36, .iinc 3 1, 3, []), (39, .iinc 4 1, 3, []), (42, .goto (-37), 3, []), (45, .iload_n 3, 1, []), (46, .ireturn, 1, [])]
def am_m100 : am_M := (⟨"CombCylinder$Sheet", "howOften", "(II)I"⟩, prog_4_method_4_code, 5, (some FieldType.int), [], am_i100_0)
def am_i101_0 : List am_I := [(0, .iconst 0, 1, []), (1, .istore_n 3, 1, []), (2, .iconst 0, 1, []), (3, .istore 4, 2, []), (5, .iload 4, 2, []), (7, .aload_n 2, 1, []), (8, .getfield 48, 3, [0, 4, 113]), (11, .if_icmp .ge 67, 3, []), (14, .aload_n 2, 1, []), (15, .getfield 53, 3, [0, 5, 116]), (18, .iload 4, 2, []), (20, .aaload, 1, []), (21, .astore 5, 2, []), (23, .aload 5, 2, []), (25, .getfield 62, 3, [1, 0, 74]), (28, .aload_n 1, 1, []), (29, .getfield 62, 3, [1, 0, 74]), (32, .if_icmp .ne 40, 3, []), (35, .aload 5, 2, []), (37, .getfield 65, 3, [1, 1, 78]), (40, .aload_n 1, 1, []), (41, .getfield 65, 3, [1, 1, 78]), (44, .if_icmp .ne 28, 3, []), (47, .aload_n 0, 1, []), (48, .getfield 19, 3, [4, 2, 166]), (51, .aload 5, 2, []), (53, .getfield 57, 3, [1, 2, 82]), (56, .iaload, 1, []), (57, .aload_n 0, 1, []), (58, .getfield 19, 3, [4, 2, 166]), (61, .aload_n 1, 1, []), (62, .getfield 57, 3, [1, 2, 82]), (65, .iaload, 1, []), (66, .if_icmp .ne 6, 3, []), (69, .iinc 3 1, 3, []), (72, .iinc 4 1, 3, []), (75, .goto (-70), 3, []), (78, .iload_n 3, 1, []), (79, .ireturn, 1, [])]
def am_m101 : am_M := (⟨"CombCylinder$Tuner", "howOften", "(LCombCylinder$Pin;LCombCylinder$Drum;)I"⟩, prog_6_method_5_code, 6, (some FieldType.int), [], am_i101_0)
def am_i102_0 : List am_I := [(0, .aload_n 0, 1, []), (1, .getfield 27, 3, [4, 4, 169]), (4, .iload_n 1, 1, []), (5, .iconst 0, 1, []), (6, .iastore, 1, []), (7, .aload_n 0, 1, []), (8, .getfield 15, 3, [4, 1, 164]), (11, .iload_n 1, 1, []), (12, .iaload, 1, []), (13, .istore 4, 2, []), (15, .aload_n 2, 1, []), (16, .iload 4, 2, []), (18, .invokevirtual 77, 3, [1, 96, 2, 0, 871, 844, 845, 26, 846]), (21, .istore 5, 2, []), (23, .iload 5, 2, []), (25, .ifCond .ge 4, 3, []), (28, .return_, 1, []), (29, .aload_n 2, 1, []), (30, .getfield 53, 3, [0, 5, 116]), (33, .iload 5, 2, []), (35, .aaload, 1, []), (36, .astore 6, 2, []), (38, .aload_n 3, 1, []), (39, .aload 6, 2, []), (41, .getfield 62, 3, [1, 0, 74]), (44, .aaload, 1, []), (45, .astore 7, 2, []), (47, .aload 7, 2, []), (49, .aload 6, 2, []), (51, .getfield 65, 3, [1, 1, 78]), (54, .iconst 0, 1, []), (55, .invokevirtual 81, 3, [1, 103, 3, 2, 872, 873, 874, 31, 875]), (58, .istore 8, 2, []), (60, .iconst 0, 1, []), (61, .istore 9, 2, []), (63, .iload 9, 2, []), (65, .bipush 30, 2, []), (67, .if_icmp .ge 74, 3, []), (70, .iload 8, 2, []), (72, .iconst (-1), 1, []), (73, .if_icmp .eq 68, 3, []), (76, .aload_n 0, 1, []), (77, .getfield 19, 3, [4, 2, 166]), (80, .iload 4, 2, []), (82, .iload 8, 2, []), (84, .iastore, 1, []), (85, .aload_n 0, 1, []), (86, .iload 4, 2, []), (88, .aload_n 2, 1, []), (89, .aload_n 3, 1, []), (90, .invokevirtual 36, 3, [1, 99, 4, 4, 855, 857, 18, 29, 858]), (93, .ifCond .eq 28, 3, []), (96, .aload_n 0, 1, []), (97, .getfield 24, 3, [4, 3, 168]), (100, .iload_n 1, 1, []), (101, .aaload, 1, []), (102, .aload_n 0, 1, []), (103, .getfield 27, 3, [4, 4, 169]), (106, .iload_n 1, 1, []), (107, .iaload, 1, [])]
def am_i102_1 : List am_I := [(108, .iload 8, 2, []), (110, .iastore, 1, []), (111, .aload_n 0, 1, []), (112, .getfield 27, 3, [4, 4, 169]), (115, .iload_n 1, 1, []), (116, .dup2, 1, []), (117, .iaload, 1, []), (118, .iconst 1, 1, []), (119, .iadd, 1, []), (120, .iastore, 1, []), (121, .aload 7, 2, []), (123, .aload 6, 2, []), (125, .getfield 65, 3, [1, 1, 78]), (128, .iload 8, 2, []), (130, .invokevirtual 81, 3, [1, 103, 3, 2, 872, 873, 874, 31, 875]), (133, .istore 8, 2, []), (135, .iinc 9 1, 3, []), (138, .goto (-75), 3, []), (141, .aload_n 0, 1, []), (142, .getfield 19, 3, [4, 2, 166]), (145, .iload 4, 2, []), (147, .iconst (-1), 1, []), (148, .iastore, 1, []), (149, .return_, 1, [])]
def am_m102 : am_M := (⟨"CombCylinder$Tuner", "findChoices", "(ILCombCylinder$Drum;[LCombCylinder$Sheet;)V"⟩, prog_6_method_6_code, 10, none, [], am_i102_0 ++ (am_i102_1))
def am_i103_0 : List am_I := [(0, .iconst (-1), 1, []), (1, .istore_n 3, 1, []), (2, .iconst 0, 1, []), (3, .istore 4, 2, []), (5, .iload 4, 2, []), (7, .aload_n 0, 1, []), (8, .getfield 21, 3, [2, 3, 252]), (11, .if_icmp .ge 55, 3, []), (14, .aload_n 0, 1, []), (15, .getfield 9, 3, [2, 0, 247]), (18, .iload 4, 2, []), (20, .iaload, 1, []), (21, .iload_n 1, 1, []), (22, .if_icmp .ne 38, 3, []), (25, .aload_n 0, 1, []), (26, .getfield 18, 3, [2, 2, 250]), (29, .iload 4, 2, []), (31, .iaload, 1, []), (32, .iload_n 2, 1, []), (33, .if_icmp .le 27, 3, []), (36, .iload_n 3, 1, []), (37, .iconst (-1), 1, []), (38, .if_icmp .eq 14, 3, []), (41, .aload_n 0, 1, []), (42, .getfield 18, 3, [2, 2, 250]), (45, .iload 4, 2, []), (47, .iaload, 1, []), (48, .iload_n 3, 1, []), (49, .if_icmp .ge 11, 3, []), (52, .aload_n 0, 1, []), (53, .getfield 18, 3, [2, 2, 250]), (56, .iload 4, 2, []), (58, .iaload, 1, []), (59, .istore_n 3, 1, []), (60, .iinc 4 1, 3, []), (63, .goto (-58), 3, []), (66, .iload_n 3, 1, []), (67, .ireturn, 1, [])]
def am_m103 : am_M := (⟨"CombCylinder$Sheet", "nextNumber", "(II)I"⟩, prog_4_method_5_code, 5, (some FieldType.int), [], am_i103_0)
def am_i104_0 : List am_I := [(0, .iload_n 0, 1, []), (1, .aload_n 1, 1, []), (2, .getfield 9, 3, [4, 0, 162]), (5, .if_icmp .ge 8, 3, []), (8, .iload_n 0, 1, []), (9, .iconst 3, 1, []), (10, .if_icmp .lt 8, 3, []), (13, .aload_n 1, 1, []), (14, .invokevirtual 84, 3, [1, 105, 1, 4, 879, 881, 21, 29, 882]), (17, .return_, 1, []), (18, .aload_n 1, 1, []), (19, .getfield 15, 3, [4, 1, 164]), (22, .iload_n 0, 1, []), (23, .iaload, 1, []), (24, .istore 4, 2, []), (26, .iconst 0, 1, []), (27, .istore 5, 2, []), (29, .iload 5, 2, []), (31, .aload_n 1, 1, []), (32, .getfield 27, 3, [4, 4, 169]), (35, .iload_n 0, 1, []), (36, .iaload, 1, []), (37, .if_icmp .ge 53, 3, []), (40, .aload_n 1, 1, []), (41, .getfield 19, 3, [4, 2, 166]), (44, .iload 4, 2, []), (46, .aload_n 1, 1, []), (47, .getfield 24, 3, [4, 3, 168]), (50, .iload_n 0, 1, []), (51, .aaload, 1, []), (52, .iload 5, 2, []), (54, .iaload, 1, []), (55, .iastore, 1, []), (56, .aload_n 1, 1, []), (57, .iload_n 0, 1, []), (58, .invokevirtual 87, 3, [1, 106, 2, 4, 883, 885, 22, 29, 886]), (61, .ifCond .eq 14, 3, []), (64, .aload_n 1, 1, []), (65, .iload 4, 2, []), (67, .aload_n 2, 1, []), (68, .aload_n 3, 1, []), (69, .invokevirtual 36, 3, [1, 99, 4, 4, 855, 857, 18, 29, 858]), (72, .ifCond .eq 12, 3, []), (75, .iload_n 0, 1, []), (76, .iconst 1, 1, []), (77, .iadd, 1, []), (78, .aload_n 1, 1, []), (79, .aload_n 2, 1, []), (80, .aload_n 3, 1, []), (81, .invokestatic 44, 3, [0, 104, 4, 876, 877, 29, 878]), (84, .iinc 5 1, 3, []), (87, .goto (-58), 3, []), (90, .aload_n 1, 1, []), (91, .getfield 19, 3, [4, 2, 166]), (94, .iload 4, 2, []), (96, .iconst (-1), 1, []), (97, .iastore, 1, []), (98, .return_, 1, [])]
def am_m104 : am_M := (⟨"CombCylinder$Tuner", "tryFrom", "(ILCombCylinder$Tuner;LCombCylinder$Drum;[LCombCylinder$Sheet;)V"⟩, prog_6_method_7_code, 6, none, [], am_i104_0)
def am_i105_0 : List am_I := [(0, .aload_n 0, 1, []), (1, .getfield 33, 3, [4, 6, 172]), (4, .ifCond .ne 36, 3, []), (7, .iconst 0, 1, []), (8, .istore_n 1, 1, []), (9, .iload_n 1, 1, []), (10, .aload_n 0, 1, []), (11, .getfield 9, 3, [4, 0, 162]), (14, .if_icmp .ge 26, 3, []), (17, .aload_n 0, 1, []), (18, .getfield 30, 3, [4, 5, 170]), (21, .iload_n 1, 1, []), (22, .aload_n 0, 1, []), (23, .getfield 19, 3, [4, 2, 166]), (26, .aload_n 0, 1, []), (27, .getfield 15, 3, [4, 1, 164]), (30, .iload_n 1, 1, []), (31, .iaload, 1, []), (32, .iaload, 1, []), (33, .iastore, 1, []), (34, .iinc 1 1, 3, []), (37, .goto (-28), 3, []), (40, .aload_n 0, 1, []), (41, .dup, 1, []), (42, .getfield 33, 3, [4, 6, 172]), (45, .iconst 1, 1, []), (46, .iadd, 1, []), (47, .putfield 33, 3, [4, 6, 172]), (50, .return_, 1, [])]
def am_m105 : am_M := (⟨"CombCylinder$Tuner", "keepTuning", "()V"⟩, prog_6_method_9_code, 2, none, [], am_i105_0)
def am_i106_0 : List am_I := [(0, .iconst 0, 1, []), (1, .istore_n 2, 1, []), (2, .iload_n 2, 1, []), (3, .iload_n 1, 1, []), (4, .if_icmp .ge 36, 3, []), (7, .aload_n 0, 1, []), (8, .getfield 19, 3, [4, 2, 166]), (11, .aload_n 0, 1, []), (12, .getfield 15, 3, [4, 1, 164]), (15, .iload_n 2, 1, []), (16, .iaload, 1, []), (17, .iaload, 1, []), (18, .aload_n 0, 1, []), (19, .getfield 19, 3, [4, 2, 166]), (22, .aload_n 0, 1, []), (23, .getfield 15, 3, [4, 1, 164]), (26, .iload_n 1, 1, []), (27, .iaload, 1, []), (28, .iaload, 1, []), (29, .if_icmp .ne 5, 3, []), (32, .iconst 1, 1, []), (33, .ireturn, 1, []), (34, .iinc 2 1, 3, []), (37, .goto (-35), 3, []), (40, .iconst 0, 1, []), (41, .ireturn, 1, [])]
def am_m106 : am_M := (⟨"CombCylinder$Tuner", "isTakenAhead", "(I)Z"⟩, prog_6_method_8_code, 3, (some FieldType.boolean), [], am_i106_0)
def am_i107_0 : List am_I := [(0, .aload_n 0, 1, []), (1, .invokevirtual 206, 3, [1, 55, 1, 6, 669, 671, 8, 25, 672]), (4, .iload_n 1, 1, []), (5, .bipush 24, 2, []), (7, .invokestatic 58, 3, [0, 31, 2, 505, 506, 25, 507]), (10, .aload_n 0, 1, []), (11, .invokevirtual 317, 3, [1, 95, 1, 6, 839, 841, 17, 25, 842]), (14, .aload_n 0, 1, []), (15, .getfield 38, 3, [6, 4, 267]), (18, .iload_n 1, 1, []), (19, .invokevirtual 323, 3, [1, 108, 2, 4, 891, 892, 893, 29, 894]), (22, .istore_n 2, 1, []), (23, .iload_n 2, 1, []), (24, .ifCond .lt 13, 3, []), (27, .aload_n 0, 1, []), (28, .getfield 38, 3, [6, 4, 267]), (31, .getfield 320, 3, [4, 6, 173]), (34, .ifCond .ne 14, 3, []), (37, .new 185, 3, [9, 4]), (40, .dup, 1, []), (41, .ldc_w 326, 3, []), (44, .invokespecial 189, 3, []), (47, .athrow, 1, []), (48, .aload_n 0, 1, []), (49, .getfield 38, 3, [6, 4, 267]), (52, .getfield 328, 3, [4, 5, 171]), (55, .iload_n 2, 1, []), (56, .iaload, 1, []), (57, .ireturn, 1, [])]
def am_m107 : am_M := (⟨"CombCylinder", "lost", "(I)I"⟩, prog_1_method_43_code, 3, (some FieldType.int), [], am_i107_0)
def am_i108_0 : List am_I := [(0, .iconst 0, 1, []), (1, .istore_n 2, 1, []), (2, .iload_n 2, 1, []), (3, .aload_n 0, 1, []), (4, .getfield 9, 3, [4, 0, 162]), (7, .if_icmp .ge 21, 3, []), (10, .aload_n 0, 1, []), (11, .getfield 15, 3, [4, 1, 164]), (14, .iload_n 2, 1, []), (15, .iaload, 1, []), (16, .iload_n 1, 1, []), (17, .if_icmp .ne 5, 3, []), (20, .iload_n 2, 1, []), (21, .ireturn, 1, []), (22, .iinc 2 1, 3, []), (25, .goto (-23), 3, []), (28, .iconst (-1), 1, []), (29, .ireturn, 1, [])]
def am_m108 : am_M := (⟨"CombCylinder$Tuner", "whichLost", "(I)I"⟩, prog_6_method_2_code, 3, (some FieldType.int), [], am_i108_0)
def am_i109_0 : List am_I := [(0, .aload_n 0, 1, []), (1, .iload_n 1, 1, []), (2, .invokevirtual 212, 3, [1, 54, 2, 6, 665, 667, 7, 25, 668]), (5, .iconst (-1), 1, []), (6, .istore_n 2, 1, []), (7, .iconst 0, 1, []), (8, .istore_n 3, 1, []), (9, .iconst 0, 1, []), (10, .istore 4, 2, []), (12, .iload 4, 2, []), (14, .bipush 6, 2, []), (16, .if_icmp .ge 35, 3, []), (19, .aload_n 0, 1, []), (20, .iload_n 1, 1, []), (21, .aload_n 0, 1, []), (22, .getfield 17, 3, [6, 1, 264]), (25, .iload 4, 2, []), (27, .aaload, 1, []), (28, .invokevirtual 353, 3, [1, 110, 3, 6, 900, 902, 23, 25, 903]), (31, .istore 5, 2, []), (33, .iload 5, 2, []), (35, .iload_n 3, 1, []), (36, .if_icmp .le 9, 3, []), (39, .iload 5, 2, []), (41, .istore_n 3, 1, []), (42, .iload 4, 2, []), (44, .istore_n 2, 1, []), (45, .iinc 4 1, 3, []), (48, .goto (-36), 3, []), (51, .iload_n 2, 1, []), (52, .ifCond .ge 14, 3, []), (55, .new 185, 3, [9, 4]), (58, .dup, 1, []), (59, .ldc_w 357, 3, []), (62, .invokespecial 189, 3, []), (65, .athrow, 1, []), (66, .iload_n 2, 1, []), (67, .ireturn, 1, [])]
def am_m109 : am_M := (⟨"CombCylinder", "known", "(I)I"⟩, prog_1_method_46_code, 6, (some FieldType.int), [], am_i109_0)
def am_i110_0 : List am_I := [(0, .iconst 0, 1, []), (1, .istore_n 3, 1, []), (2, .iconst 0, 1, []), (3, .istore 4, 2, []), (5, .iload 4, 2, []), (7, .aload_n 0, 1, []), (8, .getfield 24, 3, [6, 2, 265]), (11, .getfield 161, 3, [0, 4, 114]), (14, .if_icmp .ge 58, 3, []), (17, .aload_n 0, 1, []), (18, .getfield 24, 3, [6, 2, 265]), (21, .getfield 190, 3, [0, 5, 117]), (24, .iload 4, 2, []), (26, .aaload, 1, []), (27, .astore 5, 2, []), (29, .aload 5, 2, []), (31, .getfield 203, 3, [1, 0, 75]), (34, .iload_n 1, 1, []), (35, .if_icmp .ne 31, 3, []), (38, .aload_n 2, 1, []), (39, .aload 5, 2, []), (41, .getfield 359, 3, [1, 1, 79]), (44, .aload_n 0, 1, []), (45, .getfield 11, 3, [6, 0, 263]), (48, .aload 5, 2, []), (50, .getfield 273, 3, [1, 2, 83]), (53, .aaload, 1, []), (54, .invokestatic 345, 3, [0, 97, 1, 848, 849, 25, 850]), (57, .invokevirtual 362, 3, [1, 100, 3, 2, 904, 860, 861, 31, 862]), (60, .ifCond .le 6, 3, []), (63, .iinc 3 1, 3, []), (66, .iinc 4 1, 3, []), (69, .goto (-64), 3, []), (72, .iload_n 3, 1, []), (73, .ireturn, 1, [])]
def am_m110 : am_M := (⟨"CombCylinder", "pinsOnSheet", "(ILCombCylinder$Sheet;)I"⟩, prog_1_method_47_code, 6, (some FieldType.int), [], am_i110_0)
def am_i111_0 : List am_I := [(0, .aload_n 0, 1, []), (1, .invokevirtual 144, 3, [1, 112, 1, 6, 928, 929, 930, 25, 931]), (4, .fstore_n 1, 1, []), (5, .iconst 0, 1, []), (6, .ireturn, 1, []), (7, .astore_n 1, 1, []), (8, .iconst 1, 1, []), (9, .ireturn, 1, [])]
def am_m111 : am_M := (⟨"CombCylinderLaw", "hasNone", "(LCombCylinder;)Z"⟩, method_6_code, 2, (some FieldType.boolean), [(0, 6, 7, 148)], am_i111_0)
def am_i112_0 : List am_I := [(0, .iconst 0, 1, []), (1, .istore_n 1, 1, []), (2, .iconst 0, 1, []), (3, .istore_n 2, 1, []), (4, .iconst 0, 1, []), (5, .istore_n 3, 1, []), (6, .iload_n 3, 1, []), (7, .bipush 28, 2, []), (9, .if_icmp .ge 39, 3, []), (12, .aload_n 0, 1, []), (13, .getfield 11, 3, [6, 0, 263]), (16, .iload_n 3, 1, []), (17, .aaload, 1, []), (18, .invokevirtual 230, 3, [1, 14, 1, 5, 327, 328, 329, 30, 330]), (21, .ifCond .eq 21, 3, []), (24, .iinc 2 1, 3, []), (27, .aload_n 0, 1, []), (28, .getfield 11, 3, [6, 0, 263]), (31, .iload_n 3, 1, []), (32, .aaload, 1, []), (33, .invokevirtual 100, 3, [1, 39, 1, 5, 583, 584, 585, 30, 586]), (36, .ifCond .eq 6, 3, []), (39, .iinc 1 1, 3, []), (42, .iinc 3 1, 3, []), (45, .goto (-39), 3, []), (48, .iload_n 2, 1, []), (49, .ifCond .ne 14, 3, []), (52, .new 375, 3, [9, 5]), (55, .dup, 1, []), (56, .ldc_w 377, 3, []), (59, .invokespecial 379, 3, []), (62, .athrow, 1, []), (63, .iload_n 1, 1, []), (64, .i2f, 1, []), (65, .iload_n 2, 1, []), (66, .i2f, 1, []), (67, .fdiv, 1, []), (68, .freturn, 1, [])]
def am_m112 : am_M := (⟨"CombCylinder", "inTuneShare", "()F"⟩, prog_1_method_50_code, 4, (some FieldType.float), [], am_i112_0)
def am_i113_0 : List am_I := [(0, .new 8, 3, [6, 47, 48, 25]), (3, .dup, 1, []), (4, .invokespecial 150, 3, [0, 0, 1, 49, 50, 25, 51]), (7, .astore_n 1, 1, []), (8, .iconst 4, 1, []), (9, .anewarray 208, 3, [104, 938, 161]), (12, .astore_n 2, 1, []), (13, .iconst 0, 1, []), (14, .istore_n 3, 1, []), (15, .iload_n 3, 1, []), (16, .bipush 40, 2, []), (18, .if_icmp .ge 640, 3, []), (21, .aload_n 0, 1, []), (22, .iload_n 3, 1, []), (23, .invokestatic 210, 3, [0, 114, 2, 939, 940, 24, 941]), (26, .ldc 214, 2, [0, 100000000, 942]), (28, .invokestatic 215, 3, [0, 115, 2, 943, 944, 24, 945]), (31, .istore 4, 2, []), (33, .iload 4, 2, []), (35, .iconst 4, 1, []), (36, .idiv, 1, []), (37, .iconst 4, 1, []), (38, .irem, 1, []), (39, .istore 5, 2, []), (41, .aload_n 2, 1, []), (42, .iload 5, 2, []), (44, .aaload, 1, []), (45, .astore 6, 2, []), (47, .iload 4, 2, []), (49, .iconst 4, 1, []), (50, .irem, 1, []), (51, .tableswitch 264 0 2 #[25, 124, 124], 25, []), (76, .aload 6, 2, []), (78, .ifnull 16, 3, []), (81, .iload 4, 2, []), (83, .bipush 16, 2, []), (85, .idiv, 1, []), (86, .iconst 3, 1, []), (87, .irem, 1, []), (88, .ifCond .le 6, 3, []), (91, .goto 324, 3, []), (94, .bipush 100, 2, []), (96, .iload 4, 2, []), (98, .bipush 48, 2, []), (100, .idiv, 1, []), (101, .sipush 301, 3, []), (104, .irem, 1, []), (105, .iadd, 1, []), (106, .istore 7, 2, []), (108, .aload_n 2, 1, []), (109, .iload 5, 2, []), (111, .iconst 5, 1, []), (112, .newarray .int, 2, [189]), (114, .dup, 1, []), (115, .iconst 0, 1, []), (116, .iload 7, 2, []), (118, .iastore, 1, []), (119, .dup, 1, []), (120, .iconst 1, 1, []), (121, .bipush 100, 2, [])]
def am_i113_1 : List am_I := [(123, .iastore, 1, []), (124, .dup, 1, []), (125, .iconst 2, 1, []), (126, .iconst 0, 1, []), (127, .iastore, 1, []), (128, .dup, 1, []), (129, .iconst 3, 1, []), (130, .iconst 0, 1, []), (131, .iastore, 1, []), (132, .dup, 1, []), (133, .iconst 4, 1, []), (134, .iconst 0, 1, []), (135, .iastore, 1, []), (136, .aastore, 1, []), (137, .aload_n 1, 1, []), (138, .bipush 84, 2, []), (140, .iconst 3, 1, []), (141, .newarray .int, 2, [189]), (143, .dup, 1, []), (144, .iconst 0, 1, []), (145, .iload 5, 2, []), (147, .iastore, 1, []), (148, .dup, 1, []), (149, .iconst 1, 1, []), (150, .iload 7, 2, []), (152, .iastore, 1, []), (153, .dup, 1, []), (154, .iconst 2, 1, []), (155, .iconst 0, 1, []), (156, .iastore, 1, []), (157, .invokestatic 195, 3, [0, 26, 3, 387, 388, 24, 389]), (160, .aload 6, 2, []), (162, .ifnonnull 7, 3, []), (165, .iconst 0, 1, []), (166, .goto 4, 3, []), (169, .iconst 1, 1, []), (170, .if_icmp .eq 245, 3, []), (173, .iconst 0, 1, []), (174, .ireturn, 1, []), (175, .iconst 1, 1, []), (176, .iload 4, 2, []), (178, .bipush 16, 2, []), (180, .idiv, 1, []), (181, .bipush 30, 2, []), (183, .irem, 1, []), (184, .iadd, 1, []), (185, .istore 8, 2, []), (187, .iload 4, 2, []), (189, .sipush 480, 3, []), (192, .idiv, 1, []), (193, .iconst 2, 1, []), (194, .irem, 1, []), (195, .ifCond .ne 7, 3, []), (198, .iconst 1, 1, []), (199, .goto 4, 3, []), (202, .iconst 0, 1, []), (203, .istore 9, 2, []), (205, .aload 6, 2, []), (207, .ifnonnull 8, 3, []), (210, .ldc 87, 2, [0, 2294967291, 910])]
def am_i113_2 : List am_I := [(212, .goto 21, 3, []), (215, .aload 6, 2, []), (217, .iconst 1, 1, []), (218, .iaload, 1, []), (219, .iload 8, 2, []), (221, .isub, 1, []), (222, .bipush 40, 2, []), (224, .if_icmp .ge 8, 3, []), (227, .ldc 84, 2, [0, 2294967292, 909]), (229, .goto 4, 3, []), (232, .iconst 0, 1, []), (233, .istore 10, 2, []), (235, .iload 10, 2, []), (237, .ifCond .ne 37, 3, []), (240, .aload 6, 2, []), (242, .iconst 1, 1, []), (243, .dup2, 1, []), (244, .iaload, 1, []), (245, .iload 8, 2, []), (247, .isub, 1, []), (248, .iastore, 1, []), (249, .aload 6, 2, []), (251, .iload 9, 2, []), (253, .ifCond .eq 7, 3, []), (256, .iconst 2, 1, []), (257, .goto 4, 3, []), (260, .iconst 3, 1, []), (261, .dup2, 1, []), (262, .iaload, 1, []), (263, .iload 8, 2, []), (265, .iadd, 1, []), (266, .iastore, 1, []), (267, .aload 6, 2, []), (269, .invokestatic 218, 3, [0, 116, 1, 946, 947, 24, 948]), (272, .istore 10, 2, []), (274, .aload_n 1, 1, []), (275, .bipush 70, 2, []), (277, .iconst 3, 1, []), (278, .newarray .int, 2, [189]), (280, .dup, 1, []), (281, .iconst 0, 1, []), (282, .iload 5, 2, []), (284, .iastore, 1, []), (285, .dup, 1, []), (286, .iconst 1, 1, []), (287, .iload 9, 2, []), (289, .ifCond .eq 8, 3, []), (292, .bipush 116, 2, []), (294, .goto 5, 3, []), (297, .bipush 114, 2, []), (299, .iastore, 1, []), (300, .dup, 1, []), (301, .iconst 2, 1, []), (302, .iload 8, 2, []), (304, .iastore, 1, []), (305, .invokestatic 195, 3, [0, 26, 3, 387, 388, 24, 389]), (308, .iload 10, 2, []), (310, .if_icmp .eq 105, 3, []), (313, .iconst 0, 1, []), (314, .ireturn, 1, [])]
def am_i113_3 : List am_I := [(315, .iload 4, 2, []), (317, .bipush 16, 2, []), (319, .idiv, 1, []), (320, .bipush 101, 2, []), (322, .irem, 1, []), (323, .bipush 50, 2, []), (325, .isub, 1, []), (326, .istore 11, 2, []), (328, .aload 6, 2, []), (330, .ifnonnull 8, 3, []), (333, .ldc 87, 2, [0, 2294967291, 910]), (335, .goto 31, 3, []), (338, .aload 6, 2, []), (340, .iconst 4, 1, []), (341, .iaload, 1, []), (342, .iload 11, 2, []), (344, .iadd, 1, []), (345, .ifCond .lt 15, 3, []), (348, .aload 6, 2, []), (350, .iconst 4, 1, []), (351, .iaload, 1, []), (352, .iload 11, 2, []), (354, .iadd, 1, []), (355, .bipush 100, 2, []), (357, .if_icmp .le 8, 3, []), (360, .ldc 84, 2, [0, 2294967292, 909]), (362, .goto 4, 3, []), (365, .iconst 0, 1, []), (366, .istore 12, 2, []), (368, .iload 12, 2, []), (370, .ifCond .ne 19, 3, []), (373, .aload 6, 2, []), (375, .iconst 4, 1, []), (376, .dup2, 1, []), (377, .iaload, 1, []), (378, .iload 11, 2, []), (380, .iadd, 1, []), (381, .iastore, 1, []), (382, .aload 6, 2, []), (384, .invokestatic 218, 3, [0, 116, 1, 946, 947, 24, 948]), (387, .istore 12, 2, []), (389, .aload_n 1, 1, []), (390, .bipush 76, 2, []), (392, .iconst 2, 1, []), (393, .newarray .int, 2, [189]), (395, .dup, 1, []), (396, .iconst 0, 1, []), (397, .iload 5, 2, []), (399, .iastore, 1, []), (400, .dup, 1, []), (401, .iconst 1, 1, []), (402, .iload 11, 2, []), (404, .iastore, 1, []), (405, .invokestatic 195, 3, [0, 26, 3, 387, 388, 24, 389]), (408, .iload 12, 2, []), (410, .if_icmp .eq 5, 3, []), (413, .iconst 0, 1, []), (414, .ireturn, 1, []), (415, .iconst 0, 1, []), (416, .istore 7, 2, [])]
def am_i113_4 : List am_I := [(418, .iconst 0, 1, []), (419, .istore 8, 2, []), (421, .iconst 0, 1, []), (422, .istore 9, 2, []), (424, .iconst 0, 1, []), (425, .istore 10, 2, []), (427, .iload 10, 2, []), (429, .iconst 4, 1, []), (430, .if_icmp .ge 182, 3, []), (433, .aload_n 2, 1, []), (434, .iload 10, 2, []), (436, .aaload, 1, []), (437, .ifnull 169, 3, []), (440, .aload_n 2, 1, []), (441, .iload 10, 2, []), (443, .aaload, 1, []), (444, .invokestatic 218, 3, [0, 116, 1, 946, 947, 24, 948]), (447, .istore 11, 2, []), (449, .iload 11, 2, []), (451, .bipush 100, 2, []), (453, .irem, 1, []), (454, .bipush 50, 2, []), (456, .if_icmp .lt 13, 3, []), (459, .iload 11, 2, []), (461, .bipush 100, 2, []), (463, .idiv, 1, []), (464, .iconst 1, 1, []), (465, .iadd, 1, []), (466, .goto 8, 3, []), (469, .iload 11, 2, []), (471, .bipush 100, 2, []), (473, .idiv, 1, []), (474, .istore 12, 2, []), (476, .iload 11, 2, []), (478, .bipush 100, 2, []), (480, .iload 12, 2, []), (482, .imul, 1, []), (483, .isub, 1, []), (484, .invokestatic 221, 3, [3, 949, 344, 37, 345]), (487, .istore 13, 2, []), (489, .aload_n 1, 1, []), (490, .bipush 112, 2, []), (492, .iconst 1, 1, []), (493, .newarray .int, 2, [189]), (495, .dup, 1, []), (496, .iconst 0, 1, []), (497, .iload 10, 2, []), (499, .iastore, 1, []), (500, .invokestatic 195, 3, [0, 26, 3, 387, 388, 24, 389]), (503, .iload 11, 2, []), (505, .if_icmp .ne 73, 3, []), (508, .aload_n 1, 1, []), (509, .bipush 110, 2, []), (511, .iconst 1, 1, []), (512, .newarray .int, 2, [189]), (514, .dup, 1, []), (515, .iconst 0, 1, []), (516, .iload 10, 2, []), (518, .iastore, 1, []), (519, .invokestatic 195, 3, [0, 26, 3, 387, 388, 24, 389])]
def am_i113_5 : List am_I := [(522, .iload 12, 2, []), (524, .if_icmp .ne 54, 3, []), (527, .aload_n 1, 1, []), (528, .bipush 116, 2, []), (530, .iconst 1, 1, []), (531, .newarray .int, 2, [189]), (533, .dup, 1, []), (534, .iconst 0, 1, []), (535, .iload 10, 2, []), (537, .iastore, 1, []), (538, .invokestatic 195, 3, [0, 26, 3, 387, 388, 24, 389]), (541, .iload 13, 2, []), (543, .iconst 5, 1, []), (544, .if_icmp .gt 7, 3, []), (547, .iconst 1, 1, []), (548, .goto 4, 3, []), (551, .iconst 0, 1, []), (552, .if_icmp .ne 26, 3, []), (555, .aload_n 1, 1, []), (556, .bipush 115, 2, []), (558, .iconst 1, 1, []), (559, .newarray .int, 2, [189]), (561, .dup, 1, []), (562, .iconst 0, 1, []), (563, .iload 10, 2, []), (565, .iastore, 1, []), (566, .invokestatic 195, 3, [0, 26, 3, 387, 388, 24, 389]), (569, .aload_n 2, 1, []), (570, .iload 10, 2, []), (572, .aaload, 1, []), (573, .iconst 1, 1, []), (574, .iaload, 1, []), (575, .if_icmp .eq 5, 3, []), (578, .iconst 0, 1, []), (579, .ireturn, 1, []), (580, .iinc 8 1, 3, []), (583, .iload 7, 2, []), (585, .iload 13, 2, []), (587, .iconst 5, 1, []), (588, .if_icmp .gt 7, 3, []), (591, .iconst 1, 1, []), (592, .goto 4, 3, []), (595, .iconst 0, 1, []), (596, .iadd, 1, []), (597, .istore 7, 2, []), (599, .iload 9, 2, []), (601, .iload 13, 2, []), (603, .iadd, 1, []), (604, .istore 9, 2, []), (606, .iinc 10 1, 3, []), (609, .goto (-182), 3, []), (612, .iload 8, 2, []), (614, .ifCond .le 38, 3, []), (617, .aload_n 1, 1, []), (618, .invokevirtual 144, 3, [1, 112, 1, 6, 928, 929, 930, 25, 931]), (621, .iload 7, 2, []), (623, .i2f, 1, []), (624, .iload 8, 2, []), (626, .i2f, 1, []), (627, .fdiv, 1, [])]
def am_i113_6 : List am_I := [(628, .fcmp .l, 1, []), (629, .ifCond .ne 21, 3, []), (632, .aload_n 1, 1, []), (633, .invokevirtual 155, 3, [1, 13, 1, 6, 323, 324, 325, 25, 326]), (636, .iload 9, 2, []), (638, .i2d, 1, []), (639, .iload 8, 2, []), (641, .i2d, 1, []), (642, .ddiv, 1, []), (643, .invokestatic 163, 3, [8, 950, 951, 39, 952]), (646, .lcmp, 1, []), (647, .ifCond .eq 5, 3, []), (650, .iconst 0, 1, []), (651, .ireturn, 1, []), (652, .iinc 3 1, 3, []), (655, .goto (-640), 3, []), (658, .aload_n 1, 1, []), (659, .invokevirtual 192, 3, [1, 20, 1, 6, 360, 361, 362, 25, 363]), (662, .ireturn, 1, [])]
def am_m113 : am_M := (⟨"CombCylinderLaw", "tuning", "([I)Z"⟩, method_8_code, 14, (some FieldType.boolean), [], am_i113_0 ++ (am_i113_1 ++ (am_i113_2 ++ (am_i113_3 ++ (am_i113_4 ++ (am_i113_5 ++ (am_i113_6)))))))
def am_i114_0 : List am_I := [(0, .iload_n 1, 1, []), (1, .aload_n 0, 1, []), (2, .arraylength, 1, []), (3, .if_icmp .ge 9, 3, []), (6, .aload_n 0, 1, []), (7, .iload_n 1, 1, []), (8, .iaload, 1, []), (9, .goto 4, 3, []), (12, .iconst 0, 1, []), (13, .ireturn, 1, [])]
def am_m114 : am_M := (⟨"CombCylinderLaw", "at", "([II)I"⟩, method_2_code, 2, (some FieldType.int), [], am_i114_0)
def am_i115_0 : List am_I := [(0, .iload_n 0, 1, []), (1, .iload_n 1, 1, []), (2, .irem, 1, []), (3, .istore_n 2, 1, []), (4, .iload_n 2, 1, []), (5, .ifCond .ge 9, 3, []), (8, .iload_n 2, 1, []), (9, .iload_n 1, 1, []), (10, .iadd, 1, []), (11, .goto 4, 3, []), (14, .iload_n 2, 1, []), (15, .ireturn, 1, [])]
def am_m115 : am_M := (⟨"CombCylinderLaw", "some", "(II)I"⟩, method_3_code, 3, (some FieldType.int), [], am_i115_0)
def am_i116_0 : List am_I := [(0, .sipush 10000, 3, []), (3, .bipush 20, 2, []), (5, .aload_n 0, 1, []), (6, .iconst 0, 1, []), (7, .iaload, 1, []), (8, .imul, 1, []), (9, .isub, 1, []), (10, .iconst 4, 1, []), (11, .aload_n 0, 1, []), (12, .iconst 2, 1, []), (13, .iaload, 1, []), (14, .imul, 1, []), (15, .iadd, 1, []), (16, .bipush 6, 2, []), (18, .aload_n 0, 1, []), (19, .iconst 3, 1, []), (20, .iaload, 1, []), (21, .imul, 1, []), (22, .isub, 1, []), (23, .iconst 3, 1, []), (24, .aload_n 0, 1, []), (25, .iconst 4, 1, []), (26, .iaload, 1, []), (27, .imul, 1, []), (28, .isub, 1, []), (29, .ireturn, 1, [])]
def am_m116 : am_M := (⟨"CombCylinderLaw", "pitch", "([I)I"⟩, method_9_code, 1, (some FieldType.int), [], am_i116_0)
def am_i117_0 : List am_I := [(0, .new 8, 3, [6, 47, 48, 25]), (3, .dup, 1, []), (4, .invokespecial 150, 3, [0, 0, 1, 49, 50, 25, 51]), (7, .astore_n 1, 1, []), (8, .lconst 0, 1, []), (9, .lstore_n 2, 1, []), (10, .iconst 0, 1, []), (11, .istore 4, 2, []), (13, .iload 4, 2, []), (15, .bipush 20, 2, []), (17, .if_icmp .ge 212, 3, []), (20, .bipush 38, 2, []), (22, .aload_n 0, 1, []), (23, .bipush 40, 2, []), (25, .iload 4, 2, []), (27, .iadd, 1, []), (28, .invokestatic 210, 3, [0, 114, 2, 939, 940, 24, 941]), (31, .bipush 9, 2, []), (33, .invokestatic 215, 3, [0, 115, 2, 943, 944, 24, 945]), (36, .iadd, 1, []), (37, .istore 5, 2, []), (39, .bipush 19, 2, []), (41, .aload_n 0, 1, []), (42, .bipush 60, 2, []), (44, .iload 4, 2, []), (46, .iadd, 1, []), (47, .invokestatic 210, 3, [0, 114, 2, 939, 940, 24, 941]), (50, .iconst 5, 1, []), (51, .invokestatic 215, 3, [0, 115, 2, 943, 944, 24, 945]), (54, .iadd, 1, []), (55, .istore 6, 2, []), (57, .iload 5, 2, []), (59, .bipush 39, 2, []), (61, .if_icmp .le 28, 3, []), (64, .iload 5, 2, []), (66, .bipush 45, 2, []), (68, .if_icmp .ge 21, 3, []), (71, .iload 6, 2, []), (73, .bipush 19, 2, []), (75, .if_icmp .le 14, 3, []), (78, .iload 6, 2, []), (80, .bipush 23, 2, []), (82, .if_icmp .ge 7, 3, []), (85, .iconst 1, 1, []), (86, .goto 4, 3, []), (89, .iconst 0, 1, []), (90, .istore 7, 2, []), (92, .aload_n 1, 1, []), (93, .iload 5, 2, []), (95, .iload 6, 2, []), (97, .invokevirtual 226, 3, [1, 118, 3, 6, 963, 964, 965, 25, 966]), (100, .iload 7, 2, []), (102, .if_icmp .eq 5, 3, []), (105, .iconst 0, 1, []), (106, .ireturn, 1, []), (107, .lload_n 2, 1, []), (108, .iload 7, 2, []), (110, .ifCond .eq 7, 3, []), (113, .lconst 1, 1, []), (114, .goto 4, 3, [])]
def am_i117_1 : List am_I := [(117, .lconst 0, 1, []), (118, .ladd, 1, []), (119, .lstore_n 2, 1, []), (120, .aload_n 0, 1, []), (121, .bipush 80, 2, []), (123, .iload 4, 2, []), (125, .iadd, 1, []), (126, .invokestatic 210, 3, [0, 114, 2, 939, 940, 24, 941]), (129, .iconst 3, 1, []), (130, .invokestatic 215, 3, [0, 115, 2, 943, 944, 24, 945]), (133, .ifCond .ne 8, 3, []), (136, .ldc 231, 2, [0, 2147483648, 967]), (138, .goto 27, 3, []), (141, .aload_n 0, 1, []), (142, .bipush 80, 2, []), (144, .iload 4, 2, []), (146, .iadd, 1, []), (147, .invokestatic 210, 3, [0, 114, 2, 939, 940, 24, 941]), (150, .iconst 3, 1, []), (151, .invokestatic 215, 3, [0, 115, 2, 943, 944, 24, 945]), (154, .iconst 1, 1, []), (155, .if_icmp .ne 8, 3, []), (158, .ldc 232, 2, [0, 2147483647, 968]), (160, .goto 5, 3, []), (163, .bipush 25, 2, []), (165, .istore 8, 2, []), (167, .lload_n 2, 1, []), (168, .iload 8, 2, []), (170, .i2l, 1, []), (171, .lmul, 1, []), (172, .lstore 9, 2, []), (174, .lload 9, 2, []), (176, .ldc2_w 233, 3, [1, 2147483647, 969]), (179, .lcmp, 1, []), (180, .ifCond .le 9, 3, []), (183, .ldc2_w 233, 3, [1, 2147483647, 969]), (186, .goto 20, 3, []), (189, .lload 9, 2, []), (191, .ldc2_w 235, 3, [1, 18446744071562067968, 970]), (194, .lcmp, 1, []), (195, .ifCond .ge 9, 3, []), (198, .ldc2_w 235, 3, [1, 18446744071562067968, 970]), (201, .goto 5, 3, []), (204, .lload 9, 2, []), (206, .lstore 11, 2, []), (208, .aload_n 1, 1, []), (209, .iload 8, 2, []), (211, .invokevirtual 176, 3, [1, 12, 2, 6, 311, 312, 313, 25, 314]), (214, .i2l, 1, []), (215, .lload 11, 2, []), (217, .lcmp, 1, []), (218, .ifCond .eq 5, 3, []), (221, .iconst 0, 1, []), (222, .ireturn, 1, []), (223, .iinc 4 1, 3, []), (226, .goto (-213), 3, []), (229, .aload_n 1, 1, []), (230, .ldc 232, 2, [0, 2147483647, 968]), (232, .bipush 21, 2, []), (234, .invokevirtual 226, 3, [1, 118, 3, 6, 963, 964, 965, 25, 966])]
def am_i117_2 : List am_I := [(237, .ifCond .ne 18, 3, []), (240, .aload_n 1, 1, []), (241, .bipush 42, 2, []), (243, .ldc 231, 2, [0, 2147483648, 967]), (245, .invokevirtual 226, 3, [1, 118, 3, 6, 963, 964, 965, 25, 966]), (248, .ifCond .ne 7, 3, []), (251, .iconst 1, 1, []), (252, .goto 4, 3, []), (255, .iconst 0, 1, []), (256, .ireturn, 1, [])]
def am_m117 : am_M := (⟨"CombCylinderLaw", "coins", "([I)Z"⟩, method_10_code, 13, (some FieldType.boolean), [], am_i117_0 ++ (am_i117_1 ++ (am_i117_2)))
def am_i118_0 : List am_I := [(0, .iload_n 1, 1, []), (1, .bipush 40, 2, []), (3, .bipush 44, 2, []), (5, .invokestatic 127, 3, [0, 22, 3, 368, 369, 25, 370]), (8, .ifCond .eq 18, 3, []), (11, .iload_n 2, 1, []), (12, .bipush 20, 2, []), (14, .bipush 22, 2, []), (16, .invokestatic 127, 3, [0, 22, 3, 368, 369, 25, 370]), (19, .ifCond .eq 7, 3, []), (22, .iconst 1, 1, []), (23, .goto 4, 3, []), (26, .iconst 0, 1, []), (27, .istore_n 3, 1, []), (28, .iload_n 3, 1, []), (29, .ifCond .eq 13, 3, []), (32, .aload_n 0, 1, []), (33, .dup, 1, []), (34, .getfield 46, 3, [6, 6, 269]), (37, .iconst 1, 1, []), (38, .iadd, 1, []), (39, .putfield 46, 3, [6, 6, 269]), (42, .iload_n 3, 1, []), (43, .ireturn, 1, [])]
def am_m118 : am_M := (⟨"CombCylinder", "coin", "(II)Z"⟩, prog_1_method_48_code, 4, (some FieldType.boolean), [], am_i118_0)
def am_i119_0 : List am_I := [(0, .new 8, 3, [6, 47, 48, 25]), (3, .dup, 1, []), (4, .invokespecial 150, 3, [0, 0, 1, 49, 50, 25, 51]), (7, .astore_n 0, 1, []), (8, .iconst 0, 1, []), (9, .istore_n 1, 1, []), (10, .iload_n 1, 1, []), (11, .bipush 30, 2, []), (13, .if_icmp .ge 50, 3, []), (16, .aload_n 0, 1, []), (17, .bipush 119, 2, []), (19, .iconst 4, 1, []), (20, .newarray .int, 2, [189]), (22, .dup, 1, []), (23, .iconst 0, 1, []), (24, .iconst 3, 1, []), (25, .iastore, 1, []), (26, .dup, 1, []), (27, .iconst 1, 1, []), (28, .sipush 599, 3, []), (31, .iload_n 1, 1, []), (32, .isub, 1, []), (33, .iastore, 1, []), (34, .dup, 1, []), (35, .iconst 2, 1, []), (36, .iconst 1, 1, []), (37, .iload_n 1, 1, []), (38, .iadd, 1, []), (39, .iastore, 1, []), (40, .dup, 1, []), (41, .iconst 3, 1, []), (42, .iload_n 1, 1, []), (43, .iconst 4, 1, []), (44, .irem, 1, []), (45, .iastore, 1, []), (46, .invokestatic 195, 3, [0, 26, 3, 387, 388, 24, 389]), (49, .iload_n 1, 1, []), (50, .iconst 1, 1, []), (51, .iadd, 1, []), (52, .if_icmp .eq 5, 3, []), (55, .iconst 0, 1, []), (56, .ireturn, 1, []), (57, .iinc 1 1, 3, []), (60, .goto (-50), 3, []), (63, .aload_n 0, 1, []), (64, .bipush 119, 2, []), (66, .iconst 4, 1, []), (67, .newarray .int, 2, [189]), (69, .dup, 1, []), (70, .iconst 0, 1, []), (71, .iconst 3, 1, []), (72, .iastore, 1, []), (73, .dup, 1, []), (74, .iconst 1, 1, []), (75, .iconst 0, 1, []), (76, .iastore, 1, []), (77, .dup, 1, []), (78, .iconst 2, 1, []), (79, .iconst 1, 1, []), (80, .iastore, 1, [])]
def am_i119_1 : List am_I := [(81, .dup, 1, []), (82, .iconst 3, 1, []), (83, .iconst 0, 1, []), (84, .iastore, 1, []), (85, .invokestatic 195, 3, [0, 26, 3, 387, 388, 24, 389]), (88, .ldc 81, 2, [0, 2294967293, 908]), (90, .if_icmp .ne 72, 3, []), (93, .aload_n 0, 1, []), (94, .bipush 101, 2, []), (96, .iconst 1, 1, []), (97, .newarray .int, 2, [189]), (99, .dup, 1, []), (100, .iconst 0, 1, []), (101, .iconst 3, 1, []), (102, .iastore, 1, []), (103, .invokestatic 195, 3, [0, 26, 3, 387, 388, 24, 389]), (106, .bipush 30, 2, []), (108, .if_icmp .ne 54, 3, []), (111, .aload_n 0, 1, []), (112, .bipush 119, 2, []), (114, .iconst 4, 1, []), (115, .newarray .int, 2, [189]), (117, .dup, 1, []), (118, .iconst 0, 1, []), (119, .iconst 3, 1, []), (120, .iastore, 1, []), (121, .dup, 1, []), (122, .iconst 1, 1, []), (123, .iconst 0, 1, []), (124, .iastore, 1, []), (125, .dup, 1, []), (126, .iconst 2, 1, []), (127, .iconst 1, 1, []), (128, .iastore, 1, []), (129, .dup, 1, []), (130, .iconst 3, 1, []), (131, .iconst 0, 1, []), (132, .iastore, 1, []), (133, .invokestatic 195, 3, [0, 26, 3, 387, 388, 24, 389]), (136, .iconst 1, 1, []), (137, .if_icmp .ne 25, 3, []), (140, .aload_n 0, 1, []), (141, .bipush 67, 2, []), (143, .iconst 2, 1, []), (144, .newarray .int, 2, [189]), (146, .dup, 1, []), (147, .iconst 0, 1, []), (148, .sipush 600, 3, []), (151, .iastore, 1, []), (152, .dup, 1, []), (153, .iconst 1, 1, []), (154, .iconst 1, 1, []), (155, .iastore, 1, []), (156, .invokestatic 195, 3, [0, 26, 3, 387, 388, 24, 389]), (159, .ifCond .eq 5, 3, []), (162, .iconst 0, 1, []), (163, .ireturn, 1, []), (164, .iconst 0, 1, []), (165, .istore_n 1, 1, []), (166, .iload_n 1, 1, [])]
def am_i119_2 : List am_I := [(167, .bipush 60, 2, []), (169, .if_icmp .ge 49, 3, []), (172, .aload_n 0, 1, []), (173, .bipush 80, 2, []), (175, .iconst 4, 1, []), (176, .newarray .int, 2, [189]), (178, .dup, 1, []), (179, .iconst 0, 1, []), (180, .iconst 0, 1, []), (181, .iastore, 1, []), (182, .dup, 1, []), (183, .iconst 1, 1, []), (184, .iconst 2, 1, []), (185, .iload_n 1, 1, []), (186, .imul, 1, []), (187, .iastore, 1, []), (188, .dup, 1, []), (189, .iconst 2, 1, []), (190, .iload_n 1, 1, []), (191, .iconst 2, 1, []), (192, .irem, 1, []), (193, .bipush 24, 2, []), (195, .iadd, 1, []), (196, .iastore, 1, []), (197, .dup, 1, []), (198, .iconst 3, 1, []), (199, .iconst 0, 1, []), (200, .iastore, 1, []), (201, .invokestatic 195, 3, [0, 26, 3, 387, 388, 24, 389]), (204, .iload_n 1, 1, []), (205, .iconst 1, 1, []), (206, .iadd, 1, []), (207, .if_icmp .eq 5, 3, []), (210, .iconst 0, 1, []), (211, .ireturn, 1, []), (212, .iinc 1 1, 3, []), (215, .goto (-49), 3, []), (218, .aload_n 0, 1, []), (219, .bipush 80, 2, []), (221, .iconst 4, 1, []), (222, .newarray .int, 2, [189]), (224, .dup, 1, []), (225, .iconst 0, 1, []), (226, .iconst 0, 1, []), (227, .iastore, 1, []), (228, .dup, 1, []), (229, .iconst 1, 1, []), (230, .sipush 500, 3, []), (233, .iastore, 1, []), (234, .dup, 1, []), (235, .iconst 2, 1, []), (236, .iconst 0, 1, []), (237, .iastore, 1, []), (238, .dup, 1, []), (239, .iconst 3, 1, []), (240, .iconst 0, 1, []), (241, .iastore, 1, []), (242, .invokestatic 195, 3, [0, 26, 3, 387, 388, 24, 389]), (245, .ldc 84, 2, [0, 2294967292, 909]), (247, .if_icmp .ne 79, 3, [])]
def am_i119_3 : List am_I := [(250, .aload_n 0, 1, []), (251, .bipush 87, 2, []), (253, .iconst 1, 1, []), (254, .newarray .int, 2, [189]), (256, .dup, 1, []), (257, .iconst 0, 1, []), (258, .bipush 20, 2, []), (260, .iastore, 1, []), (261, .invokestatic 195, 3, [0, 26, 3, 387, 388, 24, 389]), (264, .bipush 80, 2, []), (266, .if_icmp .ne 60, 3, []), (269, .aload_n 0, 1, []), (270, .bipush 87, 2, []), (272, .iconst 1, 1, []), (273, .newarray .int, 2, [189]), (275, .dup, 1, []), (276, .iconst 0, 1, []), (277, .iconst 1, 1, []), (278, .iastore, 1, []), (279, .invokestatic 195, 3, [0, 26, 3, 387, 388, 24, 389]), (282, .bipush 80, 2, []), (284, .if_icmp .ne 42, 3, []), (287, .aload_n 0, 1, []), (288, .bipush 89, 2, []), (290, .iconst 1, 1, []), (291, .newarray .int, 2, [189]), (293, .dup, 1, []), (294, .iconst 0, 1, []), (295, .bipush 40, 2, []), (297, .iastore, 1, []), (298, .invokestatic 195, 3, [0, 26, 3, 387, 388, 24, 389]), (301, .ifCond .ne 25, 3, []), (304, .aload_n 0, 1, []), (305, .bipush 87, 2, []), (307, .iconst 1, 1, []), (308, .newarray .int, 2, [189]), (310, .dup, 1, []), (311, .iconst 0, 1, []), (312, .iconst 1, 1, []), (313, .iastore, 1, []), (314, .invokestatic 195, 3, [0, 26, 3, 387, 388, 24, 389]), (317, .bipush 44, 2, []), (319, .if_icmp .ne 7, 3, []), (322, .iconst 1, 1, []), (323, .goto 4, 3, []), (326, .iconst 0, 1, []), (327, .istore_n 1, 1, []), (328, .aload_n 0, 1, []), (329, .bipush 66, 2, []), (331, .iconst 2, 1, []), (332, .newarray .int, 2, [189]), (334, .dup, 1, []), (335, .iconst 0, 1, []), (336, .bipush 24, 2, []), (338, .iastore, 1, []), (339, .dup, 1, []), (340, .iconst 1, 1, []), (341, .bipush 60, 2, []), (343, .iastore, 1, []), (344, .invokestatic 195, 3, [0, 26, 3, 387, 388, 24, 389])]
def am_i119_4 : List am_I := [(347, .ifCond .ne 112, 3, []), (350, .aload_n 0, 1, []), (351, .bipush 89, 2, []), (353, .iconst 1, 1, []), (354, .newarray .int, 2, [189]), (356, .dup, 1, []), (357, .iconst 0, 1, []), (358, .iconst 2, 1, []), (359, .iastore, 1, []), (360, .invokestatic 195, 3, [0, 26, 3, 387, 388, 24, 389]), (363, .bipush 60, 2, []), (365, .if_icmp .ne 94, 3, []), (368, .aload_n 0, 1, []), (369, .bipush 82, 2, []), (371, .iconst 0, 1, []), (372, .newarray .int, 2, [189]), (374, .invokestatic 195, 3, [0, 26, 3, 387, 388, 24, 389]), (377, .ifCond .ne 82, 3, []), (380, .aload_n 0, 1, []), (381, .bipush 107, 2, []), (383, .iconst 1, 1, []), (384, .newarray .int, 2, [189]), (386, .dup, 1, []), (387, .iconst 0, 1, []), (388, .bipush 24, 2, []), (390, .iastore, 1, []), (391, .invokestatic 195, 3, [0, 26, 3, 387, 388, 24, 389]), (394, .sipush 150, 3, []), (397, .if_icmp .ne 62, 3, []), (400, .aload_n 0, 1, []), (401, .bipush 120, 2, []), (403, .iconst 1, 1, []), (404, .newarray .int, 2, [189]), (406, .dup, 1, []), (407, .iconst 0, 1, []), (408, .bipush 24, 2, []), (410, .iastore, 1, []), (411, .invokestatic 195, 3, [0, 26, 3, 387, 388, 24, 389]), (414, .ifCond .ne 45, 3, []), (417, .aload_n 0, 1, []), (418, .bipush 109, 2, []), (420, .iconst 1, 1, []), (421, .newarray .int, 2, [189]), (423, .dup, 1, []), (424, .iconst 0, 1, []), (425, .iconst 0, 1, []), (426, .iastore, 1, []), (427, .invokestatic 195, 3, [0, 26, 3, 387, 388, 24, 389]), (430, .bipush 30, 2, []), (432, .if_icmp .ne 27, 3, []), (435, .aload_n 0, 1, []), (436, .bipush 112, 2, []), (438, .iconst 1, 1, []), (439, .newarray .int, 2, [189]), (441, .dup, 1, []), (442, .iconst 0, 1, []), (443, .bipush 24, 2, []), (445, .iastore, 1, []), (446, .invokestatic 195, 3, [0, 26, 3, 387, 388, 24, 389]), (449, .sipush 6000, 3, [])]
def am_i119_5 : List am_I := [(452, .if_icmp .ne 7, 3, []), (455, .iconst 1, 1, []), (456, .goto 4, 3, []), (459, .iconst 0, 1, []), (460, .istore_n 2, 1, []), (461, .iload_n 1, 1, []), (462, .ifCond .eq 42, 3, []), (465, .iload_n 2, 1, []), (466, .ifCond .eq 38, 3, []), (469, .aload_n 0, 1, []), (470, .bipush 67, 2, []), (472, .iconst 2, 1, []), (473, .newarray .int, 2, [189]), (475, .dup, 1, []), (476, .iconst 0, 1, []), (477, .bipush 40, 2, []), (479, .iastore, 1, []), (480, .dup, 1, []), (481, .iconst 1, 1, []), (482, .bipush 6, 2, []), (484, .iastore, 1, []), (485, .invokestatic 195, 3, [0, 26, 3, 387, 388, 24, 389]), (488, .bipush 30, 2, []), (490, .if_icmp .ne 14, 3, []), (493, .aload_n 0, 1, []), (494, .invokevirtual 192, 3, [1, 20, 1, 6, 360, 361, 362, 25, 363]), (497, .ifCond .eq 7, 3, []), (500, .iconst 1, 1, []), (501, .goto 4, 3, []), (504, .iconst 0, 1, []), (505, .ireturn, 1, [])]
def am_m119 : am_M := (⟨"CombCylinderLaw", "full", "()Z"⟩, method_11_code, 3, (some FieldType.boolean), [], am_i119_0 ++ (am_i119_1 ++ (am_i119_2 ++ (am_i119_3 ++ (am_i119_4 ++ (am_i119_5))))))
def am_i120_0 : List am_I := [(0, .new 8, 3, [6, 47, 48, 25]), (3, .dup, 1, []), (4, .invokespecial 150, 3, [0, 0, 1, 49, 50, 25, 51]), (7, .astore_n 1, 1, []), (8, .aload_n 1, 1, []), (9, .invokestatic 151, 3, [0, 111, 1, 911, 912, 24, 913]), (12, .ifCond .eq 1234, 3, []), (15, .aload_n 1, 1, []), (16, .invokevirtual 155, 3, [1, 13, 1, 6, 323, 324, 325, 25, 326]), (19, .ldc2_w 161, 3, [3, 9221120237041090560, 984]), (22, .invokestatic 163, 3, [8, 950, 951, 39, 952]), (25, .lcmp, 1, []), (26, .ifCond .ne 1220, 3, []), (29, .aload_n 1, 1, []), (30, .invokevirtual 167, 3, [1, 11, 1, 6, 307, 308, 309, 25, 310]), (33, .dconst 0, 1, []), (34, .dcmp .l, 1, []), (35, .ifCond .ne 1211, 3, []), (38, .aload_n 1, 1, []), (39, .invokevirtual 171, 3, [1, 19, 1, 6, 353, 354, 355, 25, 356]), (42, .ldc2_w 174, 3, [1, 217, 985]), (45, .lcmp, 1, []), (46, .ifCond .ne 1200, 3, []), (49, .aload_n 1, 1, []), (50, .iconst 5, 1, []), (51, .invokevirtual 176, 3, [1, 12, 2, 6, 311, 312, 313, 25, 314]), (54, .ifCond .ne 1192, 3, []), (57, .aload_n 1, 1, []), (58, .iconst 0, 1, []), (59, .invokevirtual 179, 3, [1, 7, 2, 6, 291, 292, 293, 25, 294]), (62, .ifCond .ne 1184, 3, []), (65, .aload_n 1, 1, []), (66, .invokevirtual 183, 3, [1, 8, 1, 6, 295, 296, 297, 25, 298]), (69, .fconst 1, 1, []), (70, .invokestatic 186, 3, [7, 974, 975, 40, 976]), (73, .if_icmp .ne 1173, 3, []), (76, .aload_n 1, 1, []), (77, .invokevirtual 192, 3, [1, 20, 1, 6, 360, 361, 362, 25, 363]), (80, .ifCond .eq 1166, 3, []), (83, .aload_n 1, 1, []), (84, .bipush 67, 2, []), (86, .iconst 2, 1, []), (87, .newarray .int, 2, [189]), (89, .dup, 1, []), (90, .iconst 0, 1, []), (91, .bipush 39, 2, []), (93, .iastore, 1, []), (94, .dup, 1, []), (95, .iconst 1, 1, []), (96, .iconst 1, 1, []), (97, .iastore, 1, []), (98, .invokestatic 195, 3, [0, 26, 3, 387, 388, 24, 389]), (101, .ldc 78, 2, [0, 2294967294, 907]), (103, .if_icmp .ne 1143, 3, []), (106, .aload_n 1, 1, []), (107, .bipush 67, 2, []), (109, .iconst 2, 1, []), (110, .newarray .int, 2, [189]), (112, .dup, 1, []), (113, .iconst 0, 1, [])]
def am_i120_1 : List am_I := [(114, .bipush 40, 2, []), (116, .iastore, 1, []), (117, .dup, 1, []), (118, .iconst 1, 1, []), (119, .bipush 7, 2, []), (121, .iastore, 1, []), (122, .invokestatic 195, 3, [0, 26, 3, 387, 388, 24, 389]), (125, .ldc 78, 2, [0, 2294967294, 907]), (127, .if_icmp .ne 1119, 3, []), (130, .aload_n 1, 1, []), (131, .bipush 84, 2, []), (133, .iconst 3, 1, []), (134, .newarray .int, 2, [189]), (136, .dup, 1, []), (137, .iconst 0, 1, []), (138, .bipush 28, 2, []), (140, .iastore, 1, []), (141, .dup, 1, []), (142, .iconst 1, 1, []), (143, .bipush 100, 2, []), (145, .iastore, 1, []), (146, .dup, 1, []), (147, .iconst 2, 1, []), (148, .iconst 0, 1, []), (149, .iastore, 1, []), (150, .invokestatic 195, 3, [0, 26, 3, 387, 388, 24, 389]), (153, .ldc 75, 2, [0, 2294967295, 906]), (155, .if_icmp .ne 1091, 3, []), (158, .aload_n 1, 1, []), (159, .bipush 84, 2, []), (161, .iconst 3, 1, []), (162, .newarray .int, 2, [189]), (164, .dup, 1, []), (165, .iconst 0, 1, []), (166, .bipush 24, 2, []), (168, .iastore, 1, []), (169, .dup, 1, []), (170, .iconst 1, 1, []), (171, .bipush 99, 2, []), (173, .iastore, 1, []), (174, .dup, 1, []), (175, .iconst 2, 1, []), (176, .iconst 0, 1, []), (177, .iastore, 1, []), (178, .invokestatic 195, 3, [0, 26, 3, 387, 388, 24, 389]), (181, .ldc 78, 2, [0, 2294967294, 907]), (183, .if_icmp .ne 1063, 3, []), (186, .aload_n 1, 1, []), (187, .bipush 84, 2, []), (189, .iconst 3, 1, []), (190, .newarray .int, 2, [189]), (192, .dup, 1, []), (193, .iconst 0, 1, []), (194, .bipush 24, 2, []), (196, .iastore, 1, []), (197, .dup, 1, []), (198, .iconst 1, 1, []), (199, .bipush 100, 2, []), (201, .iastore, 1, []), (202, .dup, 1, [])]
def am_i120_2 : List am_I := [(203, .iconst 2, 1, []), (204, .iconst 0, 1, []), (205, .iastore, 1, []), (206, .invokestatic 195, 3, [0, 26, 3, 387, 388, 24, 389]), (209, .ldc 84, 2, [0, 2294967292, 909]), (211, .if_icmp .ne 1035, 3, []), (214, .aload_n 1, 1, []), (215, .bipush 84, 2, []), (217, .iconst 3, 1, []), (218, .newarray .int, 2, [189]), (220, .dup, 1, []), (221, .iconst 0, 1, []), (222, .iconst 0, 1, []), (223, .iastore, 1, []), (224, .dup, 1, []), (225, .iconst 1, 1, []), (226, .bipush 100, 2, []), (228, .iastore, 1, []), (229, .dup, 1, []), (230, .iconst 2, 1, []), (231, .iconst 3, 1, []), (232, .iastore, 1, []), (233, .invokestatic 195, 3, [0, 26, 3, 387, 388, 24, 389]), (236, .ldc 78, 2, [0, 2294967294, 907]), (238, .if_icmp .ne 1008, 3, []), (241, .aload_n 1, 1, []), (242, .bipush 66, 2, []), (244, .iconst 2, 1, []), (245, .newarray .int, 2, [189]), (247, .dup, 1, []), (248, .iconst 0, 1, []), (249, .iconst (-1), 1, []), (250, .iastore, 1, []), (251, .dup, 1, []), (252, .iconst 1, 1, []), (253, .iconst 1, 1, []), (254, .iastore, 1, []), (255, .invokestatic 195, 3, [0, 26, 3, 387, 388, 24, 389]), (258, .ldc 75, 2, [0, 2294967295, 906]), (260, .if_icmp .ne 986, 3, []), (263, .aload_n 1, 1, []), (264, .bipush 66, 2, []), (266, .iconst 2, 1, []), (267, .newarray .int, 2, [189]), (269, .dup, 1, []), (270, .iconst 0, 1, []), (271, .iconst 0, 1, []), (272, .iastore, 1, []), (273, .dup, 1, []), (274, .iconst 1, 1, []), (275, .bipush 121, 2, []), (277, .iastore, 1, []), (278, .invokestatic 195, 3, [0, 26, 3, 387, 388, 24, 389]), (281, .ldc 78, 2, [0, 2294967294, 907]), (283, .if_icmp .ne 963, 3, []), (286, .aload_n 1, 1, []), (287, .bipush 66, 2, []), (289, .iconst 2, 1, []), (290, .newarray .int, 2, [189]), (292, .dup, 1, [])]
def am_i120_3 : List am_I := [(293, .iconst 0, 1, []), (294, .bipush 23, 2, []), (296, .iastore, 1, []), (297, .dup, 1, []), (298, .iconst 1, 1, []), (299, .iconst 1, 1, []), (300, .iastore, 1, []), (301, .invokestatic 195, 3, [0, 26, 3, 387, 388, 24, 389]), (304, .ldc 84, 2, [0, 2294967292, 909]), (306, .if_icmp .ne 940, 3, []), (309, .aload_n 1, 1, []), (310, .bipush 112, 2, []), (312, .iconst 1, 1, []), (313, .newarray .int, 2, [189]), (315, .dup, 1, []), (316, .iconst 0, 1, []), (317, .bipush 28, 2, []), (319, .iastore, 1, []), (320, .invokestatic 195, 3, [0, 26, 3, 387, 388, 24, 389]), (323, .ldc 75, 2, [0, 2294967295, 906]), (325, .if_icmp .ne 921, 3, []), (328, .aload_n 1, 1, []), (329, .bipush 112, 2, []), (331, .iconst 1, 1, []), (332, .newarray .int, 2, [189]), (334, .dup, 1, []), (335, .iconst 0, 1, []), (336, .iconst 0, 1, []), (337, .iastore, 1, []), (338, .invokestatic 195, 3, [0, 26, 3, 387, 388, 24, 389]), (341, .ldc 87, 2, [0, 2294967291, 910]), (343, .if_icmp .ne 903, 3, []), (346, .aload_n 1, 1, []), (347, .bipush 110, 2, []), (349, .iconst 1, 1, []), (350, .newarray .int, 2, [189]), (352, .dup, 1, []), (353, .iconst 0, 1, []), (354, .iconst 0, 1, []), (355, .iastore, 1, []), (356, .invokestatic 195, 3, [0, 26, 3, 387, 388, 24, 389]), (359, .ldc 87, 2, [0, 2294967291, 910]), (361, .if_icmp .ne 885, 3, []), (364, .aload_n 1, 1, []), (365, .bipush 116, 2, []), (367, .iconst 1, 1, []), (368, .newarray .int, 2, [189]), (370, .dup, 1, []), (371, .iconst 0, 1, []), (372, .iconst 0, 1, []), (373, .iastore, 1, []), (374, .invokestatic 195, 3, [0, 26, 3, 387, 388, 24, 389]), (377, .ldc 87, 2, [0, 2294967291, 910]), (379, .if_icmp .ne 867, 3, []), (382, .aload_n 1, 1, []), (383, .bipush 70, 2, []), (385, .iconst 3, 1, []), (386, .newarray .int, 2, [189]), (388, .dup, 1, []), (389, .iconst 0, 1, [])]
def am_i120_4 : List am_I := [(390, .bipush 24, 2, []), (392, .iastore, 1, []), (393, .dup, 1, []), (394, .iconst 1, 1, []), (395, .bipush 116, 2, []), (397, .iastore, 1, []), (398, .dup, 1, []), (399, .iconst 2, 1, []), (400, .iconst 1, 1, []), (401, .iastore, 1, []), (402, .invokestatic 195, 3, [0, 26, 3, 387, 388, 24, 389]), (405, .ldc 75, 2, [0, 2294967295, 906]), (407, .if_icmp .ne 839, 3, []), (410, .aload_n 1, 1, []), (411, .bipush 70, 2, []), (413, .iconst 3, 1, []), (414, .newarray .int, 2, [189]), (416, .dup, 1, []), (417, .iconst 0, 1, []), (418, .iconst 0, 1, []), (419, .iastore, 1, []), (420, .dup, 1, []), (421, .iconst 1, 1, []), (422, .bipush 120, 2, []), (424, .iastore, 1, []), (425, .dup, 1, []), (426, .iconst 2, 1, []), (427, .iconst 1, 1, []), (428, .iastore, 1, []), (429, .invokestatic 195, 3, [0, 26, 3, 387, 388, 24, 389]), (432, .ldc 78, 2, [0, 2294967294, 907]), (434, .if_icmp .ne 812, 3, []), (437, .aload_n 1, 1, []), (438, .bipush 70, 2, []), (440, .iconst 3, 1, []), (441, .newarray .int, 2, [189]), (443, .dup, 1, []), (444, .iconst 0, 1, []), (445, .iconst 0, 1, []), (446, .iastore, 1, []), (447, .dup, 1, []), (448, .iconst 1, 1, []), (449, .bipush 116, 2, []), (451, .iastore, 1, []), (452, .dup, 1, []), (453, .iconst 2, 1, []), (454, .bipush 61, 2, []), (456, .iastore, 1, []), (457, .invokestatic 195, 3, [0, 26, 3, 387, 388, 24, 389]), (460, .ldc 78, 2, [0, 2294967294, 907]), (462, .if_icmp .ne 784, 3, []), (465, .aload_n 1, 1, []), (466, .bipush 70, 2, []), (468, .iconst 3, 1, []), (469, .newarray .int, 2, [189]), (471, .dup, 1, []), (472, .iconst 0, 1, []), (473, .iconst 0, 1, []), (474, .iastore, 1, []), (475, .dup, 1, [])]
def am_i120_5 : List am_I := [(476, .iconst 1, 1, []), (477, .bipush 116, 2, []), (479, .iastore, 1, []), (480, .dup, 1, []), (481, .iconst 2, 1, []), (482, .iconst 1, 1, []), (483, .iastore, 1, []), (484, .invokestatic 195, 3, [0, 26, 3, 387, 388, 24, 389]), (487, .ldc 87, 2, [0, 2294967291, 910]), (489, .if_icmp .ne 757, 3, []), (492, .aload_n 1, 1, []), (493, .bipush 76, 2, []), (495, .iconst 2, 1, []), (496, .newarray .int, 2, [189]), (498, .dup, 1, []), (499, .iconst 0, 1, []), (500, .bipush 24, 2, []), (502, .iastore, 1, []), (503, .dup, 1, []), (504, .iconst 1, 1, []), (505, .iconst 0, 1, []), (506, .iastore, 1, []), (507, .invokestatic 195, 3, [0, 26, 3, 387, 388, 24, 389]), (510, .ldc 75, 2, [0, 2294967295, 906]), (512, .if_icmp .ne 734, 3, []), (515, .aload_n 1, 1, []), (516, .bipush 76, 2, []), (518, .iconst 2, 1, []), (519, .newarray .int, 2, [189]), (521, .dup, 1, []), (522, .iconst 0, 1, []), (523, .iconst 0, 1, []), (524, .iastore, 1, []), (525, .dup, 1, []), (526, .iconst 1, 1, []), (527, .bipush 51, 2, []), (529, .iastore, 1, []), (530, .invokestatic 195, 3, [0, 26, 3, 387, 388, 24, 389]), (533, .ldc 78, 2, [0, 2294967294, 907]), (535, .if_icmp .ne 711, 3, []), (538, .aload_n 1, 1, []), (539, .bipush 76, 2, []), (541, .iconst 2, 1, []), (542, .newarray .int, 2, [189]), (544, .dup, 1, []), (545, .iconst 0, 1, []), (546, .iconst 0, 1, []), (547, .iastore, 1, []), (548, .dup, 1, []), (549, .iconst 1, 1, []), (550, .iconst 1, 1, []), (551, .iastore, 1, []), (552, .invokestatic 195, 3, [0, 26, 3, 387, 388, 24, 389]), (555, .ldc 87, 2, [0, 2294967291, 910]), (557, .if_icmp .ne 689, 3, []), (560, .aload_n 1, 1, []), (561, .bipush 115, 2, []), (563, .iconst 1, 1, []), (564, .newarray .int, 2, [189]), (566, .dup, 1, [])]
def am_i120_6 : List am_I := [(567, .iconst 0, 1, []), (568, .bipush 24, 2, []), (570, .iastore, 1, []), (571, .invokestatic 195, 3, [0, 26, 3, 387, 388, 24, 389]), (574, .ldc 75, 2, [0, 2294967295, 906]), (576, .if_icmp .ne 670, 3, []), (579, .aload_n 1, 1, []), (580, .bipush 115, 2, []), (582, .iconst 1, 1, []), (583, .newarray .int, 2, [189]), (585, .dup, 1, []), (586, .iconst 0, 1, []), (587, .iconst 0, 1, []), (588, .iastore, 1, []), (589, .invokestatic 195, 3, [0, 26, 3, 387, 388, 24, 389]), (592, .ldc 87, 2, [0, 2294967291, 910]), (594, .if_icmp .ne 652, 3, []), (597, .aload_n 1, 1, []), (598, .bipush 68, 2, []), (600, .iconst 2, 1, []), (601, .newarray .int, 2, [189]), (603, .dup, 1, []), (604, .iconst 0, 1, []), (605, .iconst 0, 1, []), (606, .iastore, 1, []), (607, .dup, 1, []), (608, .iconst 1, 1, []), (609, .bipush 120, 2, []), (611, .iastore, 1, []), (612, .invokestatic 195, 3, [0, 26, 3, 387, 388, 24, 389]), (615, .ldc 78, 2, [0, 2294967294, 907]), (617, .if_icmp .ne 629, 3, []), (620, .aload_n 1, 1, []), (621, .bipush 68, 2, []), (623, .iconst 2, 1, []), (624, .newarray .int, 2, [189]), (626, .dup, 1, []), (627, .iconst 0, 1, []), (628, .iconst 0, 1, []), (629, .iastore, 1, []), (630, .dup, 1, []), (631, .iconst 1, 1, []), (632, .bipush 119, 2, []), (634, .iastore, 1, []), (635, .invokestatic 195, 3, [0, 26, 3, 387, 388, 24, 389]), (638, .ldc 87, 2, [0, 2294967291, 910]), (640, .if_icmp .ne 606, 3, []), (643, .aload_n 1, 1, []), (644, .bipush 98, 2, []), (646, .iconst 2, 1, []), (647, .newarray .int, 2, [189]), (649, .dup, 1, []), (650, .iconst 0, 1, []), (651, .iconst 0, 1, []), (652, .iastore, 1, []), (653, .dup, 1, []), (654, .iconst 1, 1, []), (655, .iconst 1, 1, []), (656, .iastore, 1, []), (657, .invokestatic 195, 3, [0, 26, 3, 387, 388, 24, 389])]
def am_i120_7 : List am_I := [(660, .ldc 87, 2, [0, 2294967291, 910]), (662, .if_icmp .ne 584, 3, []), (665, .aload_n 1, 1, []), (666, .bipush 100, 2, []), (668, .iconst 1, 1, []), (669, .newarray .int, 2, [189]), (671, .dup, 1, []), (672, .iconst 0, 1, []), (673, .bipush 28, 2, []), (675, .iastore, 1, []), (676, .invokestatic 195, 3, [0, 26, 3, 387, 388, 24, 389]), (679, .ldc 75, 2, [0, 2294967295, 906]), (681, .if_icmp .ne 565, 3, []), (684, .aload_n 1, 1, []), (685, .bipush 119, 2, []), (687, .iconst 4, 1, []), (688, .newarray .int, 2, [189]), (690, .dup, 1, []), (691, .iconst 0, 1, []), (692, .bipush 6, 2, []), (694, .iastore, 1, []), (695, .dup, 1, []), (696, .iconst 1, 1, []), (697, .iconst 0, 1, []), (698, .iastore, 1, []), (699, .dup, 1, []), (700, .iconst 2, 1, []), (701, .iconst 1, 1, []), (702, .iastore, 1, []), (703, .dup, 1, []), (704, .iconst 3, 1, []), (705, .iconst 0, 1, []), (706, .iastore, 1, []), (707, .invokestatic 195, 3, [0, 26, 3, 387, 388, 24, 389]), (710, .ldc 75, 2, [0, 2294967295, 906]), (712, .if_icmp .ne 534, 3, []), (715, .aload_n 1, 1, []), (716, .bipush 119, 2, []), (718, .iconst 4, 1, []), (719, .newarray .int, 2, [189]), (721, .dup, 1, []), (722, .iconst 0, 1, []), (723, .iconst 0, 1, []), (724, .iastore, 1, []), (725, .dup, 1, []), (726, .iconst 1, 1, []), (727, .sipush 600, 3, []), (730, .iastore, 1, []), (731, .dup, 1, []), (732, .iconst 2, 1, []), (733, .iconst 1, 1, []), (734, .iastore, 1, []), (735, .dup, 1, []), (736, .iconst 3, 1, []), (737, .iconst 0, 1, []), (738, .iastore, 1, []), (739, .invokestatic 195, 3, [0, 26, 3, 387, 388, 24, 389]), (742, .ldc 78, 2, [0, 2294967294, 907]), (744, .if_icmp .ne 502, 3, []), (747, .aload_n 1, 1, [])]
def am_i120_8 : List am_I := [(748, .bipush 119, 2, []), (750, .iconst 4, 1, []), (751, .newarray .int, 2, [189]), (753, .dup, 1, []), (754, .iconst 0, 1, []), (755, .iconst 0, 1, []), (756, .iastore, 1, []), (757, .dup, 1, []), (758, .iconst 1, 1, []), (759, .iconst 0, 1, []), (760, .iastore, 1, []), (761, .dup, 1, []), (762, .iconst 2, 1, []), (763, .bipush 121, 2, []), (765, .iastore, 1, []), (766, .dup, 1, []), (767, .iconst 3, 1, []), (768, .iconst 0, 1, []), (769, .iastore, 1, []), (770, .invokestatic 195, 3, [0, 26, 3, 387, 388, 24, 389]), (773, .ldc 78, 2, [0, 2294967294, 907]), (775, .if_icmp .ne 471, 3, []), (778, .aload_n 1, 1, []), (779, .bipush 119, 2, []), (781, .iconst 4, 1, []), (782, .newarray .int, 2, [189]), (784, .dup, 1, []), (785, .iconst 0, 1, []), (786, .iconst 0, 1, []), (787, .iastore, 1, []), (788, .dup, 1, []), (789, .iconst 1, 1, []), (790, .iconst 0, 1, []), (791, .iastore, 1, []), (792, .dup, 1, []), (793, .iconst 2, 1, []), (794, .iconst 1, 1, []), (795, .iastore, 1, []), (796, .dup, 1, []), (797, .iconst 3, 1, []), (798, .iconst 4, 1, []), (799, .iastore, 1, []), (800, .invokestatic 195, 3, [0, 26, 3, 387, 388, 24, 389]), (803, .ldc 78, 2, [0, 2294967294, 907]), (805, .if_icmp .ne 441, 3, []), (808, .aload_n 1, 1, []), (809, .bipush 101, 2, []), (811, .iconst 1, 1, []), (812, .newarray .int, 2, [189]), (814, .dup, 1, []), (815, .iconst 0, 1, []), (816, .bipush 6, 2, []), (818, .iastore, 1, []), (819, .invokestatic 195, 3, [0, 26, 3, 387, 388, 24, 389]), (822, .ldc 75, 2, [0, 2294967295, 906]), (824, .if_icmp .ne 422, 3, []), (827, .aload_n 1, 1, []), (828, .bipush 101, 2, []), (830, .iconst 1, 1, []), (831, .newarray .int, 2, [189])]
def am_i120_9 : List am_I := [(833, .dup, 1, []), (834, .iconst 0, 1, []), (835, .iconst 0, 1, []), (836, .iastore, 1, []), (837, .invokestatic 195, 3, [0, 26, 3, 387, 388, 24, 389]), (840, .ifCond .ne 406, 3, []), (843, .aload_n 1, 1, []), (844, .bipush 80, 2, []), (846, .iconst 4, 1, []), (847, .newarray .int, 2, [189]), (849, .dup, 1, []), (850, .iconst 0, 1, []), (851, .bipush 9, 2, []), (853, .iastore, 1, []), (854, .dup, 1, []), (855, .iconst 1, 1, []), (856, .iconst 0, 1, []), (857, .iastore, 1, []), (858, .dup, 1, []), (859, .iconst 2, 1, []), (860, .iconst 0, 1, []), (861, .iastore, 1, []), (862, .dup, 1, []), (863, .iconst 3, 1, []), (864, .bipush 9, 2, []), (866, .iastore, 1, []), (867, .invokestatic 195, 3, [0, 26, 3, 387, 388, 24, 389]), (870, .ldc 81, 2, [0, 2294967293, 908]), (872, .if_icmp .ne 374, 3, []), (875, .aload_n 1, 1, []), (876, .bipush 85, 2, []), (878, .iconst 3, 1, []), (879, .newarray .int, 2, [189]), (881, .dup, 1, []), (882, .iconst 0, 1, []), (883, .iconst 0, 1, []), (884, .iastore, 1, []), (885, .dup, 1, []), (886, .iconst 1, 1, []), (887, .iconst 0, 1, []), (888, .iastore, 1, []), (889, .dup, 1, []), (890, .iconst 2, 1, []), (891, .iconst 0, 1, []), (892, .iastore, 1, []), (893, .invokestatic 195, 3, [0, 26, 3, 387, 388, 24, 389]), (896, .ldc 81, 2, [0, 2294967293, 908]), (898, .if_icmp .ne 348, 3, []), (901, .aload_n 1, 1, []), (902, .bipush 109, 2, []), (904, .iconst 1, 1, []), (905, .newarray .int, 2, [189]), (907, .dup, 1, []), (908, .iconst 0, 1, []), (909, .bipush 6, 2, []), (911, .iastore, 1, []), (912, .invokestatic 195, 3, [0, 26, 3, 387, 388, 24, 389]), (915, .ldc 75, 2, [0, 2294967295, 906]), (917, .if_icmp .ne 329, 3, []), (920, .aload_n 1, 1, [])]
def am_i120_10 : List am_I := [(921, .bipush 109, 2, []), (923, .iconst 1, 1, []), (924, .newarray .int, 2, [189]), (926, .dup, 1, []), (927, .iconst 0, 1, []), (928, .iconst 5, 1, []), (929, .iastore, 1, []), (930, .invokestatic 195, 3, [0, 26, 3, 387, 388, 24, 389]), (933, .ifCond .ne 313, 3, []), (936, .aload_n 1, 1, []), (937, .bipush 114, 2, []), (939, .iconst 0, 1, []), (940, .newarray .int, 2, [189]), (942, .invokestatic 195, 3, [0, 26, 3, 387, 388, 24, 389]), (945, .ldc 81, 2, [0, 2294967293, 908]), (947, .if_icmp .ne 299, 3, []), (950, .aload_n 1, 1, []), (951, .bipush 99, 2, []), (953, .iconst 0, 1, []), (954, .newarray .int, 2, [189]), (956, .invokestatic 195, 3, [0, 26, 3, 387, 388, 24, 389]), (959, .ldc 81, 2, [0, 2294967293, 908]), (961, .if_icmp .ne 285, 3, []), (964, .aload_n 1, 1, []), (965, .bipush 65, 2, []), (967, .iconst 1, 1, []), (968, .newarray .int, 2, [189]), (970, .dup, 1, []), (971, .iconst 0, 1, []), (972, .iconst 0, 1, []), (973, .iastore, 1, []), (974, .invokestatic 195, 3, [0, 26, 3, 387, 388, 24, 389]), (977, .ldc 81, 2, [0, 2294967293, 908]), (979, .if_icmp .ne 267, 3, []), (982, .aload_n 1, 1, []), (983, .bipush 83, 2, []), (985, .iconst 1, 1, []), (986, .newarray .int, 2, [189]), (988, .dup, 1, []), (989, .iconst 0, 1, []), (990, .iconst 0, 1, []), (991, .iastore, 1, []), (992, .invokestatic 195, 3, [0, 26, 3, 387, 388, 24, 389]), (995, .ldc 81, 2, [0, 2294967293, 908]), (997, .if_icmp .ne 249, 3, []), (1000, .aload_n 1, 1, []), (1001, .bipush 104, 2, []), (1003, .iconst 0, 1, []), (1004, .newarray .int, 2, [189]), (1006, .invokestatic 195, 3, [0, 26, 3, 387, 388, 24, 389]), (1009, .ldc 81, 2, [0, 2294967293, 908]), (1011, .if_icmp .ne 235, 3, []), (1014, .aload_n 1, 1, []), (1015, .bipush 87, 2, []), (1017, .iconst 1, 1, []), (1018, .newarray .int, 2, [189]), (1020, .dup, 1, []), (1021, .iconst 0, 1, []), (1022, .bipush 21, 2, []), (1024, .iastore, 1, [])]
def am_i120_11 : List am_I := [(1025, .invokestatic 195, 3, [0, 26, 3, 387, 388, 24, 389]), (1028, .ldc 78, 2, [0, 2294967294, 907]), (1030, .if_icmp .ne 216, 3, []), (1033, .aload_n 1, 1, []), (1034, .bipush 102, 2, []), (1036, .iconst 1, 1, []), (1037, .newarray .int, 2, [189]), (1039, .dup, 1, []), (1040, .iconst 0, 1, []), (1041, .bipush 51, 2, []), (1043, .iastore, 1, []), (1044, .invokestatic 195, 3, [0, 26, 3, 387, 388, 24, 389]), (1047, .ldc 78, 2, [0, 2294967294, 907]), (1049, .if_icmp .ne 197, 3, []), (1052, .aload_n 1, 1, []), (1053, .bipush 102, 2, []), (1055, .iconst 1, 1, []), (1056, .newarray .int, 2, [189]), (1058, .dup, 1, []), (1059, .iconst 0, 1, []), (1060, .iconst 0, 1, []), (1061, .iastore, 1, []), (1062, .invokestatic 195, 3, [0, 26, 3, 387, 388, 24, 389]), (1065, .ldc 78, 2, [0, 2294967294, 907]), (1067, .if_icmp .ne 179, 3, []), (1070, .aload_n 1, 1, []), (1071, .bipush 89, 2, []), (1073, .iconst 1, 1, []), (1074, .newarray .int, 2, [189]), (1076, .dup, 1, []), (1077, .iconst 0, 1, []), (1078, .iconst 0, 1, []), (1079, .iastore, 1, []), (1080, .invokestatic 195, 3, [0, 26, 3, 387, 388, 24, 389]), (1083, .ldc 81, 2, [0, 2294967293, 908]), (1085, .if_icmp .ne 161, 3, []), (1088, .aload_n 1, 1, []), (1089, .bipush 107, 2, []), (1091, .iconst 1, 1, []), (1092, .newarray .int, 2, [189]), (1094, .dup, 1, []), (1095, .iconst 0, 1, []), (1096, .iconst 0, 1, []), (1097, .iastore, 1, []), (1098, .invokestatic 195, 3, [0, 26, 3, 387, 388, 24, 389]), (1101, .ldc 87, 2, [0, 2294967291, 910]), (1103, .if_icmp .ne 143, 3, []), (1106, .aload_n 1, 1, []), (1107, .bipush 122, 2, []), (1109, .iconst 1, 1, []), (1110, .newarray .int, 2, [189]), (1112, .dup, 1, []), (1113, .iconst 0, 1, []), (1114, .iconst 0, 1, []), (1115, .iastore, 1, []), (1116, .invokestatic 195, 3, [0, 26, 3, 387, 388, 24, 389]), (1119, .ldc 81, 2, [0, 2294967293, 908]), (1121, .if_icmp .ne 125, 3, []), (1124, .aload_n 1, 1, []), (1125, .bipush 111, 2, [])]
def am_i120_12 : List am_I := [(1127, .iconst 1, 1, []), (1128, .newarray .int, 2, [189]), (1130, .dup, 1, []), (1131, .iconst 0, 1, []), (1132, .iconst 0, 1, []), (1133, .iastore, 1, []), (1134, .invokestatic 195, 3, [0, 26, 3, 387, 388, 24, 389]), (1137, .ldc 81, 2, [0, 2294967293, 908]), (1139, .if_icmp .ne 107, 3, []), (1142, .aload_n 1, 1, []), (1143, .bipush 72, 2, []), (1145, .iconst 2, 1, []), (1146, .newarray .int, 2, [189]), (1148, .dup, 1, []), (1149, .iconst 0, 1, []), (1150, .iconst 0, 1, []), (1151, .iastore, 1, []), (1152, .dup, 1, []), (1153, .iconst 1, 1, []), (1154, .iconst 0, 1, []), (1155, .iastore, 1, []), (1156, .invokestatic 195, 3, [0, 26, 3, 387, 388, 24, 389]), (1159, .ldc 81, 2, [0, 2294967293, 908]), (1161, .if_icmp .ne 85, 3, []), (1164, .aload_n 1, 1, []), (1165, .bipush 82, 2, []), (1167, .iconst 0, 1, []), (1168, .newarray .int, 2, [189]), (1170, .invokestatic 195, 3, [0, 26, 3, 387, 388, 24, 389]), (1173, .ldc 81, 2, [0, 2294967293, 908]), (1175, .if_icmp .ne 71, 3, []), (1178, .aload_n 1, 1, []), (1179, .bipush 120, 2, []), (1181, .iconst 1, 1, []), (1182, .newarray .int, 2, [189]), (1184, .dup, 1, []), (1185, .iconst 0, 1, []), (1186, .iconst 0, 1, []), (1187, .iastore, 1, []), (1188, .invokestatic 195, 3, [0, 26, 3, 387, 388, 24, 389]), (1191, .ldc 87, 2, [0, 2294967291, 910]), (1193, .if_icmp .ne 53, 3, []), (1196, .aload_n 1, 1, []), (1197, .bipush 78, 2, []), (1199, .iconst 0, 1, []), (1200, .newarray .int, 2, [189]), (1202, .invokestatic 195, 3, [0, 26, 3, 387, 388, 24, 389]), (1205, .ldc 81, 2, [0, 2294967293, 908]), (1207, .if_icmp .ne 39, 3, []), (1210, .aload_n 1, 1, []), (1211, .bipush 108, 2, []), (1213, .iconst 1, 1, []), (1214, .newarray .int, 2, [189]), (1216, .dup, 1, []), (1217, .iconst 0, 1, []), (1218, .iconst 0, 1, []), (1219, .iastore, 1, []), (1220, .invokestatic 195, 3, [0, 26, 3, 387, 388, 24, 389]), (1223, .ldc 81, 2, [0, 2294967293, 908]), (1225, .if_icmp .ne 21, 3, [])]
def am_i120_13 : List am_I := [(1228, .aload_n 1, 1, []), (1229, .bipush 75, 2, []), (1231, .iconst 1, 1, []), (1232, .newarray .int, 2, [189]), (1234, .dup, 1, []), (1235, .iconst 0, 1, []), (1236, .iconst 0, 1, []), (1237, .iastore, 1, []), (1238, .invokestatic 195, 3, [0, 26, 3, 387, 388, 24, 389]), (1241, .ldc 81, 2, [0, 2294967293, 908]), (1243, .if_icmp .eq 5, 3, []), (1246, .iconst 0, 1, []), (1247, .ireturn, 1, []), (1248, .aload_n 1, 1, []), (1249, .bipush 67, 2, []), (1251, .iconst 2, 1, []), (1252, .newarray .int, 2, [189]), (1254, .dup, 1, []), (1255, .iconst 0, 1, []), (1256, .bipush 40, 2, []), (1258, .iastore, 1, []), (1259, .dup, 1, []), (1260, .iconst 1, 1, []), (1261, .iconst 2, 1, []), (1262, .iastore, 1, []), (1263, .invokestatic 195, 3, [0, 26, 3, 387, 388, 24, 389]), (1266, .ifCond .ne 494, 3, []), (1269, .aload_n 1, 1, []), (1270, .bipush 80, 2, []), (1272, .iconst 4, 1, []), (1273, .newarray .int, 2, [189]), (1275, .dup, 1, []), (1276, .iconst 0, 1, []), (1277, .iconst 2, 1, []), (1278, .iastore, 1, []), (1279, .dup, 1, []), (1280, .iconst 1, 1, []), (1281, .iconst 0, 1, []), (1282, .iastore, 1, []), (1283, .dup, 1, []), (1284, .iconst 2, 1, []), (1285, .iconst 0, 1, []), (1286, .iastore, 1, []), (1287, .dup, 1, []), (1288, .iconst 3, 1, []), (1289, .iconst 0, 1, []), (1290, .iastore, 1, []), (1291, .invokestatic 195, 3, [0, 26, 3, 387, 388, 24, 389]), (1294, .ldc 75, 2, [0, 2294967295, 906]), (1296, .if_icmp .ne 464, 3, []), (1299, .aload_n 1, 1, []), (1300, .bipush 80, 2, []), (1302, .iconst 4, 1, []), (1303, .newarray .int, 2, [189]), (1305, .dup, 1, []), (1306, .iconst 0, 1, []), (1307, .iconst 0, 1, []), (1308, .iastore, 1, []), (1309, .dup, 1, []), (1310, .iconst 1, 1, [])]
def am_i120_14 : List am_I := [(1311, .bipush 40, 2, []), (1313, .iastore, 1, []), (1314, .dup, 1, []), (1315, .iconst 2, 1, []), (1316, .iconst 0, 1, []), (1317, .iastore, 1, []), (1318, .dup, 1, []), (1319, .iconst 3, 1, []), (1320, .iconst 0, 1, []), (1321, .iastore, 1, []), (1322, .invokestatic 195, 3, [0, 26, 3, 387, 388, 24, 389]), (1325, .ldc 75, 2, [0, 2294967295, 906]), (1327, .if_icmp .ne 433, 3, []), (1330, .aload_n 1, 1, []), (1331, .bipush 80, 2, []), (1333, .iconst 4, 1, []), (1334, .newarray .int, 2, [189]), (1336, .dup, 1, []), (1337, .iconst 0, 1, []), (1338, .iconst 0, 1, []), (1339, .iastore, 1, []), (1340, .dup, 1, []), (1341, .iconst 1, 1, []), (1342, .iconst 0, 1, []), (1343, .iastore, 1, []), (1344, .dup, 1, []), (1345, .iconst 2, 1, []), (1346, .bipush 28, 2, []), (1348, .iastore, 1, []), (1349, .dup, 1, []), (1350, .iconst 3, 1, []), (1351, .iconst 0, 1, []), (1352, .iastore, 1, []), (1353, .invokestatic 195, 3, [0, 26, 3, 387, 388, 24, 389]), (1356, .ldc 75, 2, [0, 2294967295, 906]), (1358, .if_icmp .ne 402, 3, []), (1361, .aload_n 1, 1, []), (1362, .bipush 80, 2, []), (1364, .iconst 4, 1, []), (1365, .newarray .int, 2, [189]), (1367, .dup, 1, []), (1368, .iconst 0, 1, []), (1369, .iconst 0, 1, []), (1370, .iastore, 1, []), (1371, .dup, 1, []), (1372, .iconst 1, 1, []), (1373, .iconst 0, 1, []), (1374, .iastore, 1, []), (1375, .dup, 1, []), (1376, .iconst 2, 1, []), (1377, .iconst 0, 1, []), (1378, .iastore, 1, []), (1379, .dup, 1, []), (1380, .iconst 3, 1, []), (1381, .iconst 3, 1, []), (1382, .iastore, 1, []), (1383, .invokestatic 195, 3, [0, 26, 3, 387, 388, 24, 389]), (1386, .ldc 78, 2, [0, 2294967294, 907]), (1388, .if_icmp .ne 372, 3, []), (1391, .aload_n 1, 1, [])]
def am_i120_15 : List am_I := [(1392, .bipush 85, 2, []), (1394, .iconst 3, 1, []), (1395, .newarray .int, 2, [189]), (1397, .dup, 1, []), (1398, .iconst 0, 1, []), (1399, .iconst 0, 1, []), (1400, .iastore, 1, []), (1401, .dup, 1, []), (1402, .iconst 1, 1, []), (1403, .iconst 0, 1, []), (1404, .iastore, 1, []), (1405, .dup, 1, []), (1406, .iconst 2, 1, []), (1407, .iconst 0, 1, []), (1408, .iastore, 1, []), (1409, .invokestatic 195, 3, [0, 26, 3, 387, 388, 24, 389]), (1412, .ldc 87, 2, [0, 2294967291, 910]), (1414, .if_icmp .ne 346, 3, []), (1417, .aload_n 1, 1, []), (1418, .bipush 65, 2, []), (1420, .iconst 1, 1, []), (1421, .newarray .int, 2, [189]), (1423, .dup, 1, []), (1424, .iconst 0, 1, []), (1425, .iconst 2, 1, []), (1426, .iastore, 1, []), (1427, .invokestatic 195, 3, [0, 26, 3, 387, 388, 24, 389]), (1430, .ldc 75, 2, [0, 2294967295, 906]), (1432, .if_icmp .ne 328, 3, []), (1435, .aload_n 1, 1, []), (1436, .bipush 89, 2, []), (1438, .iconst 1, 1, []), (1439, .newarray .int, 2, [189]), (1441, .dup, 1, []), (1442, .iconst 0, 1, []), (1443, .bipush 41, 2, []), (1445, .iastore, 1, []), (1446, .invokestatic 195, 3, [0, 26, 3, 387, 388, 24, 389]), (1449, .ldc 78, 2, [0, 2294967294, 907]), (1451, .if_icmp .ne 309, 3, []), (1454, .aload_n 1, 1, []), (1455, .bipush 89, 2, []), (1457, .iconst 1, 1, []), (1458, .newarray .int, 2, [189]), (1460, .dup, 1, []), (1461, .iconst 0, 1, []), (1462, .bipush 40, 2, []), (1464, .iastore, 1, []), (1465, .invokestatic 195, 3, [0, 26, 3, 387, 388, 24, 389]), (1468, .ifCond .ne 292, 3, []), (1471, .aload_n 1, 1, []), (1472, .bipush 78, 2, []), (1474, .iconst 0, 1, []), (1475, .newarray .int, 2, [189]), (1477, .invokestatic 195, 3, [0, 26, 3, 387, 388, 24, 389]), (1480, .iconst 1, 1, []), (1481, .if_icmp .ne 279, 3, []), (1484, .aload_n 1, 1, []), (1485, .bipush 108, 2, []), (1487, .iconst 1, 1, [])]
def am_i120_16 : List am_I := [(1488, .newarray .int, 2, [189]), (1490, .dup, 1, []), (1491, .iconst 0, 1, []), (1492, .bipush 24, 2, []), (1494, .iastore, 1, []), (1495, .invokestatic 195, 3, [0, 26, 3, 387, 388, 24, 389]), (1498, .ldc 75, 2, [0, 2294967295, 906]), (1500, .if_icmp .ne 260, 3, []), (1503, .aload_n 1, 1, []), (1504, .bipush 108, 2, []), (1506, .iconst 1, 1, []), (1507, .newarray .int, 2, [189]), (1509, .dup, 1, []), (1510, .iconst 0, 1, []), (1511, .iconst 0, 1, []), (1512, .iastore, 1, []), (1513, .invokestatic 195, 3, [0, 26, 3, 387, 388, 24, 389]), (1516, .ldc 87, 2, [0, 2294967291, 910]), (1518, .if_icmp .ne 242, 3, []), (1521, .aload_n 1, 1, []), (1522, .bipush 75, 2, []), (1524, .iconst 1, 1, []), (1525, .newarray .int, 2, [189]), (1527, .dup, 1, []), (1528, .iconst 0, 1, []), (1529, .iconst 0, 1, []), (1530, .iastore, 1, []), (1531, .invokestatic 195, 3, [0, 26, 3, 387, 388, 24, 389]), (1534, .ldc 87, 2, [0, 2294967291, 910]), (1536, .if_icmp .ne 224, 3, []), (1539, .aload_n 1, 1, []), (1540, .bipush 72, 2, []), (1542, .iconst 2, 1, []), (1543, .newarray .int, 2, [189]), (1545, .dup, 1, []), (1546, .iconst 0, 1, []), (1547, .iconst 0, 1, []), (1548, .iastore, 1, []), (1549, .dup, 1, []), (1550, .iconst 1, 1, []), (1551, .bipush 40, 2, []), (1553, .iastore, 1, []), (1554, .invokestatic 195, 3, [0, 26, 3, 387, 388, 24, 389]), (1557, .ldc 75, 2, [0, 2294967295, 906]), (1559, .if_icmp .ne 201, 3, []), (1562, .aload_n 1, 1, []), (1563, .bipush 99, 2, []), (1565, .iconst 0, 1, []), (1566, .newarray .int, 2, [189]), (1568, .invokestatic 195, 3, [0, 26, 3, 387, 388, 24, 389]), (1571, .ifCond .ne 189, 3, []), (1574, .aload_n 1, 1, []), (1575, .bipush 99, 2, []), (1577, .iconst 0, 1, []), (1578, .newarray .int, 2, [189]), (1580, .invokestatic 195, 3, [0, 26, 3, 387, 388, 24, 389]), (1583, .iconst 1, 1, []), (1584, .if_icmp .ne 176, 3, []), (1587, .aload_n 1, 1, []), (1588, .bipush 65, 2, [])]
def am_i120_17 : List am_I := [(1590, .iconst 1, 1, []), (1591, .newarray .int, 2, [189]), (1593, .dup, 1, []), (1594, .iconst 0, 1, []), (1595, .iconst 0, 1, []), (1596, .iastore, 1, []), (1597, .invokestatic 195, 3, [0, 26, 3, 387, 388, 24, 389]), (1600, .ldc 84, 2, [0, 2294967292, 909]), (1602, .if_icmp .ne 158, 3, []), (1605, .aload_n 1, 1, []), (1606, .bipush 114, 2, []), (1608, .iconst 0, 1, []), (1609, .newarray .int, 2, [189]), (1611, .invokestatic 195, 3, [0, 26, 3, 387, 388, 24, 389]), (1614, .ldc 84, 2, [0, 2294967292, 909]), (1616, .if_icmp .ne 144, 3, []), (1619, .aload_n 1, 1, []), (1620, .bipush 80, 2, []), (1622, .iconst 4, 1, []), (1623, .newarray .int, 2, [189]), (1625, .dup, 1, []), (1626, .iconst 0, 1, []), (1627, .iconst 0, 1, []), (1628, .iastore, 1, []), (1629, .dup, 1, []), (1630, .iconst 1, 1, []), (1631, .iconst 0, 1, []), (1632, .iastore, 1, []), (1633, .dup, 1, []), (1634, .iconst 2, 1, []), (1635, .iconst 0, 1, []), (1636, .iastore, 1, []), (1637, .dup, 1, []), (1638, .iconst 3, 1, []), (1639, .iconst 0, 1, []), (1640, .iastore, 1, []), (1641, .invokestatic 195, 3, [0, 26, 3, 387, 388, 24, 389]), (1644, .ldc 84, 2, [0, 2294967292, 909]), (1646, .if_icmp .ne 114, 3, []), (1649, .aload_n 1, 1, []), (1650, .bipush 67, 2, []), (1652, .iconst 2, 1, []), (1653, .newarray .int, 2, [189]), (1655, .dup, 1, []), (1656, .iconst 0, 1, []), (1657, .bipush 40, 2, []), (1659, .iastore, 1, []), (1660, .dup, 1, []), (1661, .iconst 1, 1, []), (1662, .iconst 1, 1, []), (1663, .iastore, 1, []), (1664, .invokestatic 195, 3, [0, 26, 3, 387, 388, 24, 389]), (1667, .ifCond .ne 93, 3, []), (1670, .aload_n 1, 1, []), (1671, .bipush 80, 2, []), (1673, .iconst 4, 1, []), (1674, .newarray .int, 2, [189]), (1676, .dup, 1, []), (1677, .iconst 0, 1, []), (1678, .iconst 0, 1, [])]
def am_i120_18 : List am_I := [(1679, .iastore, 1, []), (1680, .dup, 1, []), (1681, .iconst 1, 1, []), (1682, .iconst 0, 1, []), (1683, .iastore, 1, []), (1684, .dup, 1, []), (1685, .iconst 2, 1, []), (1686, .iconst 0, 1, []), (1687, .iastore, 1, []), (1688, .dup, 1, []), (1689, .iconst 3, 1, []), (1690, .iconst 0, 1, []), (1691, .iastore, 1, []), (1692, .invokestatic 195, 3, [0, 26, 3, 387, 388, 24, 389]), (1695, .iconst 1, 1, []), (1696, .if_icmp .ne 64, 3, []), (1699, .aload_n 1, 1, []), (1700, .bipush 80, 2, []), (1702, .iconst 4, 1, []), (1703, .newarray .int, 2, [189]), (1705, .dup, 1, []), (1706, .iconst 0, 1, []), (1707, .iconst 0, 1, []), (1708, .iastore, 1, []), (1709, .dup, 1, []), (1710, .iconst 1, 1, []), (1711, .bipush 39, 2, []), (1713, .iastore, 1, []), (1714, .dup, 1, []), (1715, .iconst 2, 1, []), (1716, .iconst 0, 1, []), (1717, .iastore, 1, []), (1718, .dup, 1, []), (1719, .iconst 3, 1, []), (1720, .iconst 0, 1, []), (1721, .iastore, 1, []), (1722, .invokestatic 195, 3, [0, 26, 3, 387, 388, 24, 389]), (1725, .ldc 84, 2, [0, 2294967292, 909]), (1727, .if_icmp .ne 33, 3, []), (1730, .aload_n 1, 1, []), (1731, .bipush 80, 2, []), (1733, .iconst 4, 1, []), (1734, .newarray .int, 2, [189]), (1736, .dup, 1, []), (1737, .iconst 0, 1, []), (1738, .iconst 0, 1, []), (1739, .iastore, 1, []), (1740, .dup, 1, []), (1741, .iconst 1, 1, []), (1742, .bipush 38, 2, []), (1744, .iastore, 1, []), (1745, .dup, 1, []), (1746, .iconst 2, 1, []), (1747, .iconst 0, 1, []), (1748, .iastore, 1, []), (1749, .dup, 1, []), (1750, .iconst 3, 1, []), (1751, .iconst 0, 1, []), (1752, .iastore, 1, []), (1753, .invokestatic 195, 3, [0, 26, 3, 387, 388, 24, 389])]
def am_i120_19 : List am_I := [(1756, .iconst 2, 1, []), (1757, .if_icmp .eq 5, 3, []), (1760, .iconst 0, 1, []), (1761, .ireturn, 1, []), (1762, .aload_n 0, 1, []), (1763, .invokestatic 198, 3, [0, 113, 1, 935, 936, 24, 937]), (1766, .ifCond .eq 20, 3, []), (1769, .aload_n 0, 1, []), (1770, .invokestatic 202, 3, [0, 117, 1, 960, 961, 24, 962]), (1773, .ifCond .eq 13, 3, []), (1776, .invokestatic 205, 3, [0, 119, 0, 971, 972, 24, 973]), (1779, .ifCond .eq 7, 3, []), (1782, .iconst 1, 1, []), (1783, .goto 4, 3, []), (1786, .iconst 0, 1, []), (1787, .ireturn, 1, [])]
def am_m120 : am_M := (⟨"CombCylinderLaw", "law", "([I)Z"⟩, code, 2, (some FieldType.boolean), [], am_i120_0 ++ (am_i120_1 ++ (am_i120_2 ++ (am_i120_3 ++ (am_i120_4 ++ (am_i120_5 ++ (am_i120_6 ++ (am_i120_7 ++ (am_i120_8 ++ (am_i120_9 ++ (am_i120_10 ++ (am_i120_11 ++ (am_i120_12 ++ (am_i120_13 ++ (am_i120_14 ++ (am_i120_15 ++ (am_i120_16 ++ (am_i120_17 ++ (am_i120_18 ++ (am_i120_19))))))))))))))))))))
def am_db : List am_M := [am_m0, am_m1, am_m2, am_m3, am_m4, am_m5, am_m6, am_m7, am_m8, am_m9, am_m10, am_m11, am_m12, am_m13, am_m14, am_m15, am_m16, am_m17, am_m18, am_m19, am_m20, am_m21, am_m22, am_m23, am_m24, am_m25, am_m26, am_m27, am_m28, am_m29, am_m30, am_m31, am_m32, am_m33, am_m34, am_m35, am_m36, am_m37, am_m38, am_m39, am_m40, am_m41, am_m42, am_m43, am_m44, am_m45, am_m46, am_m47, am_m48, am_m49, am_m50, am_m51, am_m52, am_m53, am_m54, am_m55, am_m56, am_m57, am_m58, am_m59, am_m60, am_m61, am_m62, am_m63, am_m64, am_m65, am_m66, am_m67, am_m68, am_m69, am_m70, am_m71, am_m72, am_m73, am_m74, am_m75, am_m76, am_m77, am_m78, am_m79, am_m80, am_m81, am_m82, am_m83, am_m84, am_m85, am_m86, am_m87, am_m88, am_m89, am_m90, am_m91, am_m92, am_m93, am_m94, am_m95, am_m96, am_m97, am_m98, am_m99, am_m100, am_m101, am_m102, am_m103, am_m104, am_m105, am_m106, am_m107, am_m108, am_m109, am_m110, am_m111, am_m112, am_m113, am_m114, am_m115, am_m116, am_m117, am_m118, am_m119, am_m120]
def am_hc : List (Nat × Nat) := [(73, 0), (76, 1), (79, 2), (82, 3), (85, 4), (148, 5)]
def am_bl : List (List am_V) := [[(0, 0, []), (0, 0, []), (0, 0, []), (0, 0, []), (0, 0, []), (4, 0, []), (4, 0, [])], [(0, 0, []), (0, 0, []), (0, 0, []), (0, 0, []), (0, 0, []), (0, 0, [])], [(4, 0, []), (4, 0, []), (4, 0, []), (0, 0, [])], [(0, 0, []), (0, 0, []), (3, 0, [])], [(0, 0, []), (4, 0, []), (4, 0, []), (4, 0, []), (4, 0, []), (4, 0, []), (0, 0, [])], [(0, 0, []), (0, 0, []), (0, 0, []), (0, 0, []), (0, 0, []), (0, 0, []), (0, 0, []), (0, 0, []), (0, 0, []), (0, 0, []), (0, 0, []), (0, 0, [])], [(4, 0, []), (4, 0, []), (4, 0, []), (4, 0, []), (4, 0, []), (0, 0, []), (0, 0, []), (0, 0, []), (0, 0, [])]]
end
section
def am_A0 : am_A := ([], [], [])
/-- a try: CombCylinder() -/
theorem am_t1 : (match am_run am_A0 am_db am_hc am_bl 100000 20 100000 am_m0 (am_m0.2.2.2.2.2, [(10, 0, []), (98, 0, [])], [], [(6, [(4, 0, []), (4, 0, []), (4, 0, []), (4, 0, []), (4, 0, []), (0, 0, []), (0, 0, []), (0, 0, []), (0, 0, [])])], 0, 0) with
  | some (0, _, _, _, _, h, nc, ns) => Nat.beq nc 127 && Nat.beq ns 1561 && Nat.beq (List.length h) 128
  | _ => false) = true := by decide +kernel
end
