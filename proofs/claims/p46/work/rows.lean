section
-- ===== PART A: goes FIRST, ahead of the names: the tables' words, and 'selects' of the private methods out of them =====
/-- a private method of a class that the tables say can be made, by its rows of tables_1 -/
def lw_okq (q : MethodName × Nat) : Prop := (q.1.cls ≠ "java/lang/invoke/MethodHandle" ∧ q.1.cls ≠ "java/lang/invoke/VarHandle") ∧ Cond.instantiable q.1.cls q.2 ∈ tables_1 ∧ Cond.privateMethod q.1 ∈ tables_1 ∧ Cond.instanceMethod q.1 ∈ tables_1
theorem lw_p0 : lw_okq (⟨"CombCylinder$Drum", "isNear", "(LCombCylinder$Pin;III)Z"⟩, 7) := ⟨⟨by decide +kernel, by decide +kernel⟩, List.mem_of_getElem? (i := 36) (by decide +kernel), List.mem_of_getElem? (i := 352) (by decide +kernel), List.mem_of_getElem? (i := 353) (by decide +kernel)⟩
theorem lw_p1 : lw_okq (⟨"CombCylinder$Drum", "apart", "(II)I"⟩, 7) := ⟨⟨by decide +kernel, by decide +kernel⟩, List.mem_of_getElem? (i := 36) (by decide +kernel), List.mem_of_getElem? (i := 357) (by decide +kernel), List.mem_of_getElem? (i := 358) (by decide +kernel)⟩
theorem lw_p2 : lw_okq (⟨"java/lang/Throwable", "fillInStackTrace", "(I)Ljava/lang/Throwable;"⟩, 6) := ⟨⟨by decide +kernel, by decide +kernel⟩, List.mem_of_getElem? (i := 401) (by decide +kernel), List.mem_of_getElem? (i := 399) (by decide +kernel), List.mem_of_getElem? (i := 400) (by decide +kernel)⟩
theorem lw_p3 : lw_okq (⟨"CombCylinder", "replaceVoice", "(IZII)Z"⟩, 9) := ⟨⟨by decide +kernel, by decide +kernel⟩, List.mem_of_getElem? (i := 24) (by decide +kernel), List.mem_of_getElem? (i := 514) (by decide +kernel), List.mem_of_getElem? (i := 515) (by decide +kernel)⟩
theorem lw_p4 : lw_okq (⟨"CombCylinder", "voiceAt", "(I)LCombCylinder$Voice;"⟩, 9) := ⟨⟨by decide +kernel, by decide +kernel⟩, List.mem_of_getElem? (i := 24) (by decide +kernel), List.mem_of_getElem? (i := 531) (by decide +kernel), List.mem_of_getElem? (i := 532) (by decide +kernel)⟩
theorem lw_p5 : lw_okq (⟨"CombCylinder$Sheet", "isBefore", "(IIII)Z"⟩, 4) := ⟨⟨by decide +kernel, by decide +kernel⟩, List.mem_of_getElem? (i := 218) (by decide +kernel), List.mem_of_getElem? (i := 626) (by decide +kernel), List.mem_of_getElem? (i := 627) (by decide +kernel)⟩
theorem lw_p6 : lw_okq (⟨"CombCylinder", "needPinPlace", "(III)V"⟩, 9) := ⟨⟨by decide +kernel, by decide +kernel⟩, List.mem_of_getElem? (i := 24) (by decide +kernel), List.mem_of_getElem? (i := 638) (by decide +kernel), List.mem_of_getElem? (i := 639) (by decide +kernel)⟩
theorem lw_p7 : lw_okq (⟨"CombCylinder", "needAir", "(I)V"⟩, 9) := ⟨⟨by decide +kernel, by decide +kernel⟩, List.mem_of_getElem? (i := 24) (by decide +kernel), List.mem_of_getElem? (i := 642) (by decide +kernel), List.mem_of_getElem? (i := 643) (by decide +kernel)⟩
theorem lw_p8 : lw_okq (⟨"CombCylinder", "needCylinder", "()V"⟩, 9) := ⟨⟨by decide +kernel, by decide +kernel⟩, List.mem_of_getElem? (i := 24) (by decide +kernel), List.mem_of_getElem? (i := 646) (by decide +kernel), List.mem_of_getElem? (i := 647) (by decide +kernel)⟩
theorem lw_p9 : lw_okq (⟨"CombCylinder", "needSoft", "()V"⟩, 9) := ⟨⟨by decide +kernel, by decide +kernel⟩, List.mem_of_getElem? (i := 24) (by decide +kernel), List.mem_of_getElem? (i := 651) (by decide +kernel), List.mem_of_getElem? (i := 652) (by decide +kernel)⟩
theorem lw_p10 : lw_okq (⟨"CombCylinder", "arrangeNote", "(III)Z"⟩, 9) := ⟨⟨by decide +kernel, by decide +kernel⟩, List.mem_of_getElem? (i := 24) (by decide +kernel), List.mem_of_getElem? (i := 703) (by decide +kernel), List.mem_of_getElem? (i := 704) (by decide +kernel)⟩
theorem lw_p11 : lw_okq (⟨"CombCylinder", "playTurn", "()I"⟩, 9) := ⟨⟨by decide +kernel, by decide +kernel⟩, List.mem_of_getElem? (i := 24) (by decide +kernel), List.mem_of_getElem? (i := 732) (by decide +kernel), List.mem_of_getElem? (i := 733) (by decide +kernel)⟩
theorem lw_p12 : lw_okq (⟨"CombCylinder", "doesStrike", "(LCombCylinder$Pin;I)Z"⟩, 9) := ⟨⟨by decide +kernel, by decide +kernel⟩, List.mem_of_getElem? (i := 24) (by decide +kernel), List.mem_of_getElem? (i := 736) (by decide +kernel), List.mem_of_getElem? (i := 737) (by decide +kernel)⟩
theorem lw_p13 : lw_okq (⟨"CombCylinder", "doesBuzz", "(II)Z"⟩, 9) := ⟨⟨by decide +kernel, by decide +kernel⟩, List.mem_of_getElem? (i := 24) (by decide +kernel), List.mem_of_getElem? (i := 758) (by decide +kernel), List.mem_of_getElem? (i := 759) (by decide +kernel)⟩
theorem lw_p14 : lw_okq (⟨"CombCylinder$Drum", "goneRound", "(I)I"⟩, 7) := ⟨⟨by decide +kernel, by decide +kernel⟩, List.mem_of_getElem? (i := 36) (by decide +kernel), List.mem_of_getElem? (i := 770) (by decide +kernel), List.mem_of_getElem? (i := 771) (by decide +kernel)⟩
theorem lw_p15 : lw_okq (⟨"CombCylinder", "runTurn", "()I"⟩, 9) := ⟨⟨by decide +kernel, by decide +kernel⟩, List.mem_of_getElem? (i := 24) (by decide +kernel), List.mem_of_getElem? (i := 787) (by decide +kernel), List.mem_of_getElem? (i := 788) (by decide +kernel)⟩
def lw_privs_1 : List (MethodName × Nat) := [(⟨"CombCylinder$Drum", "isNear", "(LCombCylinder$Pin;III)Z"⟩, 7), (⟨"CombCylinder$Drum", "apart", "(II)I"⟩, 7), (⟨"java/lang/Throwable", "fillInStackTrace", "(I)Ljava/lang/Throwable;"⟩, 6), (⟨"CombCylinder", "replaceVoice", "(IZII)Z"⟩, 9), (⟨"CombCylinder", "voiceAt", "(I)LCombCylinder$Voice;"⟩, 9), (⟨"CombCylinder$Sheet", "isBefore", "(IIII)Z"⟩, 4), (⟨"CombCylinder", "needPinPlace", "(III)V"⟩, 9), (⟨"CombCylinder", "needAir", "(I)V"⟩, 9), (⟨"CombCylinder", "needCylinder", "()V"⟩, 9), (⟨"CombCylinder", "needSoft", "()V"⟩, 9), (⟨"CombCylinder", "arrangeNote", "(III)Z"⟩, 9), (⟨"CombCylinder", "playTurn", "()I"⟩, 9), (⟨"CombCylinder", "doesStrike", "(LCombCylinder$Pin;I)Z"⟩, 9), (⟨"CombCylinder", "doesBuzz", "(II)Z"⟩, 9), (⟨"CombCylinder$Drum", "goneRound", "(I)I"⟩, 7), (⟨"CombCylinder", "runTurn", "()I"⟩, 9)]
theorem lw_r1 : ∀ q ∈ lw_privs_1, lw_okq q := List.forall_mem_cons.mpr ⟨lw_p0, List.forall_mem_cons.mpr ⟨lw_p1, List.forall_mem_cons.mpr ⟨lw_p2, List.forall_mem_cons.mpr ⟨lw_p3, List.forall_mem_cons.mpr ⟨lw_p4, List.forall_mem_cons.mpr ⟨lw_p5, List.forall_mem_cons.mpr ⟨lw_p6, List.forall_mem_cons.mpr ⟨lw_p7, List.forall_mem_cons.mpr ⟨lw_p8, List.forall_mem_cons.mpr ⟨lw_p9, List.forall_mem_cons.mpr ⟨lw_p10, List.forall_mem_cons.mpr ⟨lw_p11, List.forall_mem_cons.mpr ⟨lw_p12, List.forall_mem_cons.mpr ⟨lw_p13, List.forall_mem_cons.mpr ⟨lw_p14, List.forall_mem_cons.mpr ⟨lw_p15, fun _ h => absurd h List.not_mem_nil⟩⟩⟩⟩⟩⟩⟩⟩⟩⟩⟩⟩⟩⟩⟩⟩
theorem lw_p16 : lw_okq (⟨"CombCylinder$Drum", "rankInTurn", "(LCombCylinder$Pin;)I"⟩, 7) := ⟨⟨by decide +kernel, by decide +kernel⟩, List.mem_of_getElem? (i := 36) (by decide +kernel), List.mem_of_getElem? (i := 795) (by decide +kernel), List.mem_of_getElem? (i := 796) (by decide +kernel)⟩
theorem lw_p17 : lw_okq (⟨"CombCylinder", "findTunings", "()V"⟩, 9) := ⟨⟨by decide +kernel, by decide +kernel⟩, List.mem_of_getElem? (i := 24) (by decide +kernel), List.mem_of_getElem? (i := 816) (by decide +kernel), List.mem_of_getElem? (i := 817) (by decide +kernel)⟩
theorem lw_p18 : lw_okq (⟨"CombCylinder$Tuner", "fits", "(ILCombCylinder$Drum;[LCombCylinder$Sheet;)Z"⟩, 7) := ⟨⟨by decide +kernel, by decide +kernel⟩, List.mem_of_getElem? (i := 131) (by decide +kernel), List.mem_of_getElem? (i := 832) (by decide +kernel), List.mem_of_getElem? (i := 833) (by decide +kernel)⟩
theorem lw_p19 : lw_okq (⟨"CombCylinder$Tuner", "howOften", "(LCombCylinder$Pin;LCombCylinder$Drum;)I"⟩, 7) := ⟨⟨by decide +kernel, by decide +kernel⟩, List.mem_of_getElem? (i := 131) (by decide +kernel), List.mem_of_getElem? (i := 840) (by decide +kernel), List.mem_of_getElem? (i := 841) (by decide +kernel)⟩
theorem lw_p20 : lw_okq (⟨"CombCylinder$Tuner", "findChoices", "(ILCombCylinder$Drum;[LCombCylinder$Sheet;)V"⟩, 7) := ⟨⟨by decide +kernel, by decide +kernel⟩, List.mem_of_getElem? (i := 131) (by decide +kernel), List.mem_of_getElem? (i := 844) (by decide +kernel), List.mem_of_getElem? (i := 845) (by decide +kernel)⟩
theorem lw_p21 : lw_okq (⟨"CombCylinder$Tuner", "keepTuning", "()V"⟩, 7) := ⟨⟨by decide +kernel, by decide +kernel⟩, List.mem_of_getElem? (i := 131) (by decide +kernel), List.mem_of_getElem? (i := 856) (by decide +kernel), List.mem_of_getElem? (i := 857) (by decide +kernel)⟩
theorem lw_p22 : lw_okq (⟨"CombCylinder$Tuner", "isTakenAhead", "(I)Z"⟩, 7) := ⟨⟨by decide +kernel, by decide +kernel⟩, List.mem_of_getElem? (i := 131) (by decide +kernel), List.mem_of_getElem? (i := 860) (by decide +kernel), List.mem_of_getElem? (i := 861) (by decide +kernel)⟩
theorem lw_p23 : lw_okq (⟨"CombCylinder", "pinsOnSheet", "(ILCombCylinder$Sheet;)I"⟩, 9) := ⟨⟨by decide +kernel, by decide +kernel⟩, List.mem_of_getElem? (i := 24) (by decide +kernel), List.mem_of_getElem? (i := 877) (by decide +kernel), List.mem_of_getElem? (i := 878) (by decide +kernel)⟩
def lw_privs_2 : List (MethodName × Nat) := [(⟨"CombCylinder$Drum", "rankInTurn", "(LCombCylinder$Pin;)I"⟩, 7), (⟨"CombCylinder", "findTunings", "()V"⟩, 9), (⟨"CombCylinder$Tuner", "fits", "(ILCombCylinder$Drum;[LCombCylinder$Sheet;)Z"⟩, 7), (⟨"CombCylinder$Tuner", "howOften", "(LCombCylinder$Pin;LCombCylinder$Drum;)I"⟩, 7), (⟨"CombCylinder$Tuner", "findChoices", "(ILCombCylinder$Drum;[LCombCylinder$Sheet;)V"⟩, 7), (⟨"CombCylinder$Tuner", "keepTuning", "()V"⟩, 7), (⟨"CombCylinder$Tuner", "isTakenAhead", "(I)Z"⟩, 7), (⟨"CombCylinder", "pinsOnSheet", "(ILCombCylinder$Sheet;)I"⟩, 9)]
theorem lw_r2 : ∀ q ∈ lw_privs_2, lw_okq q := List.forall_mem_cons.mpr ⟨lw_p16, List.forall_mem_cons.mpr ⟨lw_p17, List.forall_mem_cons.mpr ⟨lw_p18, List.forall_mem_cons.mpr ⟨lw_p19, List.forall_mem_cons.mpr ⟨lw_p20, List.forall_mem_cons.mpr ⟨lw_p21, List.forall_mem_cons.mpr ⟨lw_p22, List.forall_mem_cons.mpr ⟨lw_p23, fun _ h => absurd h List.not_mem_nil⟩⟩⟩⟩⟩⟩⟩⟩
def lw_privs : List (MethodName × Nat) := lw_privs_1 ++ (lw_privs_2)
def lw_tbl : List Cond := k2_sels lw_privs ++ tables_1
theorem lw_privs_ok : ∀ q ∈ lw_privs, lw_okq q := by
  show ∀ q ∈ lw_privs_1 ++ (lw_privs_2), lw_okq q
  exact List.forall_mem_append.mpr ⟨lw_r1, lw_r2⟩
/-- the streams that the claim lets the run draw from -/
abbrev lw_cs : List Choice := [Jvm.Choice.named "NaN.bits"]
theorem lw_bits : nanBits ∈ lw_cs := by first | decide | exact List.mem_cons_self | simp [lw_cs, nanBits]
-- ===== end of PART A; then your names; then what follows =====
/-! ===== BEGIN words of one list among another's, by their places ===== -/
theorem goodIn_r {big : List Cond} (ws : List Cond) (ps : List Nat) (hp : ws = ps.filterMap (fun i => big[i]?)) (h : ws.all goodWord = true) : GoodIn big ws := by
  intro w hw
  have h1 := List.all_eq_true.mp h w hw
  rw [hp] at hw
  obtain ⟨i, -, hi⟩ := List.mem_filterMap.mp hw
  have hm : w ∈ big := by first | exact List.mem_of_getElem? hi | exact List.getElem?_mem hi
  exact ⟨hm, good_of_word h1⟩
theorem goodIn_app {big a b : List Cond} (ha : GoodIn big a) (hb : GoodIn big b) : GoodIn big (a ++ b) := fun w h => (List.mem_append.mp h).elim (ha w) (hb w)
theorem goodIn_ca {big a b : List Cond} {c : Cond} (ha : GoodIn big (c :: a)) (hb : GoodIn big b) : GoodIn big (c :: (a ++ b)) := fun w h => (List.mem_cons.mp h).elim (fun e => ha w (List.mem_cons.mpr (Or.inl e))) (fun h => (List.mem_append.mp h).elim (fun h => ha w (List.mem_cons.mpr (Or.inr h))) (hb w))
theorem goodIn_sub {big ws : List Cond} (hm : ∀ w ∈ ws, w ∈ big) (h : ws.all goodWord = true) : GoodIn big ws := fun w hw => ⟨hm w hw, good_of_word (List.all_eq_true.mp h w hw)⟩
/-! ===== END ===== -/

theorem vr_outer (c : ClassId) (N h0 : Nat) : ∀ i : Nat, Jvm.Free.Multi.outerC c N h0 i = arrV c N (fun j => va_rf (if j < i then some (h0 + 1 + j) else none))
  | 0 => by
    show ({ cls := c, slots := Array.replicate N .null, vm := .none } : Cell) = _
    rw [arrV_new]
    refine congrArg (arrV c N) (funext fun j => ?_)
    simp [va_rf]
  | i + 1 => by
    show (Jvm.Free.Multi.outerC c N h0 i).setSlot i (.ref (h0 + 1 + i)) = _
    rw [vr_outer c N h0 i, arrV_store]
    refine congrArg (arrV c N) (funext fun j => ?_)
    by_cases e : j = i
    · subst e
      simp [updV, va_rf]
    · by_cases h : j < i
      · simp [updV, e, h, Nat.lt_succ_of_lt h]
      · simp [updV, e, h, show ¬ j < i + 1 by omega]
/-! ===== BEGIN exceptions that leave a method, and their catching by the caller (launches without stack traces) ===== -/
section VXA
/-! The laws vx_back, vx_callV, vx_callS, vx_callSW, vx_throw0, vx_throwS follow proofs of the library, with one case more: JvmDerived/Free/Laws.lean (Back.of_free), Shelf42/LK1.lean (callV, callS), Shelf/KitTraced.lean (throwNew0V, throwNewS). -/
/-- where a method has thrown q: the class by its name, the cell, what was written, the world -/
def vx_T (XC : String → State → State → Prop) (st : State) (q : Addr) (t : State) (mc ms : Nat) (free : Addr → Prop) : Prop :=
  ∃ (E : String) (ce : Cell) (L : List Loc), XC E st t ∧ t.heap[q]? = some ce ∧ ce.vm = .none ∧ st.vm.findClass E = some ce.cls ∧ st.WarmedH t.vm ∧ st.sameButNew ({ t with vm := st.vm } : State) L mc ms ∧ ∀ z ∈ L, free z.base
def vx_Q (Qc : Array Value → State → Outcome → State → Prop) (XC : String → State → State → Prop) (mc ms : Nat) (free : Addr → Prop) : Array Value → State → Outcome → State → Prop := fun a st o t =>
  (Qc a st o t ∧ ∃ L, FrameEnd st o t L mc ms ∧ ∀ q ∈ L, free q.base) ∨ ∃ q, o = .threw q ∧ vx_T XC st q t mc ms free
/-- a callee that returns or throws -/
def vx_Met (l : Launch) (y : MethodName) (ws : List Cond) (rm : Room) (Pc : Array Value → State → Prop) (Qc : Array Value → State → Outcome → State → Prop) (XC : String → State → State → Prop) (mc ms : Nat) (free : Addr → Prop) : Prop :=
  MetFree l y (headSpec ws rm) Pc (fun _ _ _ _ _ => True) (vx_Q Qc XC mc ms free)
def vx_Post (XC : String → State → State → Prop) (mc ms : Nat) (free : Addr → Prop) : Pt → Array Value → Addr → Pt → Prop := fun A a q B =>
  ∃ (g : JFrame) (mk : MethodId) (t : State) (L : List Loc) (E : String) (ce : Cell), B.U.heap = t.heap ∧ B.U.vm = t.vm ∧ XC E (A.U.calling g mk a) t ∧ t.heap[q]? = some ce ∧ ce.vm = .none ∧ A.U.vm.findClass E = some ce.cls ∧ B.locs = A.locs ++ L ∧ (∀ z ∈ L, free z.base) ∧ B.cells = A.cells + mc ∧ B.slots = A.slots + ms
def vx_Back (l : Launch) (R : Room) (p : Program) (e : Env) (below : List Frame) (s : State) (sargs : Array Value) (y : MethodName) (len W9 : Nat)
    (Pre : Pt → Array Value → Prop) (Post : Pt → Array Value → Option Value → Pt → Prop) (PostX : Pt → Array Value → Addr → Pt → Prop) : Prop :=
  ∀ (m : MethodId) (meth : Method) (c : Code) (A : Pt) (g : JFrame) (ig : Instr) (mk : MethodId) (a : Array Value),
    Stand p l e R s m sargs below meth c A.U A.locs A.cells A.slots → g.method = m → g.locals.size = c.maxLocals → decode c.code g.pc = .ok (ig, len) →
    2 * g.monitorRoom + (g.stack.map fun v => v.category).sum ≤ W9 → A.U.methodNamed? y = some mk → Pre A a →
    (∃ (v : Option Value) (B : Pt), Stand p l e R s m sargs below meth c B.U B.locs B.cells B.slots ∧ Post A a v B ∧
      Steps p.tables e below (doInvoke e (A.U.setTop g) [] mk a).1 (B.U.setTop { g with pc := g.pc + len, stack := v.toList ++ g.stack })) ∨
    (∃ (q : Addr) (B : Pt), Stand p l e R s m sargs below meth c B.U B.locs B.cells B.slots ∧ PostX A a q B ∧
      Steps p.tables e below (doInvoke e (A.U.setTop g) [] mk a).1 ((B.U.setTop g).pushFrame (.throwing q)))
section Payer
variable {l : Launch} {R : Room} {p : Program} {e : Env} {below : List Frame} {s : State} {sargs : Array Value} {y : MethodName} {len W9 : Nat}
theorem vx_back {ws : List Cond} {rm : Room} {Pc : Array Value → State → Prop} {Qc : Array Value → State → Outcome → State → Prop} {XC : String → State → State → Prop} {mc ms : Nat} {free : Addr → Prop} {bytes : ByteArray} {maxL : Nat} {ret : Option FieldType}
    (hM : vx_Met l y ws rm Pc Qc XC mc ms free) (hblind : FrameBlind Pc) (hrc : rm.cells = mc) (hrs : rm.slots = ms)
    (hframes : rm.frames + 1 ≤ R.frames) (hlocals : W9 + (maxL + 11) + rm.locals ≤ R.locals)
    (hws : ∀ w ∈ ws, ∀ a' U, s.WarmedH U.vm → w.before a' U = true) (hcode : Cond.code y bytes maxL ret ∈ ws) (hinit : ∀ a' U, s.WarmedH U.vm → (Cond.initialized y.cls).before a' U = true) :
    vx_Back l R p e below s sargs y len W9 (PreOf R mc ms Pc) (PostOf Qc mc ms free) (vx_Post XC mc ms free) := by
  intro m meth c A g ig mk a X hg hsize hdg hW hn hp
  have h1 : (headSpec ws rm).pre.before a A.U = true := atoms_intro fun w hw => hws w hw _ _ X.warmed
  have h2 : (Cond.code y bytes maxL ret).before a A.U = true := hws _ hcode _ _ X.warmed
  have h3 : (Cond.initialized y.cls).before a A.U = true := hinit _ _ X.warmed
  have h4 : A.cells + (headSpec ws rm).room.cells ≤ R.cells := by rw [show (headSpec ws rm).room.cells = mc from hrc]; exact hp.1
  have h5 : A.slots + (headSpec ws rm).room.slots ≤ R.slots := by rw [show (headSpec ws rm).room.slots = ms from hrs]; exact hp.2.1
  have hPc : Pc a (A.U.calling g mk a) := hblind _ _ _ _ hp.2.2
  obtain ⟨U, Ls, c0, s0⟩ := A
  dsimp only [Pt.U, Pt.locs, Pt.cells, Pt.slots] at h1 h2 h3 h4 h5 X hn hPc ⊢
  obtain ⟨methY, cY, hmY, hcY, -, hlY, -, -, -, -⟩ := Cond.code_spec hn h2
  obtain ⟨kY, hkY, -⟩ := className_of_methodNamed hn
  have hinitY : kY.init = .initialized := Cond.initialized_spec (findClass_of_methodNamed hn) hkY h3
  have h : At U g.method c below := by rw [hg]; exact X.here
  have hlocals9 : W9 + (maxL + 11) + (headSpec ws rm).room.locals ≤ R.locals := hlocals
  have happ : (headSpec ws rm).appliesLoose y e.platform (U.calling g mk a) = true :=
    Spec.appliesLoose_calling (g := g) h hdg hn hkY hinitY
      (X.room_calling (g := g) (R' := (headSpec ws rm).room) hsize hmY hcY hframes (by rw [hlY]; omega) h4 h5) h1
  obtain ⟨mid, hmid⟩ := h.above
  have hfr : (U.setTop g).frames = (.java g :: mid) ++ below := by rw [State.frames_setTop' g h.top, hmid]; rfl
  obtain ⟨o, s₂, hsteps, -, hend, hq⟩ := Steps.callFree hM p X.admits X.cas X.clock (acts := []) hfr happ hPc trivial
  have hq' : vx_Q Qc XC mc ms free a (U.calling g mk a) o s₂ := hq
  rw [State.frames_setTop' g h.top] at hend
  obtain ⟨g₀, hg0⟩ := Option.isSome_iff_exists.mp h.top
  obtain ⟨r, hr⟩ := State.topJava?_eq_some.mp hg0
  have hr' : (({ U with heap := s₂.heap, slotsUsed := s₂.slotsUsed } : State).setVm s₂.vm).frames = .java g₀ :: r := hr
  rcases hq' with ⟨hqc, L, hfe, hL⟩ | ⟨q, rfl, E, ce, L, hx, hce, hcv, hcl, hW₂, hsm, hL⟩
  · obtain ⟨⟨v, rfl⟩, hW₂, e2, q2, q3, q4, q5, q6⟩ := id hfe
    have e3 : s₂ = ({ (U.calling g mk a).setFrames s₂.frames with heap := s₂.heap, slotsUsed := s₂.slotsUsed } : State).setVm s₂.vm := by
      have : s₂ = ({ s₂ with vm := (U.calling g mk a).vm } : State).setVm s₂.vm := rfl
      rw [e2] at this
      exact this
    obtain ⟨c₂, i₂, len₂, hc₂, hd₂, hf₂⟩ := hend
    have hW' : U.WarmedH s₂.vm := hW₂
    have hcc : c₂ = c := by
      have h1 : s₂.code? g.method = U.code? g.method := by
        rw [State.code?_eq, State.code?_eq, hW'.alike.method?]
      exact Option.some.inj (hc₂.symm.trans (h1.trans h.code))
    subst hcc
    have hlen : len₂ = len := by rw [hdg] at hd₂; cases hd₂; rfl
    subst hlen
    have hs₂ : s₂ = (({ U with heap := s₂.heap, slotsUsed := s₂.slotsUsed } : State).setVm s₂.vm).setTop { g with pc := g.pc + len₂, stack := v.toList ++ g.stack } := by
      refine e3.trans ?_
      rw [hf₂, State.calling_eq h.top, State.setFrames_setFrames, State.setTop_of_frames _ hr', hr]
      rfl
    have hsame : U.sameButNew ({ U with heap := s₂.heap, slotsUsed := s₂.slotsUsed } : State) L mc ms := by
      refine ⟨?_, q2, q3, q4, q5, q6⟩
      obtain ⟨t, ht, -⟩ := State.frames_cons hr
      show ({ U with heap := s₂.heap, slotsUsed := s₂.slotsUsed } : State) = { U.setFrames U.frames with heap := s₂.heap, slotsUsed := s₂.slotsUsed }
      rw [State.setFrames_self ht]
    subst hg
    refine Or.inl ⟨v, ⟨(({ U with heap := s₂.heap, slotsUsed := s₂.slotsUsed } : State).setVm s₂.vm), Ls ++ L, c0 + mc, s0 + ms⟩,
      ⟨X.admits, X.cas, X.clock, X.frames, X.room, X.hears, X.method, X.code, (X.here.setHeapUsed s₂.heap s₂.slotsUsed).setVm hW'.alike, X.tail, State.WarmedH.trans X.warmed hW', X.limits, X.bytes, X.same.trans (hsame.setVm s.vm)⟩,
      ⟨g, mk, s₂, L, rfl, rfl, hqc, rfl, hL, rfl, rfl⟩, ?_⟩
    show Steps p.tables e below _ ((({ U with heap := s₂.heap, slotsUsed := s₂.slotsUsed } : State).setVm s₂.vm).setTop { g with pc := g.pc + len₂, stack := v.toList ++ g.stack })
    rw [← hs₂]
    exact hsteps
  · obtain ⟨e2, q2, q3, q4, q5, q6⟩ := id hsm
    have e3 : s₂ = ({ (U.calling g mk a).setFrames s₂.frames with heap := s₂.heap, slotsUsed := s₂.slotsUsed } : State).setVm s₂.vm := by
      have : s₂ = ({ s₂ with vm := (U.calling g mk a).vm } : State).setVm s₂.vm := rfl
      rw [e2] at this
      exact this
    have hf₂ : s₂.frames = .throwing q :: .java g :: U.frames.tail := hend
    have hW' : U.WarmedH s₂.vm := hW₂
    have hs₂ : s₂ = ((({ U with heap := s₂.heap, slotsUsed := s₂.slotsUsed } : State).setVm s₂.vm).setTop g).pushFrame (.throwing q) := by
      refine e3.trans ?_
      rw [hf₂, State.calling_eq h.top, State.setFrames_setFrames, State.pushFrame, State.frames_setTop _ hr', State.setTop_of_frames _ hr', State.setFrames_setFrames, hr]
      rfl
    have hsame : U.sameButNew ({ U with heap := s₂.heap, slotsUsed := s₂.slotsUsed } : State) L mc ms := by
      refine ⟨?_, q2, q3, q4, q5, q6⟩
      obtain ⟨t, ht, -⟩ := State.frames_cons hr
      show ({ U with heap := s₂.heap, slotsUsed := s₂.slotsUsed } : State) = { U.setFrames U.frames with heap := s₂.heap, slotsUsed := s₂.slotsUsed }
      rw [State.setFrames_self ht]
    subst hg
    refine Or.inr ⟨q, ⟨(({ U with heap := s₂.heap, slotsUsed := s₂.slotsUsed } : State).setVm s₂.vm), Ls ++ L, c0 + mc, s0 + ms⟩,
      ⟨X.admits, X.cas, X.clock, X.frames, X.room, X.hears, X.method, X.code, (X.here.setHeapUsed s₂.heap s₂.slotsUsed).setVm hW'.alike, X.tail, State.WarmedH.trans X.warmed hW', X.limits, X.bytes, X.same.trans (hsame.setVm s.vm)⟩,
      ⟨g, mk, s₂, L, E, ce, rfl, rfl, hx, hce, hcv, hcl, rfl, hL, rfl, rfl⟩, ?_⟩
    show Steps p.tables e below _ (((({ U with heap := s₂.heap, slotsUsed := s₂.slotsUsed } : State).setVm s₂.vm).setTop g).pushFrame (.throwing q))
    rw [← hs₂]
    exact hsteps
end Payer
section Calls
variable {p : Program} {l : Launch} {e : Env} {R : Room} {s : State} {m : MethodId} {args : Array Value} {below : List Frame} {meth : Method} {c : Code} {T : State} {locs : List Loc} {cells slots : Nat}
theorem vx_callV (X : Stand p l e R s m args below meth c T locs cells slots) (hexec : p.tables.exec = Jvm.exec) {own C : String} {index : Nat} {y : MethodName} {bytes : ByteArray} {maxL : Nat} {ret : Option FieldType}
    (hown : s.vm.findClass own = some m.cls) (hlink : (Cond.methodLink own index y).before args s = true) (hinst : (Cond.instanceMethod y).before args s = true) (hsel : (Cond.selects C y y).before args s = true)
    (hcode : (Cond.code y bytes maxL ret).before args s = true) (hy : y.cls ≠ "java/lang/invoke/MethodHandle" ∧ y.cls ≠ "java/lang/invoke/VarHandle")
    {W9 : Nat} {Pre : Pt → Array Value → Prop} {Post : Pt → Array Value → Option Value → Pt → Prop} {PostX : Pt → Array Value → Addr → Pt → Prop} (hK : vx_Back l R p e below s args y 3 W9 Pre Post PostX)
    {b : Addr} {cellB : Cell} (hcell : T.heap[b]? = some cellB) (hobj : cellB.vm.isStatics = false) (hcls : s.vm.findClass C = some cellB.cls)
    {g : JFrame} (hg : g.method = m) (hsize : g.locals.size = c.maxLocals) {argsL rest : List Value} (hlen : ∀ sig, parseMethodDescriptor y.desc = some sig → argsL.length = sig.parameters.length)
    (hstack : g.stack = argsL.reverse ++ .ref b :: rest) (hW : 2 * g.monitorRoom + (rest.map fun v => v.category).sum ≤ W9) (hdg : decode c.code g.pc = .ok (.invokevirtual index, 3))
    (hpre : ∀ vm₁, s.WarmedH vm₁ → Pre ⟨T.setVm vm₁, locs, cells, slots⟩ (Value.ref b :: argsL).toArray) :
    (∃ (v : Option Value) (vm₁ : Vm) (B : Pt), s.WarmedH vm₁ ∧ Stand p l e R s m args below meth c B.U B.locs B.cells B.slots ∧ Post ⟨T.setVm vm₁, locs, cells, slots⟩ (Value.ref b :: argsL).toArray v B ∧
      ∀ target, Steps p.tables e below (B.U.setTop { g with pc := g.pc + 3, stack := v.toList ++ rest }) target → Steps p.tables e below (T.setTop g) target) ∨
    (∃ (q : Addr) (vm₁ : Vm) (B : Pt), s.WarmedH vm₁ ∧ Stand p l e R s m args below meth c B.U B.locs B.cells B.slots ∧ PostX ⟨T.setVm vm₁, locs, cells, slots⟩ (Value.ref b :: argsL).toArray q B ∧
      Steps p.tables e below (T.setTop g) ((B.U.setTop { g with stack := rest }).pushFrame (.throwing q))) := by
  obtain ⟨mk, methM, hnamed, hmethM, hstM, habM⟩ := Cond.instanceMethod_spec hinst
  obtain ⟨methM', cM, hmethM', -, -, -, -, -, -, hsigM⟩ := Cond.code_spec hnamed hcode
  cases hmethM.symm.trans hmethM'
  obtain ⟨c2, r2, m2, q1, q2, q3, q4, kP, hkP, hkPi⟩ := Cond.selects_spec hsel
  cases hcls.symm.trans q1
  cases (State.methodFound?_of_named hnamed hy).symm.trans q2
  cases hnamed.symm.trans q3
  have hselP : selectMethod e.platform s.vm cellB.cls mk = .method mk := by rw [Launch.admits_selectMethod X.admits]; exact q4
  obtain ⟨vm₁, X₁, hstep₁⟩ := X.invokevirtual hexec hown hlink hnamed hmethM hstM hkP hkPi hy (a := b) (cell := cellB) hcell
    (fun z h => by rw [h] at hobj; cases hobj) hselP hmethM habM hkP hkPi (g := g) hg (argsL := argsL) (rest := rest) (hlen _ hsigM) hstack hdg
  rcases hK m meth c ⟨T.setVm vm₁, locs, cells, slots⟩ { g with stack := rest } (.invokevirtual index) mk (Value.ref b :: argsL).toArray X₁ hg hsize hdg hW (X₁.named hnamed) (hpre vm₁ X₁.warmed) with ⟨v, B, X', hpost, hsteps⟩ | ⟨q, B, X', hpost, hsteps⟩
  · exact Or.inl ⟨v, vm₁, B, X₁.warmed, X', hpost, fun target h => hstep₁ _ fun acts => by rw [doInvoke_state]; exact hsteps.trans h⟩
  · exact Or.inr ⟨q, vm₁, B, X₁.warmed, X', hpost, hstep₁ _ fun acts => by rw [doInvoke_state]; exact hsteps⟩
theorem vx_callS (X : Stand p l e R s m args below meth c T locs cells slots) (hexec : p.tables.exec = Jvm.exec) {own : String} {index : Nat} {y : MethodName} {bytes : ByteArray} {maxL : Nat} {ret : Option FieldType}
    (hown : s.vm.findClass own = some m.cls) (hlink : (Cond.methodLink own index y).before args s = true) (hstat : (Cond.static y).before args s = true) (hinit : (Cond.initialized y.cls).before args s = true)
    (hcode : (Cond.code y bytes maxL ret).before args s = true) (hy : y.cls ≠ "java/lang/invoke/MethodHandle" ∧ y.cls ≠ "java/lang/invoke/VarHandle")
    {W9 : Nat} {Pre : Pt → Array Value → Prop} {Post : Pt → Array Value → Option Value → Pt → Prop} {PostX : Pt → Array Value → Addr → Pt → Prop} (hK : vx_Back l R p e below s args y 3 W9 Pre Post PostX)
    {g : JFrame} (hg : g.method = m) (hsize : g.locals.size = c.maxLocals) {argsL rest : List Value} (hlen : ∀ sig, parseMethodDescriptor y.desc = some sig → argsL.length = sig.parameters.length)
    (hstack : g.stack = argsL.reverse ++ rest) (hW : 2 * g.monitorRoom + (rest.map fun v => v.category).sum ≤ W9) (hdg : decode c.code g.pc = .ok (.invokestatic index, 3))
    (hpre : ∀ vm₁, s.WarmedH vm₁ → Pre ⟨T.setVm vm₁, locs, cells, slots⟩ argsL.toArray) :
    (∃ (v : Option Value) (vm₁ : Vm) (B : Pt), s.WarmedH vm₁ ∧ Stand p l e R s m args below meth c B.U B.locs B.cells B.slots ∧ Post ⟨T.setVm vm₁, locs, cells, slots⟩ argsL.toArray v B ∧
      ∀ target, Steps p.tables e below (B.U.setTop { g with pc := g.pc + 3, stack := v.toList ++ rest }) target → Steps p.tables e below (T.setTop g) target) ∨
    (∃ (q : Addr) (vm₁ : Vm) (B : Pt), s.WarmedH vm₁ ∧ Stand p l e R s m args below meth c B.U B.locs B.cells B.slots ∧ PostX ⟨T.setVm vm₁, locs, cells, slots⟩ argsL.toArray q B ∧
      Steps p.tables e below (T.setTop g) ((B.U.setTop { g with stack := rest }).pushFrame (.throwing q))) := by
  obtain ⟨mk, hnamed⟩ := Cond.code_named hcode
  obtain ⟨methM, cM, hmethM, -, -, -, -, -, -, hsigM⟩ := Cond.code_spec hnamed hcode
  have hstatic : methM.isStatic = true := Cond.static_spec hnamed hmethM hstat
  obtain ⟨kP, hkP, -⟩ := className_of_methodNamed hnamed
  have hinitP : kP.init = .initialized := Cond.initialized_spec (findClass_of_methodNamed hnamed) hkP hinit
  obtain ⟨vm₁, X₁, hstep₁⟩ := X.invokestatic hexec hown hlink hnamed hmethM hstatic hkP hinitP hy (g := g) hg (argsL := argsL) (rest := rest) (hlen _ hsigM) hstack hdg
  rcases hK m meth c ⟨T.setVm vm₁, locs, cells, slots⟩ { g with stack := rest } (.invokestatic index) mk argsL.toArray X₁ hg hsize hdg hW (X₁.named hnamed) (hpre vm₁ X₁.warmed) with ⟨v, B, X', hpost, hsteps⟩ | ⟨q, B, X', hpost, hsteps⟩
  · exact Or.inl ⟨v, vm₁, B, X₁.warmed, X', hpost, fun target h => hstep₁ _ fun acts => by rw [doInvoke_state]; exact hsteps.trans h⟩
  · exact Or.inr ⟨q, vm₁, B, X₁.warmed, X', hpost, hstep₁ _ fun acts => by rw [doInvoke_state]; exact hsteps⟩
end Calls
theorem vx_cls {s : State} {T : State} {vm₁ : Vm} {E : String} {k : ClassId} (hW : s.WarmedH vm₁) (h : (T.setVm vm₁).vm.findClass E = some k) : s.vm.findClass E = some k := by
  have h1 : vm₁.findClass E = some k := h
  rw [hW.alike.findClass] at h1
  exact h1
/-- the method's frame g, with q thrown over it -/
def vx_W (p : Program) (l : Launch) (e : Env) (R : Room) (s : State) (m : MethodId) (args : Array Value) (below : List Frame) (meth : Method) (c : Code) (H : Heap) (locs : List Loc) (cells slots : Nat) (Q : State → Prop) (g : JFrame) (q : Addr) : Prop :=
  ∀ T : State, T.heap = H → Stand p l e R s m args below meth c T locs cells slots → ∃ t, Steps p.tables e below ((T.setTop g).pushFrame (.throwing q)) t ∧ Q t
def vx_Run (p : Program) (l : Launch) (e : Env) (R : Room) (s : State) (m : MethodId) (args : Array Value) (below : List Frame) (meth : Method) (c : Code) (H : Heap) (locs : List Loc) (cells slots mc ms : Nat) (g : JFrame) (rest : List Value) (Qa : State → Outcome → State → Prop) (XC : String → State → State → Prop) (free : Addr → Prop) : Prop :=
  ∀ T : State, T.heap = H → Stand p l e R s m args below meth c T locs cells slots →
    (∃ (v : Option Value) (st₀ t T' : State) (L : List Loc), st₀.heap = H ∧ Stand p l e R s m args below meth c T' (locs ++ L) (cells + mc) (slots + ms) ∧ (∀ q ∈ L, free q.base) ∧ T'.heap = t.heap ∧ T'.vm = t.vm ∧ Qa st₀ (.returned v) t ∧
      Goes p e below T g T' { g with pc := g.pc + 3, stack := v.toList ++ rest }) ∨
    (∃ (q : Addr) (st₀ t T' : State) (L : List Loc) (E : String) (ce : Cell), st₀.heap = H ∧ Stand p l e R s m args below meth c T' (locs ++ L) (cells + mc) (slots + ms) ∧ (∀ z ∈ L, free z.base) ∧ T'.heap = t.heap ∧ T'.vm = t.vm ∧ XC E st₀ t ∧ t.heap[q]? = some ce ∧ ce.vm = .none ∧ s.vm.findClass E = some ce.cls ∧
      Steps p.tables e below (T.setTop g) ((T'.setTop { g with stack := rest }).pushFrame (.throwing q)))
def vx_X {S : Type} (px : S → Prop) (B : String → S → State → Prop) (A : Nat → Prop) : String → State → State → Prop := fun E st t => ∃ u : S, px u ∧ B E u t ∧ va_F A st t
section Runs
variable {p : Program} {l : Launch} {e : Env} {R : Room} {s : State} {m : MethodId} {args : Array Value} {below : List Frame} {meth : Method} {c : Code} {H : Heap} {locs : List Loc} {cells slots : Nat}
variable {y : MethodName} {bytes cc : ByteArray} {maxL nL mc ms n index : Nat} {ret : Option FieldType} {ws : List Cond} {rm : Room} {Pc : Array Value → State → Prop} {Qc : Array Value → State → Outcome → State → Prop} {XC : String → State → State → Prop} {free : Addr → Prop} {Ts : List Cond} {own C : String} {b : Addr} {As rest : List Value} {g : JFrame}
theorem vx_callBack (cb : CallB R s args own index y bytes maxL ret ws rm mc ms n) (hM : vx_Met l y ws rm Pc Qc XC mc ms free) (hbl : FrameBlind Pc) : vx_Back l R p e below s args y 3 8 (PreOf R mc ms Pc) (PostOf Qc mc ms free) (vx_Post XC mc ms free) := by
  obtain ⟨hrc, hrs, hfr, hlo, hws, hcw, -, hini, -⟩ := cb
  exact vx_back (bytes := bytes) (maxL := maxL) (ret := ret) hM hbl hrc hrs hfr hlo hws hcw (fun a' U hW => word_at hW (Or.inl (by first | rfl | simp [Cond.onTables, Cond.keeps, Cond.steady])) hini)
theorem vx_runV (S : CallFix p m c cc nL s args Ts own) (hM : vx_Met l y ws rm Pc Qc XC mc ms free) (cw : CallW R s args own C index y bytes maxL ret ws rm mc ms n) (hp : PreV s H C b Pc As)
    (hg : g.method = m) (hn : As.length = n) (hsize : g.locals.size = nL) (hstack : g.stack = As.reverse ++ .ref b :: rest) (hW : 2 * g.monitorRoom + (rest.map fun v => v.category).sum ≤ 8) (hdg : decode cc g.pc = .ok (.invokevirtual index, 3)) (hf : cells + mc ≤ R.cells ∧ slots + ms ≤ R.slots) :
    vx_Run p l e R s m args below meth c H locs cells slots mc ms g rest (Qc (Value.ref b :: As).toArray) XC free := by
  have hK : vx_Back l R p e below s args y 3 8 (PreOf R mc ms Pc) (PostOf Qc mc ms free) (vx_Post XC mc ms free) := vx_callBack cw.1 hM hp.1
  obtain ⟨⟨-, -, -, -, -, -, hcode, -, hy, hlen, hl⟩, hin, hse⟩ := cw
  obtain ⟨hx, hb, hml, ho, -⟩ := S
  obtain ⟨-, ⟨cellB, hcB, hoB, hclB⟩, hPc⟩ := hp
  intro T hT X
  rcases vx_callV X hx (C := C) (bytes := bytes) (maxL := maxL) (ret := ret) ho hl hin hse hcode hy hK (by rw [hT]; exact hcB) hoB hclB hg (hsize.trans hml.symm) (argsL := As) (rest := rest) (fun sig h => hn.trans (hlen sig h)) hstack hW (by rw [hb]; exact hdg)
    (fun vm₁ hW₁ => ⟨hf.1, hf.2, hPc (T.setVm vm₁) hT hW₁⟩) with ⟨v, vm₁, ⟨U', l2, c2, s2⟩, hW₁, X', ⟨g', mk, t, L, e1, e2, hq, h1, hL, h2, h3⟩, st⟩ | ⟨q, vm₁, ⟨U', l2, c2, s2⟩, hW₁, X', ⟨g', mk, t, L, E, ce, e1, e2, hq, hce, hcv, hcl, h1, hL, h2, h3⟩, st⟩
  · dsimp only [Pt.U, Pt.locs, Pt.cells, Pt.slots] at X' e1 e2 h1 h2 h3 st
    subst h1; subst h2; subst h3
    exact Or.inl ⟨v, (T.setVm vm₁).calling g' mk (Value.ref b :: As).toArray, t, U', L, hT, X', hL, e1, e2, hq, st⟩
  · dsimp only [Pt.U, Pt.locs, Pt.cells, Pt.slots] at X' e1 e2 h1 h2 h3 st hcl
    subst h1; subst h2; subst h3
    exact Or.inr ⟨q, (T.setVm vm₁).calling g' mk (Value.ref b :: As).toArray, t, U', L, E, ce, hT, X', hL, e1, e2, hq, hce, hcv, vx_cls hW₁ hcl, st⟩
theorem vx_runS (S : CallFix p m c cc nL s args Ts own) (hM : vx_Met l y ws rm Pc Qc XC mc ms free) (cw : CallB R s args own index y bytes maxL ret ws rm mc ms n ∧ (Cond.static y).before args s = true) (hp : PreS s H Pc As)
    (hg : g.method = m) (hn : As.length = n) (hsize : g.locals.size = nL) (hstack : g.stack = As.reverse ++ rest) (hW : 2 * g.monitorRoom + (rest.map fun v => v.category).sum ≤ 8) (hdg : decode cc g.pc = .ok (.invokestatic index, 3)) (hf : cells + mc ≤ R.cells ∧ slots + ms ≤ R.slots) :
    vx_Run p l e R s m args below meth c H locs cells slots mc ms g rest (Qc As.toArray) XC free := by
  have hK : vx_Back l R p e below s args y 3 8 (PreOf R mc ms Pc) (PostOf Qc mc ms free) (vx_Post XC mc ms free) := vx_callBack cw.1 hM hp.1
  obtain ⟨⟨-, -, -, -, -, -, hcode, hini, hy, hlen, hl⟩, hstt⟩ := cw
  obtain ⟨hx, hb, hml, ho, -⟩ := S
  intro T hT X
  rcases vx_callS X hx (bytes := bytes) (maxL := maxL) (ret := ret) ho hl hstt hini hcode hy hK hg (hsize.trans hml.symm) (argsL := As) (rest := rest) (fun sig h => hn.trans (hlen sig h)) hstack hW (by rw [hb]; exact hdg)
    (fun vm₁ hW₁ => ⟨hf.1, hf.2, hp.2 (T.setVm vm₁) hT hW₁⟩) with ⟨v, vm₁, ⟨U', l2, c2, s2⟩, hW₁, X', ⟨g', mk, t, L, e1, e2, hq, h1, hL, h2, h3⟩, st⟩ | ⟨q, vm₁, ⟨U', l2, c2, s2⟩, hW₁, X', ⟨g', mk, t, L, E, ce, e1, e2, hq, hce, hcv, hcl, h1, hL, h2, h3⟩, st⟩
  · dsimp only [Pt.U, Pt.locs, Pt.cells, Pt.slots] at X' e1 e2 h1 h2 h3 st
    subst h1; subst h2; subst h3
    exact Or.inl ⟨v, (T.setVm vm₁).calling g' mk As.toArray, t, U', L, hT, X', hL, e1, e2, hq, st⟩
  · dsimp only [Pt.U, Pt.locs, Pt.cells, Pt.slots] at X' e1 e2 h1 h2 h3 st hcl
    subst h1; subst h2; subst h3
    exact Or.inr ⟨q, (T.setVm vm₁).calling g' mk As.toArray, t, U', L, E, ce, hT, X', hL, e1, e2, hq, hce, hcv, vx_cls hW₁ hcl, st⟩
end Runs
section Rows
variable {p : Program} {l : Launch} {e : Env} {R : Room} {s : State} {m : MethodId} {args : Array Value} {below : List Frame} {meth : Method} {c : Code} {H : Heap} {locs : List Loc} {cells slots : Nat} {Q : State → Prop}
variable {mc ms : Nat} {free : Addr → Prop} {A0 A1 : Nat → Prop} {H0 : Heap} {a : Array Value} {pc : Nat} {ls : Array Slot} {st0 rest : List Value}
theorem vx_keep {st₀ t T' : State} {L : List Loc} (h0 : st₀.heap = H) (e1 : T'.heap = t.heap) (hS : va_S A0 H0 H locs) (hA : ∀ q, q < H.size → A1 q → A0 q) (hf : ∀ q, free q → A0 q) (hL : ∀ q ∈ L, free q.base) (hF : va_F A1 st₀ t) :
    H.size ≤ T'.heap.size ∧ (∀ q : Nat, q < H.size → ¬ A1 q → T'.heap[q]? = H[q]?) ∧ va_S A0 H0 T'.heap (locs ++ L) := by
  obtain ⟨hz, hk⟩ := hF
  rw [h0] at hz hk
  exact ⟨by rw [e1]; exact hz, fun q h1 h2 => by rw [e1]; exact hk q h1 h2,
    ⟨Nat.le_trans hS.1 (by rw [e1]; exact hz), fun q h1 h2 => by rw [e1, hk q (Nat.lt_of_lt_of_le h1 hS.1) (fun z => h2 (hA q (Nat.lt_of_lt_of_le h1 hS.1) z))]; exact hS.2.1 q h1 h2, fun q hq => by
      rcases List.mem_append.mp hq with h | h
      · exact hS.2.2 q h
      · exact hf _ (hL q h)⟩⟩
theorem vx_calli {S SX : Type} {post : Int32 → S → Prop} {px : SX → Prop} {B : S → State → Prop} {BX : String → SX → State → Prop} {AX : Nat → Prop} (hr : vx_Run p l e R s m args below meth c H locs cells slots mc ms (F0 m pc ls st0) rest (va_Qi post B A1 a) (vx_X px BX AX) free) (hS : va_S A0 H0 H locs) (hA : ∀ q, q < H.size → A1 q → A0 q) (hf : ∀ q, free q → A0 q) (hAX : ∀ q, q < H.size → AX q → A0 q)
    (kx : ∀ (E : String) (ce : Cell) (q9 : Addr) (u : SX) (t : State) (H1 : Heap) (locs1 : List Loc), t.heap = H1 → s.vm.Alike t.vm → px u → BX E u t → H.size ≤ H1.size → (∀ q : Nat, q < H.size → ¬ AX q → H1[q]? = H[q]?) → va_S A0 H0 H1 locs1 → H1[q9]? = some ce → ce.vm = .none → s.vm.findClass E = some ce.cls → vx_W p l e R s m args below meth c H1 locs1 (cells + mc) (slots + ms) Q (F0 m pc ls rest) q9)
    (kk : ∀ (r : Int32) (u : S) (t : State) (H1 : Heap) (locs1 : List Loc), t.heap = H1 → s.vm.Alike t.vm → post r u → B u t → H.size ≤ H1.size → (∀ q : Nat, q < H.size → ¬ A1 q → H1[q]? = H[q]?) → va_S A0 H0 H1 locs1 → W p l e R s m args below meth c H1 locs1 (cells + mc) (slots + ms) Q (F0 m (pc + 3) ls (.int r :: rest))) : W p l e R s m args below meth c H locs cells slots Q (F0 m pc ls st0) := by
  intro T hT X
  rcases hr T hT X with ⟨v, st₀, t, T', L, h0, X', hL, e1, e2, ⟨⟨r, u, hv, hp, hb⟩, hF⟩, st⟩ | ⟨q, st₀, t, T', L, E, ce, h0, X', hL, e1, e2, ⟨u, hp, hb, hF⟩, hce, hcv, hcl, st⟩
  · cases hv
    obtain ⟨k1, k2, k3⟩ := vx_keep h0 e1 hS hA hf hL hF
    obtain ⟨t2, a1, b1⟩ := kk r u t T'.heap (locs ++ L) e1.symm (by rw [← e2]; exact X'.warmed.alike) hp hb k1 k2 k3 T' rfl X'
    exact ⟨t2, st t2 a1, b1⟩
  · obtain ⟨k1, k2, k3⟩ := vx_keep h0 e1 hS hAX hf hL hF
    obtain ⟨t2, a1, b1⟩ := kx E ce q u t T'.heap (locs ++ L) e1.symm (by rw [← e2]; exact X'.warmed.alike) hp hb k1 k2 k3 (by rw [e1]; exact hce) hcv hcl T' rfl X'
    exact ⟨t2, st.trans a1, b1⟩
theorem vx_calll {S SX : Type} {post : Int64 → S → Prop} {px : SX → Prop} {B : S → State → Prop} {BX : String → SX → State → Prop} {AX : Nat → Prop} (hr : vx_Run p l e R s m args below meth c H locs cells slots mc ms (F0 m pc ls st0) rest (va_Ql post B A1 a) (vx_X px BX AX) free) (hS : va_S A0 H0 H locs) (hA : ∀ q, q < H.size → A1 q → A0 q) (hf : ∀ q, free q → A0 q) (hAX : ∀ q, q < H.size → AX q → A0 q)
    (kx : ∀ (E : String) (ce : Cell) (q9 : Addr) (u : SX) (t : State) (H1 : Heap) (locs1 : List Loc), t.heap = H1 → s.vm.Alike t.vm → px u → BX E u t → H.size ≤ H1.size → (∀ q : Nat, q < H.size → ¬ AX q → H1[q]? = H[q]?) → va_S A0 H0 H1 locs1 → H1[q9]? = some ce → ce.vm = .none → s.vm.findClass E = some ce.cls → vx_W p l e R s m args below meth c H1 locs1 (cells + mc) (slots + ms) Q (F0 m pc ls rest) q9)
    (kk : ∀ (r : Int64) (u : S) (t : State) (H1 : Heap) (locs1 : List Loc), t.heap = H1 → s.vm.Alike t.vm → post r u → B u t → H.size ≤ H1.size → (∀ q : Nat, q < H.size → ¬ A1 q → H1[q]? = H[q]?) → va_S A0 H0 H1 locs1 → W p l e R s m args below meth c H1 locs1 (cells + mc) (slots + ms) Q (F0 m (pc + 3) ls (.long r :: rest))) : W p l e R s m args below meth c H locs cells slots Q (F0 m pc ls st0) := by
  intro T hT X
  rcases hr T hT X with ⟨v, st₀, t, T', L, h0, X', hL, e1, e2, ⟨⟨r, u, hv, hp, hb⟩, hF⟩, st⟩ | ⟨q, st₀, t, T', L, E, ce, h0, X', hL, e1, e2, ⟨u, hp, hb, hF⟩, hce, hcv, hcl, st⟩
  · cases hv
    obtain ⟨k1, k2, k3⟩ := vx_keep h0 e1 hS hA hf hL hF
    obtain ⟨t2, a1, b1⟩ := kk r u t T'.heap (locs ++ L) e1.symm (by rw [← e2]; exact X'.warmed.alike) hp hb k1 k2 k3 T' rfl X'
    exact ⟨t2, st t2 a1, b1⟩
  · obtain ⟨k1, k2, k3⟩ := vx_keep h0 e1 hS hAX hf hL hF
    obtain ⟨t2, a1, b1⟩ := kx E ce q u t T'.heap (locs ++ L) e1.symm (by rw [← e2]; exact X'.warmed.alike) hp hb k1 k2 k3 (by rw [e1]; exact hce) hcv hcl T' rfl X'
    exact ⟨t2, st.trans a1, b1⟩
theorem vx_callf {S SX : Type} {post : UInt32 → S → Prop} {px : SX → Prop} {B : S → State → Prop} {BX : String → SX → State → Prop} {AX : Nat → Prop} (hr : vx_Run p l e R s m args below meth c H locs cells slots mc ms (F0 m pc ls st0) rest (va_Qf post B A1 a) (vx_X px BX AX) free) (hS : va_S A0 H0 H locs) (hA : ∀ q, q < H.size → A1 q → A0 q) (hf : ∀ q, free q → A0 q) (hAX : ∀ q, q < H.size → AX q → A0 q)
    (kx : ∀ (E : String) (ce : Cell) (q9 : Addr) (u : SX) (t : State) (H1 : Heap) (locs1 : List Loc), t.heap = H1 → s.vm.Alike t.vm → px u → BX E u t → H.size ≤ H1.size → (∀ q : Nat, q < H.size → ¬ AX q → H1[q]? = H[q]?) → va_S A0 H0 H1 locs1 → H1[q9]? = some ce → ce.vm = .none → s.vm.findClass E = some ce.cls → vx_W p l e R s m args below meth c H1 locs1 (cells + mc) (slots + ms) Q (F0 m pc ls rest) q9)
    (kk : ∀ (r : UInt32) (u : S) (t : State) (H1 : Heap) (locs1 : List Loc), t.heap = H1 → s.vm.Alike t.vm → post r u → B u t → H.size ≤ H1.size → (∀ q : Nat, q < H.size → ¬ A1 q → H1[q]? = H[q]?) → va_S A0 H0 H1 locs1 → W p l e R s m args below meth c H1 locs1 (cells + mc) (slots + ms) Q (F0 m (pc + 3) ls (.float r :: rest))) : W p l e R s m args below meth c H locs cells slots Q (F0 m pc ls st0) := by
  intro T hT X
  rcases hr T hT X with ⟨v, st₀, t, T', L, h0, X', hL, e1, e2, ⟨⟨r, u, hv, hp, hb⟩, hF⟩, st⟩ | ⟨q, st₀, t, T', L, E, ce, h0, X', hL, e1, e2, ⟨u, hp, hb, hF⟩, hce, hcv, hcl, st⟩
  · cases hv
    obtain ⟨k1, k2, k3⟩ := vx_keep h0 e1 hS hA hf hL hF
    obtain ⟨t2, a1, b1⟩ := kk r u t T'.heap (locs ++ L) e1.symm (by rw [← e2]; exact X'.warmed.alike) hp hb k1 k2 k3 T' rfl X'
    exact ⟨t2, st t2 a1, b1⟩
  · obtain ⟨k1, k2, k3⟩ := vx_keep h0 e1 hS hAX hf hL hF
    obtain ⟨t2, a1, b1⟩ := kx E ce q u t T'.heap (locs ++ L) e1.symm (by rw [← e2]; exact X'.warmed.alike) hp hb k1 k2 k3 (by rw [e1]; exact hce) hcv hcl T' rfl X'
    exact ⟨t2, st.trans a1, b1⟩
theorem vx_calld {S SX : Type} {post : UInt64 → S → Prop} {px : SX → Prop} {B : S → State → Prop} {BX : String → SX → State → Prop} {AX : Nat → Prop} (hr : vx_Run p l e R s m args below meth c H locs cells slots mc ms (F0 m pc ls st0) rest (va_Qd post B A1 a) (vx_X px BX AX) free) (hS : va_S A0 H0 H locs) (hA : ∀ q, q < H.size → A1 q → A0 q) (hf : ∀ q, free q → A0 q) (hAX : ∀ q, q < H.size → AX q → A0 q)
    (kx : ∀ (E : String) (ce : Cell) (q9 : Addr) (u : SX) (t : State) (H1 : Heap) (locs1 : List Loc), t.heap = H1 → s.vm.Alike t.vm → px u → BX E u t → H.size ≤ H1.size → (∀ q : Nat, q < H.size → ¬ AX q → H1[q]? = H[q]?) → va_S A0 H0 H1 locs1 → H1[q9]? = some ce → ce.vm = .none → s.vm.findClass E = some ce.cls → vx_W p l e R s m args below meth c H1 locs1 (cells + mc) (slots + ms) Q (F0 m pc ls rest) q9)
    (kk : ∀ (r : UInt64) (u : S) (t : State) (H1 : Heap) (locs1 : List Loc), t.heap = H1 → s.vm.Alike t.vm → post r u → B u t → H.size ≤ H1.size → (∀ q : Nat, q < H.size → ¬ A1 q → H1[q]? = H[q]?) → va_S A0 H0 H1 locs1 → W p l e R s m args below meth c H1 locs1 (cells + mc) (slots + ms) Q (F0 m (pc + 3) ls (.double r :: rest))) : W p l e R s m args below meth c H locs cells slots Q (F0 m pc ls st0) := by
  intro T hT X
  rcases hr T hT X with ⟨v, st₀, t, T', L, h0, X', hL, e1, e2, ⟨⟨r, u, hv, hp, hb⟩, hF⟩, st⟩ | ⟨q, st₀, t, T', L, E, ce, h0, X', hL, e1, e2, ⟨u, hp, hb, hF⟩, hce, hcv, hcl, st⟩
  · cases hv
    obtain ⟨k1, k2, k3⟩ := vx_keep h0 e1 hS hA hf hL hF
    obtain ⟨t2, a1, b1⟩ := kk r u t T'.heap (locs ++ L) e1.symm (by rw [← e2]; exact X'.warmed.alike) hp hb k1 k2 k3 T' rfl X'
    exact ⟨t2, st t2 a1, b1⟩
  · obtain ⟨k1, k2, k3⟩ := vx_keep h0 e1 hS hAX hf hL hF
    obtain ⟨t2, a1, b1⟩ := kx E ce q u t T'.heap (locs ++ L) e1.symm (by rw [← e2]; exact X'.warmed.alike) hp hb k1 k2 k3 (by rw [e1]; exact hce) hcv hcl T' rfl X'
    exact ⟨t2, st.trans a1, b1⟩
theorem vx_callv {S SX : Type} {post : S → Prop} {px : SX → Prop} {B : S → State → Prop} {BX : String → SX → State → Prop} {AX : Nat → Prop} (hr : vx_Run p l e R s m args below meth c H locs cells slots mc ms (F0 m pc ls st0) rest (va_Qv post B A1 a) (vx_X px BX AX) free) (hS : va_S A0 H0 H locs) (hA : ∀ q, q < H.size → A1 q → A0 q) (hf : ∀ q, free q → A0 q) (hAX : ∀ q, q < H.size → AX q → A0 q)
    (kx : ∀ (E : String) (ce : Cell) (q9 : Addr) (u : SX) (t : State) (H1 : Heap) (locs1 : List Loc), t.heap = H1 → s.vm.Alike t.vm → px u → BX E u t → H.size ≤ H1.size → (∀ q : Nat, q < H.size → ¬ AX q → H1[q]? = H[q]?) → va_S A0 H0 H1 locs1 → H1[q9]? = some ce → ce.vm = .none → s.vm.findClass E = some ce.cls → vx_W p l e R s m args below meth c H1 locs1 (cells + mc) (slots + ms) Q (F0 m pc ls rest) q9)
    (kk : ∀ (u : S) (t : State) (H1 : Heap) (locs1 : List Loc), t.heap = H1 → s.vm.Alike t.vm → post u → B u t → H.size ≤ H1.size → (∀ q : Nat, q < H.size → ¬ A1 q → H1[q]? = H[q]?) → va_S A0 H0 H1 locs1 → W p l e R s m args below meth c H1 locs1 (cells + mc) (slots + ms) Q (F0 m (pc + 3) ls (rest))) : W p l e R s m args below meth c H locs cells slots Q (F0 m pc ls st0) := by
  intro T hT X
  rcases hr T hT X with ⟨v, st₀, t, T', L, h0, X', hL, e1, e2, ⟨⟨u, hv, hp, hb⟩, hF⟩, st⟩ | ⟨q, st₀, t, T', L, E, ce, h0, X', hL, e1, e2, ⟨u, hp, hb, hF⟩, hce, hcv, hcl, st⟩
  · cases hv
    obtain ⟨k1, k2, k3⟩ := vx_keep h0 e1 hS hA hf hL hF
    obtain ⟨t2, a1, b1⟩ := kk u t T'.heap (locs ++ L) e1.symm (by rw [← e2]; exact X'.warmed.alike) hp hb k1 k2 k3 T' rfl X'
    exact ⟨t2, st t2 a1, b1⟩
  · obtain ⟨k1, k2, k3⟩ := vx_keep h0 e1 hS hAX hf hL hF
    obtain ⟨t2, a1, b1⟩ := kx E ce q u t T'.heap (locs ++ L) e1.symm (by rw [← e2]; exact X'.warmed.alike) hp hb k1 k2 k3 (by rw [e1]; exact hce) hcv hcl T' rfl X'
    exact ⟨t2, st.trans a1, b1⟩
/-- caught by the row x of this method's table; the rows ahead don't take it -/
theorem vx_catch {own name : String} {E : String} {ce : Cell} {q : Addr} (hown : s.vm.findClass own = some m.cls) (pre : List ExceptionTableEntry) (x : ExceptionTableEntry) (suf : List ExceptionTableEntry) (hsplit : c.exceptionTable.toList = pre ++ x :: suf)
    (hpass : ∀ z ∈ pre, covers z pc = false ∨ (z.catchType ≠ 0 ∧ ∃ nm : String, (Cond.classLink own z.catchType nm).before args s = true ∧ va_Nc E nm s)) (hx : covers x pc = true) (h0 : x.catchType ≠ 0)
    (hlink : (Cond.classLink own x.catchType name).before args s = true) (hcast : (Cond.castable E name).before args s = true) (hcell : H[q]? = some ce) (hv : ce.vm = .none) (hcl : s.vm.findClass E = some ce.cls)
    (kk : W p l e R s m args below meth c H locs cells slots Q (F0 m x.handlerPc ls [.ref q])) : vx_W p l e R s m args below meth c H locs cells slots Q (F0 m pc ls rest) q := by
  intro T hT X
  have hpl : e.platform.magicAccessors = ({} : Platform).magicAccessors := by rw [X.admits.platform]
  obtain ⟨c3, c4, hc3, hc4, hasg⟩ := Cond.castable_spec hcast
  cases Option.some.inj (hc3.symm.trans hcl)
  obtain ⟨c5, hc5, hcl5⟩ := Cond.classLink_spec hown hlink e.platform hpl
  cases Option.some.inj (hc4.symm.trans hc5)
  obtain ⟨vm', X', st⟩ := X.thenCaughtThrough q (g := F0 m pc ls rest) rfl (Steps.refl _) (by rw [hT]; exact hcell) (by rw [hv]; rfl) (by obtain ⟨k9, h9, -⟩ := Vm.findClass_spec hcl; exact ⟨k9, h9⟩) pre x suf hsplit
    (fun z hz => by
      rcases hpass z hz with h | ⟨hz0, nm, hl1, hn1⟩
      · exact Or.inl h
      · obtain ⟨c6, hc6, hcl6⟩ := Cond.classLink_spec hown hl1 e.platform hpl
        obtain ⟨a8, b8, h1, h2, h3⟩ := hn1
        cases Option.some.inj (h1.symm.trans hcl)
        cases Option.some.inj (h2.symm.trans hc6)
        exact Or.inr ⟨hz0, _, hcl6, h3⟩) hx (Or.inr ⟨h0, c4, hcl5, hasg⟩)
  obtain ⟨t, a1, b1⟩ := kk (T.setVm vm') hT X'
  exact ⟨t, st.trans a1, b1⟩
end Rows
section Ends
variable {p : Program} {l : Launch} {e : Env} {R : Room} {s : State} {m : MethodId} {args : Array Value} {below : List Frame} {meth : Method} {c : Code} {H : Heap} {locs : List Loc} {cells slots : Nat} {Q : State → Prop}
variable {mc ms : Nat} {free : Addr → Prop} {A0 A1 : Nat → Prop} {H0 : Heap} {a : Array Value} {ls : Array Slot} {st0 rest : List Value}
variable {Qc : Array Value → State → Outcome → State → Prop} {XC : String → State → State → Prop}
/-- what a body that may throw owes at its end -/
def vx_MQ (below : List Frame) (Qc : Array Value → State → Outcome → State → Prop) (XC : String → State → State → Prop) (a : Array Value) (s : State) (mc ms : Nat) (free : Addr → Prop) : State → Prop := fun t =>
  ∃ o, t.status = .running ∧ Ended t below o ∧ vx_Q Qc XC mc ms free a s o t
theorem vx_ret {g : JFrame} {mc ms : Nat} (k : W p l e R s m args below meth c H locs cells slots (MQ below Qc args s mc ms free) g) : W p l e R s m args below meth c H locs cells slots (vx_MQ below Qc XC args s mc ms free) g := by
  intro T hT X
  obtain ⟨t, a1, o, b1, b2, b3, b4⟩ := k T hT X
  exact ⟨t, a1, o, b1, b2, Or.inl ⟨b3, b4⟩⟩
/-- not caught here: it goes on to the caller -/
theorem vx_widen {g : JFrame} {q : Addr} {k n : Nat} (h1 : cells ≤ k) (h2 : slots ≤ n) (kk : vx_W p l e R s m args below meth c H locs k n Q g q) : vx_W p l e R s m args below meth c H locs cells slots Q g q := fun T hT X => kk T hT (stand_widen X h1 h2)
theorem vx_out {pc : Nat} {E : String} {ce : Cell} {q : Addr} {mc ms : Nat} (hout : ∀ x ∈ c.exceptionTable.toList, covers x pc = false) (hlocks : meth.locks = false) (hcell : H[q]? = some ce) (hv : ce.vm = .none) (hcl : s.vm.findClass E = some ce.cls)
    (hx : ∀ t : State, t.heap = H → s.vm.Alike t.vm → XC E s t) (hf : ∀ z ∈ locs, free z.base) (hc : cells ≤ mc) (hs : slots ≤ ms) :
    vx_W p l e R s m args below meth c H locs cells slots (vx_MQ below Qc XC args s mc ms free) (F0 m pc ls rest) q := by
  intro T hT X
  obtain ⟨st1, hrun, hend, hW, hsm⟩ := X.leaveThrown q (g := F0 m pc ls rest) rfl rfl rfl hout hlocks
  have hcell9 : (T.setFrames (.throwing q :: below)).heap[q]? = some ce := by
    show T.heap[q]? = some ce
    rw [hT]; exact hcell
  exact ⟨_, st1, .threw q, hrun, hend, Or.inr ⟨q, rfl, E, ce, locs, hx _ hT hW.alike, hcell9, hv, hcl, hW, hsm.mono hc hs, hf⟩⟩
theorem vx_frame {U : State} {k n : Nat} (h : s.sameButNew ({ U with vm := s.vm } : State) locs k n) : s.heap.size ≤ U.heap.size ∧ ∀ q : Nat, q < s.heap.size → (∀ z ∈ locs, z.base ≠ q) → U.heap[q]? = s.heap[q]? := by
  obtain ⟨-, h2, -, -, -, h6⟩ := h
  refine ⟨h2, fun q hq hz => ?_⟩
  obtain ⟨c9, e1, e2, e3, e4⟩ := h6 q _ (Array.getElem?_eq_getElem hq)
  have hs : c9.slots = (s.heap[q]).slots := Array.ext_getElem? fun i => e4 i fun hm => hz _ hm rfl
  have h9 : c9 = s.heap[q] := by
    rw [hs] at e2
    exact e2
  have e5 : U.heap[q]? = some c9 := e1
  rw [e5, h9, Array.getElem?_eq_getElem hq]
/-- the words of a throw but the four that speak of the heap -/
def vx_no (w : Cond) : Bool := decide (w ≠ .isRef (.static Bundle.tN "UNASSIGNED_STACK" Bundle.steD)) && decide (w ≠ .isRef (.static Bundle.tN "SUPPRESSED_SENTINEL" Bundle.listD)) && decide (w ≠ .laysStatic Bundle.tN "UNASSIGNED_STACK" Bundle.steD) && decide (w ≠ .laysStatic Bundle.tN "SUPPRESSED_SENTINEL" Bundle.listD)
def vx_at0 (own : String) (ic : Nat) (X : String) (names : List String) : List Cond := (Bundle.ownAtoms0 own ic X names).filter vx_no
def vx_atS (own : String) (ic : Nat) (X : String) (names : List String) : List Cond := (Bundle.ownAtoms own ic X names).filter vx_no
/-- a word that the tables alone decide, or a good one -/
def vx_ot (w : Cond) : Bool := w.onTables || goodWord w
theorem vx_ot_at {args a' : Array Value} {s U : State} {w : Cond} (hW : s.WarmedH U.vm) (hvm : s.vm = U.vm) (hg : vx_ot w = true) (h : w.before args s = true) : w.before a' U = true := by
  simp only [vx_ot, Bool.or_eq_true] at hg
  rcases hg with hg | hg
  · exact va_tabs hg hvm h
  · exact word_at hW (good_of_word hg) h
/-- a list's words: the good ones out of the method's own list, the others by premises of their own -/
theorem vx_hat {args : Array Value} {s : State} {L B : List Cond} (h1 : ∀ w ∈ L.filter goodWord, w.before args s = true) (h2 : ∀ w ∈ L.filter (fun w => !goodWord w), w ∈ B) (h3 : ∀ w ∈ B, w.before args s = true) : ∀ w ∈ L, w.before args s = true := by
  intro w hw
  by_cases g : goodWord w = true
  · exact h1 w (List.mem_filter.mpr ⟨hw, g⟩)
  · refine h3 w (h2 w (List.mem_filter.mpr ⟨hw, ?_⟩))
    show (!goodWord w) = true
    cases hgw : goodWord w
    · rfl
    · exact absurd hgw g
theorem vx_c {args : Array Value} {s : State} {w : Cond} {B : List Cond} (h : w.before args s = true) (t : ∀ w ∈ B, w.before args s = true) : ∀ w' ∈ w :: B, w'.before args s = true := fun w' h' => (List.mem_cons.mp h').elim (fun e => by rw [e]; exact h) (t w')
theorem vx_n {args : Array Value} {s : State} : ∀ w ∈ ([] : List Cond), w.before args s = true := fun _ h => nomatch h
theorem vx_own {args : Array Value} {s : State} {L : List Cond} (h1 : ∀ w ∈ L.filter vx_no, w.before args s = true)
    (hU : (Cond.isRef (.static Bundle.tN "UNASSIGNED_STACK" Bundle.steD)).before args s = true) (hN : (Cond.isRef (.static Bundle.tN "SUPPRESSED_SENTINEL" Bundle.listD)).before args s = true)
    (lU : (Cond.laysStatic Bundle.tN "UNASSIGNED_STACK" Bundle.steD).before args s = true) (lN : (Cond.laysStatic Bundle.tN "SUPPRESSED_SENTINEL" Bundle.listD).before args s = true) : ∀ w ∈ L, w.before args s = true := by
  intro w hw
  by_cases e1 : w = .isRef (.static Bundle.tN "UNASSIGNED_STACK" Bundle.steD)
  · rw [e1]; exact hU
  · by_cases e2 : w = .isRef (.static Bundle.tN "SUPPRESSED_SENTINEL" Bundle.listD)
    · rw [e2]; exact hN
    · by_cases e3 : w = .laysStatic Bundle.tN "UNASSIGNED_STACK" Bundle.steD
      · rw [e3]; exact lU
      · by_cases e4 : w = .laysStatic Bundle.tN "SUPPRESSED_SENTINEL" Bundle.listD
        · rw [e4]; exact lN
        · exact h1 w (List.mem_filter.mpr ⟨hw, by unfold vx_no; rw [decide_eq_true e1, decide_eq_true e2, decide_eq_true e3, decide_eq_true e4]; rfl⟩)
/-- where a static field lies, its class's statics cell in H -/
def vx_L (C n d : String) (A : Nat → Prop) (U : State) (H : Heap) : Prop := ∃ (c : ClassId) (k : Class) (i : Nat) (f : Field) (a : Nat) (cell : Cell), U.vm.findClass C = some c ∧ U.fieldFound? C n d = some (c, k, i, f) ∧ f.isStatic = true ∧ k.statics = some a ∧ H[a]? = some cell ∧ cell.vm.isStatics = true ∧ cell.cls = c ∧ f.slot < cell.slots.size ∧ k.staticTypes[f.slot]? = some f.type ∧ ¬ A a
theorem vx_L.moved {C n d : String} {A : Nat → Prop} {u U : State} {H : Heap} (hvm : u.vm.Alike U.vm) (h : vx_L C n d A u H) : vx_L C n d A U H := by
  obtain ⟨c, k, i, f, a, cell, h1, h2, h3, h4, h5, h6, h7, h8, h9, h10⟩ := h
  obtain ⟨k', hi', he⟩ := State.fieldFound?_setVm hvm h2
  exact ⟨c, k', i, f, a, cell, by rw [hvm.findClass]; exact h1, hi', h3, by rw [he]; exact h4, h5, h6, h7, h8, by rw [he]; exact h9, h10⟩
theorem vx_L.kept {C n d : String} {A : Nat → Prop} {U : State} {H H1 : Heap} (h : vx_L C n d A U H) (hq : ∀ a : Nat, a < H.size → ¬ A a → H1[a]? = H[a]?) : vx_L C n d A U H1 := by
  obtain ⟨c, k, i, f, a, cell, h1, h2, h3, h4, h5, h6, h7, h8, h9, h10⟩ := h
  exact ⟨c, k, i, f, a, cell, h1, h2, h3, h4, by rw [hq a (Array.getElem?_eq_some_iff.mp h5).1 h10]; exact h5, h6, h7, h8, h9, h10⟩
theorem vx_L.narrow {C n d : String} {A B : Nat → Prop} {U : State} {H : Heap} (h : vx_L C n d A U H) (hAB : ∀ q, B q → A q) : vx_L C n d B U H := by
  obtain ⟨c, k, i, f, a, cell, h1, h2, h3, h4, h5, h6, h7, h8, h9, h10⟩ := h
  exact ⟨c, k, i, f, a, cell, h1, h2, h3, h4, h5, h6, h7, h8, h9, fun z => h10 (hAB _ z)⟩
theorem vx_L.word {C n d : String} {A : Nat → Prop} {s : State} {args : Array Value} (h : vx_L C n d A s s.heap) : (Cond.laysStatic C n d).before args s = true := by
  obtain ⟨c, k, i, f, a, cell, h1, h2, h3, h4, h5, h6, h7, h8, h9, -⟩ := h
  show (Cond.laysStatic C n d).holds args s none s [] = true
  exact Cond.laysStatic_of h1 h2 h3 h4 h5 h6 h7 h8 h9
/-- .. and what it holds: null or some reference -/
def vx_Zq (C n d : String) (A : Nat → Prop) (U : State) (H : Heap) : Prop := va_Zq C n d A U H ∧ vx_L C n d A U H
theorem vx_Zq.moved {C n d : String} {A : Nat → Prop} {u U : State} {H : Heap} (hvm : u.vm.Alike U.vm) (h : vx_Zq C n d A u H) : vx_Zq C n d A U H := ⟨va_Zq.moved hvm h.1, vx_L.moved hvm h.2⟩
theorem vx_Zq.kept {C n d : String} {A : Nat → Prop} {U : State} {H H1 : Heap} (h : vx_Zq C n d A U H) (hq : ∀ a : Nat, a < H.size → ¬ A a → H1[a]? = H[a]?) : vx_Zq C n d A U H1 := ⟨va_Zq.kept h.1 hq, vx_L.kept h.2 hq⟩
theorem vx_Zq.narrow {C n d : String} {A B : Nat → Prop} {U : State} {H : Heap} (h : vx_Zq C n d A U H) (hAB : ∀ q, B q → A q) : vx_Zq C n d B U H := ⟨va_Zq.narrow h.1 hAB, vx_L.narrow h.2 hAB⟩
theorem vx_Zqof {args : Array Value} {s : State} {C n d : String} {A : Nat → Prop} (hl : (Cond.laysStatic C n d).before args s = true) (hini : (Cond.initialized C).before args s = true) (h : (Cond.isRef (.static C n d)).before args s = true) (hA : ∀ a : Nat, a < s.heap.size → ¬ A a) : vx_Zq C n d A s s.heap := by
  refine ⟨va_Zqof hl hini h hA, ?_⟩
  obtain ⟨c, k, i, f, a, cell, h1, h2, h3, h4, h5, h6, h7, h8, h9⟩ := Cond.laysStatic_spec hl
  exact ⟨c, k, i, f, a, cell, h1, h2, h3, h4, h5, h6, h7, h8, h9, hA a (Array.getElem?_eq_some_iff.mp h5).1⟩
theorem vx_isRef {C n d : String} {v : Value} {A : Nat → Prop} {s : State} {args : Array Value} (h : va_Z C n d v A s s.heap) (hv : v.isRef = true) : (Cond.isRef (.static C n d)).before args s = true := by
  obtain ⟨cf, kf, fi, f, a, cell, h1, h2, h3, h4, h5, h6, h7, -⟩ := h
  have he : (Term.static C n d).eval args s none [] s = some v := by
    simp [Term.eval, State.fieldNamed?, h1, h2, h4, h5, h6, h7]
  simp only [Cond.before, Cond.holds, Cond.value, he]
  cases v <;> simp_all [Value.isRef]
theorem vx_isRefq {C n d : String} {A : Nat → Prop} {s : State} {args : Array Value} (h : va_Zq C n d A s s.heap) : (Cond.isRef (.static C n d)).before args s = true := by
  rcases h with h | ⟨t, h⟩
  · exact vx_isRef h rfl
  · exact vx_isRef h rfl
/-- the same frame, seen from here: as if the method were called anew in this heap -/
theorem vx_rebase {T : State} (X : Stand p l e R s m args below meth c T locs cells slots) {R' : Room} (hf : R'.frames ≤ R.frames) (hl : R'.locals ≤ R.locals) (hc : cells + R'.cells ≤ R.cells) (hs : slots + R'.slots ≤ R.slots) :
    Stand p l e R' ((T.setVm s.vm).setFrames (.invoking m args :: below)) m args below meth c T [] 0 0 := by
  have htop : (T.setVm s.vm).topJava?.isSome := X.here.top
  have hF : ((T.setVm s.vm).setFrames (.invoking m args :: below)).frames = .invoking m args :: below := State.frames_setFrames _ (State.cur_lt_of_top htop)
  obtain ⟨g₀, hg0⟩ := Option.isSome_iff_exists.mp htop
  obtain ⟨r, hr⟩ := State.topJava?_eq_some.mp hg0
  have hl9 : e.platform.stackLimits (T.setVm s.vm).me = e.platform.stackLimits s.me := X.limits
  have hb9 : (T.setVm s.vm).me.stackBytes = s.me.stackBytes := X.bytes
  refine ⟨X.admits, X.cas, X.clock, hF, ?_, X.hears, X.method, X.code, X.here, X.tail, X.warmed, ?_, ?_, ?_⟩
  · have h := X.room
    have hU : ((T.setVm s.vm).setFrames (.invoking m args :: below)).localsInUse = s.localsInUse := by
      rw [State.localsInUse_invoking hF (meth := meth) (c := c) X.method X.code, State.localsInUse_invoking X.frames X.method X.code]
    simp only [State.hasRoom, Bool.and_eq_true, decide_eq_true_eq] at h ⊢
    obtain ⟨⟨⟨⟨h1, h2, h3, h4, h5, h6⟩, h7⟩, h8⟩, h9⟩ := h
    rw [X.frames, List.length_cons] at h2 h3
    have q1 := X.heapSize
    have q2 := X.used
    simp only [hF, hU, List.length_cons, State.stackLimits_setFrames, State.stackBytes_setFrames, hl9, hb9]
    refine ⟨⟨⟨⟨by omega, by omega, by omega, by omega, by omega, h6⟩, ?_⟩, ?_⟩, X.book⟩
    · show T.heap.size + R'.cells ≤ e.platform.maxCells
      omega
    · show T.slotsUsed + R'.slots ≤ e.platform.maxSlots
      omega
  · rw [State.stackLimits_setFrames]; rfl
  · rw [State.stackBytes_setFrames]; rfl
  · refine ⟨?_, Nat.le_refl _, Nat.le_refl _, ?_, ?_, fun a c9 h9 => ⟨c9, h9, rfl, rfl, fun _ _ => rfl⟩⟩
    · obtain ⟨t, ht, -⟩ := State.frames_cons hr
      show T.setVm s.vm = { ((T.setVm s.vm).setFrames (.invoking m args :: below)).setFrames (T.setVm s.vm).frames with heap := T.heap, slotsUsed := T.slotsUsed }
      rw [State.setFrames_setFrames, State.setFrames_self ht]
      rfl
    · show T.slotsUsed = T.slotsUsed + ((T.heap.toList.drop T.heap.size).map (·.slots.size)).sum
      rw [List.drop_eq_nil_of_le (Nat.le_of_eq Array.length_toList)]
      rfl
    · show ((T.heap.toList.drop T.heap.size).map (·.slots.size)).sum ≤ 0
      rw [List.drop_eq_nil_of_le (Nat.le_of_eq Array.length_toList)]
      exact Nat.le_refl _
/-- 'throw new E()': new; dup; invokespecial; athrow -/
theorem vx_throw0 {cc : ByteArray} {pc : Nat} (hexec : p.tables.exec = Jvm.exec) (hb : c.code = cc) (hl : l.stackTraces = false) {own cls : String} {names : List String} {ik ic mc ms : Nat} {A : Nat → Prop}
    (hown : s.vm.findClass own = some m.cls) (hcls : Bundle.fit cls = true) (hnames : ∀ n ∈ names, Bundle.fit n = true)
    (hk : (Cond.classLink own ik cls).before args s = true) (hini : (Cond.initialized cls).before args s = true) (hat : ∀ w ∈ vx_at0 own ic cls names, w.before args s = true)
    (hgood : ∀ w ∈ Cond.classLink own ik cls :: Cond.initialized cls :: vx_at0 own ic cls names, vx_ot w = true)
    (hU : vx_Zq Bundle.tN "UNASSIGNED_STACK" Bundle.steD A s s.heap) (hN : vx_Zq Bundle.tN "SUPPRESSED_SENTINEL" Bundle.listD A s s.heap) (hS : va_S A s.heap H locs) (hsize : ls.size = c.maxLocals)
    (d0 : decode cc pc = .ok (.new ik, 3)) (d3 : decode cc (pc + 3) = .ok (.dup, 1)) (d4 : decode cc (pc + 4) = .ok (.invokespecial ic, 3)) (d7 : decode cc (pc + 7) = .ok (.athrow, 1))
    (hout : ∀ x ∈ c.exceptionTable.toList, covers x (pc + 7) = false)
    (hRframes : names.length + 3 < R.frames) (hRlocals : (rest.map fun v => v.category).sum + (13 * (names.length + 1) + 42) ≤ R.locals) (hRcells : cells + 1 ≤ R.cells) (hRslots : slots + 6 ≤ R.slots) (hlocks : meth.locks = false)
    (hx : ∀ t : State, s.vm.Alike t.vm → H.size ≤ t.heap.size → (∀ q : Nat, q < H.size → t.heap[q]? = H[q]?) → XC cls s t)
    (hf : ∀ z ∈ locs, free z.base) (hc : cells + 1 ≤ mc) (hs : slots + 6 ≤ ms) :
    W p l e R s m args below meth c H locs cells slots (vx_MQ below Qc XC args s mc ms free) (F0 m pc ls rest) := by
  intro T hT X
  have htr : e.platform.stackTraces = false := (show e.platform.stackTraces = l.stackTraces by rw [X.admits.platform]).trans hl
  have Y := vx_rebase X (R' := { frames := R.frames, locals := R.locals, cells := 1, slots := 6 }) (Nat.le_refl _) (Nat.le_refl _) hRcells hRslots
  obtain ⟨s', hA⟩ : ∃ z, z = (T.setVm s.vm).setFrames (.invoking m args :: below) := ⟨_, rfl⟩
  rw [← hA] at Y
  have hvm : s'.vm = s.vm := by rw [hA]; rfl
  have hhp : s'.heap = H := by rw [hA]; exact hT
  have hW0 : s.WarmedH s'.vm := by rw [hvm]; exact State.WarmedH.refl s
  have hat' : ∀ w ∈ vx_at0 own ic cls names, w.before args s' = true := fun w hw => vx_ot_at hW0 hvm.symm (hgood w (List.mem_cons_of_mem _ (List.mem_cons_of_mem _ hw))) (hat w hw)
  have hk' : (Cond.classLink own ik cls).before args s' = true := vx_ot_at hW0 hvm.symm (hgood _ List.mem_cons_self) hk
  have hini' : (Cond.initialized cls).before args s' = true := vx_ot_at hW0 hvm.symm (hgood _ (List.mem_cons_of_mem _ List.mem_cons_self)) hini
  have hU' : vx_Zq Bundle.tN "UNASSIGNED_STACK" Bundle.steD A s' s'.heap := by rw [hhp]; exact vx_Zq.moved hW0.alike (hU.kept hS.2.1)
  have hN' : vx_Zq Bundle.tN "SUPPRESSED_SENTINEL" Bundle.listD A s' s'.heap := by rw [hhp]; exact vx_Zq.moved hW0.alike (hN.kept hS.2.1)
  have h : ∀ w ∈ Bundle.ownAtoms0 own ic cls names, w.before args s' = true := vx_own hat' (vx_isRefq hU'.1) (vx_isRefq hN'.1) hU'.2.word hN'.2.word
  have hown' : s'.vm.findClass own = some m.cls := by rw [hvm]; exact hown
  have hins : (Cond.instantiable cls 6).before args s' = true := h _ (by simp [Bundle.ownAtoms0])
  obtain ⟨vm₁, cX, kX, hfX, hkX, -, -, X₁, st1⟩ := Y.newCold hexec (own := own) (C := cls) (index := ik) (n := 6) hown' hk' hins hini'
    (g := F0 m pc ls rest) rfl (by rw [hb]; exact d0) (Nat.le_refl _) (Nat.le_refl _)
  generalize hT1 : (T.setVm vm₁).pushCell { cls := cX, slots := kX.instanceTypes.map defaultValue, vm := .none } = T1 at X₁ st1
  have hcat : (Value.ref T.heap.size).category = 1 := rfl
  have hcellA : T1.heap[T.heap.size]? = some (freshCell cX kX) := by rw [← hT1]; exact State.heap_pushCell_size _ _
  have d3' : decode c.code (pc + 3) = .ok (.dup, 1) := by rw [hb]; exact d3
  obtain ⟨U, hsteps, hrun, hend, hW, hsame, ce, hce, hO⟩ := X₁.ctorThrow0 hexec htr (own := own) (cls := cls) (names := names) (ic := ic) hown' hcls hnames h (fun x hx => nomatch hx) hfX hkX hcellA (by rw [hhp, hT]; exact Nat.le_refl _)
    (g := { method := m, pc := pc + 4, locals := ls, stack := .ref T.heap.size :: .ref T.heap.size :: rest, locked := none }) rfl hsize rfl rfl (rest := rest) rfl
    (by rw [hb]; exact d4) (by rw [hb]; exact d7) hout hRframes (by simp only [List.map_cons, List.sum_cons, hcat]; omega) hlocks
  obtain ⟨f1, f2⟩ := vx_frame hsame
  rw [hhp] at f1 f2
  have hWs : s.WarmedH U.vm := State.WarmedH.trans hW0 hW
  have hcl : s.vm.findClass cls = some ce.cls := by
    have h9 := hO.cls
    rw [hvm] at h9
    exact h9
  have hall : s.sameButNew ({ U with vm := s.vm } : State) locs mc ms := by
    subst hA
    obtain ⟨e1, e2⟩ := hsame
    rw [State.setFrames_setFrames] at e1
    have h2 : (T.setVm s.vm).sameButNew ({ U with vm := s.vm } : State) [] (0 + 1) (0 + 6) := ⟨e1, e2⟩
    have h3 := X.same.trans h2
    rw [List.append_nil] at h3
    exact h3.mono hc hs
  refine ⟨U, ?_, .threw T.heap.size, hrun, hend, Or.inr ⟨T.heap.size, rfl, cls, ce, locs, hx U hWs.alike f1 (fun q hq => f2 q hq (fun z hz => nomatch hz)), hce, hO.vm, hcl, hWs, hall, hf⟩⟩
  refine st1 _ ?_
  show Steps p.tables e below (T1.setTop { method := m, pc := pc + 3, locals := ls, stack := .ref T.heap.size :: rest, locked := none }) _
  jvm_step X₁.here [X₁.here.top, hexec, d3', Value.category]
  exact hsteps
/-- 'throw new E("text")': new; dup; ldc; invokespecial; athrow -/
theorem vx_throwS {cc : ByteArray} {pc : Nat} (hexec : p.tables.exec = Jvm.exec) (hb : c.code = cc) (hl : l.stackTraces = false) {own cls text : String} {names : List String} {ik is ic mc ms sa : Nat} {A : Nat → Prop}
    (hown : s.vm.findClass own = some m.cls) (hcls : Bundle.fit cls = true) (hnames : ∀ n ∈ names, Bundle.fit n = true)
    (hk : (Cond.classLink own ik cls).before args s = true) (hini : (Cond.initialized cls).before args s = true) (hstr : vk_R own is text sa s) (hat : ∀ w ∈ vx_atS own ic cls names, w.before args s = true)
    (hgood : ∀ w ∈ Cond.classLink own ik cls :: Cond.initialized cls :: vx_atS own ic cls names, vx_ot w = true)
    (hU : vx_Zq Bundle.tN "UNASSIGNED_STACK" Bundle.steD A s s.heap) (hN : vx_Zq Bundle.tN "SUPPRESSED_SENTINEL" Bundle.listD A s s.heap) (hS : va_S A s.heap H locs) (hsize : ls.size = c.maxLocals)
    (d0 : decode cc pc = .ok (.new ik, 3)) (d3 : decode cc (pc + 3) = .ok (.dup, 1)) (d4 : decode cc (pc + 4) = .ok (.ldc is, 2)) (d6 : decode cc (pc + 6) = .ok (.invokespecial ic, 3)) (d9 : decode cc (pc + 9) = .ok (.athrow, 1))
    (hout : ∀ x ∈ c.exceptionTable.toList, covers x (pc + 9) = false)
    (hRframes : names.length + 3 < R.frames) (hRlocals : (rest.map fun v => v.category).sum + (13 * (names.length + 1) + 43) ≤ R.locals) (hRcells : cells + 1 ≤ R.cells) (hRslots : slots + 6 ≤ R.slots) (hlocks : meth.locks = false)
    (hx : ∀ t : State, s.vm.Alike t.vm → H.size ≤ t.heap.size → (∀ q : Nat, q < H.size → t.heap[q]? = H[q]?) → XC cls s t)
    (hf : ∀ z ∈ locs, free z.base) (hc : cells + 1 ≤ mc) (hs : slots + 6 ≤ ms) :
    W p l e R s m args below meth c H locs cells slots (vx_MQ below Qc XC args s mc ms free) (F0 m pc ls rest) := by
  intro T hT X
  have htr : e.platform.stackTraces = false := (show e.platform.stackTraces = l.stackTraces by rw [X.admits.platform]).trans hl
  have Y := vx_rebase X (R' := { frames := R.frames, locals := R.locals, cells := 1, slots := 6 }) (Nat.le_refl _) (Nat.le_refl _) hRcells hRslots
  obtain ⟨s', hA⟩ : ∃ z, z = (T.setVm s.vm).setFrames (.invoking m args :: below) := ⟨_, rfl⟩
  rw [← hA] at Y
  have hvm : s'.vm = s.vm := by rw [hA]; rfl
  have hhp : s'.heap = H := by rw [hA]; exact hT
  have hW0 : s.WarmedH s'.vm := by rw [hvm]; exact State.WarmedH.refl s
  have hat' : ∀ w ∈ vx_atS own ic cls names, w.before args s' = true := fun w hw => vx_ot_at hW0 hvm.symm (hgood w (List.mem_cons_of_mem _ (List.mem_cons_of_mem _ hw))) (hat w hw)
  have hk' : (Cond.classLink own ik cls).before args s' = true := vx_ot_at hW0 hvm.symm (hgood _ List.mem_cons_self) hk
  have hini' : (Cond.initialized cls).before args s' = true := vx_ot_at hW0 hvm.symm (hgood _ (List.mem_cons_of_mem _ List.mem_cons_self)) hini
  have hU' : vx_Zq Bundle.tN "UNASSIGNED_STACK" Bundle.steD A s' s'.heap := by rw [hhp]; exact vx_Zq.moved hW0.alike (hU.kept hS.2.1)
  have hN' : vx_Zq Bundle.tN "SUPPRESSED_SENTINEL" Bundle.listD A s' s'.heap := by rw [hhp]; exact vx_Zq.moved hW0.alike (hN.kept hS.2.1)
  have h : ∀ w ∈ Bundle.ownAtoms own ic cls names, w.before args s' = true := vx_own hat' (vx_isRefq hU'.1) (vx_isRefq hN'.1) hU'.2.word hN'.2.word
  have hown' : s'.vm.findClass own = some m.cls := by rw [hvm]; exact hown
  have hins : (Cond.instantiable cls 6).before args s' = true := h _ (by simp [Bundle.ownAtoms])
  obtain ⟨vm₁, cX, kX, hfX, hkX, -, -, X₁, st1⟩ := Y.newCold hexec (own := own) (C := cls) (index := ik) (n := 6) hown' hk' hins hini'
    (g := F0 m pc ls rest) rfl (by rw [hb]; exact d0) (Nat.le_refl _) (Nat.le_refl _)
  generalize hT1 : (T.setVm vm₁).pushCell { cls := cX, slots := kX.instanceTypes.map defaultValue, vm := .none } = T1 at X₁ st1
  have hcat : (Value.ref T.heap.size).category = 1 := rfl
  have hcellA : T1.heap[T.heap.size]? = some (freshCell cX kX) := by rw [← hT1]; exact State.heap_pushCell_size _ _
  have d3' : decode c.code (pc + 3) = .ok (.dup, 1) := by rw [hb]; exact d3
  have d4' : decode c.code (pc + 4) = .ok (.ldc is, 2) := by rw [hb]; exact d4
  have hstr' : vk_R own is text sa s' := vk_R.warm hW0 hstr
  obtain ⟨U, hsteps, hrun, hend, hW, hsame, ce, hce, hO⟩ := X₁.ctorThrowS hexec htr (own := own) (cls := cls) (names := names) (ic := ic) hown' hcls hnames h (fun x hx => nomatch hx) hfX hkX hcellA (by rw [hhp, hT]; exact Nat.le_refl _) (msg := .ref sa) rfl
    (g := { method := m, pc := pc + 6, locals := ls, stack := .ref sa :: .ref T.heap.size :: .ref T.heap.size :: rest, locked := none }) rfl hsize rfl rfl (rest := rest) rfl
    (by rw [hb]; exact d6) (by rw [hb]; exact d9) hout hRframes (by simp only [List.map_cons, List.sum_cons, hcat]; omega) hlocks
  obtain ⟨f1, f2⟩ := vx_frame hsame
  rw [hhp] at f1 f2
  have hWs : s.WarmedH U.vm := State.WarmedH.trans hW0 hW
  have hcl : s.vm.findClass cls = some ce.cls := by
    have h9 := hO.cls
    rw [hvm] at h9
    exact h9
  have hall : s.sameButNew ({ U with vm := s.vm } : State) locs mc ms := by
    subst hA
    obtain ⟨e1, e2⟩ := hsame
    rw [State.setFrames_setFrames] at e1
    have h2 : (T.setVm s.vm).sameButNew ({ U with vm := s.vm } : State) [] (0 + 1) (0 + 6) := ⟨e1, e2⟩
    have h3 := X.same.trans h2
    rw [List.append_nil] at h3
    exact h3.mono hc hs
  refine ⟨U, ?_, .threw T.heap.size, hrun, hend, Or.inr ⟨T.heap.size, rfl, cls, ce, locs, hx U hWs.alike f1 (fun q hq => f2 q hq (fun z hz => nomatch hz)), hce, hO.vm, hcl, hWs, hall, hf⟩⟩
  refine st1 _ ?_
  show Steps p.tables e below (T1.setTop { method := m, pc := pc + 3, locals := ls, stack := .ref T.heap.size :: rest, locked := none }) _
  jvm_step X₁.here [X₁.here.top, hexec, d3', Value.category]
  exact X₁.ldcString hexec (own := own) (text := text) (index := is) (a := sa) hown' hstr'.1 hstr'.2
    (g := { method := m, pc := pc + 4, locals := ls, stack := .ref T.heap.size :: .ref T.heap.size :: rest, locked := none }) rfl d4' _ hsteps
/-- 'throw new E("text")', the text by a wide index -/
theorem vx_throwSW {cc : ByteArray} {pc : Nat} (hexec : p.tables.exec = Jvm.exec) (hb : c.code = cc) (hl : l.stackTraces = false) {own cls text : String} {names : List String} {ik is ic mc ms sa : Nat} {A : Nat → Prop}
    (hown : s.vm.findClass own = some m.cls) (hcls : Bundle.fit cls = true) (hnames : ∀ n ∈ names, Bundle.fit n = true)
    (hk : (Cond.classLink own ik cls).before args s = true) (hini : (Cond.initialized cls).before args s = true) (hstr : vk_R own is text sa s) (hat : ∀ w ∈ vx_atS own ic cls names, w.before args s = true)
    (hgood : ∀ w ∈ Cond.classLink own ik cls :: Cond.initialized cls :: vx_atS own ic cls names, vx_ot w = true)
    (hU : vx_Zq Bundle.tN "UNASSIGNED_STACK" Bundle.steD A s s.heap) (hN : vx_Zq Bundle.tN "SUPPRESSED_SENTINEL" Bundle.listD A s s.heap) (hS : va_S A s.heap H locs) (hsize : ls.size = c.maxLocals)
    (d0 : decode cc pc = .ok (.new ik, 3)) (d3 : decode cc (pc + 3) = .ok (.dup, 1)) (d4 : decode cc (pc + 4) = .ok (.ldc_w is, 3)) (d7 : decode cc (pc + 7) = .ok (.invokespecial ic, 3)) (d10 : decode cc (pc + 10) = .ok (.athrow, 1))
    (hout : ∀ x ∈ c.exceptionTable.toList, covers x (pc + 10) = false)
    (hRframes : names.length + 3 < R.frames) (hRlocals : (rest.map fun v => v.category).sum + (13 * (names.length + 1) + 43) ≤ R.locals) (hRcells : cells + 1 ≤ R.cells) (hRslots : slots + 6 ≤ R.slots) (hlocks : meth.locks = false)
    (hx : ∀ t : State, s.vm.Alike t.vm → H.size ≤ t.heap.size → (∀ q : Nat, q < H.size → t.heap[q]? = H[q]?) → XC cls s t)
    (hf : ∀ z ∈ locs, free z.base) (hc : cells + 1 ≤ mc) (hs : slots + 6 ≤ ms) :
    W p l e R s m args below meth c H locs cells slots (vx_MQ below Qc XC args s mc ms free) (F0 m pc ls rest) := by
  intro T hT X
  have htr : e.platform.stackTraces = false := (show e.platform.stackTraces = l.stackTraces by rw [X.admits.platform]).trans hl
  have Y := vx_rebase X (R' := { frames := R.frames, locals := R.locals, cells := 1, slots := 6 }) (Nat.le_refl _) (Nat.le_refl _) hRcells hRslots
  obtain ⟨s', hA⟩ : ∃ z, z = (T.setVm s.vm).setFrames (.invoking m args :: below) := ⟨_, rfl⟩
  rw [← hA] at Y
  have hvm : s'.vm = s.vm := by rw [hA]; rfl
  have hhp : s'.heap = H := by rw [hA]; exact hT
  have hW0 : s.WarmedH s'.vm := by rw [hvm]; exact State.WarmedH.refl s
  have hat' : ∀ w ∈ vx_atS own ic cls names, w.before args s' = true := fun w hw => vx_ot_at hW0 hvm.symm (hgood w (List.mem_cons_of_mem _ (List.mem_cons_of_mem _ hw))) (hat w hw)
  have hk' : (Cond.classLink own ik cls).before args s' = true := vx_ot_at hW0 hvm.symm (hgood _ List.mem_cons_self) hk
  have hini' : (Cond.initialized cls).before args s' = true := vx_ot_at hW0 hvm.symm (hgood _ (List.mem_cons_of_mem _ List.mem_cons_self)) hini
  have hU' : vx_Zq Bundle.tN "UNASSIGNED_STACK" Bundle.steD A s' s'.heap := by rw [hhp]; exact vx_Zq.moved hW0.alike (hU.kept hS.2.1)
  have hN' : vx_Zq Bundle.tN "SUPPRESSED_SENTINEL" Bundle.listD A s' s'.heap := by rw [hhp]; exact vx_Zq.moved hW0.alike (hN.kept hS.2.1)
  have h : ∀ w ∈ Bundle.ownAtoms own ic cls names, w.before args s' = true := vx_own hat' (vx_isRefq hU'.1) (vx_isRefq hN'.1) hU'.2.word hN'.2.word
  have hown' : s'.vm.findClass own = some m.cls := by rw [hvm]; exact hown
  have hins : (Cond.instantiable cls 6).before args s' = true := h _ (by simp [Bundle.ownAtoms])
  obtain ⟨vm₁, cX, kX, hfX, hkX, -, -, X₁, st1⟩ := Y.newCold hexec (own := own) (C := cls) (index := ik) (n := 6) hown' hk' hins hini'
    (g := F0 m pc ls rest) rfl (by rw [hb]; exact d0) (Nat.le_refl _) (Nat.le_refl _)
  generalize hT1 : (T.setVm vm₁).pushCell { cls := cX, slots := kX.instanceTypes.map defaultValue, vm := .none } = T1 at X₁ st1
  have hcat : (Value.ref T.heap.size).category = 1 := rfl
  have hcellA : T1.heap[T.heap.size]? = some (freshCell cX kX) := by rw [← hT1]; exact State.heap_pushCell_size _ _
  have d3' : decode c.code (pc + 3) = .ok (.dup, 1) := by rw [hb]; exact d3
  have d4' : decode c.code (pc + 4) = .ok (.ldc_w is, 3) := by rw [hb]; exact d4
  have hstr' : vk_R own is text sa s' := vk_R.warm hW0 hstr
  obtain ⟨U, hsteps, hrun, hend, hW, hsame, ce, hce, hO⟩ := X₁.ctorThrowS hexec htr (own := own) (cls := cls) (names := names) (ic := ic) hown' hcls hnames h (fun x hx => nomatch hx) hfX hkX hcellA (by rw [hhp, hT]; exact Nat.le_refl _) (msg := .ref sa) rfl
    (g := { method := m, pc := pc + 7, locals := ls, stack := .ref sa :: .ref T.heap.size :: .ref T.heap.size :: rest, locked := none }) rfl hsize rfl rfl (rest := rest) rfl
    (by rw [hb]; exact d7) (by rw [hb]; exact d10) hout hRframes (by simp only [List.map_cons, List.sum_cons, hcat]; omega) hlocks
  obtain ⟨f1, f2⟩ := vx_frame hsame
  rw [hhp] at f1 f2
  have hWs : s.WarmedH U.vm := State.WarmedH.trans hW0 hW
  have hcl : s.vm.findClass cls = some ce.cls := by
    have h9 := hO.cls
    rw [hvm] at h9
    exact h9
  have hall : s.sameButNew ({ U with vm := s.vm } : State) locs mc ms := by
    subst hA
    obtain ⟨e1, e2⟩ := hsame
    rw [State.setFrames_setFrames] at e1
    have h2 : (T.setVm s.vm).sameButNew ({ U with vm := s.vm } : State) [] (0 + 1) (0 + 6) := ⟨e1, e2⟩
    have h3 := X.same.trans h2
    rw [List.append_nil] at h3
    exact h3.mono hc hs
  refine ⟨U, ?_, .threw T.heap.size, hrun, hend, Or.inr ⟨T.heap.size, rfl, cls, ce, locs, hx U hWs.alike f1 (fun q hq => f2 q hq (fun z hz => nomatch hz)), hce, hO.vm, hcl, hWs, hall, hf⟩⟩
  refine st1 _ ?_
  show Steps p.tables e below (T1.setTop { method := m, pc := pc + 3, locals := ls, stack := .ref T.heap.size :: rest, locked := none }) _
  jvm_step X₁.here [X₁.here.top, hexec, d3', Value.category]
  exact X₁.ldcStringW hexec (own := own) (text := text) (index := is) (a := sa) hown' hstr'.1 hstr'.2
    (g := { method := m, pc := pc + 4, locals := ls, stack := .ref T.heap.size :: .ref T.heap.size :: rest, locked := none }) rfl d4' _ hsteps
end Ends
section Bodies
variable {l : Launch}
theorem vx_ofW {y : MethodName} {ws ws' : List Cond} {rm : Room} {Pc : Array Value → State → Prop} {Qc : Array Value → State → Outcome → State → Prop} {XC : String → State → State → Prop} {mc ms : Nat} {free : Addr → Prop} {cc : ByteArray} {maxL : Nat} {ret : Option FieldType}
    (hy : plainName y.cls = true) (hw : ws = Cond.code y cc maxL ret :: ws')
    (body : ∀ p e s m args below meth c s₁, BodyLoose p l y (headSpec ws rm) cc maxL ret e s m args below meth c s₁ → c.maxLocals = maxL → (∀ x ∈ c.exceptionTable.toList, False) → Pc args s →
      W p l e (headSpec ws rm).room s m args below meth c s.heap [] 0 0 (vx_MQ below Qc XC args s mc ms free) (entryFrame m args maxL)) : vx_Met l y ws rm Pc Qc XC mc ms free := by
  refine MetFree.of_bodyS (code := cc) (maxLocals := maxL) (ret := ret) hy ?_ ?_
  · intro args s m h hn
    obtain ⟨meth, c, h1, h2, h3, h4, h5, h6, -, -⟩ := Cond.code_spec hn (atoms_spec (ws := ws) h _ (by rw [hw]; exact List.mem_cons_self))
    exact ⟨meth, c, h1, h2, h3, h4, h5, h6⟩
  · intro p e s m args below meth c s₁ B hml hP _
    have hh0 : s₁.heap = s.heap := by rw [B.state]; rfl
    have ht : ∀ x ∈ c.exceptionTable.toList, False := by
      obtain ⟨meth9, c9, h1, h2, -, -, -, -, h7, -⟩ := Cond.code_spec B.named (atoms_spec (ws := ws) B.pre _ (by rw [hw]; exact List.mem_cons_self))
      cases Option.some.inj (h1.symm.trans B.method)
      cases Option.some.inj (h2.symm.trans (Stand.of_body B).code)
      intro x hx
      rw [Array.isEmpty_iff.mp h7] at hx
      cases hx
    obtain ⟨t, a1, o, b1, b2, b3⟩ := body p e s m args below meth c s₁ B hml ht hP s₁ hh0 (Stand.of_body B)
    exact ⟨t, o, a1, b1, b2, b3⟩
/-- the table of a body with handlers -/
theorem vx_table {p : Program} {x y : MethodName} {S : Spec} {cc bytes : ByteArray} {maxL maxL' : Nat} {ret ret' : Option FieldType} {e : Env} {s s₁ : State} {m : MethodId} {args : Array Value} {below : List Frame} {meth : Method} {c : Code} {hh : List (Nat × Nat × Nat × Nat)}
    (B : BodyLoose p l y S cc maxL ret e s m args below meth c s₁) (h : (Cond.codeWith y bytes maxL' ret' hh).before args s = true) : c.exceptionTable.toList = tableOf hh := by
  obtain ⟨m9, meth9, c9, hn9, h1, h2, -, -, h6, -⟩ := Cond.codeWith_spec h
  cases Option.some.inj (hn9.symm.trans B.named)
  cases Option.some.inj (h1.symm.trans B.method)
  cases Option.some.inj (h2.symm.trans (Stand.of_body B).code)
  rw [← h6, table_eq]
end Bodies
end VXA
/-! ===== END ===== -/
/-! ===== BEGIN a static call of a method with an exception table ===== -/
section VXS
variable {p : Program} {l : Launch} {e : Env} {R : Room} {s : State} {m : MethodId} {args : Array Value} {below : List Frame} {meth : Method} {c : Code} {T : State} {H : Heap} {locs : List Loc} {cells slots : Nat}
abbrev vx_CSW (R : Room) (s : State) (args : Array Value) (own : String) (index : Nat) (y : MethodName) (bytes : ByteArray) (maxL : Nat) (ret : Option FieldType) (hh : List (Nat × Nat × Nat × Nat)) (ws : List Cond) (rm : Room) (mc ms n : Nat) : Prop :=
  (rm.cells = mc ∧ rm.slots = ms ∧ rm.frames + 1 ≤ R.frames ∧ 8 + (maxL + 11) + rm.locals ≤ R.locals ∧ (∀ w ∈ ws, ∀ (a' : Array Value) (U : State), s.WarmedH U.vm → w.before a' U = true) ∧ Cond.codeWith y bytes maxL ret hh ∈ ws) ∧
  (Cond.codeWith y bytes maxL ret hh).before args s = true ∧ (Cond.initialized y.cls).before args s = true ∧ (y.cls ≠ "java/lang/invoke/MethodHandle" ∧ y.cls ≠ "java/lang/invoke/VarHandle") ∧
  (∀ sig, parseMethodDescriptor y.desc = some sig → n = sig.parameters.length) ∧ (Cond.methodLink own index y).before args s = true ∧ (Cond.static y).before args s = true
theorem vx_cwSW {own : String} {index maxL mc ms : Nat} {y : MethodName} {bytes : ByteArray} {ret : Option FieldType} {hh : List (Nat × Nat × Nat × Nat)} {Ts ws ws' : List Cond} {rm : Room} (n : Nat) (ht : ∀ w ∈ Ts, w.before args s = true) (hT : GoodIn Ts (va_wsS own index y ws)) (hw : ws = Cond.codeWith y bytes maxL ret hh :: ws') (hrc : rm.cells = mc) (hrs : rm.slots = ms)
    (hd : y.cls ≠ "java/lang/invoke/MethodHandle" ∧ y.cls ≠ "java/lang/invoke/VarHandle" ∧ (parseMethodDescriptor y.desc).map (fun d => d.parameters.length) = some n) (hR : rm.frames + 1 ≤ R.frames ∧ 8 + (maxL + 11) + rm.locals ≤ R.locals) :
    vx_CSW R s args own index y bytes maxL ret hh ws rm mc ms n := by
  have ok : ∀ w ∈ va_wsS own index y ws, w.before args s = true := fun w h => ht w (hT w h).1
  have hG : GoodIn Ts ws := fun w h => hT w (by unfold va_wsS; exact List.mem_append_right _ h)
  have hc : Cond.codeWith y bytes maxL ret hh ∈ ws := by rw [hw]; exact List.mem_cons_self
  refine ⟨⟨hrc, hrs, hR.1, hR.2, pay_in ht hG, hc⟩, ht _ (hG _ hc).1, ok _ (by simp [va_wsS]), ⟨hd.1, hd.2.1⟩, fun sig h => ?_, ok _ (by simp [va_wsS]), ok _ (by simp [va_wsS])⟩
  have h2 := hd.2.2
  rw [h] at h2
  exact (Option.some.inj h2).symm
theorem vx_callSW (X : Stand p l e R s m args below meth c T locs cells slots) (hexec : p.tables.exec = Jvm.exec) {own : String} {index : Nat} {y : MethodName} {bytes : ByteArray} {maxL : Nat} {ret : Option FieldType} {hh : List (Nat × Nat × Nat × Nat)}
    (hown : s.vm.findClass own = some m.cls) (hlink : (Cond.methodLink own index y).before args s = true) (hstat : (Cond.static y).before args s = true) (hinit : (Cond.initialized y.cls).before args s = true)
    (hcode : (Cond.codeWith y bytes maxL ret hh).before args s = true) (hy : y.cls ≠ "java/lang/invoke/MethodHandle" ∧ y.cls ≠ "java/lang/invoke/VarHandle")
    {W9 : Nat} {Pre : Pt → Array Value → Prop} {Post : Pt → Array Value → Option Value → Pt → Prop} (hK : Back l R p e below s args y 3 W9 Pre Post)
    {g : JFrame} (hg : g.method = m) (hsize : g.locals.size = c.maxLocals) {argsL rest : List Value} (hlen : ∀ sig, parseMethodDescriptor y.desc = some sig → argsL.length = sig.parameters.length)
    (hstack : g.stack = argsL.reverse ++ rest) (hW : 2 * g.monitorRoom + (rest.map fun v => v.category).sum ≤ W9) (hdg : decode c.code g.pc = .ok (.invokestatic index, 3))
    (hpre : ∀ vm₁, s.WarmedH vm₁ → Pre ⟨T.setVm vm₁, locs, cells, slots⟩ argsL.toArray) :
    ∃ (v : Option Value) (vm₁ : Vm) (B : Pt), s.WarmedH vm₁ ∧ Stand p l e R s m args below meth c B.U B.locs B.cells B.slots ∧ Post ⟨T.setVm vm₁, locs, cells, slots⟩ argsL.toArray v B ∧
      ∀ target, Steps p.tables e below (B.U.setTop { g with pc := g.pc + 3, stack := v.toList ++ rest }) target → Steps p.tables e below (T.setTop g) target := by
  obtain ⟨mk, methM, cM, hnamed, hmethM, -, -, -, -, -, -, hsigM⟩ := Cond.codeWith_spec hcode
  have hstatic : methM.isStatic = true := Cond.static_spec hnamed hmethM hstat
  obtain ⟨kP, hkP, -⟩ := className_of_methodNamed hnamed
  have hinitP : kP.init = .initialized := Cond.initialized_spec (findClass_of_methodNamed hnamed) hkP hinit
  obtain ⟨vm₁, X₁, hstep₁⟩ := X.invokestatic hexec hown hlink hnamed hmethM hstatic hkP hinitP hy (g := g) hg (argsL := argsL) (rest := rest) (hlen _ hsigM) hstack hdg
  obtain ⟨v, B, X', hpost, hsteps⟩ := hK m meth c ⟨T.setVm vm₁, locs, cells, slots⟩ { g with stack := rest } (.invokestatic index) mk argsL.toArray X₁ hg hsize hdg hW (X₁.named hnamed) (hpre vm₁ X₁.warmed)
  exact ⟨v, vm₁, B, X₁.warmed, X', hpost, fun target h => hstep₁ _ fun acts => by rw [doInvoke_state]; exact hsteps.trans h⟩
theorem vx_runSW {y : MethodName} {bytes cc : ByteArray} {maxL nL mc ms n index : Nat} {ret : Option FieldType} {hh : List (Nat × Nat × Nat × Nat)} {ws : List Cond} {rm : Room} {Pc : Array Value → State → Prop} {Qc : Array Value → State → Outcome → State → Prop} {free : Addr → Prop} {Ts : List Cond} {own : String} {As rest : List Value} {g : JFrame}
    (S : CallFix p m c cc nL s args Ts own) (hM : Met l y ws rm Pc Qc mc ms free) (cw : vx_CSW R s args own index y bytes maxL ret hh ws rm mc ms n) (hp : PreS s H Pc As)
    (hg : g.method = m) (hn : As.length = n) (hsize : g.locals.size = nL) (hstack : g.stack = As.reverse ++ rest) (hW : 2 * g.monitorRoom + (rest.map fun v => v.category).sum ≤ 8) (hdg : decode cc g.pc = .ok (.invokestatic index, 3)) (hf : cells + mc ≤ R.cells ∧ slots + ms ≤ R.slots) :
    va_Run p l e R s m args below meth c H locs cells slots mc ms g rest (Qc As.toArray) (free) := by
  obtain ⟨⟨hrc, hrs, hfr, hlo, hws, hcw⟩, hcode, hini, hy, hlen, hl, hstt⟩ := cw
  have hK : Back l R p e below s args y 3 8 (PreOf R mc ms Pc) (PostOf Qc mc ms free) := va_backW (hh := hh) (bytes := bytes) (maxL := maxL) (ret := ret) hM hp.1 hrc hrs hfr hlo hws hcw (fun a' U hW => word_at hW (Or.inl (by first | rfl | simp [Cond.onTables, Cond.keeps, Cond.steady])) hini)
  obtain ⟨hx, hb, hml, ho, -⟩ := S
  intro T hT X
  obtain ⟨v, vm₁, ⟨U', l2, c2, s2⟩, hW₁, X', ⟨g', mk, t, L, e1, e2, hq, h1, hL, h2, h3⟩, st⟩ := vx_callSW X hx (hh := hh) (bytes := bytes) (maxL := maxL) (ret := ret) ho hl hstt hini hcode hy hK hg (hsize.trans hml.symm) (argsL := As) (rest := rest) (fun sig h => hn.trans (hlen sig h)) hstack hW (by rw [hb]; exact hdg)
    (fun vm₁ hW₁ => ⟨hf.1, hf.2, hp.2 (T.setVm vm₁) hT hW₁⟩)
  dsimp only [Pt.U, Pt.locs, Pt.cells, Pt.slots] at X' e1 e2 h1 h2 h3 st
  subst h1; subst h2; subst h3
  exact ⟨v, (T.setVm vm₁).calling g' mk As.toArray, t, U', L, hT, X', hL, e1, e2, hq, st⟩
/-- not caught here, past rows that name other classes: it goes on to the caller -/
theorem vx_outP {p : Program} {l : Launch} {e : Env} {R : Room} {s : State} {m : MethodId} {args : Array Value} {below : List Frame} {meth : Method} {c : Code} {H : Heap} {locs : List Loc} {cells slots : Nat} {free : Addr → Prop} {ls : Array Slot} {rest : List Value} {Qc : Array Value → State → Outcome → State → Prop} {XC : String → State → State → Prop}
    {pc : Nat} {own E : String} {ce : Cell} {q : Addr} {mc ms : Nat} (hown : s.vm.findClass own = some m.cls) (hlocks : meth.locks = false)
    (hpass : ∀ z ∈ c.exceptionTable.toList, covers z pc = false ∨ (z.catchType ≠ 0 ∧ ∃ nm : String, (Cond.classLink own z.catchType nm).before args s = true ∧ va_Nc E nm s)) (hcell : H[q]? = some ce) (hv : ce.vm = .none) (hcl : s.vm.findClass E = some ce.cls)
    (hx : ∀ t : State, t.heap = H → s.vm.Alike t.vm → XC E s t) (hf : ∀ z ∈ locs, free z.base) (hc : cells ≤ mc) (hs : slots ≤ ms) :
    vx_W p l e R s m args below meth c H locs cells slots (vx_MQ below Qc XC args s mc ms free) (F0 m pc ls rest) q := by
  intro T hT X
  have hpl : e.platform.magicAccessors = ({} : Platform).magicAccessors := by rw [X.admits.platform]
  obtain ⟨vm', hW', X', st⟩ := X.outThrough hlocks q (g := F0 m pc ls rest) rfl rfl rfl (cell := ce) (by rw [hT]; exact hcell) (by rw [hv]; rfl)
    (by obtain ⟨k9, h9, -⟩ := Vm.findClass_spec hcl; exact ⟨k9, h9⟩) (fun z hz => by
      rcases hpass z hz with h | ⟨hz0, nm, hl1, hn1⟩
      · exact Or.inl h
      · obtain ⟨c6, hc6, hcl6⟩ := Cond.classLink_spec hown hl1 e.platform hpl
        obtain ⟨a8, b8, h1, h2, h3⟩ := hn1
        cases Option.some.inj (h1.symm.trans hcl)
        cases Option.some.inj (h2.symm.trans hc6)
        exact Or.inr ⟨hz0, _, hcl6, h3⟩)
  obtain ⟨g₀, hfr⟩ := X'.frames_eq
  have hcell9 : ((T.setVm vm').setFrames (.throwing q :: below)).heap[q]? = some ce := by
    show T.heap[q]? = some ce
    rw [hT]; exact hcell
  have hend : Ended ((T.setVm vm').setFrames (.throwing q :: below)) below (.threw q) := State.frames_setFrames _ (State.cur_lt_of_frames hfr)
  refine ⟨(T.setVm vm').setFrames (.throwing q :: below), ?_, .threw q, X'.here.running, hend, Or.inr ⟨q, rfl, E, ce, locs, hx _ hT (X'.ends _).1.alike, hcell9, hv, hcl, (X'.ends _).1, (X'.ends _).2.mono hc hs, hf⟩⟩
  rw [X.pushThrowing_eq]
  exact st
/-- a thing of a world lies in the heap -/
theorem vx_lt {D : va_G} {cl : List vw_C} {ws : va_W} {H1 : Heap} (h : va_P D cl ws H1) {k : Nat} {q : Nat × va_E} (hk : ws[k]? = some q) : q.1 < H1.size := (h k q hk).lt
end VXS
/-! ===== END ===== -/
/-! ===== BEGIN methods with a table of their own: called by a name, returning or throwing ===== -/
section VXH
/-! vx_backW, vx_callVX, vx_callSX, vx_callVW, vx_runVW, vx_runVX, vx_runSX, vx_ofWH follow the same proofs as their sisters above (Free/Laws.lean, Shelf42/LK1.lean); vx_outP calls Shelf42/NT130.lean (outThrough). -/
section
variable {l : Launch} {R : Room} {p : Program} {e : Env} {below : List Frame} {s : State} {sargs : Array Value} {y : MethodName} {len W9 : Nat}
theorem vx_backW {ws : List Cond} {rm : Room} {Pc : Array Value → State → Prop} {Qc : Array Value → State → Outcome → State → Prop} {XC : String → State → State → Prop} {mc ms : Nat} {free : Addr → Prop} {bytes : ByteArray} {maxL : Nat} {ret : Option FieldType} {hh : List (Nat × Nat × Nat × Nat)}
    (hM : vx_Met l y ws rm Pc Qc XC mc ms free) (hblind : FrameBlind Pc) (hrc : rm.cells = mc) (hrs : rm.slots = ms)
    (hframes : rm.frames + 1 ≤ R.frames) (hlocals : W9 + (maxL + 11) + rm.locals ≤ R.locals)
    (hws : ∀ w ∈ ws, ∀ a' U, s.WarmedH U.vm → w.before a' U = true) (hcode : Cond.codeWith y bytes maxL ret hh ∈ ws) (hinit : ∀ a' U, s.WarmedH U.vm → (Cond.initialized y.cls).before a' U = true) :
    vx_Back l R p e below s sargs y len W9 (PreOf R mc ms Pc) (PostOf Qc mc ms free) (vx_Post XC mc ms free) := by
  intro m meth c A g ig mk a X hg hsize hdg hW hn hp
  have h1 : (headSpec ws rm).pre.before a A.U = true := atoms_intro fun w hw => hws w hw _ _ X.warmed
  have h2 : (Cond.codeWith y bytes maxL ret hh).before a A.U = true := hws _ hcode _ _ X.warmed
  have h3 : (Cond.initialized y.cls).before a A.U = true := hinit _ _ X.warmed
  have h4 : A.cells + (headSpec ws rm).room.cells ≤ R.cells := by rw [show (headSpec ws rm).room.cells = mc from hrc]; exact hp.1
  have h5 : A.slots + (headSpec ws rm).room.slots ≤ R.slots := by rw [show (headSpec ws rm).room.slots = ms from hrs]; exact hp.2.1
  have hPc : Pc a (A.U.calling g mk a) := hblind _ _ _ _ hp.2.2
  obtain ⟨U, Ls, c0, s0⟩ := A
  dsimp only [Pt.U, Pt.locs, Pt.cells, Pt.slots] at h1 h2 h3 h4 h5 X hn hPc ⊢
  obtain ⟨m9, methY, cY, hn9, hmY, hcY, -, hlY, -⟩ := Cond.codeWith_spec h2
  cases Option.some.inj (hn9.symm.trans hn)
  obtain ⟨kY, hkY, -⟩ := className_of_methodNamed hn
  have hinitY : kY.init = .initialized := Cond.initialized_spec (findClass_of_methodNamed hn) hkY h3
  have h : At U g.method c below := by rw [hg]; exact X.here
  have hlocals9 : W9 + (maxL + 11) + (headSpec ws rm).room.locals ≤ R.locals := hlocals
  have happ : (headSpec ws rm).appliesLoose y e.platform (U.calling g mk a) = true :=
    Spec.appliesLoose_calling (g := g) h hdg hn hkY hinitY
      (X.room_calling (g := g) (R' := (headSpec ws rm).room) hsize hmY hcY hframes (by rw [hlY]; omega) h4 h5) h1
  obtain ⟨mid, hmid⟩ := h.above
  have hfr : (U.setTop g).frames = (.java g :: mid) ++ below := by rw [State.frames_setTop' g h.top, hmid]; rfl
  obtain ⟨o, s₂, hsteps, -, hend, hq⟩ := Steps.callFree hM p X.admits X.cas X.clock (acts := []) hfr happ hPc trivial
  have hq' : vx_Q Qc XC mc ms free a (U.calling g mk a) o s₂ := hq
  rw [State.frames_setTop' g h.top] at hend
  obtain ⟨g₀, hg0⟩ := Option.isSome_iff_exists.mp h.top
  obtain ⟨r, hr⟩ := State.topJava?_eq_some.mp hg0
  have hr' : (({ U with heap := s₂.heap, slotsUsed := s₂.slotsUsed } : State).setVm s₂.vm).frames = .java g₀ :: r := hr
  rcases hq' with ⟨hqc, L, hfe, hL⟩ | ⟨q, rfl, E, ce, L, hx, hce, hcv, hcl, hW₂, hsm, hL⟩
  · obtain ⟨⟨v, rfl⟩, hW₂, e2, q2, q3, q4, q5, q6⟩ := id hfe
    have e3 : s₂ = ({ (U.calling g mk a).setFrames s₂.frames with heap := s₂.heap, slotsUsed := s₂.slotsUsed } : State).setVm s₂.vm := by
      have : s₂ = ({ s₂ with vm := (U.calling g mk a).vm } : State).setVm s₂.vm := rfl
      rw [e2] at this
      exact this
    obtain ⟨c₂, i₂, len₂, hc₂, hd₂, hf₂⟩ := hend
    have hW' : U.WarmedH s₂.vm := hW₂
    have hcc : c₂ = c := by
      have h1 : s₂.code? g.method = U.code? g.method := by
        rw [State.code?_eq, State.code?_eq, hW'.alike.method?]
      exact Option.some.inj (hc₂.symm.trans (h1.trans h.code))
    subst hcc
    have hlen : len₂ = len := by rw [hdg] at hd₂; cases hd₂; rfl
    subst hlen
    have hs₂ : s₂ = (({ U with heap := s₂.heap, slotsUsed := s₂.slotsUsed } : State).setVm s₂.vm).setTop { g with pc := g.pc + len₂, stack := v.toList ++ g.stack } := by
      refine e3.trans ?_
      rw [hf₂, State.calling_eq h.top, State.setFrames_setFrames, State.setTop_of_frames _ hr', hr]
      rfl
    have hsame : U.sameButNew ({ U with heap := s₂.heap, slotsUsed := s₂.slotsUsed } : State) L mc ms := by
      refine ⟨?_, q2, q3, q4, q5, q6⟩
      obtain ⟨t, ht, -⟩ := State.frames_cons hr
      show ({ U with heap := s₂.heap, slotsUsed := s₂.slotsUsed } : State) = { U.setFrames U.frames with heap := s₂.heap, slotsUsed := s₂.slotsUsed }
      rw [State.setFrames_self ht]
    subst hg
    refine Or.inl ⟨v, ⟨(({ U with heap := s₂.heap, slotsUsed := s₂.slotsUsed } : State).setVm s₂.vm), Ls ++ L, c0 + mc, s0 + ms⟩,
      ⟨X.admits, X.cas, X.clock, X.frames, X.room, X.hears, X.method, X.code, (X.here.setHeapUsed s₂.heap s₂.slotsUsed).setVm hW'.alike, X.tail, State.WarmedH.trans X.warmed hW', X.limits, X.bytes, X.same.trans (hsame.setVm s.vm)⟩,
      ⟨g, mk, s₂, L, rfl, rfl, hqc, rfl, hL, rfl, rfl⟩, ?_⟩
    show Steps p.tables e below _ ((({ U with heap := s₂.heap, slotsUsed := s₂.slotsUsed } : State).setVm s₂.vm).setTop { g with pc := g.pc + len₂, stack := v.toList ++ g.stack })
    rw [← hs₂]
    exact hsteps
  · obtain ⟨e2, q2, q3, q4, q5, q6⟩ := id hsm
    have e3 : s₂ = ({ (U.calling g mk a).setFrames s₂.frames with heap := s₂.heap, slotsUsed := s₂.slotsUsed } : State).setVm s₂.vm := by
      have : s₂ = ({ s₂ with vm := (U.calling g mk a).vm } : State).setVm s₂.vm := rfl
      rw [e2] at this
      exact this
    have hf₂ : s₂.frames = .throwing q :: .java g :: U.frames.tail := hend
    have hW' : U.WarmedH s₂.vm := hW₂
    have hs₂ : s₂ = ((({ U with heap := s₂.heap, slotsUsed := s₂.slotsUsed } : State).setVm s₂.vm).setTop g).pushFrame (.throwing q) := by
      refine e3.trans ?_
      rw [hf₂, State.calling_eq h.top, State.setFrames_setFrames, State.pushFrame, State.frames_setTop _ hr', State.setTop_of_frames _ hr', State.setFrames_setFrames, hr]
      rfl
    have hsame : U.sameButNew ({ U with heap := s₂.heap, slotsUsed := s₂.slotsUsed } : State) L mc ms := by
      refine ⟨?_, q2, q3, q4, q5, q6⟩
      obtain ⟨t, ht, -⟩ := State.frames_cons hr
      show ({ U with heap := s₂.heap, slotsUsed := s₂.slotsUsed } : State) = { U.setFrames U.frames with heap := s₂.heap, slotsUsed := s₂.slotsUsed }
      rw [State.setFrames_self ht]
    subst hg
    refine Or.inr ⟨q, ⟨(({ U with heap := s₂.heap, slotsUsed := s₂.slotsUsed } : State).setVm s₂.vm), Ls ++ L, c0 + mc, s0 + ms⟩,
      ⟨X.admits, X.cas, X.clock, X.frames, X.room, X.hears, X.method, X.code, (X.here.setHeapUsed s₂.heap s₂.slotsUsed).setVm hW'.alike, X.tail, State.WarmedH.trans X.warmed hW', X.limits, X.bytes, X.same.trans (hsame.setVm s.vm)⟩,
      ⟨g, mk, s₂, L, E, ce, rfl, rfl, hx, hce, hcv, hcl, rfl, hL, rfl, rfl⟩, ?_⟩
    show Steps p.tables e below _ (((({ U with heap := s₂.heap, slotsUsed := s₂.slotsUsed } : State).setVm s₂.vm).setTop g).pushFrame (.throwing q))
    rw [← hs₂]
    exact hsteps
end
variable {p : Program} {l : Launch} {e : Env} {R : Room} {s : State} {m : MethodId} {args : Array Value} {below : List Frame} {meth : Method} {c : Code} {T : State} {H : Heap} {locs : List Loc} {cells slots : Nat}
theorem vx_callVX (X : Stand p l e R s m args below meth c T locs cells slots) (hexec : p.tables.exec = Jvm.exec) {own C : String} {index : Nat} {y : MethodName} {bytes : ByteArray} {maxL : Nat} {ret : Option FieldType} {hh : List (Nat × Nat × Nat × Nat)}
    (hown : s.vm.findClass own = some m.cls) (hlink : (Cond.methodLink own index y).before args s = true) (hinst : (Cond.instanceMethod y).before args s = true) (hsel : (Cond.selects C y y).before args s = true)
    (hcode : (Cond.codeWith y bytes maxL ret hh).before args s = true) (hy : y.cls ≠ "java/lang/invoke/MethodHandle" ∧ y.cls ≠ "java/lang/invoke/VarHandle")
    {W9 : Nat} {Pre : Pt → Array Value → Prop} {Post : Pt → Array Value → Option Value → Pt → Prop} {PostX : Pt → Array Value → Addr → Pt → Prop} (hK : vx_Back l R p e below s args y 3 W9 Pre Post PostX)
    {b : Addr} {cellB : Cell} (hcell : T.heap[b]? = some cellB) (hobj : cellB.vm.isStatics = false) (hcls : s.vm.findClass C = some cellB.cls)
    {g : JFrame} (hg : g.method = m) (hsize : g.locals.size = c.maxLocals) {argsL rest : List Value} (hlen : ∀ sig, parseMethodDescriptor y.desc = some sig → argsL.length = sig.parameters.length)
    (hstack : g.stack = argsL.reverse ++ .ref b :: rest) (hW : 2 * g.monitorRoom + (rest.map fun v => v.category).sum ≤ W9) (hdg : decode c.code g.pc = .ok (.invokevirtual index, 3))
    (hpre : ∀ vm₁, s.WarmedH vm₁ → Pre ⟨T.setVm vm₁, locs, cells, slots⟩ (Value.ref b :: argsL).toArray) :
    (∃ (v : Option Value) (vm₁ : Vm) (B : Pt), s.WarmedH vm₁ ∧ Stand p l e R s m args below meth c B.U B.locs B.cells B.slots ∧ Post ⟨T.setVm vm₁, locs, cells, slots⟩ (Value.ref b :: argsL).toArray v B ∧
      ∀ target, Steps p.tables e below (B.U.setTop { g with pc := g.pc + 3, stack := v.toList ++ rest }) target → Steps p.tables e below (T.setTop g) target) ∨
    (∃ (q : Addr) (vm₁ : Vm) (B : Pt), s.WarmedH vm₁ ∧ Stand p l e R s m args below meth c B.U B.locs B.cells B.slots ∧ PostX ⟨T.setVm vm₁, locs, cells, slots⟩ (Value.ref b :: argsL).toArray q B ∧
      Steps p.tables e below (T.setTop g) ((B.U.setTop { g with stack := rest }).pushFrame (.throwing q))) := by
  obtain ⟨mk, methM, hnamed, hmethM, hstM, habM⟩ := Cond.instanceMethod_spec hinst
  obtain ⟨m8, methM', cM, hn8, hmethM', -, -, -, -, -, -, hsigM⟩ := Cond.codeWith_spec hcode
  cases Option.some.inj (hn8.symm.trans hnamed)
  cases hmethM.symm.trans hmethM'
  obtain ⟨c2, r2, m2, q1, q2, q3, q4, kP, hkP, hkPi⟩ := Cond.selects_spec hsel
  cases hcls.symm.trans q1
  cases (State.methodFound?_of_named hnamed hy).symm.trans q2
  cases hnamed.symm.trans q3
  have hselP : selectMethod e.platform s.vm cellB.cls mk = .method mk := by rw [Launch.admits_selectMethod X.admits]; exact q4
  obtain ⟨vm₁, X₁, hstep₁⟩ := X.invokevirtual hexec hown hlink hnamed hmethM hstM hkP hkPi hy (a := b) (cell := cellB) hcell
    (fun z h => by rw [h] at hobj; cases hobj) hselP hmethM habM hkP hkPi (g := g) hg (argsL := argsL) (rest := rest) (hlen _ hsigM) hstack hdg
  rcases hK m meth c ⟨T.setVm vm₁, locs, cells, slots⟩ { g with stack := rest } (.invokevirtual index) mk (Value.ref b :: argsL).toArray X₁ hg hsize hdg hW (X₁.named hnamed) (hpre vm₁ X₁.warmed) with ⟨v, B, X', hpost, hsteps⟩ | ⟨q, B, X', hpost, hsteps⟩
  · exact Or.inl ⟨v, vm₁, B, X₁.warmed, X', hpost, fun target h => hstep₁ _ fun acts => by rw [doInvoke_state]; exact hsteps.trans h⟩
  · exact Or.inr ⟨q, vm₁, B, X₁.warmed, X', hpost, hstep₁ _ fun acts => by rw [doInvoke_state]; exact hsteps⟩
theorem vx_callSX (X : Stand p l e R s m args below meth c T locs cells slots) (hexec : p.tables.exec = Jvm.exec) {own : String} {index : Nat} {y : MethodName} {bytes : ByteArray} {maxL : Nat} {ret : Option FieldType} {hh : List (Nat × Nat × Nat × Nat)}
    (hown : s.vm.findClass own = some m.cls) (hlink : (Cond.methodLink own index y).before args s = true) (hstat : (Cond.static y).before args s = true) (hinit : (Cond.initialized y.cls).before args s = true)
    (hcode : (Cond.codeWith y bytes maxL ret hh).before args s = true) (hy : y.cls ≠ "java/lang/invoke/MethodHandle" ∧ y.cls ≠ "java/lang/invoke/VarHandle")
    {W9 : Nat} {Pre : Pt → Array Value → Prop} {Post : Pt → Array Value → Option Value → Pt → Prop} {PostX : Pt → Array Value → Addr → Pt → Prop} (hK : vx_Back l R p e below s args y 3 W9 Pre Post PostX)
    {g : JFrame} (hg : g.method = m) (hsize : g.locals.size = c.maxLocals) {argsL rest : List Value} (hlen : ∀ sig, parseMethodDescriptor y.desc = some sig → argsL.length = sig.parameters.length)
    (hstack : g.stack = argsL.reverse ++ rest) (hW : 2 * g.monitorRoom + (rest.map fun v => v.category).sum ≤ W9) (hdg : decode c.code g.pc = .ok (.invokestatic index, 3))
    (hpre : ∀ vm₁, s.WarmedH vm₁ → Pre ⟨T.setVm vm₁, locs, cells, slots⟩ argsL.toArray) :
    (∃ (v : Option Value) (vm₁ : Vm) (B : Pt), s.WarmedH vm₁ ∧ Stand p l e R s m args below meth c B.U B.locs B.cells B.slots ∧ Post ⟨T.setVm vm₁, locs, cells, slots⟩ argsL.toArray v B ∧
      ∀ target, Steps p.tables e below (B.U.setTop { g with pc := g.pc + 3, stack := v.toList ++ rest }) target → Steps p.tables e below (T.setTop g) target) ∨
    (∃ (q : Addr) (vm₁ : Vm) (B : Pt), s.WarmedH vm₁ ∧ Stand p l e R s m args below meth c B.U B.locs B.cells B.slots ∧ PostX ⟨T.setVm vm₁, locs, cells, slots⟩ argsL.toArray q B ∧
      Steps p.tables e below (T.setTop g) ((B.U.setTop { g with stack := rest }).pushFrame (.throwing q))) := by
  obtain ⟨mk, methM, cM, hnamed, hmethM, -, -, -, -, -, -, hsigM⟩ := Cond.codeWith_spec hcode
  have hstatic : methM.isStatic = true := Cond.static_spec hnamed hmethM hstat
  obtain ⟨kP, hkP, -⟩ := className_of_methodNamed hnamed
  have hinitP : kP.init = .initialized := Cond.initialized_spec (findClass_of_methodNamed hnamed) hkP hinit
  obtain ⟨vm₁, X₁, hstep₁⟩ := X.invokestatic hexec hown hlink hnamed hmethM hstatic hkP hinitP hy (g := g) hg (argsL := argsL) (rest := rest) (hlen _ hsigM) hstack hdg
  rcases hK m meth c ⟨T.setVm vm₁, locs, cells, slots⟩ { g with stack := rest } (.invokestatic index) mk argsL.toArray X₁ hg hsize hdg hW (X₁.named hnamed) (hpre vm₁ X₁.warmed) with ⟨v, B, X', hpost, hsteps⟩ | ⟨q, B, X', hpost, hsteps⟩
  · exact Or.inl ⟨v, vm₁, B, X₁.warmed, X', hpost, fun target h => hstep₁ _ fun acts => by rw [doInvoke_state]; exact hsteps.trans h⟩
  · exact Or.inr ⟨q, vm₁, B, X₁.warmed, X', hpost, hstep₁ _ fun acts => by rw [doInvoke_state]; exact hsteps⟩
theorem vx_callVW (X : Stand p l e R s m args below meth c T locs cells slots) (hexec : p.tables.exec = Jvm.exec) {own C : String} {index : Nat} {y : MethodName} {bytes : ByteArray} {maxL : Nat} {ret : Option FieldType} {hh : List (Nat × Nat × Nat × Nat)}
    (hown : s.vm.findClass own = some m.cls) (hlink : (Cond.methodLink own index y).before args s = true) (hinst : (Cond.instanceMethod y).before args s = true) (hsel : (Cond.selects C y y).before args s = true)
    (hcode : (Cond.codeWith y bytes maxL ret hh).before args s = true) (hy : y.cls ≠ "java/lang/invoke/MethodHandle" ∧ y.cls ≠ "java/lang/invoke/VarHandle")
    {W9 : Nat} {Pre : Pt → Array Value → Prop} {Post : Pt → Array Value → Option Value → Pt → Prop} (hK : Back l R p e below s args y 3 W9 Pre Post)
    {b : Addr} {cellB : Cell} (hcell : T.heap[b]? = some cellB) (hobj : cellB.vm.isStatics = false) (hcls : s.vm.findClass C = some cellB.cls)
    {g : JFrame} (hg : g.method = m) (hsize : g.locals.size = c.maxLocals) {argsL rest : List Value} (hlen : ∀ sig, parseMethodDescriptor y.desc = some sig → argsL.length = sig.parameters.length)
    (hstack : g.stack = argsL.reverse ++ .ref b :: rest) (hW : 2 * g.monitorRoom + (rest.map fun v => v.category).sum ≤ W9) (hdg : decode c.code g.pc = .ok (.invokevirtual index, 3))
    (hpre : ∀ vm₁, s.WarmedH vm₁ → Pre ⟨T.setVm vm₁, locs, cells, slots⟩ (Value.ref b :: argsL).toArray) :
    ∃ (v : Option Value) (vm₁ : Vm) (B : Pt), s.WarmedH vm₁ ∧ Stand p l e R s m args below meth c B.U B.locs B.cells B.slots ∧ Post ⟨T.setVm vm₁, locs, cells, slots⟩ (Value.ref b :: argsL).toArray v B ∧
      ∀ target, Steps p.tables e below (B.U.setTop { g with pc := g.pc + 3, stack := v.toList ++ rest }) target → Steps p.tables e below (T.setTop g) target := by
  obtain ⟨mk, methM, hnamed, hmethM, hstM, habM⟩ := Cond.instanceMethod_spec hinst
  obtain ⟨m8, methM', cM, hn8, hmethM', -, -, -, -, -, -, hsigM⟩ := Cond.codeWith_spec hcode
  cases Option.some.inj (hn8.symm.trans hnamed)
  cases hmethM.symm.trans hmethM'
  obtain ⟨c2, r2, m2, q1, q2, q3, q4, kP, hkP, hkPi⟩ := Cond.selects_spec hsel
  cases hcls.symm.trans q1
  cases (State.methodFound?_of_named hnamed hy).symm.trans q2
  cases hnamed.symm.trans q3
  have hselP : selectMethod e.platform s.vm cellB.cls mk = .method mk := by rw [Launch.admits_selectMethod X.admits]; exact q4
  obtain ⟨vm₁, X₁, hstep₁⟩ := X.invokevirtual hexec hown hlink hnamed hmethM hstM hkP hkPi hy (a := b) (cell := cellB) hcell
    (fun z h => by rw [h] at hobj; cases hobj) hselP hmethM habM hkP hkPi (g := g) hg (argsL := argsL) (rest := rest) (hlen _ hsigM) hstack hdg
  obtain ⟨v, B, X', hpost, hsteps⟩ := hK m meth c ⟨T.setVm vm₁, locs, cells, slots⟩ { g with stack := rest } (.invokevirtual index) mk (Value.ref b :: argsL).toArray X₁ hg hsize hdg hW (X₁.named hnamed) (hpre vm₁ X₁.warmed)
  exact ⟨v, vm₁, B, X₁.warmed, X', hpost, fun target h => hstep₁ _ fun acts => by rw [doInvoke_state]; exact hsteps.trans h⟩
abbrev vx_CVW (R : Room) (s : State) (args : Array Value) (own C : String) (index : Nat) (y : MethodName) (bytes : ByteArray) (maxL : Nat) (ret : Option FieldType) (hh : List (Nat × Nat × Nat × Nat)) (ws : List Cond) (rm : Room) (mc ms n : Nat) : Prop :=
  (rm.cells = mc ∧ rm.slots = ms ∧ rm.frames + 1 ≤ R.frames ∧ 8 + (maxL + 11) + rm.locals ≤ R.locals ∧ (∀ w ∈ ws, ∀ (a' : Array Value) (U : State), s.WarmedH U.vm → w.before a' U = true) ∧ Cond.codeWith y bytes maxL ret hh ∈ ws) ∧
  (Cond.codeWith y bytes maxL ret hh).before args s = true ∧ (Cond.initialized y.cls).before args s = true ∧ (y.cls ≠ "java/lang/invoke/MethodHandle" ∧ y.cls ≠ "java/lang/invoke/VarHandle") ∧
  (∀ sig, parseMethodDescriptor y.desc = some sig → n = sig.parameters.length) ∧ (Cond.methodLink own index y).before args s = true ∧ (Cond.instanceMethod y).before args s = true ∧ (Cond.selects C y y).before args s = true
theorem vx_cwVW {own C : String} {index maxL mc ms : Nat} {y : MethodName} {bytes : ByteArray} {ret : Option FieldType} {hh : List (Nat × Nat × Nat × Nat)} {Ts ws ws' : List Cond} {rm : Room} (n : Nat) (ht : ∀ w ∈ Ts, w.before args s = true) (hT : GoodIn Ts (wsV own index C y ws)) (hw : ws = Cond.codeWith y bytes maxL ret hh :: ws') (hrc : rm.cells = mc) (hrs : rm.slots = ms)
    (hd : y.cls = C ∧ y.cls ≠ "java/lang/invoke/MethodHandle" ∧ y.cls ≠ "java/lang/invoke/VarHandle" ∧ (parseMethodDescriptor y.desc).map (fun d => d.parameters.length) = some n) (hR : rm.frames + 1 ≤ R.frames ∧ 8 + (maxL + 11) + rm.locals ≤ R.locals) :
    vx_CVW R s args own C index y bytes maxL ret hh ws rm mc ms n := by
  obtain ⟨hC, hd⟩ := hd
  subst hC
  have ok : ∀ w ∈ wsV own index y.cls y ws, w.before args s = true := fun w h => ht w (hT w h).1
  have hG : GoodIn Ts ws := fun w h => hT w (by unfold wsV; exact List.mem_append_right _ h)
  have hc : Cond.codeWith y bytes maxL ret hh ∈ ws := by rw [hw]; exact List.mem_cons_self
  refine ⟨⟨hrc, hrs, hR.1, hR.2, pay_in ht hG, hc⟩, ht _ (hG _ hc).1, ok _ (by simp [wsV]), ⟨hd.1, hd.2.1⟩, fun sig h => ?_, ok _ (by simp [wsV]), ok _ (by simp [wsV]), ok _ (by simp [wsV])⟩
  have h2 := hd.2.2
  rw [h] at h2
  exact (Option.some.inj h2).symm
theorem vx_runVW {y : MethodName} {bytes cc : ByteArray} {maxL nL mc ms n index : Nat} {ret : Option FieldType} {hh : List (Nat × Nat × Nat × Nat)} {ws : List Cond} {rm : Room} {Pc : Array Value → State → Prop} {Qc : Array Value → State → Outcome → State → Prop} {free : Addr → Prop} {Ts : List Cond} {own C : String} {b : Addr} {As rest : List Value} {g : JFrame}
    (S : CallFix p m c cc nL s args Ts own) (hM : Met l y ws rm Pc Qc mc ms free) (cw : vx_CVW R s args own C index y bytes maxL ret hh ws rm mc ms n) (hp : PreV s H C b Pc As)
    (hg : g.method = m) (hn : As.length = n) (hsize : g.locals.size = nL) (hstack : g.stack = As.reverse ++ .ref b :: rest) (hW : 2 * g.monitorRoom + (rest.map fun v => v.category).sum ≤ 8) (hdg : decode cc g.pc = .ok (.invokevirtual index, 3)) (hf : cells + mc ≤ R.cells ∧ slots + ms ≤ R.slots) :
    va_Run p l e R s m args below meth c H locs cells slots mc ms g rest (Qc (Value.ref b :: As).toArray) free := by
  obtain ⟨⟨hrc, hrs, hfr, hlo, hws, hcw⟩, hcode, hini, hy, hlen, hl, hin, hse⟩ := cw
  have hK : Back l R p e below s args y 3 8 (PreOf R mc ms Pc) (PostOf Qc mc ms free) := va_backW (hh := hh) (bytes := bytes) (maxL := maxL) (ret := ret) hM hp.1 hrc hrs hfr hlo hws hcw (fun a' U hW => word_at hW (Or.inl (by first | rfl | simp [Cond.onTables, Cond.keeps, Cond.steady])) hini)
  obtain ⟨hx, hb, hml, ho, -⟩ := S
  obtain ⟨-, ⟨cellB, hcB, hoB, hclB⟩, hPc⟩ := hp
  intro T hT X
  obtain ⟨v, vm₁, ⟨U', l2, c2, s2⟩, hW₁, X', ⟨g', mk, t, L, e1, e2, hq, h1, hL, h2, h3⟩, st⟩ := vx_callVW X hx (C := C) (hh := hh) (bytes := bytes) (maxL := maxL) (ret := ret) ho hl hin hse hcode hy hK (by rw [hT]; exact hcB) hoB hclB hg (hsize.trans hml.symm) (argsL := As) (rest := rest) (fun sig h => hn.trans (hlen sig h)) hstack hW (by rw [hb]; exact hdg)
    (fun vm₁ hW₁ => ⟨hf.1, hf.2, hPc (T.setVm vm₁) hT hW₁⟩)
  dsimp only [Pt.U, Pt.locs, Pt.cells, Pt.slots] at X' e1 e2 h1 h2 h3 st
  subst h1; subst h2; subst h3
  exact ⟨v, (T.setVm vm₁).calling g' mk (Value.ref b :: As).toArray, t, U', L, hT, X', hL, e1, e2, hq, st⟩
section
variable {y : MethodName} {bytes cc : ByteArray} {maxL nL mc ms n index : Nat} {ret : Option FieldType} {ws : List Cond} {rm : Room} {Pc : Array Value → State → Prop} {Qc : Array Value → State → Outcome → State → Prop} {XC : String → State → State → Prop} {free : Addr → Prop} {Ts : List Cond} {own C : String} {b : Addr} {As rest : List Value} {g : JFrame}
theorem vx_runVX {hh : List (Nat × Nat × Nat × Nat)} (S : CallFix p m c cc nL s args Ts own) (hM : vx_Met l y ws rm Pc Qc XC mc ms free) (cw : vx_CVW R s args own C index y bytes maxL ret hh ws rm mc ms n) (hp : PreV s H C b Pc As)
    (hg : g.method = m) (hn : As.length = n) (hsize : g.locals.size = nL) (hstack : g.stack = As.reverse ++ .ref b :: rest) (hW : 2 * g.monitorRoom + (rest.map fun v => v.category).sum ≤ 8) (hdg : decode cc g.pc = .ok (.invokevirtual index, 3)) (hf : cells + mc ≤ R.cells ∧ slots + ms ≤ R.slots) :
    vx_Run p l e R s m args below meth c H locs cells slots mc ms g rest (Qc (Value.ref b :: As).toArray) XC free := by
  obtain ⟨⟨hrc, hrs, hfr, hlo, hws, hcw⟩, hcode, hini, hy, hlen, hl, hin, hse⟩ := cw
  have hK : vx_Back l R p e below s args y 3 8 (PreOf R mc ms Pc) (PostOf Qc mc ms free) (vx_Post XC mc ms free) := vx_backW (hh := hh) (bytes := bytes) (maxL := maxL) (ret := ret) hM hp.1 hrc hrs hfr hlo hws hcw (fun a' U hW => word_at hW (Or.inl (by first | rfl | simp [Cond.onTables, Cond.keeps, Cond.steady])) hini)
  obtain ⟨hx, hb, hml, ho, -⟩ := S
  obtain ⟨-, ⟨cellB, hcB, hoB, hclB⟩, hPc⟩ := hp
  intro T hT X
  rcases vx_callVX X hx (C := C) (hh := hh) (bytes := bytes) (maxL := maxL) (ret := ret) ho hl hin hse hcode hy hK (by rw [hT]; exact hcB) hoB hclB hg (hsize.trans hml.symm) (argsL := As) (rest := rest) (fun sig h => hn.trans (hlen sig h)) hstack hW (by rw [hb]; exact hdg)
    (fun vm₁ hW₁ => ⟨hf.1, hf.2, hPc (T.setVm vm₁) hT hW₁⟩) with ⟨v, vm₁, ⟨U', l2, c2, s2⟩, hW₁, X', ⟨g', mk, t, L, e1, e2, hq, h1, hL, h2, h3⟩, st⟩ | ⟨q, vm₁, ⟨U', l2, c2, s2⟩, hW₁, X', ⟨g', mk, t, L, E, ce, e1, e2, hq, hce, hcv, hcl, h1, hL, h2, h3⟩, st⟩
  · dsimp only [Pt.U, Pt.locs, Pt.cells, Pt.slots] at X' e1 e2 h1 h2 h3 st
    subst h1; subst h2; subst h3
    exact Or.inl ⟨v, (T.setVm vm₁).calling g' mk (Value.ref b :: As).toArray, t, U', L, hT, X', hL, e1, e2, hq, st⟩
  · dsimp only [Pt.U, Pt.locs, Pt.cells, Pt.slots] at X' e1 e2 h1 h2 h3 st hcl
    subst h1; subst h2; subst h3
    exact Or.inr ⟨q, (T.setVm vm₁).calling g' mk (Value.ref b :: As).toArray, t, U', L, E, ce, hT, X', hL, e1, e2, hq, hce, hcv, vx_cls hW₁ hcl, st⟩
theorem vx_runSX {hh : List (Nat × Nat × Nat × Nat)} (S : CallFix p m c cc nL s args Ts own) (hM : vx_Met l y ws rm Pc Qc XC mc ms free) (cw : vx_CSW R s args own index y bytes maxL ret hh ws rm mc ms n) (hp : PreS s H Pc As)
    (hg : g.method = m) (hn : As.length = n) (hsize : g.locals.size = nL) (hstack : g.stack = As.reverse ++ rest) (hW : 2 * g.monitorRoom + (rest.map fun v => v.category).sum ≤ 8) (hdg : decode cc g.pc = .ok (.invokestatic index, 3)) (hf : cells + mc ≤ R.cells ∧ slots + ms ≤ R.slots) :
    vx_Run p l e R s m args below meth c H locs cells slots mc ms g rest (Qc As.toArray) XC free := by
  obtain ⟨⟨hrc, hrs, hfr, hlo, hws, hcw⟩, hcode, hini, hy, hlen, hl, hstt⟩ := cw
  have hK : vx_Back l R p e below s args y 3 8 (PreOf R mc ms Pc) (PostOf Qc mc ms free) (vx_Post XC mc ms free) := vx_backW (hh := hh) (bytes := bytes) (maxL := maxL) (ret := ret) hM hp.1 hrc hrs hfr hlo hws hcw (fun a' U hW => word_at hW (Or.inl (by first | rfl | simp [Cond.onTables, Cond.keeps, Cond.steady])) hini)
  obtain ⟨hx, hb, hml, ho, -⟩ := S
  intro T hT X
  rcases vx_callSX X hx (hh := hh) (bytes := bytes) (maxL := maxL) (ret := ret) ho hl hstt hini hcode hy hK hg (hsize.trans hml.symm) (argsL := As) (rest := rest) (fun sig h => hn.trans (hlen sig h)) hstack hW (by rw [hb]; exact hdg)
    (fun vm₁ hW₁ => ⟨hf.1, hf.2, hp.2 (T.setVm vm₁) hT hW₁⟩) with ⟨v, vm₁, ⟨U', l2, c2, s2⟩, hW₁, X', ⟨g', mk, t, L, e1, e2, hq, h1, hL, h2, h3⟩, st⟩ | ⟨q, vm₁, ⟨U', l2, c2, s2⟩, hW₁, X', ⟨g', mk, t, L, E, ce, e1, e2, hq, hce, hcv, hcl, h1, hL, h2, h3⟩, st⟩
  · dsimp only [Pt.U, Pt.locs, Pt.cells, Pt.slots] at X' e1 e2 h1 h2 h3 st
    subst h1; subst h2; subst h3
    exact Or.inl ⟨v, (T.setVm vm₁).calling g' mk As.toArray, t, U', L, hT, X', hL, e1, e2, hq, st⟩
  · dsimp only [Pt.U, Pt.locs, Pt.cells, Pt.slots] at X' e1 e2 h1 h2 h3 st hcl
    subst h1; subst h2; subst h3
    exact Or.inr ⟨q, (T.setVm vm₁).calling g' mk As.toArray, t, U', L, E, ce, hT, X', hL, e1, e2, hq, hce, hcv, vx_cls hW₁ hcl, st⟩
end
end VXH
theorem vx_ofWH {l : Launch} {y : MethodName} {ws ws' : List Cond} {rm : Room} {Pc : Array Value → State → Prop} {Qc : Array Value → State → Outcome → State → Prop} {XC : String → State → State → Prop} {mc ms : Nat} {free : Addr → Prop} {cc : ByteArray} {maxL : Nat} {ret : Option FieldType} {hh : List (Nat × Nat × Nat × Nat)}
    (hy : plainName y.cls = true) (hw : ws = Cond.codeWith y cc maxL ret hh :: ws')
    (body : ∀ p e s m args below meth c s₁, BodyLoose p l y (headSpec ws rm) cc maxL ret e s m args below meth c s₁ → c.maxLocals = maxL → Pc args s →
      W p l e (headSpec ws rm).room s m args below meth c s.heap [] 0 0 (vx_MQ below Qc XC args s mc ms free) (entryFrame m args maxL)) : vx_Met l y ws rm Pc Qc XC mc ms free := by
  refine MetFree.of_bodyS (code := cc) (maxLocals := maxL) (ret := ret) hy ?_ ?_
  · intro args s m h hn
    obtain ⟨m9, meth, c, hn9, h1, h2, h3, h4, -, h5, h6, -⟩ := Cond.codeWith_spec (atoms_spec (ws := ws) h _ (by rw [hw]; exact List.mem_cons_self))
    cases hn.symm.trans hn9
    exact ⟨meth, c, h1, h2, h3, h4, h5, h6⟩
  · intro p e s m args below meth c s₁ B hml hP _
    have hh0 : s₁.heap = s.heap := by rw [B.state]; rfl
    obtain ⟨t, a1, o, b1, b2, b3⟩ := body p e s m args below meth c s₁ B hml hP s₁ hh0 (Stand.of_body B)
    exact ⟨t, o, a1, b1, b2, b3⟩
/-! ===== END ===== -/

/-! ===== BEGIN a constructor that throws (launches without stack traces) ===== -/
section VXIA
variable {p : Program} {l : Launch} {e : Env} {R : Room} {s : State} {m : MethodId} {args : Array Value} {below : List Frame} {meth : Method} {c : Code} {T : State} {locs : List Loc} {cells slots : Nat}
theorem vx_callI (X : Stand p l e R s m args below meth c T locs cells slots) (hexec : p.tables.exec = Jvm.exec) {own : String} {index : Nat} {y : MethodName} {bytes : ByteArray} {maxL : Nat}
    (hown : s.vm.findClass own = some m.cls) (hy1 : y.name = "<init>") (hlink : (Cond.methodLink own index y).before args s = true) (hinst : (Cond.instanceMethod y).before args s = true)
    (hcode : (Cond.code y bytes maxL none).before args s = true) (hy : y.cls ≠ "java/lang/invoke/MethodHandle" ∧ y.cls ≠ "java/lang/invoke/VarHandle")
    {W9 : Nat} {Pre : Pt → Array Value → Prop} {Post : Pt → Array Value → Option Value → Pt → Prop} {PostX : Pt → Array Value → Addr → Pt → Prop} (hK : vx_Back l R p e below s args y 3 W9 Pre Post PostX)
    {g : JFrame} (hg : g.method = m) (hsize : g.locals.size = c.maxLocals) {a : Addr} {argsL rest : List Value} (hlen : ∀ sig, parseMethodDescriptor y.desc = some sig → argsL.length = sig.parameters.length)
    (hstack : g.stack = argsL.reverse ++ .ref a :: rest) (hW : 2 * g.monitorRoom + (rest.map fun v => v.category).sum ≤ W9) (hdg : decode c.code g.pc = .ok (.invokespecial index, 3))
    (hpre : ∀ vm₁, s.WarmedH vm₁ → Pre ⟨T.setVm vm₁, locs, cells, slots⟩ (Value.ref a :: argsL).toArray) :
    (∃ (v : Option Value) (vm₁ : Vm) (B : Pt), s.WarmedH vm₁ ∧ Stand p l e R s m args below meth c B.U B.locs B.cells B.slots ∧ Post ⟨T.setVm vm₁, locs, cells, slots⟩ (Value.ref a :: argsL).toArray v B ∧
      ∀ target, Steps p.tables e below (B.U.setTop { g with pc := g.pc + 3, stack := v.toList ++ rest }) target → Steps p.tables e below (T.setTop g) target) ∨
    (∃ (q : Addr) (vm₁ : Vm) (B : Pt), s.WarmedH vm₁ ∧ Stand p l e R s m args below meth c B.U B.locs B.cells B.slots ∧ PostX ⟨T.setVm vm₁, locs, cells, slots⟩ (Value.ref a :: argsL).toArray q B ∧
      Steps p.tables e below (T.setTop g) ((B.U.setTop { g with stack := rest }).pushFrame (.throwing q))) := by
  subst hg
  have hpl : e.platform.magicAccessors = ({} : Platform).magicAccessors := by rw [X.admits.platform]
  obtain ⟨mk, methM, cM, kP, vm₁, hnamed, hmethM, hcodeM, -, hlocalsM, -, hkP, -, hW₁, hstep₁⟩ := Steps.initColdArgs (e := e) X.here hexec X.warmed hpl hown hy1 hy hlink hinst hcode (f := g) rfl hlen hstack hdg
  have X₁ := X.noted hW₁
  rcases hK g.method meth c ⟨T.setVm vm₁, locs, cells, slots⟩ { g with stack := rest } (.invokespecial index) mk (Value.ref a :: argsL).toArray X₁ rfl hsize hdg hW (X₁.named hnamed) (hpre vm₁ X₁.warmed) with ⟨v, B, X', hpost, hsteps⟩ | ⟨q, B, X', hpost, hsteps⟩
  · exact Or.inl ⟨v, vm₁, B, X₁.warmed, X', hpost, fun target h => hstep₁ _ fun acts => by rw [doInvoke_state]; exact hsteps.trans h⟩
  · exact Or.inr ⟨q, vm₁, B, X₁.warmed, X', hpost, hstep₁ _ fun acts => by rw [doInvoke_state]; exact hsteps⟩
end VXIA
section VXIB
variable {p : Program} {l : Launch} {e : Env} {R : Room} {s : State} {m : MethodId} {args : Array Value} {below : List Frame} {meth : Method} {c : Code} {H : Heap} {locs : List Loc} {cells slots : Nat}
variable {y : MethodName} {bytes cc : ByteArray} {maxL nL mc ms n index : Nat} {ret : Option FieldType} {ws : List Cond} {rm : Room} {Pc : Array Value → State → Prop} {Qc : Array Value → State → Outcome → State → Prop} {XC : String → State → State → Prop} {free : Addr → Prop} {Ts : List Cond} {own C : String} {b : Addr} {As rest : List Value} {g : JFrame}
theorem vx_runI (S : CallFix p m c cc nL s args Ts own) (hM : vx_Met l y ws rm Pc Qc XC mc ms free) (cw : CallB R s args own index y bytes maxL none ws rm mc ms n ∧ y.name = "<init>" ∧ (Cond.instanceMethod y).before args s = true) (hp : PreS s H Pc (.ref b :: As))
    (hg : g.method = m) (hn : As.length = n) (hsize : g.locals.size = nL) (hstack : g.stack = As.reverse ++ .ref b :: rest) (hW : 2 * g.monitorRoom + (rest.map fun v => v.category).sum ≤ 8) (hdg : decode cc g.pc = .ok (.invokespecial index, 3)) (hf : cells + mc ≤ R.cells ∧ slots + ms ≤ R.slots) :
    vx_Run p l e R s m args below meth c H locs cells slots mc ms g rest (Qc (Value.ref b :: As).toArray) XC free := by
  have hK : vx_Back l R p e below s args y 3 8 (PreOf R mc ms Pc) (PostOf Qc mc ms free) (vx_Post XC mc ms free) := vx_callBack cw.1 hM hp.1
  obtain ⟨⟨-, -, -, -, -, -, hcode, -, hy, hlen, hl⟩, hy1, hin⟩ := cw
  obtain ⟨hx, hb, hml, ho, -⟩ := S
  have hPc := hp.2
  intro T hT X
  rcases vx_callI X hx (bytes := bytes) (maxL := maxL) ho hy1 hl hin hcode hy hK hg (hsize.trans hml.symm) (a := b) (argsL := As) (rest := rest) (fun sig h => hn.trans (hlen sig h)) hstack hW (by rw [hb]; exact hdg)
    (fun vm₁ hW₁ => ⟨hf.1, hf.2, hPc (T.setVm vm₁) hT hW₁⟩) with ⟨v, vm₁, ⟨U', l2, c2, s2⟩, hW₁, X', ⟨g', mk, t, L, e1, e2, hq, h1, hL, h2, h3⟩, st⟩ | ⟨q, vm₁, ⟨U', l2, c2, s2⟩, hW₁, X', ⟨g', mk, t, L, E, ce, e1, e2, hq, hce, hcv, hcl, h1, hL, h2, h3⟩, st⟩
  · dsimp only [Pt.U, Pt.locs, Pt.cells, Pt.slots] at X' e1 e2 h1 h2 h3 st
    subst h1; subst h2; subst h3
    exact Or.inl ⟨v, (T.setVm vm₁).calling g' mk (Value.ref b :: As).toArray, t, U', L, hT, X', hL, e1, e2, hq, st⟩
  · dsimp only [Pt.U, Pt.locs, Pt.cells, Pt.slots] at X' e1 e2 h1 h2 h3 st hcl
    subst h1; subst h2; subst h3
    exact Or.inr ⟨q, (T.setVm vm₁).calling g' mk (Value.ref b :: As).toArray, t, U', L, E, ce, hT, X', hL, e1, e2, hq, hce, hcv, vx_cls hW₁ hcl, st⟩
end VXIB
/-! ===== END ===== -/
/-! ===== BEGIN a private constructor of a nest mate that throws ===== -/
section VXIC
variable {p : Program} {l : Launch} {e : Env} {R : Room} {s : State} {m : MethodId} {args : Array Value} {below : List Frame} {meth : Method} {c : Code} {T : State} {locs : List Loc} {cells slots : Nat}
theorem vx_callIN (X : Stand p l e R s m args below meth c T locs cells slots) (hexec : p.tables.exec = Jvm.exec) {own : String} {index : Nat} {host : String} {y : MethodName} {bytes : ByteArray} {maxL : Nat}
    (hown : s.vm.findClass own = some m.cls) (hy1 : y.name = "<init>") (hlink : (Cond.methodLinkNest own index y host).before args s = true) (hinst : (Cond.instanceMethod y).before args s = true)
    (hcode : (Cond.code y bytes maxL none).before args s = true) (hy : y.cls ≠ "java/lang/invoke/MethodHandle" ∧ y.cls ≠ "java/lang/invoke/VarHandle")
    {W9 : Nat} {Pre : Pt → Array Value → Prop} {Post : Pt → Array Value → Option Value → Pt → Prop} {PostX : Pt → Array Value → Addr → Pt → Prop} (hK : vx_Back l R p e below s args y 3 W9 Pre Post PostX)
    {g : JFrame} (hg : g.method = m) (hsize : g.locals.size = c.maxLocals) {a : Addr} {argsL rest : List Value} (hlen : ∀ sig, parseMethodDescriptor y.desc = some sig → argsL.length = sig.parameters.length)
    (hstack : g.stack = argsL.reverse ++ .ref a :: rest) (hW : 2 * g.monitorRoom + (rest.map fun v => v.category).sum ≤ W9) (hdg : decode c.code g.pc = .ok (.invokespecial index, 3))
    (hpre : ∀ vm₁, s.WarmedH vm₁ → Pre ⟨T.setVm vm₁, locs, cells, slots⟩ (Value.ref a :: argsL).toArray) :
    (∃ (v : Option Value) (vm₁ : Vm) (B : Pt), s.WarmedH vm₁ ∧ Stand p l e R s m args below meth c B.U B.locs B.cells B.slots ∧ Post ⟨T.setVm vm₁, locs, cells, slots⟩ (Value.ref a :: argsL).toArray v B ∧
      ∀ target, Steps p.tables e below (B.U.setTop { g with pc := g.pc + 3, stack := v.toList ++ rest }) target → Steps p.tables e below (T.setTop g) target) ∨
    (∃ (q : Addr) (vm₁ : Vm) (B : Pt), s.WarmedH vm₁ ∧ Stand p l e R s m args below meth c B.U B.locs B.cells B.slots ∧ PostX ⟨T.setVm vm₁, locs, cells, slots⟩ (Value.ref a :: argsL).toArray q B ∧
      Steps p.tables e below (T.setTop g) ((B.U.setTop { g with stack := rest }).pushFrame (.throwing q))) := by
  subst hg
  have hpl : e.platform.magicAccessors = ({} : Platform).magicAccessors := by rw [X.admits.platform]
  obtain ⟨mk, methM, cM, kP, vm₁, hnamed, hmethM, hcodeM, -, hlocalsM, -, hkP, -, hW₁, hstep₁⟩ := Steps.initColdArgsNest (e := e) X.here hexec X.warmed hpl hown hy1 hy hlink hinst hcode (f := g) rfl hlen hstack hdg
  have X₁ := X.noted hW₁
  rcases hK g.method meth c ⟨T.setVm vm₁, locs, cells, slots⟩ { g with stack := rest } (.invokespecial index) mk (Value.ref a :: argsL).toArray X₁ rfl hsize hdg hW (X₁.named hnamed) (hpre vm₁ X₁.warmed) with ⟨v, B, X', hpost, hsteps⟩ | ⟨q, B, X', hpost, hsteps⟩
  · exact Or.inl ⟨v, vm₁, B, X₁.warmed, X', hpost, fun target h => hstep₁ _ fun acts => by rw [doInvoke_state]; exact hsteps.trans h⟩
  · exact Or.inr ⟨q, vm₁, B, X₁.warmed, X', hpost, hstep₁ _ fun acts => by rw [doInvoke_state]; exact hsteps⟩
end VXIC
section VXID
variable {p : Program} {l : Launch} {e : Env} {R : Room} {s : State} {m : MethodId} {args : Array Value} {below : List Frame} {meth : Method} {c : Code} {H : Heap} {locs : List Loc} {cells slots : Nat}
theorem vx_runIN {y : MethodName} {bytes cc : ByteArray} {maxL nL mc ms n index : Nat} {ws : List Cond} {rm : Room} {Pc : Array Value → State → Prop} {Qc : Array Value → State → Outcome → State → Prop} {XC : String → State → State → Prop} {free : Addr → Prop} {Ts : List Cond} {own host : String} {b : Addr} {As rest : List Value} {g : JFrame}
    (S : CallFix p m c cc nL s args Ts own) (hM : vx_Met l y ws rm Pc Qc XC mc ms free) (cw : va_CN R s args own index y host bytes maxL none ws rm mc ms n ∧ y.name = "<init>" ∧ (Cond.instanceMethod y).before args s = true) (hp : PreS s H Pc (.ref b :: As))
    (hg : g.method = m) (hn : As.length = n) (hsize : g.locals.size = nL) (hstack : g.stack = As.reverse ++ .ref b :: rest) (hW : 2 * g.monitorRoom + (rest.map fun v => v.category).sum ≤ 8) (hdg : decode cc g.pc = .ok (.invokespecial index, 3)) (hf : cells + mc ≤ R.cells ∧ slots + ms ≤ R.slots) :
    vx_Run p l e R s m args below meth c H locs cells slots mc ms g rest (Qc (Value.ref b :: As).toArray) XC free := by
  obtain ⟨⟨⟨hrc, hrs, hfr, hlo, hws, hcw⟩, hcode, hini, hy, hlen, hl⟩, hx1, hx2⟩ := cw
  have hK : vx_Back l R p e below s args y 3 8 (PreOf R mc ms Pc) (PostOf Qc mc ms free) (vx_Post XC mc ms free) := vx_back (bytes := bytes) (maxL := maxL) (ret := none) hM hp.1 hrc hrs hfr hlo hws hcw (fun a' U hW => word_at hW (Or.inl (by first | rfl | simp [Cond.onTables, Cond.keeps, Cond.steady])) hini)
  obtain ⟨hx, hb, hml, ho, -⟩ := S
  have hPc := hp.2
  intro T hT X
  rcases vx_callIN X hx (bytes := bytes) (maxL := maxL) ho hx1 hl hx2 hcode hy hK hg (hsize.trans hml.symm) (a := b) (argsL := As) (rest := rest) (fun sig h => hn.trans (hlen sig h)) hstack hW (by rw [hb]; exact hdg)
    (fun vm₁ hW₁ => ⟨hf.1, hf.2, hPc (T.setVm vm₁) hT hW₁⟩) with ⟨v, vm₁, ⟨U', l2, c2, s2⟩, hW₁, X', ⟨g', mk, t, L, e1, e2, hq, h1, hL, h2, h3⟩, st⟩ | ⟨q, vm₁, ⟨U', l2, c2, s2⟩, hW₁, X', ⟨g', mk, t, L, E, ce, e1, e2, hq, hce, hcv, hcl, h1, hL, h2, h3⟩, st⟩
  · dsimp only [Pt.U, Pt.locs, Pt.cells, Pt.slots] at X' e1 e2 h1 h2 h3 st
    subst h1; subst h2; subst h3
    exact Or.inl ⟨v, (T.setVm vm₁).calling g' mk (Value.ref b :: As).toArray, t, U', L, hT, X', hL, e1, e2, hq, st⟩
  · dsimp only [Pt.U, Pt.locs, Pt.cells, Pt.slots] at X' e1 e2 h1 h2 h3 st hcl
    subst h1; subst h2; subst h3
    exact Or.inr ⟨q, (T.setVm vm₁).calling g' mk (Value.ref b :: As).toArray, t, U', L, E, ce, hT, X', hL, e1, e2, hq, hce, hcv, vx_cls hW₁ hcl, st⟩
end VXID
/-! ===== END ===== -/
def RX0 : String := "CombCylinder$Drum"
def TX0 : u_T := fun k => match k with
  | 0 => ("CombCylinder$Drum", "ticks", "I", false)
  | 1 => ("CombCylinder$Drum", "airs", "I", false)
  | 2 => ("CombCylinder$Drum", "shift", "I", false)
  | 3 => ("CombCylinder$Drum", "isCemented", "Z", false)
  | 4 => ("CombCylinder$Drum", "size", "I", false)
  | 5 => ("CombCylinder$Drum", "pins", "[LCombCylinder$Pin;", true)
  | _ => ("CombCylinder$Drum", "runOrder", "[LCombCylinder$Pin;", true)
def tyX0 : Nat → FieldType := fun k => match k with
  | 0 => .int
  | 1 => .int
  | 2 => .int
  | 3 => .boolean
  | 4 => .int
  | 5 => .array (.object "CombCylinder$Pin")
  | _ => .array (.object "CombCylinder$Pin")
theorem nmX0 : ∀ a, a < 7 → ∀ b, b < 7 → a ≠ b → (TX0 a).2.1 ≠ (TX0 b).2.1 := by decide +kernel
theorem tyX0_ok : ∀ k, k < 7 → parseFieldDescriptor (TX0 k).2.2.1 = some (tyX0 k) := by decide +kernel
def RX1 : String := "CombCylinder$Pin"
def TX1 : u_T := fun k => match k with
  | 0 => ("CombCylinder$Pin", "air", "I", false)
  | 1 => ("CombCylinder$Pin", "tick", "I", false)
  | 2 => ("CombCylinder$Pin", "place", "I", false)
  | 3 => ("CombCylinder$Pin", "lean", "I", false)
  | 4 => ("CombCylinder$Pin", "rank", "I", false)
  | _ => ("CombCylinder$Pin", "runRank", "I", false)
def tyX1 : Nat → FieldType := fun k => match k with
  | 0 => .int
  | 1 => .int
  | 2 => .int
  | 3 => .int
  | 4 => .int
  | _ => .int
theorem nmX1 : ∀ a, a < 6 → ∀ b, b < 6 → a ≠ b → (TX1 a).2.1 ≠ (TX1 b).2.1 := by decide +kernel
theorem tyX1_ok : ∀ k, k < 6 → parseFieldDescriptor (TX1 k).2.2.1 = some (tyX1 k) := by decide +kernel
def RX2 : String := "CombCylinder$Sheet"
def TX2 : u_T := fun k => match k with
  | 0 => ("CombCylinder$Sheet", "ticks", "[I", true)
  | 1 => ("CombCylinder$Sheet", "parts", "[I", true)
  | 2 => ("CombCylinder$Sheet", "numbers", "[I", true)
  | _ => ("CombCylinder$Sheet", "size", "I", false)
def tyX2 : Nat → FieldType := fun k => match k with
  | 0 => .array .int
  | 1 => .array .int
  | 2 => .array .int
  | _ => .int
theorem nmX2 : ∀ a, a < 4 → ∀ b, b < 4 → a ≠ b → (TX2 a).2.1 ≠ (TX2 b).2.1 := by decide +kernel
theorem tyX2_ok : ∀ k, k < 4 → parseFieldDescriptor (TX2 k).2.2.1 = some (tyX2 k) := by decide +kernel
def RX3 : String := "CombCylinder$Spring"
def TX3 : u_T := fun k => match k with
  | 0 => ("CombCylinder$Spring", "quarters", "I", false)
  | 1 => ("CombCylinder$Spring", "fanSize", "I", false)
  | _ => ("CombCylinder$Spring", "time", "D", false)
def tyX3 : Nat → FieldType := fun k => match k with
  | 0 => .int
  | 1 => .int
  | _ => .double
theorem nmX3 : ∀ a, a < 3 → ∀ b, b < 3 → a ≠ b → (TX3 a).2.1 ≠ (TX3 b).2.1 := by decide +kernel
theorem tyX3_ok : ∀ k, k < 3 → parseFieldDescriptor (TX3 k).2.2.1 = some (tyX3 k) := by decide +kernel
def RX4 : String := "CombCylinder$Tuner"
def TX4 : u_T := fun k => match k with
  | 0 => ("CombCylinder$Tuner", "lostCount", "I", false)
  | 1 => ("CombCylinder$Tuner", "lostPlaces", "[I", true)
  | 2 => ("CombCylinder$Tuner", "given", "[I", true)
  | 3 => ("CombCylinder$Tuner", "choices", "[[I", true)
  | 4 => ("CombCylinder$Tuner", "choiceCounts", "[I", true)
  | 5 => ("CombCylinder$Tuner", "first", "[I", true)
  | _ => ("CombCylinder$Tuner", "found", "I", false)
def tyX4 : Nat → FieldType := fun k => match k with
  | 0 => .int
  | 1 => .array .int
  | 2 => .array .int
  | 3 => .array (.array .int)
  | 4 => .array .int
  | 5 => .array .int
  | _ => .int
theorem nmX4 : ∀ a, a < 7 → ∀ b, b < 7 → a ≠ b → (TX4 a).2.1 ≠ (TX4 b).2.1 := by decide +kernel
theorem tyX4_ok : ∀ k, k < 7 → parseFieldDescriptor (TX4 k).2.2.1 = some (tyX4 k) := by decide +kernel
def RX5 : String := "CombCylinder$Voice"
def TX5 : u_T := fun k => match k with
  | 0 => ("CombCylinder$Voice", "isThere", "Z", false)
  | 1 => ("CombCylinder$Voice", "isTooth", "Z", false)
  | 2 => ("CombCylinder$Voice", "size", "I", false)
  | 3 => ("CombCylinder$Voice", "reach", "I", false)
  | 4 => ("CombCylinder$Voice", "filedTip", "I", false)
  | 5 => ("CombCylinder$Voice", "filedRoot", "I", false)
  | 6 => ("CombCylinder$Voice", "leadOn", "I", false)
  | 7 => ("CombCylinder$Voice", "damperKind", "C", false)
  | 8 => ("CombCylinder$Voice", "isBent", "Z", false)
  | 9 => ("CombCylinder$Voice", "broken", "Z", false)
  | 10 => ("CombCylinder$Voice", "struck", "I", false)
  | _ => ("CombCylinder$Voice", "struckInRun", "I", false)
def tyX5 : Nat → FieldType := fun k => match k with
  | 0 => .boolean
  | 1 => .boolean
  | 2 => .int
  | 3 => .int
  | 4 => .int
  | 5 => .int
  | 6 => .int
  | 7 => .char
  | 8 => .boolean
  | 9 => .boolean
  | 10 => .int
  | _ => .int
theorem nmX5 : ∀ a, a < 12 → ∀ b, b < 12 → a ≠ b → (TX5 a).2.1 ≠ (TX5 b).2.1 := by decide +kernel
theorem tyX5_ok : ∀ k, k < 12 → parseFieldDescriptor (TX5 k).2.2.1 = some (tyX5 k) := by decide +kernel
def RX6 : String := "CombCylinder"
def TX6 : u_T := fun k => match k with
  | 0 => ("CombCylinder", "voices", "[LCombCylinder$Voice;", true)
  | 1 => ("CombCylinder", "sheets", "[LCombCylinder$Sheet;", true)
  | 2 => ("CombCylinder", "drum", "LCombCylinder$Drum;", true)
  | 3 => ("CombCylinder", "spring", "LCombCylinder$Spring;", true)
  | 4 => ("CombCylinder", "tuner", "LCombCylinder$Tuner;", true)
  | 5 => ("CombCylinder", "hasSnail", "Z", false)
  | 6 => ("CombCylinder", "coinsTaken", "I", false)
  | 7 => ("CombCylinder", "struckInAll", "I", false)
  | _ => ("CombCylinder", "struckOfGone", "I", false)
def tyX6 : Nat → FieldType := fun k => match k with
  | 0 => .array (.object "CombCylinder$Voice")
  | 1 => .array (.object "CombCylinder$Sheet")
  | 2 => .object "CombCylinder$Drum"
  | 3 => .object "CombCylinder$Spring"
  | 4 => .object "CombCylinder$Tuner"
  | 5 => .boolean
  | 6 => .int
  | 7 => .int
  | _ => .int
theorem nmX6 : ∀ a, a < 9 → ∀ b, b < 9 → a ≠ b → (TX6 a).2.1 ≠ (TX6 b).2.1 := by decide +kernel
theorem tyX6_ok : ∀ k, k < 9 → parseFieldDescriptor (TX6 k).2.2.1 = some (tyX6 k) := by decide +kernel
end
section
/-! ===== an abstract machine over closed data: the walk of a method by computation; its soundness stands in the parts behind =====
A value: (tag, number, form). 0 int (the number mod 2^32), 6 int (the form's), 1 long (mod 2^64), 2 float, 3 double (their bits), 4 null, 8 some reference, 10 the reference to the cell 'number', 12 the script, 98 nothing; 7 the double of the form, 9 that by the double 'number', 11 the bits of that. Odd tags take two words. A form: constant :: coefficients of the unknowns. -/
abbrev am_V : Type := Nat × Nat × List Int
/-- a cell: below 100 an object of that class, its fields; 100 an int array, 101 and on arrays of references -/
abbrev am_C : Type := Nat × List am_V
/-- the heap: how many cells there are; the cells, sixteen to a block, places that are free yet hold (999, []) -/
abbrev am_H : Type := Nat × List (List am_C)
/-- pc, instruction, length, places of the words that it needs -/
abbrev am_I : Type := Nat × Instr × Nat × List Nat
/-- name, code, locals, what it returns, table, instructions -/
abbrev am_M : Type := MethodName × ByteArray × Nat × Option FieldType × List (Nat × Nat × Nat × Nat) × List am_I
/-- what is known of the unknowns: bounds, equal forms, forms with their absolute values -/
abbrev am_A : Type := List (Int × Int) × List (List Int × List Int) × List (List Int × List Int)
/-- what a run comes to: 0 returned, 1 returned a value, 2 threw (the class' number), 3 stopped; the value; at the pc; locals, stack, heap, cells and slots made -/
abbrev am_O : Type := Nat × am_V × Nat × List am_V × List am_V × am_H × Nat × Nat

/-- shorter roads for the kernel: a choice, an Option's and a list's first case -/
noncomputable def am_if {α : Type} (b : Bool) (t e : α) : α := Bool.rec (motive := fun _ => α) e t b
noncomputable def am_ob {α β : Type} (x : Option α) (k : α → Option β) : Option β := Option.rec (motive := fun _ => Option β) none k x
noncomputable def am_lc {α β : Type} (l : List α) (k : α → List α → Option β) : Option β := List.rec (motive := fun _ => Option β) none (fun a t _ => k a t) l
theorem am_if_t {α : Type} (t e : α) : am_if true t e = t := rfl
theorem am_if_f {α : Type} (t e : α) : am_if false t e = e := rfl
theorem am_ob_s {α β : Type} (x : α) (k : α → Option β) : am_ob (some x) k = k x := rfl
theorem am_ob_n {α β : Type} (k : α → Option β) : am_ob none k = none := rfl
theorem am_ob_some {α β : Type} {x : Option α} {k : α → Option β} {r : β} (h : am_ob x k = some r) : ∃ y, x = some y ∧ k y = some r := by
  cases x with
  | none => cases h
  | some y => exact ⟨y, rfl, h⟩
theorem am_lc_some {α β : Type} {l : List α} {k : α → List α → Option β} {r : β} (h : am_lc l k = some r) : ∃ a t, l = a :: t ∧ k a t = some r := by
  cases l with
  | nil => cases h
  | cons a t => exact ⟨a, t, rfl, h⟩
theorem am_if_some {α : Type} {b : Bool} {t : Option α} {r : α} (h : am_if b t none = some r) : b = true ∧ t = some r := by
  cases b with
  | false => cases h
  | true => exact ⟨rfl, h⟩
noncomputable def am_and (a b : Bool) : Bool := Bool.rec (motive := fun _ => Bool) false b a
noncomputable def am_or (a b : Bool) : Bool := Bool.rec (motive := fun _ => Bool) b true a
theorem am_and_t {a b : Bool} : am_and a b = true ↔ a = true ∧ b = true := by cases a <;> cases b <;> simp [am_and]
theorem am_or_t {a b : Bool} : am_or a b = true ↔ a = true ∨ b = true := by cases a <;> cases b <;> simp [am_or]
noncomputable def am_nth {α : Type} (l : List α) (k : Nat) : Option α :=
  List.rec (motive := fun _ => Nat → Option α) (fun _ => none) (fun a _ ih k => Nat.rec (motive := fun _ => Option α) (some a) (fun k _ => ih k) k) l k
noncomputable def am_set {α : Type} (l : List α) (k : Nat) (x : α) : List α :=
  List.rec (motive := fun _ => Nat → List α) (fun _ => []) (fun a t ih k => Nat.rec (motive := fun _ => List α) (x :: t) (fun k _ => a :: ih k) k) l k
noncomputable def am_dr {α : Type} (l : List α) (k : Nat) : List α :=
  List.rec (motive := fun _ => Nat → List α) (fun _ => []) (fun a t ih k => Nat.rec (motive := fun _ => List α) (a :: t) (fun k _ => ih k) k) l k
/-- l has a place k; it has four at most -/
noncomputable def am_has {α : Type} (l : List α) (k : Nat) : Bool := Option.rec (motive := fun _ => Bool) false (fun _ => true) (am_nth l k)
noncomputable def am_sh {α : Type} (l : List α) : Bool := Option.rec (motive := fun _ => Bool) true (fun _ => false) (am_nth l 4)
noncomputable def am_rep {α : Type} (n : Nat) (x : α) : List α := Nat.rec (motive := fun _ => List α) [] (fun _ ih => x :: ih) n
/-- n values off the stack, the deepest first -/
noncomputable def am_pop {α β : Type} (n : Nat) (k : List α → List α → Option β) (stk : List α) : Option β := Nat.rec (motive := fun _ => List α → List α → Option β) k (fun _ ih acc st => am_lc st (fun v rest => ih (v :: acc) rest)) n [] stk
/-- l, filled up to n places -/
noncomputable def am_pad {α : Type} (x : α) (l : List α) (n : Nat) : Option (List α) := List.rec (motive := fun _ => Nat → Option (List α)) (fun n => some (am_rep n x)) (fun v _ ih n => Nat.rec (motive := fun _ => Option (List α)) none (fun m _ => am_ob (ih m) (fun t => some (v :: t))) n) l n
noncomputable def am_get (h : am_H) (a : Nat) : Option am_C := am_ob (am_nth h.2 (Nat.div a 16)) (fun b => am_nth b (Nat.mod a 16))
noncomputable def am_put (h : am_H) (a : Nat) (c : am_C) : am_H := (h.1, Option.rec (motive := fun _ => List (List am_C)) h.2 (fun b => am_set h.2 (Nat.div a 16) (am_set b (Nat.mod a 16) c)) (am_nth h.2 (Nat.div a 16)))
noncomputable def am_new (h : am_H) (c : am_C) : am_H := (h.1 + 1, (am_put h h.1 c).2)
/-- the next place is free -/
noncomputable def am_free (h : am_H) : Bool := Option.rec (motive := fun _ => Bool) false (fun c => Nat.beq c.1 999) (am_get h h.1)
noncomputable def am_h0 : am_H := (0, am_rep 32 (am_rep 16 (999, [])))
theorem am_nth_eq {α : Type} (l : List α) : ∀ k, am_nth l k = l[k]? := by
  induction l with
  | nil => intro k; rfl
  | cons a t ih =>
    intro k
    cases k with
    | zero => rfl
    | succ k => exact (ih k).trans (by simp)
theorem am_set_eq {α : Type} (l : List α) (x : α) : ∀ k, am_set l k x = l.set k x := by
  induction l with
  | nil => intro k; rfl
  | cons a t ih =>
    intro k
    cases k with
    | zero => rfl
    | succ k =>
      show a :: am_set t k x = _
      rw [ih k]
      rfl

-- forms
def am_dot : List Int → List Int → Int
  | c :: cs, x :: xs => c * x + am_dot cs xs
  | _, _ => 0
def am_ev (X : List Int) : List Int → Int
  | [] => 0
  | c :: cs => c + am_dot cs X
def am_fadd : List Int → List Int → List Int
  | [], g => g
  | f, [] => f
  | a :: f, b :: g => (a + b) :: am_fadd f g
def am_fmul (k : Int) (f : List Int) : List Int := f.map (fun c => k * c)
def am_fsub (f g : List Int) : List Int := am_fadd f (am_fmul (-1) g)
def am_zero (f : List Int) : Bool := f.all (fun c => c == 0)
def am_feq (f g : List Int) : Bool := am_zero (am_fsub f g)
def am_rng : List (Int × Int) → List Int → Option (Int × Int)
  | _, [] => some (0, 0)
  | [], c :: cs => if c = 0 then am_rng [] cs else none
  | b :: bs, c :: cs => match am_rng bs cs with
    | none => none
    | some r => if 0 ≤ c then some (r.1 + c * b.1, r.2 + c * b.2) else some (r.1 + c * b.2, r.2 + c * b.1)
def am_lim (A : am_A) : List Int → Option (Int × Int)
  | [] => some (0, 0)
  | c :: cs => match am_rng A.1 cs with
    | none => none
    | some r => some (c + r.1, c + r.2)
def am_rw : List (List Int × List Int) → List Int → List Int
  | [], f => f
  | e :: es, f => bif am_feq f e.1 then e.2 else am_rw es f
def am_look : List (List Int × List Int) → List Int → Option (List Int)
  | [], _ => none
  | e :: es, f => bif am_feq f e.1 then some e.2 else am_look es f
/-- the number mod 2^32 as an Int; an Int mod 2^32 -/
def am_si (n : Nat) : Int := bif Nat.blt n 2147483648 then (n : Int) else (n : Int) - 4294967296
def am_un (z : Int) : Nat := (z % 4294967296).toNat
def am_int (z : Int) : am_V := (0, am_un z, [])
def am_form (v : am_V) : Option (List Int) := bif Nat.beq v.1 0 then some [am_si v.2.1] else bif Nat.beq v.1 6 then some v.2.2 else none
def am_mk (A : am_A) (f : List Int) : am_V := match am_rw A.2.1 f with
  | [] => (0, 0, [])
  | c :: cs => bif am_zero cs then am_int c else (6, 0, c :: cs)
noncomputable def am_k2 (a b : am_V) : Bool := am_and (Nat.beq a.1 0) (Nat.beq b.1 0)
def am_iaddF (A : am_A) (a b : am_V) : Option am_V := match am_form a, am_form b with
  | some f, some g => some (am_mk A (am_fadd f g))
  | _, _ => none
noncomputable def am_iadd (A : am_A) (a b : am_V) : Option am_V := am_if (am_k2 a b) (some (0, (a.2.1 + b.2.1) % 4294967296, [])) (am_iaddF A a b)
def am_isub (A : am_A) (a b : am_V) : Option am_V := match am_form a, am_form b with
  | some f, some g => some (am_mk A (am_fsub f g))
  | _, _ => none
def am_imulF (A : am_A) (a b : am_V) : Option am_V := match am_form a, am_form b with
  | some [c], some g => some (am_mk A (am_fmul c g))
  | some f, some [c] => some (am_mk A (am_fmul c f))
  | _, _ => none
noncomputable def am_imul (A : am_A) (a b : am_V) : Option am_V := am_if (am_k2 a b) (some (0, (a.2.1 * b.2.1) % 4294967296, [])) (am_imulF A a b)

/-- f = f1 + d * g: f1's coefficients aren't divisible -/
def am_f1 (d : Int) (f : List Int) : List Int := f.map (fun c => if c % d = 0 then 0 else c)
def am_fg (d : Int) (f : List Int) : List Int := f.map (fun c => if c % d = 0 then c / d else 0)
def am_qr (A : am_A) (f : List Int) (d : Int) : Option (List Int × List Int) := match f with
  | [] => none
  | c :: cs => match am_lim A f, am_lim A (c % d :: am_f1 d cs) with
    | some r, some r1 => bif decide (0 < d) && decide (d < 2147483648) && decide (0 ≤ r.1) && decide (r.2 < 2147483648) && decide (0 ≤ r1.1) && decide (r1.2 < d) then some (c / d :: am_fg d cs, c % d :: am_f1 d cs) else none
    | _, _ => none
def am_idiv (A : am_A) (a b : am_V) : Option am_V := match am_form a, am_form b with
  | some f, some [d] => match am_qr A f d with
    | some q => some (am_mk A q.1)
    | none => none
  | _, _ => none
def am_irem (A : am_A) (a b : am_V) : Option am_V := match am_form a, am_form b with
  | some f, some [d] => match am_qr A f d with
    | some q => some (am_mk A q.2)
    | none => none
  | _, _ => none
def am_in32 (r : Int × Int) : Bool := decide (-2147483648 ≤ r.1) && decide (r.2 < 2147483648)
/-- a < b -/
def am_ltF (A : am_A) (a b : am_V) : Option Bool := match am_form a, am_form b with
  | some f, some g => match am_lim A f, am_lim A g, am_lim A (am_fsub f g) with
    | some r, some q, some t => bif am_in32 r && am_in32 q then (bif decide (t.2 < 0) then some true else bif decide (0 ≤ t.1) then some false else none) else none
    | _, _, _ => none
  | _, _ => none
noncomputable def am_lt (A : am_A) (a b : am_V) : Option Bool := am_if (am_k2 a b) (some (Nat.blt ((a.2.1 + 2147483648) % 4294967296) ((b.2.1 + 2147483648) % 4294967296))) (am_ltF A a b)
def am_eqF (A : am_A) (a b : am_V) : Option Bool := match am_form a, am_form b with
  | some f, some g => bif am_feq f g then some true else match am_lim A f, am_lim A g, am_lim A (am_fsub f g) with
    | some r, some q, some t => bif am_in32 r && am_in32 q && (decide (t.2 < 0) || decide (0 < t.1)) then some false else none
    | _, _, _ => none
  | _, _ => none
noncomputable def am_eq (A : am_A) (a b : am_V) : Option Bool := am_if (am_k2 a b) (some (Nat.beq (a.2.1 % 4294967296) (b.2.1 % 4294967296))) (am_eqF A a b)
noncomputable def am_gt (A : am_A) (a b : am_V) : Option Bool := am_lt A b a
def am_abs (A : am_A) (a : am_V) : Option am_V := match am_form a with
  | none => none
  | some f => match am_look A.2.2 f with
    | some g => match am_lim A f with
      | some r => bif am_in32 r then some (am_mk A g) else none
      | none => none
    | none => match am_lim A f with
      | some r => bif am_in32 r then (bif decide (0 ≤ r.1) then some (am_mk A f) else bif decide (r.2 < 0) then some (am_mk A (am_fmul (-1) f)) else none) else none
      | none => none
def am_isu (i : am_V) : Bool := Nat.beq i.1 98
/-- words -/
def am_c2 (v : am_V) : Bool := Nat.beq (v.1 % 2) 1
def am_un0 : am_V := (98, 0, [])
noncomputable def am_lay (l : List am_V) : List am_V := List.rec (motive := fun _ => List am_V) [] (fun v _ ih => am_if (am_c2 v) (v :: am_un0 :: ih) (v :: ih)) l
/-- a store of a value of one word: what stood in two words there is gone -/
noncomputable def am_st1 (lo : List am_V) (k : Nat) (v : am_V) : List am_V := Nat.rec (motive := fun _ => List am_V) (am_set lo 0 v) (fun j _ => Option.rec (motive := fun _ => List am_V) (am_set lo (j + 1) v) (fun w => am_if (am_c2 w) (am_set (am_set lo j am_un0) (j + 1) v) (am_set lo (j + 1) v)) (am_nth lo j)) k
noncomputable def am_st2 (lo : List am_V) (k : Nat) (v : am_V) : List am_V := am_set (am_st1 lo k v) (k + 1) am_un0
def am_tgt (pc : Nat) (off : Int) : Nat := ((pc : Int) + off).toNat
end
section
/-! ===== what the abstract machine's numbers stand for ===== -/
theorem am_dot_add (f : List Int) : ∀ (g X : List Int), am_dot (am_fadd f g) X = am_dot f X + am_dot g X := by
  induction f with
  | nil => intro g X; simp [am_fadd, am_dot]
  | cons a f ih =>
    intro g X
    cases g with
    | nil => simp [am_fadd, am_dot]
    | cons b g =>
      cases X with
      | nil => simp [am_fadd, am_dot]
      | cons x X =>
        simp only [am_fadd, am_dot, ih g X, Int.add_mul]
        omega
theorem am_dot_mul (k : Int) (f : List Int) : ∀ X, am_dot (am_fmul k f) X = k * am_dot f X := by
  induction f with
  | nil => intro X; simp [am_fmul, am_dot]
  | cons a f ih =>
    intro X
    cases X with
    | nil => simp [am_fmul, am_dot]
    | cons x X =>
      have h := ih X
      simp only [am_fmul] at h
      simp only [am_fmul, List.map_cons, am_dot, h, Int.mul_add, Int.mul_assoc]
theorem am_ev_add (X f g : List Int) : am_ev X (am_fadd f g) = am_ev X f + am_ev X g := by
  cases f with
  | nil => simp [am_fadd, am_ev]
  | cons a f =>
    cases g with
    | nil => simp [am_fadd, am_ev]
    | cons b g =>
      simp only [am_fadd, am_ev, am_dot_add]
      omega
theorem am_ev_mul (X : List Int) (k : Int) (f : List Int) : am_ev X (am_fmul k f) = k * am_ev X f := by
  cases f with
  | nil => simp [am_fmul, am_ev]
  | cons a f =>
    have h := am_dot_mul k f X
    simp only [am_fmul] at h
    simp only [am_fmul, List.map_cons, am_ev, h, Int.mul_add]
theorem am_ev_sub (X f g : List Int) : am_ev X (am_fsub f g) = am_ev X f - am_ev X g := by
  unfold am_fsub
  rw [am_ev_add, am_ev_mul]
  omega
theorem am_dot_zero (f : List Int) : ∀ X, am_zero f = true → am_dot f X = 0 := by
  induction f with
  | nil => intro X _; simp [am_dot]
  | cons a f ih =>
    intro X h
    simp only [am_zero, List.all_cons, Bool.and_eq_true, beq_iff_eq] at h
    cases X with
    | nil => simp [am_dot]
    | cons x X =>
      have h2 : am_zero f = true := h.2
      simp [am_dot, h.1, ih X h2]
theorem am_ev_zero (X f : List Int) (h : am_zero f = true) : am_ev X f = 0 := by
  cases f with
  | nil => rfl
  | cons a f =>
    simp only [am_zero, List.all_cons, Bool.and_eq_true, beq_iff_eq] at h
    have h2 : am_zero f = true := h.2
    simp [am_ev, h.1, am_dot_zero f X h2]
theorem am_ev_eq (X f g : List Int) (h : am_feq f g = true) : am_ev X f = am_ev X g := by
  have h1 := am_ev_zero X _ h
  rw [am_ev_sub] at h1
  omega
/-- the unknowns keep to their bounds -/
def am_bx : List (Int × Int) → List Int → Prop
  | [], _ => True
  | b :: bs, x :: xs => b.1 ≤ x ∧ x ≤ b.2 ∧ am_bx bs xs
  | _ :: _, [] => False
theorem am_rng_ok (cs : List Int) : ∀ (bs : List (Int × Int)) (X : List Int) (r : Int × Int), am_bx bs X → am_rng bs cs = some r → r.1 ≤ am_dot cs X ∧ am_dot cs X ≤ r.2 := by
  induction cs with
  | nil =>
    intro bs X r _ h
    simp only [am_rng, Option.some.injEq] at h
    subst h
    simp [am_dot]
  | cons c cs ih =>
    intro bs X r hb h
    cases bs with
    | nil =>
      simp only [am_rng] at h
      split at h
      · rename_i hc
        subst hc
        cases X with
        | nil =>
          have h2 := ih [] [] r trivial h
          simpa [am_dot] using (show r.1 ≤ 0 ∧ 0 ≤ r.2 by cases cs <;> simpa [am_dot] using h2)
        | cons x X =>
          have h2 := ih [] X r trivial h
          simpa [am_dot] using h2
      · cases h
    | cons b bs =>
      cases X with
      | nil => exact hb.elim
      | cons x X =>
        obtain ⟨h1, h2, h3⟩ := hb
        simp only [am_rng] at h
        cases hr : am_rng bs cs with
        | none => rw [hr] at h; cases h
        | some q =>
          rw [hr] at h
          obtain ⟨k1, k2⟩ := ih bs X q h3 hr
          simp only [am_dot]
          simp only at h
          split at h
          · rename_i hc
            cases h
            have e1 := Int.mul_le_mul_of_nonneg_left h1 hc
            have e2 := Int.mul_le_mul_of_nonneg_left h2 hc
            constructor <;> simp only <;> omega
          · rename_i hc
            cases h
            have hc' : c ≤ 0 := by omega
            have e1 := Int.mul_le_mul_of_nonpos_left hc' h1
            have e2 := Int.mul_le_mul_of_nonpos_left hc' h2
            constructor <;> simp only <;> omega
/-- what is known of the unknowns holds -/
def am_kn (A : am_A) (X : List Int) : Prop := am_bx A.1 X ∧ (∀ e ∈ A.2.1, am_ev X e.1 = am_ev X e.2) ∧ ∀ e ∈ A.2.2, am_ev X e.2 = ((am_ev X e.1).natAbs : Int)
theorem am_lim_ok {A : am_A} {X f : List Int} {r : Int × Int} (hA : am_kn A X) (h : am_lim A f = some r) : r.1 ≤ am_ev X f ∧ am_ev X f ≤ r.2 := by
  cases f with
  | nil =>
    simp only [am_lim, Option.some.injEq] at h
    subst h
    simp [am_ev]
  | cons c cs =>
    simp only [am_lim] at h
    cases hr : am_rng A.1 cs with
    | none => rw [hr] at h; cases h
    | some q =>
      rw [hr] at h
      cases h
      have := am_rng_ok cs A.1 X q hA.1 hr
      simp only [am_ev]
      omega
theorem am_rw_ok {X : List Int} : ∀ (es : List (List Int × List Int)) (f : List Int), (∀ e ∈ es, am_ev X e.1 = am_ev X e.2) → am_ev X (am_rw es f) = am_ev X f := by
  intro es
  induction es with
  | nil => intro f _; rfl
  | cons e es ih =>
    intro f h
    simp only [am_rw]
    cases hq : am_feq f e.1 with
    | true =>
      simp only [cond_true]
      rw [am_ev_eq X _ _ hq, h e List.mem_cons_self]
    | false =>
      simp only [cond_false]
      exact ih f (fun x hx => h x (List.mem_cons_of_mem _ hx))
theorem am_look_ok {X : List Int} : ∀ (es : List (List Int × List Int)) (f g : List Int), (∀ e ∈ es, am_ev X e.2 = ((am_ev X e.1).natAbs : Int)) → am_look es f = some g → am_ev X g = ((am_ev X f).natAbs : Int) := by
  intro es
  induction es with
  | nil => intro f g _ h; cases h
  | cons e es ih =>
    intro f g h hl
    simp only [am_look] at hl
    cases hq : am_feq f e.1 with
    | true =>
      rw [hq] at hl
      simp only [cond_true, Option.some.injEq] at hl
      subst hl
      rw [h e List.mem_cons_self, am_ev_eq X _ _ hq]
    | false =>
      rw [hq] at hl
      simp only [cond_false] at hl
      exact ih f g (fun x hx => h x (List.mem_cons_of_mem _ hx)) hl
-- 32 bits
def am_i (z : Int) : Int32 := Int32.ofInt z
theorem am_bm (z : Int) : z.bmod 4294967296 = if z % 4294967296 < 2147483648 then z % 4294967296 else z % 4294967296 - 4294967296 := by
  rw [Int.bmod_def]
  rfl
theorem am_i_t (z : Int) : (am_i z).toInt = z.bmod 4294967296 := by
  unfold am_i
  rw [Int32.toInt_ofInt]
theorem am_i_ext {x : Int32} {z : Int} (h : x.toInt = z.bmod 4294967296) : x = am_i z := by
  apply Int32.toInt_inj.mp
  rw [h, am_i_t]
theorem am_i_nat (n : Nat) : Int32.ofNat n = am_i (n : Int) := by
  apply am_i_ext
  rw [Int32.toInt_ofNat']
theorem am_i_mod (z : Int) : am_i (z % 4294967296) = am_i z := by
  apply am_i_ext
  rw [am_i_t, am_bm, am_bm]
  split <;> split <;> omega
theorem am_i_un (z : Int) : Int32.ofNat (am_un z) = am_i z := by
  rw [am_i_nat]
  unfold am_un
  rw [Int.toNat_of_nonneg (by omega), am_i_mod]
theorem am_i_si (n : Nat) : Int32.ofNat n = am_i (am_si n) := by
  rw [am_i_nat]
  unfold am_si
  cases h : Nat.blt n 2147483648 with
  | true => rfl
  | false =>
    apply am_i_ext
    rw [am_i_t]
    simp only [cond_false]
    rw [am_bm, am_bm]
    split <;> split <;> omega
theorem am_i_nmod (n : Nat) : Int32.ofNat (n % 4294967296) = Int32.ofNat n := by
  rw [am_i_nat, am_i_nat]
  apply am_i_ext
  rw [am_i_t, am_bm, am_bm]
  split <;> split <;> omega
theorem am_i_add (a b : Int) : am_i a + am_i b = am_i (a + b) := by
  apply am_i_ext
  rw [Int32.toInt_add, am_i_t, am_i_t]
  simp
theorem am_i_sub (a b : Int) : am_i a - am_i b = am_i (a - b) := by
  apply am_i_ext
  rw [Int32.toInt_sub, am_i_t, am_i_t]
  simp
theorem am_i_mul (a b : Int) : am_i a * am_i b = am_i (a * b) := by
  apply am_i_ext
  rw [Int32.toInt_mul, am_i_t, am_i_t]
  simp
theorem am_i_in {z : Int} (h1 : -2147483648 ≤ z) (h2 : z < 2147483648) : (am_i z).toInt = z := by
  rw [am_i_t, am_bm]
  split <;> omega
theorem am_i_div {a d : Int} (h1 : 0 ≤ a) (h2 : a < 2147483648) (h3 : 0 < d) (h4 : d < 2147483648) : am_i a / am_i d = am_i (a / d) := by
  apply am_i_ext
  rw [Int32.toInt_div, am_i_in (by omega) h2, am_i_in (by omega) h4, Int.tdiv_eq_ediv_of_nonneg h1]
theorem am_i_lt {a b : Int} (h1 : -2147483648 ≤ a) (h2 : a < 2147483648) (h3 : -2147483648 ≤ b) (h4 : b < 2147483648) : am_i a < am_i b ↔ a < b := by
  rw [Int32.lt_iff_toInt_lt, am_i_in h1 h2, am_i_in h3 h4]
theorem am_i_eq {a b : Int} (h1 : -2147483648 ≤ a) (h2 : a < 2147483648) (h3 : -2147483648 ≤ b) (h4 : b < 2147483648) : am_i a = am_i b ↔ a = b := by
  rw [← Int32.toInt_inj, am_i_in h1 h2, am_i_in h3 h4]
theorem am_n_lt (a b : Nat) : Int32.ofNat a < Int32.ofNat b ↔ Nat.blt ((a + 2147483648) % 4294967296) ((b + 2147483648) % 4294967296) = true := by
  rw [Int32.lt_iff_toInt_lt, am_i_nat, am_i_nat, am_i_t, am_i_t, Nat.blt_eq, am_bm, am_bm]
  split <;> split <;> omega
theorem am_n_eq (a b : Nat) : Int32.ofNat a = Int32.ofNat b ↔ Nat.beq (a % 4294967296) (b % 4294967296) = true := by
  rw [← Int32.toInt_inj, am_i_nat, am_i_nat, am_i_t, am_i_t, Nat.beq_eq, am_bm, am_bm]
  split <;> split <;> omega
end
section
/-! ===== a value of the abstract machine and a value of the machine: X the unknowns, b the script's cell, ad the cells' addresses ===== -/
def am_dq (X : List Int) (n : Nat) (f : List Int) : UInt64 := FP.ddiv (FP.i2d (am_i (am_ev X f))) (UInt64.ofNat n)
def am_R (X : List Int) (b : Nat) (ad : List Nat) (v : am_V) (V : Value) : Prop := match v.1 with
  | 0 => V = .int (Int32.ofNat v.2.1)
  | 1 => V = .long (Int64.ofNat v.2.1)
  | 2 => V = .float (UInt32.ofNat v.2.1)
  | 3 => V = .double (UInt64.ofNat v.2.1)
  | 4 => V = .null
  | 6 => V = .int (am_i (am_ev X v.2.2))
  | 7 => V = .double (FP.i2d (am_i (am_ev X v.2.2)))
  | 8 => ∃ a, V = .ref a
  | 9 => V = .double (am_dq X v.2.1 v.2.2)
  | 10 => ∃ a, ad[v.2.1]? = some a ∧ V = .ref a
  | 11 => V = .long (am_dq X v.2.1 v.2.2).toInt64
  | 12 => V = .ref b
  | _ => False
theorem am_R_grow {X : List Int} {b : Nat} {ad ad' : List Nat} {v : am_V} {V : Value} (h : am_R X b ad v V) (hp : ∀ (k a : Nat), ad[k]? = some a → ad'[k]? = some a) : am_R X b ad' v V := by
  obtain ⟨t, n, f⟩ := v
  unfold am_R at h ⊢
  split at h <;> simp_all
  obtain ⟨a, h1, h2⟩ := h
  exact ⟨a, hp _ _ h1, h2⟩
section AMV
variable {X : List Int} {b : Nat} {ad : List Nat} {A : am_A}
theorem am_R_int {v : am_V} {V : Value} {f : List Int} (h : am_R X b ad v V) (hf : am_form v = some f) : V = .int (am_i (am_ev X f)) := by
  obtain ⟨t, n, g⟩ := v
  unfold am_form at hf
  cases h0 : Nat.beq t 0 with
  | true =>
    simp only [h0, am_if_t, cond_true, Option.some.injEq] at hf
    have ht : t = 0 := Nat.eq_of_beq_eq_true h0
    subst ht
    subst hf
    have h2 : V = .int (Int32.ofNat n) := h
    rw [h2, am_i_si]
    simp [am_ev, am_dot]
  | false =>
    simp only [h0, am_if_f, cond_false] at hf
    cases h6 : Nat.beq t 6 with
    | true =>
      simp only [h6, am_if_t, cond_true, Option.some.injEq] at hf
      have ht : t = 6 := Nat.eq_of_beq_eq_true h6
      subst ht
      subst hf
      exact h
    | false =>
      simp only [h6, am_if_f, cond_false] at hf
      cases hf
theorem am_R_k2 {u v : am_V} {U V : Value} (h : am_k2 u v = true) (hu : am_R X b ad u U) (hv : am_R X b ad v V) : U = .int (Int32.ofNat u.2.1) ∧ V = .int (Int32.ofNat v.2.1) := by
  unfold am_k2 at h
  rw [am_and_t] at h
  obtain ⟨t, n, f⟩ := u
  obtain ⟨t', n', f'⟩ := v
  have h1 : t = 0 := Nat.eq_of_beq_eq_true h.1
  have h2 : t' = 0 := Nat.eq_of_beq_eq_true h.2
  subst h1
  subst h2
  exact ⟨hu, hv⟩
theorem am_R_mk (hA : am_kn A X) (f : List Int) : am_R X b ad (am_mk A f) (.int (am_i (am_ev X f))) := by
  rw [← am_rw_ok A.2.1 f hA.2.1]
  unfold am_mk
  generalize am_rw A.2.1 f = g
  cases g with
  | nil =>
    show Value.int _ = .int (Int32.ofNat 0)
    rw [am_i_nat]
    rfl
  | cons c cs =>
    cases hz : am_zero cs with
    | false => simp only [hz, am_if_f, cond_false]; rfl
    | true =>
      simp only [hz, am_if_t, cond_true]
      show Value.int _ = .int (Int32.ofNat (am_un c))
      rw [am_i_un]
      simp only [am_ev, am_dot_zero cs X hz, Int.add_zero]
theorem am_R_0 (n : Nat) : am_R X b ad (0, n, []) (.int (Int32.ofNat n)) := rfl
theorem am_R_i (z : Int) : am_R X b ad (am_int z) (.int (am_i z)) := by
  show Value.int _ = .int (Int32.ofNat (am_un z))
  rw [am_i_un]
theorem am_R_iadd (hA : am_kn A X) {u v r : am_V} {U V : Value} (hu : am_R X b ad u U) (hv : am_R X b ad v V) (h : am_iadd A u v = some r) : ∃ x y : Int32, U = .int x ∧ V = .int y ∧ am_R X b ad r (.int (x + y)) := by
  unfold am_iadd at h
  cases hk : am_k2 u v with
  | true =>
    simp only [hk, am_if_t, cond_true, Option.some.injEq] at h
    obtain ⟨h1, h2⟩ := am_R_k2 hk hu hv
    refine ⟨_, _, h1, h2, ?_⟩
    subst h
    show Value.int _ = .int (Int32.ofNat _)
    rw [am_i_nmod, am_i_nat, am_i_nat, am_i_nat, am_i_add]
    rfl
  | false =>
    simp only [hk, am_if_f, cond_false, am_iaddF, am_imulF, am_ltF, am_eqF] at h
    split at h
    · rename_i f g hf hg
      cases h
      refine ⟨_, _, am_R_int hu hf, am_R_int hv hg, ?_⟩
      rw [am_i_add, ← am_ev_add]
      exact am_R_mk hA _
    · cases h
theorem am_R_isub (hA : am_kn A X) {u v r : am_V} {U V : Value} (hu : am_R X b ad u U) (hv : am_R X b ad v V) (h : am_isub A u v = some r) : ∃ x y : Int32, U = .int x ∧ V = .int y ∧ am_R X b ad r (.int (x - y)) := by
  unfold am_isub at h
  split at h
  · rename_i f g hf hg
    cases h
    refine ⟨_, _, am_R_int hu hf, am_R_int hv hg, ?_⟩
    rw [am_i_sub, ← am_ev_sub]
    exact am_R_mk hA _
  · cases h
theorem am_R_imul (hA : am_kn A X) {u v r : am_V} {U V : Value} (hu : am_R X b ad u U) (hv : am_R X b ad v V) (h : am_imul A u v = some r) : ∃ x y : Int32, U = .int x ∧ V = .int y ∧ am_R X b ad r (.int (x * y)) := by
  unfold am_imul at h
  cases hk : am_k2 u v with
  | true =>
    simp only [hk, am_if_t, cond_true, Option.some.injEq] at h
    obtain ⟨h1, h2⟩ := am_R_k2 hk hu hv
    refine ⟨_, _, h1, h2, ?_⟩
    subst h
    show Value.int _ = .int (Int32.ofNat _)
    rw [am_i_nmod, am_i_nat, am_i_nat, am_i_nat, am_i_mul]
    rfl
  | false =>
    simp only [hk, am_if_f, cond_false, am_iaddF, am_imulF, am_ltF, am_eqF] at h
    split at h
    · rename_i c g hf hg
      cases h
      refine ⟨_, _, am_R_int hu hf, am_R_int hv hg, ?_⟩
      rw [am_i_mul, show am_ev X [c] = c by simp [am_ev, am_dot], ← am_ev_mul]
      exact am_R_mk hA _
    · rename_i f c _ hf hg
      cases h
      refine ⟨_, _, am_R_int hu hf, am_R_int hv hg, ?_⟩
      rw [am_i_mul, show am_ev X [c] = c by simp [am_ev, am_dot], Int.mul_comm, ← am_ev_mul]
      exact am_R_mk hA _
    · cases h
theorem am_dot_qr (d : Int) (f : List Int) : ∀ X, am_dot f X = am_dot (am_f1 d f) X + d * am_dot (am_fg d f) X := by
  induction f with
  | nil => intro X; simp [am_f1, am_fg, am_dot]
  | cons c f ih =>
    intro X
    cases X with
    | nil => simp [am_f1, am_fg, am_dot]
    | cons x X =>
      have h := ih X
      simp only [am_f1, am_fg] at h
      simp only [am_f1, am_fg, List.map_cons, am_dot]
      rw [h]
      by_cases hc : c % d = 0
      · simp only [if_pos hc, Int.zero_mul, Int.mul_add]
        have e : d * (c / d * x) = c * x := by
          rw [← Int.mul_assoc, Int.mul_ediv_cancel' (Int.dvd_of_emod_eq_zero hc)]
        omega
      · simp only [if_neg hc, Int.zero_mul, Int.mul_add]
        omega
theorem am_qr_ok (hA : am_kn A X) {f : List Int} {d : Int} {q : List Int × List Int} (h : am_qr A f d = some q) : 0 < d ∧ d < 2147483648 ∧ 0 ≤ am_ev X f ∧ am_ev X f < 2147483648 ∧ am_ev X q.1 = am_ev X f / d ∧ am_ev X q.2 = am_ev X f % d := by
  cases f with
  | nil => cases h
  | cons c cs =>
    simp only [am_qr] at h
    split at h
    · rename_i r r1 hr hr1
      cases hb : (decide (0 < d) && decide (d < 2147483648) && decide (0 ≤ r.1) && decide (r.2 < 2147483648) && decide (0 ≤ r1.1) && decide (r1.2 < d)) with
      | false => rw [hb] at h; cases h
      | true =>
        rw [hb] at h
        simp only [am_if_t, cond_true, Option.some.injEq] at h
        simp only [Bool.and_eq_true, decide_eq_true_eq] at hb
        obtain ⟨⟨⟨⟨⟨b1, b2⟩, b3⟩, b4⟩, b5⟩, b6⟩ := hb
        have l1 := am_lim_ok hA hr
        have l2 := am_lim_ok hA hr1
        subst h
        have e := am_dot_qr d cs X
        have e2 := Int.emod_add_mul_ediv c d
        simp only [am_ev] at l1 l2 ⊢
        have key : c + am_dot cs X = (c % d + am_dot (am_f1 d cs) X) + d * (c / d + am_dot (am_fg d cs) X) := by
          rw [e, Int.mul_add]
          omega
        have hlo : 0 ≤ c % d + am_dot (am_f1 d cs) X := by omega
        have hhi : c % d + am_dot (am_f1 d cs) X < d := by omega
        refine ⟨b1, b2, by omega, by omega, ?_, ?_⟩
        · rw [key, Int.add_mul_ediv_left _ _ (by omega), Int.ediv_eq_zero_of_lt hlo hhi]
          omega
        · rw [key, Int.add_mul_emod_self_left, Int.emod_eq_of_lt hlo hhi]
    · cases h
theorem am_R_idiv (hA : am_kn A X) {u v r : am_V} {U V : Value} (hu : am_R X b ad u U) (hv : am_R X b ad v V) (h : am_idiv A u v = some r) : ∃ x y : Int32, U = .int x ∧ V = .int y ∧ ¬ y = 0 ∧ am_R X b ad r (.int (x / y)) := by
  unfold am_idiv at h
  split at h
  · rename_i f d hf hg
    split at h
    · rename_i q hq
      cases h
      obtain ⟨k1, k2, k3, k4, k5, k6⟩ := am_qr_ok hA hq
      have e0 : am_ev X [d] = d := by simp [am_ev, am_dot]
      refine ⟨_, _, am_R_int hu hf, am_R_int hv hg, ?_, ?_⟩
      · rw [e0]
        intro hz
        have hz2 : am_i d = am_i 0 := hz
        rw [am_i_eq (by omega) k2 (by omega) (by omega)] at hz2
        omega
      · rw [e0, am_i_div k3 k4 k1 k2, ← k5]
        exact am_R_mk hA _
    · cases h
  · cases h
theorem am_R_irem (hA : am_kn A X) {u v r : am_V} {U V : Value} (hu : am_R X b ad u U) (hv : am_R X b ad v V) (h : am_irem A u v = some r) : ∃ x y : Int32, U = .int x ∧ V = .int y ∧ ¬ y = 0 ∧ am_R X b ad r (.int (x - x / y * y)) := by
  unfold am_irem at h
  split at h
  · rename_i f d hf hg
    split at h
    · rename_i q hq
      cases h
      obtain ⟨k1, k2, k3, k4, k5, k6⟩ := am_qr_ok hA hq
      have e0 : am_ev X [d] = d := by simp [am_ev, am_dot]
      refine ⟨_, _, am_R_int hu hf, am_R_int hv hg, ?_, ?_⟩
      · rw [e0]
        intro hz
        have hz2 : am_i d = am_i 0 := hz
        rw [am_i_eq (by omega) k2 (by omega) (by omega)] at hz2
        omega
      · have e1 := Int.emod_add_mul_ediv (am_ev X f) d
        have e2 : am_ev X f - am_ev X f / d * d = am_ev X q.2 := by
          rw [k6, Int.mul_comm]
          omega
        rw [e0, am_i_div k3 k4 k1 k2, am_i_mul, am_i_sub, e2]
        exact am_R_mk hA _
    · cases h
  · cases h
theorem am_in_ok {r : Int × Int} {z : Int} (h : am_in32 r = true) (h1 : r.1 ≤ z ∧ z ≤ r.2) : -2147483648 ≤ z ∧ z < 2147483648 := by
  simp only [am_in32, Bool.and_eq_true, decide_eq_true_eq] at h
  omega
theorem am_R_lt (hA : am_kn A X) {u v : am_V} {U V : Value} {r : Bool} (hu : am_R X b ad u U) (hv : am_R X b ad v V) (h : am_lt A u v = some r) : ∃ x y : Int32, U = .int x ∧ V = .int y ∧ (x < y ↔ r = true) := by
  unfold am_lt at h
  cases hk : am_k2 u v with
  | true =>
    simp only [hk, am_if_t, cond_true, Option.some.injEq] at h
    obtain ⟨h1, h2⟩ := am_R_k2 hk hu hv
    exact ⟨_, _, h1, h2, by rw [am_n_lt, h]⟩
  | false =>
    simp only [hk, am_if_f, cond_false, am_iaddF, am_imulF, am_ltF, am_eqF] at h
    split at h
    · rename_i f g hf hg
      split at h
      · rename_i r1 q1 t1 hr hq ht
        refine ⟨_, _, am_R_int hu hf, am_R_int hv hg, ?_⟩
        have l1 := am_lim_ok hA hr
        have l2 := am_lim_ok hA hq
        have l3 := am_lim_ok hA ht
        rw [am_ev_sub] at l3
        cases hb : (am_in32 r1 && am_in32 q1) with
        | false => rw [hb] at h; cases h
        | true =>
          rw [hb] at h
          simp only [am_if_t, cond_true] at h
          simp only [Bool.and_eq_true] at hb
          have i1 := am_in_ok hb.1 l1
          have i2 := am_in_ok hb.2 l2
          rw [am_i_lt i1.1 i1.2 i2.1 i2.2]
          by_cases c1 : t1.2 < 0
          · simp only [decide_eq_true c1, am_if_t, cond_true, Option.some.injEq] at h
            subst h
            simp only [iff_true]
            omega
          · simp only [decide_eq_false c1, am_if_f, cond_false] at h
            by_cases c2 : 0 ≤ t1.1
            · simp only [decide_eq_true c2, am_if_t, cond_true, Option.some.injEq] at h
              subst h
              simp only [Bool.false_eq_true, iff_false]
              omega
            · simp only [decide_eq_false c2, am_if_f, cond_false] at h
              cases h
      · cases h
    · cases h
theorem am_R_eq (hA : am_kn A X) {u v : am_V} {U V : Value} {r : Bool} (hu : am_R X b ad u U) (hv : am_R X b ad v V) (h : am_eq A u v = some r) : ∃ x y : Int32, U = .int x ∧ V = .int y ∧ (x = y ↔ r = true) := by
  unfold am_eq at h
  cases hk : am_k2 u v with
  | true =>
    simp only [hk, am_if_t, cond_true, Option.some.injEq] at h
    obtain ⟨h1, h2⟩ := am_R_k2 hk hu hv
    exact ⟨_, _, h1, h2, by rw [am_n_eq, h]⟩
  | false =>
    simp only [hk, am_if_f, cond_false, am_iaddF, am_imulF, am_ltF, am_eqF] at h
    split at h
    · rename_i f g hf hg
      refine ⟨_, _, am_R_int hu hf, am_R_int hv hg, ?_⟩
      cases hq0 : am_feq f g with
      | true =>
        simp only [hq0, am_if_t, cond_true, Option.some.injEq] at h
        subst h
        rw [am_ev_eq X f g hq0]
        simp
      | false =>
        simp only [hq0, am_if_f, cond_false] at h
        split at h
        · rename_i r1 q1 t1 hr hq ht
          have l1 := am_lim_ok hA hr
          have l2 := am_lim_ok hA hq
          have l3 := am_lim_ok hA ht
          rw [am_ev_sub] at l3
          cases hb : (am_in32 r1 && am_in32 q1 && (decide (t1.2 < 0) || decide (0 < t1.1))) with
          | false => rw [hb] at h; cases h
          | true =>
            rw [hb] at h
            simp only [am_if_t, cond_true, Option.some.injEq] at h
            subst h
            simp only [Bool.and_eq_true, Bool.or_eq_true, decide_eq_true_eq] at hb
            have i1 := am_in_ok hb.1.1 l1
            have i2 := am_in_ok hb.1.2 l2
            rw [am_i_eq i1.1 i1.2 i2.1 i2.2]
            simp only [Bool.false_eq_true, iff_false]
            rcases hb.2 with c | c <;> omega
        · cases h
    · cases h
theorem am_R_abs (hA : am_kn A X) {u r : am_V} {U : Value} (hu : am_R X b ad u U) (h : am_abs A u = some r) : ∃ x : Int32, U = .int x ∧ am_R X b ad r (.int (if 0 ≤ x then x else 0 - x)) := by
  have key : ∀ z : Int, -2147483648 ≤ z → z < 2147483648 → (if 0 ≤ am_i z then am_i z else 0 - am_i z) = am_i (z.natAbs : Int) := by
    intro z h1 h2
    have e0 : (0 : Int32) = am_i 0 := rfl
    by_cases hz : 0 ≤ z
    · rw [if_pos]
      · congr 1
        omega
      · rw [e0, ← Int32.not_lt, am_i_lt h1 h2 (by omega) (by omega)]
        omega
    · rw [if_neg]
      · rw [e0, am_i_sub]
        congr 1
        omega
      · rw [e0, ← Int32.not_lt, am_i_lt h1 h2 (by omega) (by omega)]
        omega
  unfold am_abs at h
  split at h
  · cases h
  · rename_i f hf
    split at h
    · rename_i g hg
      split at h
      · rename_i q hq
        cases hb : am_in32 q with
        | false => rw [hb] at h; cases h
        | true =>
          rw [hb] at h
          simp only [am_if_t, cond_true, Option.some.injEq] at h
          subst h
          have i1 := am_in_ok hb (am_lim_ok hA hq)
          refine ⟨_, am_R_int hu hf, ?_⟩
          rw [key _ i1.1 i1.2, ← am_look_ok A.2.2 f g hA.2.2 hg]
          exact am_R_mk hA _
      · cases h
    · split at h
      · rename_i q hq
        cases hb : am_in32 q with
        | false => rw [hb] at h; cases h
        | true =>
          rw [hb] at h
          simp only [am_if_t, cond_true] at h
          have l1 := am_lim_ok hA hq
          have i1 := am_in_ok hb l1
          refine ⟨_, am_R_int hu hf, ?_⟩
          rw [key _ i1.1 i1.2]
          by_cases c1 : 0 ≤ q.1
          · simp only [decide_eq_true c1, am_if_t, cond_true, Option.some.injEq] at h
            subst h
            rw [show ((am_ev X f).natAbs : Int) = am_ev X f by omega]
            exact am_R_mk hA _
          · simp only [decide_eq_false c1, am_if_f, cond_false] at h
            by_cases c2 : q.2 < 0
            · simp only [decide_eq_true c2, am_if_t, cond_true, Option.some.injEq] at h
              subst h
              rw [show ((am_ev X f).natAbs : Int) = -1 * am_ev X f by omega, ← am_ev_mul]
              exact am_R_mk hA _
            · simp only [decide_eq_false c2, am_if_f, cond_false] at h
              cases h
      · cases h
end AMV
end
section
/-! ===== one step of the abstract machine; 'rec' is the rest of the run ===== -/
noncomputable def am_tI (v : am_V) : Bool := am_or (Nat.beq v.1 0) (Nat.beq v.1 6)
noncomputable def am_tL (v : am_V) : Bool := am_or (Nat.beq v.1 1) (Nat.beq v.1 11)
def am_tF (v : am_V) : Bool := Nat.beq v.1 2
noncomputable def am_tD (v : am_V) : Bool := am_or (Nat.beq v.1 3) (am_or (Nat.beq v.1 7) (Nat.beq v.1 9))
noncomputable def am_tR (v : am_V) : Bool := am_or (Nat.beq v.1 10) (am_or (Nat.beq v.1 8) (Nat.beq v.1 12))
noncomputable def am_tA (v : am_V) : Bool := am_or (am_tR v) (Nat.beq v.1 4)
/-- the classes, their fields' types -/
abbrev am_cl : List vw_C := [(RX0, TX0, 7), (RX1, TX1, 6), (RX2, TX2, 4), (RX3, TX3, 3), (RX4, TX4, 7), (RX5, TX5, 12), (RX6, TX6, 9)]
def am_tys : List (Nat → FieldType) := [tyX0, tyX1, tyX2, tyX3, tyX4, tyX5, tyX6]
def am_ty (ci k : Nat) : FieldType := match am_tys[ci]? with
  | some t => t k
  | none => .int
def am_df (t : FieldType) : am_V := match t with
  | .long => (1, 0, [])
  | .float => (2, 0, [])
  | .double => (3, 0, [])
  | .object _ => (4, 0, [])
  | .array _ => (4, 0, [])
  | _ => (0, 0, [])
/-- a value may be put into a field of that type -/
noncomputable def am_fit (t : FieldType) (v : am_V) : Bool := match t with
  | .int => am_tI v
  | .boolean => am_and (Nat.beq v.1 0) (Nat.blt v.2.1 2)
  | .char => am_and (Nat.beq v.1 0) (Nat.blt v.2.1 65536)
  | .long => am_tL v
  | .float => am_tF v
  | .double => am_tD v
  | .object _ => am_tA v
  | .array _ => am_tA v
  | _ => false
/-- the kinds of arrays: 100 int[], 101 Voice[], 102 Sheet[], 103 Pin[], 104 int[][] -/
def am_at (k : Nat) : Option FieldType := match k with
  | 100 => some .int
  | 101 => some (.object RX5)
  | 102 => some (.object RX2)
  | 103 => some (.object RX1)
  | 104 => some (.array .int)
  | _ => none
/-- what may be put into an array of that kind: the kind of the cell -/
def am_el (k : Nat) : Nat := match k with
  | 101 => 5
  | 102 => 2
  | 103 => 1
  | 104 => 100
  | _ => 999
/-- longs -/
def am_un8 (z : Int) : Nat := (z % 18446744073709551616).toNat
def am_si8 (n : Nat) : Int := bif Nat.blt n 9223372036854775808 then (n : Int) else (n : Int) - 18446744073709551616
def am_ofL (x : Int64) : am_V := (1, x.toBitVec.toNat, [])
def am_ofI (x : Int32) : am_V := (0, x.toBitVec.toNat, [])
def am_ofF (x : UInt32) : am_V := (2, x.toNat, [])
def am_ofD (x : UInt64) : am_V := (3, x.toNat, [])
noncomputable def am_i1 (f : Int32 → am_V) (a : am_V) : Option am_V := bif Nat.beq a.1 0 then some (f (Int32.ofNat a.2.1)) else none
noncomputable def am_i22 (f : Int32 → Int32 → am_V) (a b : am_V) : Option am_V := am_if (am_k2 a b) (some (f (Int32.ofNat a.2.1) (Int32.ofNat b.2.1))) none
noncomputable def am_l1 (f : Int64 → am_V) (a : am_V) : Option am_V := bif Nat.beq a.1 1 then some (f (Int64.ofNat a.2.1)) else none
noncomputable def am_l22 (f : Int64 → Int64 → am_V) (a b : am_V) : Option am_V := bif Nat.beq a.1 1 && Nat.beq b.1 1 then some (f (Int64.ofNat a.2.1) (Int64.ofNat b.2.1)) else none
noncomputable def am_li (f : Int64 → Int32 → am_V) (a b : am_V) : Option am_V := bif Nat.beq a.1 1 && Nat.beq b.1 0 then some (f (Int64.ofNat a.2.1) (Int32.ofNat b.2.1)) else none
noncomputable def am_f1v (f : UInt32 → am_V) (a : am_V) : Option am_V := bif Nat.beq a.1 2 then some (f (UInt32.ofNat a.2.1)) else none
noncomputable def am_f22 (ok : UInt32 → Bool) (f : UInt32 → UInt32 → UInt32) (a b : am_V) : Option am_V := bif Nat.beq a.1 2 && Nat.beq b.1 2 && ok (f (UInt32.ofNat a.2.1) (UInt32.ofNat b.2.1)) then some (am_ofF (f (UInt32.ofNat a.2.1) (UInt32.ofNat b.2.1))) else none
noncomputable def am_fc (f : UInt32 → UInt32 → Int32) (a b : am_V) : Option am_V := bif Nat.beq a.1 2 && Nat.beq b.1 2 then some (am_ofI (f (UInt32.ofNat a.2.1) (UInt32.ofNat b.2.1))) else none
noncomputable def am_d1v (f : UInt64 → am_V) (a : am_V) : Option am_V := bif Nat.beq a.1 3 then some (f (UInt64.ofNat a.2.1)) else none
noncomputable def am_d22 (ok : UInt64 → Bool) (f : UInt64 → UInt64 → UInt64) (a b : am_V) : Option am_V := bif Nat.beq a.1 3 && Nat.beq b.1 3 && ok (f (UInt64.ofNat a.2.1) (UInt64.ofNat b.2.1)) then some (am_ofD (f (UInt64.ofNat a.2.1) (UInt64.ofNat b.2.1))) else none
noncomputable def am_dc (f : UInt64 → UInt64 → Int32) (a b : am_V) : Option am_V := bif Nat.beq a.1 3 && Nat.beq b.1 3 then some (am_ofI (f (UInt64.ofNat a.2.1) (UInt64.ofNat b.2.1))) else none
def am_n32 (r : UInt32) : Bool := decide (r &&& 0x7fffffff ≤ 0x7f800000)
def am_n64 (r : UInt64) : Bool := decide (r &&& 0x7fffffffffffffff ≤ 0x7ff0000000000000)
def am_i2d (a : am_V) : Option am_V := bif Nat.beq a.1 0 then some (am_ofD (FP.i2d (Int32.ofNat a.2.1))) else bif Nat.beq a.1 6 then some (7, 0, a.2.2) else none
def am_f2d (v : am_V) : Option am_V := bif Nat.beq v.1 2 && am_n64 (FP.f2d (UInt32.ofNat v.2.1)) then some (am_ofD (FP.f2d (UInt32.ofNat v.2.1))) else none
/-- the doubles of 1, 2, 3, 4 -/
def am_d14 (n : Nat) : Bool := Nat.beq n 4607182418800017408 || Nat.beq n 4611686018427387904 || Nat.beq n 4613937818241073152 || Nat.beq n 4616189618054758400
noncomputable def am_ddiv (A : am_A) (a b : am_V) : Option am_V := bif Nat.beq a.1 7 && Nat.beq b.1 3 && am_d14 b.2.1 then (match am_lim A a.2.2 with
  | some r => bif decide (0 ≤ r.1) && decide (r.2 ≤ 200) then some (9, b.2.1, a.2.2) else none
  | none => none) else am_d22 am_n64 FP.ddiv a b
noncomputable def am_lcmp (a b : am_V) : Option am_V := bif Nat.beq a.1 11 && Nat.beq b.1 11 && Nat.beq a.2.1 b.2.1 && am_feq a.2.2 b.2.2 then some (0, 0, []) else am_l22 (fun x y => am_ofI (lg_cmp x y)) a b
noncomputable def am_dcmpA (o : CmpOp) (A : am_A) (a b : am_V) : Option am_V := bif Nat.beq a.1 9 && Nat.beq b.1 9 && Nat.beq a.2.1 b.2.1 && am_feq a.2.2 b.2.2 && am_d14 a.2.1 then (match am_lim A a.2.2 with
  | some r => bif decide (0 ≤ r.1) && decide (r.2 ≤ 200) then some (0, 0, []) else none
  | none => none) else am_dc (fun x y => Op.cmpValue (FP.dcmp x y) o) a b
/-- classes of the exceptions by their numbers; in the law's own constant pool -/
def am_ex : List String := ["java/lang/IndexOutOfBoundsException", "java/lang/IllegalArgumentException", "java/lang/IllegalStateException", "java/lang/UnsupportedOperationException", "java/util/NoSuchElementException", "java/lang/ArithmeticException"]
/-- locals, stack, heap, cells, slots -/
abbrev am_G : Type := List am_V → List am_V → am_H → Nat → Nat → Option am_O
/-- an instruction: what is known; the callees; the rest of the run behind it; the run from a pc on -/
abbrev am_F : Type := am_A → (Nat → am_G) → am_G → (Nat → am_G) → am_G
noncomputable def am_len {α : Type} (l : List α) : Nat := List.rec (motive := fun _ => Nat) 0 (fun _ _ ih => Nat.succ ih) l
def am_oBad : am_F := fun _ _ _ _ _ _ _ _ _ => none
def am_oPush (v : am_V) : am_F := fun _ _ go _ lo stk h nc ns => go lo (v :: stk) h nc ns
noncomputable def am_oLoad (ok : am_V → Bool) (k : Nat) : am_F := fun _ _ go _ lo stk h nc ns => am_ob (am_nth lo k) (fun v => am_if (ok v) (go lo (v :: stk) h nc ns) none)
noncomputable def am_oStore (ok : am_V → Bool) (k : Nat) : am_F := fun _ _ go _ lo stk h nc ns => am_lc stk (fun v rest => am_if (am_and (ok v) (am_has lo k)) (go (am_st1 lo k v) rest h nc ns) none)
noncomputable def am_oStore2 (ok : am_V → Bool) (k : Nat) : am_F := fun _ _ go _ lo stk h nc ns => am_lc stk (fun v rest => am_if (am_and (ok v) (am_has lo (k + 1))) (go (am_st2 lo k v) rest h nc ns) none)
noncomputable def am_oBinA (f : am_A → am_V → am_V → Option am_V) : am_F := fun A _ go _ lo stk h nc ns => am_lc stk (fun y r1 => am_lc r1 (fun x rest => am_ob (f A x y) (fun r => go lo (r :: rest) h nc ns)))
noncomputable def am_oBin (f : am_V → am_V → Option am_V) : am_F := fun _ _ go _ lo stk h nc ns => am_lc stk (fun y r1 => am_lc r1 (fun x rest => am_ob (f x y) (fun r => go lo (r :: rest) h nc ns)))
noncomputable def am_oUn (f : am_V → Option am_V) : am_F := fun _ _ go _ lo stk h nc ns => am_lc stk (fun x rest => am_ob (f x) (fun r => go lo (r :: rest) h nc ns))
def am_oGoto (t : Nat) : am_F := fun _ _ _ jmp lo stk h nc ns => jmp t lo stk h nc ns
/-- a jump where f says so; where it says no -/
noncomputable def am_oIf1 (f : am_A → am_V → am_V → Option Bool) (t : Nat) : am_F := fun A _ go jmp lo stk h nc ns => am_lc stk (fun x rest => am_ob (f A x (0, 0, [])) (fun b => am_if b (jmp t lo rest h nc ns) (go lo rest h nc ns)))
noncomputable def am_oIf1n (f : am_A → am_V → am_V → Option Bool) (t : Nat) : am_F := fun A _ go jmp lo stk h nc ns => am_lc stk (fun x rest => am_ob (f A x (0, 0, [])) (fun b => am_if b (go lo rest h nc ns) (jmp t lo rest h nc ns)))
noncomputable def am_oIf2 (f : am_A → am_V → am_V → Option Bool) (t : Nat) : am_F := fun A _ go jmp lo stk h nc ns => am_lc stk (fun y r1 => am_lc r1 (fun x rest => am_ob (f A x y) (fun b => am_if b (jmp t lo rest h nc ns) (go lo rest h nc ns))))
noncomputable def am_oIf2n (f : am_A → am_V → am_V → Option Bool) (t : Nat) : am_F := fun A _ go jmp lo stk h nc ns => am_lc stk (fun y r1 => am_lc r1 (fun x rest => am_ob (f A x y) (fun b => am_if b (go lo rest h nc ns) (jmp t lo rest h nc ns))))
/-- a jump on null (no: on what isn't null) -/
noncomputable def am_oNull (no : Bool) (t : Nat) : am_F := fun _ _ go jmp lo stk h nc ns => am_lc stk (fun x rest => am_if (Nat.beq x.1 4) (am_if no (go lo rest h nc ns) (jmp t lo rest h nc ns)) (am_if (am_tR x) (am_if no (jmp t lo rest h nc ns) (go lo rest h nc ns)) none))
noncomputable def am_oIinc (k : Nat) (z : Int) : am_F := fun A _ go _ lo stk h nc ns => am_ob (am_nth lo k) (fun v => am_ob (am_iadd A v (am_int z)) (fun r => go (am_st1 lo k r) stk h nc ns))
noncomputable def am_oSwitch (df : Nat) (lw hg : Int) (offs : List Nat) : am_F := fun _ _ _ jmp lo stk h nc ns => am_lc stk (fun x rest => am_if (am_and (Nat.beq x.1 0) (Nat.blt x.2.1 4294967296)) (am_if (decide (am_si x.2.1 < lw) || decide (hg < am_si x.2.1)) (jmp df lo rest h nc ns) (am_ob (am_nth offs (am_si x.2.1 - lw).toNat) (fun o => jmp o lo rest h nc ns))) none)
noncomputable def am_oGet (ci k : Nat) : am_F := fun _ _ go _ lo stk h nc ns => am_lc stk (fun r rest => am_if (Nat.beq r.1 10) (am_ob (am_get h r.2.1) (fun c => am_if (Nat.beq c.1 ci) (am_ob (am_nth c.2 k) (fun v => go lo (v :: rest) h nc ns)) none)) none)
noncomputable def am_oPut (ci k : Nat) (ty : FieldType) : am_F := fun _ _ go _ lo stk h nc ns => am_lc stk (fun v r1 => am_lc r1 (fun r rest => am_if (Nat.beq r.1 10) (am_ob (am_get h r.2.1) (fun c => am_if (am_and (Nat.beq c.1 ci) (am_and (am_has c.2 k) (am_fit ty v))) (go lo rest (am_put h r.2.1 (ci, am_set c.2 k v)) nc ns) none)) none))
noncomputable def am_oAld (ref : Bool) : am_F := fun _ _ go _ lo stk h nc ns => am_lc stk (fun i r1 => am_lc r1 (fun r rest => am_if (am_and (Nat.beq r.1 10) (am_and (Nat.beq i.1 0) (Nat.blt i.2.1 2147483648))) (am_ob (am_get h r.2.1) (fun c => am_if (am_if ref (am_and (Nat.blt 100 c.1) (Nat.blt c.1 105)) (Nat.beq c.1 100)) (am_ob (am_nth c.2 i.2.1) (fun v => go lo (v :: rest) h nc ns)) none)) none))
noncomputable def am_oIast : am_F := fun _ _ go _ lo stk h nc ns => am_lc stk (fun v r1 => am_lc r1 (fun i r2 => am_lc r2 (fun r rest => am_if (am_and (Nat.beq r.1 10) (am_and (am_tI v) (am_and (Nat.beq i.1 0) (Nat.blt i.2.1 2147483648)))) (am_ob (am_get h r.2.1) (fun c => am_if (am_and (Nat.beq c.1 100) (am_has c.2 i.2.1)) (go lo rest (am_put h r.2.1 (100, am_set c.2 i.2.1 v)) nc ns) none)) none)))
noncomputable def am_oAast : am_F := fun _ _ go _ lo stk h nc ns => am_lc stk (fun w r1 => am_lc r1 (fun i r2 => am_lc r2 (fun r rest => am_if (am_and (Nat.beq r.1 10) (am_and (Nat.beq w.1 10) (am_and (Nat.beq i.1 0) (Nat.blt i.2.1 2147483648)))) (am_ob (am_get h r.2.1) (fun c => am_ob (am_get h w.2.1) (fun cw => am_if (am_and (am_and (Nat.blt 100 c.1) (Nat.blt c.1 105)) (am_and (Nat.beq cw.1 (am_el c.1)) (am_has c.2 i.2.1))) (go lo rest (am_put h r.2.1 (c.1, am_set c.2 i.2.1 w)) nc ns) none))) none)))
noncomputable def am_oNew (ci : Nat) (fs : List am_V) : am_F := fun _ _ go _ lo stk h nc ns => am_if (am_free h) (go lo ((10, h.1, []) :: stk) (am_new h (ci, fs)) (nc + 1) (ns + am_len fs)) none
noncomputable def am_oNewa (kind : Nat) (v0 : am_V) : am_F := fun _ _ go _ lo stk h nc ns => am_lc stk (fun n rest => am_if (am_and (Nat.beq n.1 0) (am_and (Nat.blt n.2.1 100000) (am_free h))) (go lo ((10, h.1, []) :: rest) (am_new h (kind, am_rep n.2.1 v0)) (nc + 1) (ns + n.2.1)) none)
/-- new int[3][30] -/
noncomputable def am_oMulti : am_F := fun _ _ go _ lo stk h nc ns => am_lc stk (fun y r1 => am_lc r1 (fun x rest => am_if (am_and (am_k2 x y) (am_and (Nat.beq y.2.1 30) (Nat.beq x.2.1 3))) (
    let h1 := am_new h (100, am_rep 30 (0, 0, []))
    let h2 := am_new h1 (100, am_rep 30 (0, 0, []))
    let h3 := am_new h2 (100, am_rep 30 (0, 0, []))
    am_if (am_and (am_free h) (am_and (am_free h1) (am_and (am_free h2) (am_free h3)))) (go lo ((10, h3.1, []) :: rest) (am_new h3 (104, [(10, h.1, []), (10, h1.1, []), (10, h2.1, [])])) (nc + 4) (ns + 93)) none) none))
/-- throw new E(..), out of this method -/
noncomputable def am_oThrow (pc ei : Nat) : am_F := fun _ _ _ _ lo stk h nc ns => am_if (am_sh stk) (some (2, (ei, 0, []), pc, lo, stk, h, nc + 1, ns + 6)) none
/-- where an exception is caught: the first row of the table that covers pc and names its class -/
def am_hnd (hc : List (Nat × Nat)) (ei pc : Nat) : List (Nat × Nat × Nat × Nat) → Option Nat
  | [] => none
  | x :: xs => bif Nat.ble x.1 pc && Nat.blt pc x.2.1 && hc.any (fun q => Nat.beq q.1 x.2.2.2 && Nat.beq q.2 ei) then some x.2.2.1 else am_hnd hc ei pc xs
/-- the place of the instruction at a pc -/
def am_ix (t : Nat) : List am_I → Nat
  | [] => 0
  | x :: xs => bif Nat.beq x.1 t then 0 else am_ix t xs + 1
/-- behind a call: o what it came to, st the stack without what it took; tb: where each exception is caught (the places of the handlers), [] where this method has no table; vo: it returns nothing -/
noncomputable def am_back (tb : List (Option Nat)) (pc : Nat) (vo : Bool) (go : am_G) (jmp : Nat → am_G) (lo st : List am_V) (nc ns : Nat) (o : am_O) : Option am_O :=
  am_if (Nat.beq o.1 1) (am_if vo none (go lo (o.2.1 :: st) o.2.2.2.2.2.1 (nc + o.2.2.2.2.2.2.1) (ns + o.2.2.2.2.2.2.2)))
    (am_if (Nat.beq o.1 0) (am_if vo (go lo st o.2.2.2.2.2.1 (nc + o.2.2.2.2.2.2.1) (ns + o.2.2.2.2.2.2.2)) none)
      (am_if (Nat.beq o.1 2) (match tb with
        | [] => some (2, o.2.1, pc, lo, st, o.2.2.2.2.2.1, nc + o.2.2.2.2.2.2.1, ns + o.2.2.2.2.2.2.2)
        | x :: xs => match (x :: xs)[o.2.1.1]? with
          | some (some t) => jmp t lo [(8, 0, [])] o.2.2.2.2.2.1 (nc + o.2.2.2.2.2.2.1) (ns + o.2.2.2.2.2.2.2)
          | _ => none) none))
/-- a call: mi the method's place, n how many values it takes off the stack (the object too), ml its locals -/
noncomputable def am_oCall (tb : List (Option Nat)) (pc mi n ml : Nat) (vo : Bool) : am_F := fun _ sub go jmp lo stk h nc ns =>
  am_pop n (fun as rest => am_if (am_sh rest) (am_ob (am_pad am_un0 (am_lay as) ml) (fun lo1 => am_ob (sub mi lo1 [] h 0 0) (am_back tb pc vo go jmp lo rest nc ns))) none) stk
/-- .. on an object of the class ci -/
noncomputable def am_oCallV (tb : List (Option Nat)) (pc mi n ml : Nat) (vo : Bool) (ci : Nat) : am_F := fun A sub go jmp lo stk h nc ns => am_ob (am_nth stk (n - 1)) (fun r => am_if (Nat.beq r.1 10) (am_ob (am_get h r.2.1) (fun c => am_if (Nat.beq c.1 ci) (am_oCall tb pc mi n ml vo A sub go jmp lo stk h nc ns) none)) none)
/-- .. of a constructor: what is made stands in the world -/
noncomputable def am_oCallI (tb : List (Option Nat)) (pc mi n ml : Nat) (vo : Bool) : am_F := fun A sub go jmp lo stk h nc ns => am_ob (am_nth stk (n - 1)) (fun r => am_if (Nat.beq r.1 10) (am_oCall tb pc mi n ml vo A sub go jmp lo stk h nc ns) none)
noncomputable def am_oObj : am_F := fun _ _ go _ lo stk h nc ns => am_lc stk (fun r rest => am_if (am_and (Nat.beq r.1 10) (am_sh rest)) (go lo rest h nc ns) none)
noncomputable def am_oAbs : am_F := fun A _ go _ lo stk h nc ns => am_lc stk (fun x rest => am_if (am_sh rest) (am_ob (am_abs A x) (fun r => go lo (r :: rest) h nc ns)) none)
noncomputable def am_oBinS (f : am_V → am_V → Option am_V) : am_F := fun A sub go jmp lo stk h nc ns => am_lc stk (fun _ r1 => am_lc r1 (fun _ rest => am_if (am_sh rest) (am_oBin f A sub go jmp lo stk h nc ns) none))
noncomputable def am_oF2I : am_F := fun _ _ go _ lo stk h nc ns => am_lc stk (fun x rest => am_if (am_and (Nat.beq x.1 2) (am_sh rest)) (go lo (am_ofI (UInt32.ofNat x.2.1).toInt32 :: rest) h nc ns) none)
noncomputable def am_oD2L : am_F := fun _ _ go _ lo stk h nc ns => am_lc stk (fun x rest => am_if (am_sh rest) (am_if (Nat.beq x.1 3) (go lo (am_ofL (UInt64.ofNat x.2.1).toInt64 :: rest) h nc ns) (am_if (Nat.beq x.1 9) (go lo ((11, x.2) :: rest) h nc ns) none)) none)
/-- a quotient that the tables know -/
noncomputable def am_bodg (A : am_A) (x : am_V) : Bool := am_d14 x.2.1 && (match am_lim A x.2.2 with
  | some r => decide (0 ≤ r.1) && decide (r.2 ≤ 200)
  | none => false)
/-- bitsOfDouble -/
noncomputable def am_oBod (tb : List (Option Nat)) (pc mi ml : Nat) : am_F := fun A sub go jmp lo stk h nc ns => am_lc stk (fun x rest => am_if (Nat.beq x.1 9) (am_if (am_and (am_sh rest) (am_bodg A x)) (go lo ((11, x.2) :: rest) h nc ns) none) (am_oCall tb pc mi 1 ml false A sub go jmp lo stk h nc ns))
noncomputable def am_oDup : am_F := fun _ _ go _ lo stk h nc ns => am_lc stk (fun v rest => am_if (am_c2 v) none (go lo (v :: v :: rest) h nc ns))
noncomputable def am_oDup2 : am_F := fun _ _ go _ lo stk h nc ns => am_lc stk (fun v r1 => am_lc r1 (fun w rest => am_if (am_or (am_c2 v) (am_c2 w)) none (go lo (v :: w :: v :: w :: rest) h nc ns)))
def am_oRet0 (pc : Nat) : am_F := fun _ _ _ _ lo stk h nc ns => match stk with
  | [] => some (0, (4, 0, []), pc, lo, stk, h, nc, ns)
  | _ => none
noncomputable def am_oRet (pc : Nat) (ok : am_V → Bool) (rt : FieldType) : am_F := fun _ _ _ _ lo stk h nc ns => am_lc stk (fun v rest => am_if (am_and (List.isEmpty rest) (am_and (ok v) (am_fit rt v))) (some (1, v, pc, lo, stk, h, nc, ns)) none)
/-- where each of the six exceptions is caught, thrown at pc -/
def am_tb (hc : List (Nat × Nat)) (M : am_M) (pc : Nat) : List (Option Nat) := match M.2.2.2.2.1 with
  | [] => []
  | x :: xs => [0, 1, 2, 3, 4, 5].map (fun ei => match am_hnd hc ei pc (x :: xs) with
    | some t => some (am_ix t M.2.2.2.2.2)
    | none => none)
/-- the operation of an instruction of the method M; ln: the places of its words -/
noncomputable def am_op (db : List am_M) (hc : List (Nat × Nat)) (bl : List (List am_V)) (M : am_M) (pc : Nat) (i : Instr) (ln : List Nat) : am_F := match i with
  | .iconst n => am_oPush (am_int n)
  | .bipush n => am_oPush (am_int n)
  | .sipush n => am_oPush (am_int n)
  | .lconst n => am_oPush (1, n.val, [])
  | .fconst n => am_oPush (am_ofF (match n with | 0 => FP.fconst0 | 1 => FP.fconst1 | 2 => FP.fconst2))
  | .dconst n => am_oPush (am_ofD (match n with | 0 => FP.dconst0 | 1 => FP.dconst1))
  | .ldc _ => match ln with
    | t :: n :: _ => am_oPush (t, n, [])
    | _ => am_oBad
  | .ldc_w _ => match ln with
    | t :: n :: _ => am_oPush (t, n, [])
    | _ => am_oBad
  | .ldc2_w _ => match ln with
    | t :: n :: _ => am_oPush (t, n, [])
    | _ => am_oBad
  | .iload k => am_oLoad am_tI k
  | .iload_n k => am_oLoad am_tI k.val
  | .lload k => am_oLoad am_tL k
  | .lload_n k => am_oLoad am_tL k.val
  | .fload_n k => am_oLoad am_tF k.val
  | .dload_n k => am_oLoad am_tD k.val
  | .aload k => am_oLoad am_tA k
  | .aload_n k => am_oLoad am_tA k.val
  | .istore k => am_oStore am_tI k
  | .istore_n k => am_oStore am_tI k.val
  | .fstore_n k => am_oStore am_tF k.val
  | .astore k => am_oStore am_tA k
  | .astore_n k => am_oStore am_tA k.val
  | .lstore k => am_oStore2 am_tL k
  | .lstore_n k => am_oStore2 am_tL k.val
  | .dstore_n k => am_oStore2 am_tD k.val
  | .iinc k z => am_oIinc k z
  | .iadd => am_oBinA am_iadd
  | .isub => am_oBinA am_isub
  | .imul => am_oBinA am_imul
  | .idiv => am_oBinA am_idiv
  | .irem => am_oBinA am_irem
  | .ior => am_oBin (am_i22 (fun x y => am_ofI (x ||| y)))
  | .ishl => am_oBin (am_i22 (fun x y => am_ofI (x <<< (y &&& 31))))
  | .i2c => am_oUn (am_i1 (fun x => am_ofI (x.toUInt32 % 65536).toInt32))
  | .i2l => am_oUn (am_i1 (fun x => am_ofL x.toInt64))
  | .i2f => am_oUn (am_i1 (fun x => am_ofF (FP.i2f x)))
  | .i2d => am_oUn am_i2d
  | .l2i => am_oUn (am_l1 (fun x => am_ofI x.toInt32))
  | .ladd => am_oBin (am_l22 (fun x y => am_ofL (x + y)))
  | .lsub => am_oBin (am_l22 (fun x y => am_ofL (x - y)))
  | .lmul => am_oBin (am_l22 (fun x y => am_ofL (x * y)))
  | .lor => am_oBin (am_l22 (fun x y => am_ofL (x ||| y)))
  | .lshl => am_oBin (am_li (fun x y => am_ofL (x <<< (y.toInt64 &&& 63))))
  | .lcmp => am_oBin am_lcmp
  | .fdiv => am_oBin (am_f22 am_n32 FP.fdiv)
  | .fmul => am_oBin (am_f22 am_n32 FP.fmul)
  | .fsub => am_oBin (am_f22 am_n32 FP.fsub)
  | .fcmp o => am_oBin (am_fc (fun x y => Op.cmpValue (FP.fcmp x y) o))
  | .f2i => am_oUn (am_f1v (fun x => am_ofI (FP.f2i x)))
  | .f2d => am_oUn am_f2d
  | .dadd => am_oBin (am_d22 am_n64 FP.dadd)
  | .dsub => am_oBin (am_d22 am_n64 FP.dsub)
  | .dmul => am_oBin (am_d22 am_n64 FP.dmul)
  | .ddiv => am_oBinA am_ddiv
  | .dcmp o => am_oBinA (am_dcmpA o)
  | .d2l => am_oUn (am_d1v (fun x => am_ofL (FP.d2l x)))
  | .dup => am_oDup
  | .dup2 => am_oDup2
  | .goto o => am_oGoto (am_ix (am_tgt pc o) M.2.2.2.2.2)
  | .ifCond c o => match c with
    | .eq => am_oIf1 am_eq (am_ix (am_tgt pc o) M.2.2.2.2.2)
    | .ne => am_oIf1n am_eq (am_ix (am_tgt pc o) M.2.2.2.2.2)
    | .lt => am_oIf1 am_lt (am_ix (am_tgt pc o) M.2.2.2.2.2)
    | .ge => am_oIf1n am_lt (am_ix (am_tgt pc o) M.2.2.2.2.2)
    | .gt => am_oIf1 am_gt (am_ix (am_tgt pc o) M.2.2.2.2.2)
    | .le => am_oIf1n am_gt (am_ix (am_tgt pc o) M.2.2.2.2.2)
  | .if_icmp c o => match c with
    | .eq => am_oIf2 am_eq (am_ix (am_tgt pc o) M.2.2.2.2.2)
    | .ne => am_oIf2n am_eq (am_ix (am_tgt pc o) M.2.2.2.2.2)
    | .lt => am_oIf2 am_lt (am_ix (am_tgt pc o) M.2.2.2.2.2)
    | .ge => am_oIf2n am_lt (am_ix (am_tgt pc o) M.2.2.2.2.2)
    | .gt => am_oIf2 am_gt (am_ix (am_tgt pc o) M.2.2.2.2.2)
    | .le => am_oIf2n am_gt (am_ix (am_tgt pc o) M.2.2.2.2.2)
  | .ifnull o => am_oNull false (am_ix (am_tgt pc o) M.2.2.2.2.2)
  | .ifnonnull o => am_oNull true (am_ix (am_tgt pc o) M.2.2.2.2.2)
  | .tableswitch df lw hg os => am_oSwitch (am_ix (am_tgt pc df) M.2.2.2.2.2) lw hg (os.toList.map (fun o => am_ix (am_tgt pc o) M.2.2.2.2.2))
  | .getfield _ => match ln with
    | ci :: k :: _ => am_oGet ci k
    | _ => am_oBad
  | .putfield _ => match ln with
    | ci :: k :: _ => am_oPut ci k (am_ty ci k)
    | _ => am_oBad
  | .iaload => am_oAld false
  | .aaload => am_oAld true
  | .iastore => am_oIast
  | .aastore => am_oAast
  | .new _ => match ln with
    | [9, ei] => match M.2.2.2.2.1 with
      | [] => am_oThrow pc ei
      | _ => am_oBad
    | ci :: _ => match bl[ci]? with
      | some fs => am_oNew ci fs
      | none => am_oBad
    | _ => am_oBad
  | .newarray _ => am_oNewa 100 (0, 0, [])
  | .anewarray _ => match ln with
    | k :: _ => am_oNewa k (4, 0, [])
    | _ => am_oBad
  | .multianewarray _ _ => am_oMulti
  | .invokestatic _ => match ln with
    | 0 :: mi :: n :: _ => match db[mi]? with
      | some m => am_oCall (am_tb hc M pc) pc mi n m.2.2.1 m.2.2.2.1.isNone
      | none => am_oBad
    | 3 :: _ => am_oAbs
    | 4 :: _ => am_oBinS (am_i22 (fun x y => am_ofI (if y < x then y else x)))
    | 5 :: _ => am_oBinS (am_l22 (fun x y => am_ofL (if y < x then y else x)))
    | 6 :: _ => am_oBinS (am_l22 (fun x y => am_ofL (if y < x then x else y)))
    | 7 :: _ => am_oF2I
    | 8 :: _ => am_oD2L
    | 9 :: mi :: _ => match db[mi]? with
      | some m => am_oBod (am_tb hc M pc) pc mi m.2.2.1
      | none => am_oBad
    | _ => am_oBad
  | .invokevirtual _ => match ln with
    | 1 :: mi :: n :: ci :: _ => match db[mi]? with
      | some m => am_oCallV (am_tb hc M pc) pc mi n m.2.2.1 m.2.2.2.1.isNone ci
      | none => am_oBad
    | _ => am_oBad
  | .invokespecial _ => match ln with
    | 0 :: mi :: n :: _ => match db[mi]? with
      | some m => am_oCallI (am_tb hc M pc) pc mi n m.2.2.1 m.2.2.2.1.isNone
      | none => am_oBad
    | 2 :: _ => am_oObj
    | _ => am_oBad
  | .return_ => match M.2.2.2.1 with
    | none => am_oRet0 pc
    | some _ => am_oBad
  | .ireturn => match M.2.2.2.1 with
    | some rt => am_oRet pc am_tI rt
    | none => am_oBad
  | .lreturn => match M.2.2.2.1 with
    | some rt => am_oRet pc am_tL rt
    | none => am_oBad
  | .freturn => match M.2.2.2.1 with
    | some rt => am_oRet pc am_tF rt
    | none => am_oBad
  | .dreturn => match M.2.2.2.1 with
    | some rt => am_oRet pc am_tD rt
    | none => am_oBad
  | .areturn => match M.2.2.2.1 with
    | some rt => am_oRet pc am_tR rt
    | none => am_oBad
  | _ => am_oBad
/-- a method's code for the run: pc, operation -/
abbrev am_P : Type := List (Nat × am_F)
noncomputable def am_comp (db : List am_M) (hc : List (Nat × Nat)) (bl : List (List am_V)) (M : am_M) : am_P := M.2.2.2.2.2.map (fun q => (q.1, am_op db hc bl M q.1 q.2.1 q.2.2.2))
noncomputable def am_stepP (A : am_A) (sub : Nat → am_G) (code : am_P) (ih : am_P → am_G) (is : am_P) : am_G := List.rec (motive := fun _ => am_G) (fun _ _ _ _ _ => none) (fun x tl _ => x.2 A sub (ih tl) (fun t => ih (am_dr code t))) is
def am_end (is : am_P) : am_G := fun lo stk h nc ns => match is with
  | [] => none
  | x :: _ => some (3, (4, 0, []), x.1, lo, stk, h, nc, ns)
/-- n steps of a frame's own, from the instructions 'is' of 'code' on -/
noncomputable def am_runP (A : am_A) (sub : Nat → am_G) (code : am_P) (n : Nat) : am_P → am_G :=
  Nat.rec (motive := fun _ => am_P → am_G) am_end (fun _ ih is => am_stepP A sub code ih is) n
/-- the callees at depth d: from the first instruction on, F steps at most -/
noncomputable def am_sub (A : am_A) (F : Nat) (codes : List am_P) (d : Nat) : Nat → am_G :=
  Nat.rec (motive := fun _ => Nat → am_G) (fun _ _ _ _ _ _ => none) (fun _ sub mi => match am_nth codes mi with
    | some c => am_runP A sub c F c
    | none => fun _ _ _ _ _ => none) d
end
section
/-! ===== the program: every method of the class and of the law, its instructions and the places of their words (laid by wip/p46/gen06.py) ===== -/
def am_i0_0 : List am_I := [(0, .aload_n 0, 1, []), (1, .invokespecial 1, 3, [2, 52, 53, 54]), (4, .aload_n 0, 1, []), (5, .bipush 28, 2, []), (7, .anewarray 9, 3, [101, 55, 56]), (10, .putfield 11, 3, [6, 0, 263]), (13, .aload_n 0, 1, []), (14, .bipush 6, 2, []), (16, .anewarray 15, 3, [102, 57, 58]), (19, .putfield 17, 3, [6, 1, 264]), (22, .aload_n 0, 1, []), (23, .new 21, 3, [0, 59, 60, 26]), (26, .dup, 1, []), (27, .invokespecial 23, 3, [0, 1, 1, 61, 62, 26, 63]), (30, .putfield 24, 3, [6, 2, 265]), (33, .aload_n 0, 1, []), (34, .new 28, 3, [3, 135, 136, 28]), (37, .dup, 1, []), (38, .invokespecial 30, 3, [0, 3, 1, 137, 138, 28, 139]), (41, .putfield 31, 3, [6, 3, 266]), (44, .aload_n 0, 1, []), (45, .new 35, 3, [4, 154, 155, 29]), (48, .dup, 1, []), (49, .invokespecial 37, 3, [0, 4, 1, 156, 157, 29, 158]), (52, .putfield 38, 3, [6, 4, 267]), (55, .aload_n 0, 1, []), (56, .iconst 0, 1, []), (57, .putfield 42, 3, [6, 5, 268]), (60, .aload_n 0, 1, []), (61, .iconst 0, 1, []), (62, .putfield 46, 3, [6, 6, 269]), (65, .aload_n 0, 1, []), (66, .iconst 0, 1, []), (67, .putfield 50, 3, [6, 7, 270]), (70, .aload_n 0, 1, []), (71, .iconst 0, 1, []), (72, .putfield 53, 3, [6, 8, 271]), (75, .iconst 0, 1, []), (76, .istore_n 1, 1, []), (77, .iload_n 1, 1, []), (78, .bipush 28, 2, []), (80, .if_icmp .ge 22, 3, []), (83, .aload_n 0, 1, []), (84, .getfield 11, 3, [6, 0, 263]), (87, .iload_n 1, 1, []), (88, .new 9, 3, [5, 55, 190, 30]), (91, .dup, 1, []), (92, .invokespecial 56, 3, [0, 5, 1, 191, 192, 30, 193]), (95, .aastore, 1, []), (96, .iinc 1 1, 3, []), (99, .goto (-22), 3, []), (102, .iconst 0, 1, []), (103, .istore_n 1, 1, []), (104, .iload_n 1, 1, []), (105, .bipush 6, 2, []), (107, .if_icmp .ge 22, 3, []), (110, .aload_n 0, 1, []), (111, .getfield 17, 3, [6, 1, 264]), (114, .iload_n 1, 1, []), (115, .new 15, 3, [2, 57, 242, 31])]
def am_i0_1 : List am_I := [(118, .dup, 1, []), (119, .invokespecial 57, 3, [0, 6, 1, 243, 244, 31, 245]), (122, .aastore, 1, []), (123, .iinc 1 1, 3, []), (126, .goto (-22), 3, []), (129, .return_, 1, [])]
def am_m0 : am_M := (⟨"CombCylinder", "<init>", "()V"⟩, prog_1_method_1_code, 2, none, [], am_i0_0 ++ (am_i0_1))
def am_i1_0 : List am_I := [(0, .aload_n 0, 1, []), (1, .invokespecial 3, 3, [2, 64, 53, 54]), (4, .aload_n 0, 1, []), (5, .iconst 0, 1, []), (6, .putfield 9, 3, [0, 0, 104]), (9, .aload_n 0, 1, []), (10, .iconst 0, 1, []), (11, .putfield 15, 3, [0, 1, 106]), (14, .aload_n 0, 1, []), (15, .iconst 0, 1, []), (16, .putfield 18, 3, [0, 2, 108]), (19, .aload_n 0, 1, []), (20, .iconst 0, 1, []), (21, .putfield 21, 3, [0, 3, 110]), (24, .aload_n 0, 1, []), (25, .iconst 0, 1, []), (26, .putfield 25, 3, [0, 4, 112]), (29, .aload_n 0, 1, []), (30, .bipush 60, 2, []), (32, .anewarray 28, 3, [103, 65, 66]), (35, .putfield 30, 3, [0, 5, 115]), (38, .aload_n 0, 1, []), (39, .bipush 60, 2, []), (41, .anewarray 28, 3, [103, 65, 66]), (44, .putfield 34, 3, [0, 6, 118]), (47, .iconst 0, 1, []), (48, .istore_n 1, 1, []), (49, .iload_n 1, 1, []), (50, .bipush 60, 2, []), (52, .if_icmp .ge 31, 3, []), (55, .new 28, 3, [1, 65, 67, 27]), (58, .dup, 1, []), (59, .invokespecial 37, 3, [0, 2, 1, 68, 69, 27, 70]), (62, .astore_n 2, 1, []), (63, .aload_n 0, 1, []), (64, .getfield 30, 3, [0, 5, 115]), (67, .iload_n 1, 1, []), (68, .aload_n 2, 1, []), (69, .aastore, 1, []), (70, .aload_n 0, 1, []), (71, .getfield 34, 3, [0, 6, 118]), (74, .iload_n 1, 1, []), (75, .aload_n 2, 1, []), (76, .aastore, 1, []), (77, .iinc 1 1, 3, []), (80, .goto (-31), 3, []), (83, .return_, 1, [])]
def am_m1 : am_M := (⟨"CombCylinder$Drum", "<init>", "()V"⟩, prog_2_method_1_code, 3, none, [], am_i1_0)
def am_i2_0 : List am_I := [(0, .aload_n 0, 1, []), (1, .invokespecial 1, 3, [2, 71, 53, 54]), (4, .aload_n 0, 1, []), (5, .iconst 0, 1, []), (6, .putfield 7, 3, [1, 0, 72]), (9, .aload_n 0, 1, []), (10, .iconst 0, 1, []), (11, .putfield 13, 3, [1, 1, 76]), (14, .aload_n 0, 1, []), (15, .iconst 0, 1, []), (16, .putfield 16, 3, [1, 2, 80]), (19, .aload_n 0, 1, []), (20, .iconst 0, 1, []), (21, .putfield 19, 3, [1, 3, 84]), (24, .aload_n 0, 1, []), (25, .iconst 0, 1, []), (26, .putfield 22, 3, [1, 4, 87]), (29, .aload_n 0, 1, []), (30, .iconst 0, 1, []), (31, .putfield 25, 3, [1, 5, 89]), (34, .return_, 1, [])]
def am_m2 : am_M := (⟨"CombCylinder$Pin", "<init>", "()V"⟩, prog_3_method_1_code, 1, none, [], am_i2_0)
def am_i3_0 : List am_I := [(0, .aload_n 0, 1, []), (1, .invokespecial 1, 3, [2, 140, 53, 54]), (4, .aload_n 0, 1, []), (5, .iconst 0, 1, []), (6, .putfield 7, 3, [3, 0, 141]), (9, .aload_n 0, 1, []), (10, .bipush 10, 2, []), (12, .putfield 13, 3, [3, 1, 143]), (15, .aload_n 0, 1, []), (16, .dconst 0, 1, []), (17, .putfield 16, 3, [3, 2, 145]), (20, .return_, 1, [])]
def am_m3 : am_M := (⟨"CombCylinder$Spring", "<init>", "()V"⟩, prog_5_method_1_code, 1, none, [], am_i3_0)
def am_i4_0 : List am_I := [(0, .aload_n 0, 1, []), (1, .invokespecial 3, 3, [2, 159, 53, 54]), (4, .aload_n 0, 1, []), (5, .iconst 0, 1, []), (6, .putfield 9, 3, [4, 0, 162]), (9, .aload_n 0, 1, []), (10, .iconst 3, 1, []), (11, .newarray .int, 2, [189]), (13, .putfield 15, 3, [4, 1, 164]), (16, .aload_n 0, 1, []), (17, .bipush 28, 2, []), (19, .newarray .int, 2, [189]), (21, .putfield 19, 3, [4, 2, 166]), (24, .aload_n 0, 1, []), (25, .iconst 3, 1, []), (26, .bipush 30, 2, []), (28, .multianewarray 22 2, 4, []), (32, .putfield 24, 3, [4, 3, 168]), (35, .aload_n 0, 1, []), (36, .iconst 3, 1, []), (37, .newarray .int, 2, [189]), (39, .putfield 27, 3, [4, 4, 169]), (42, .aload_n 0, 1, []), (43, .iconst 3, 1, []), (44, .newarray .int, 2, [189]), (46, .putfield 30, 3, [4, 5, 170]), (49, .aload_n 0, 1, []), (50, .iconst 0, 1, []), (51, .putfield 33, 3, [4, 6, 172]), (54, .return_, 1, [])]
def am_m4 : am_M := (⟨"CombCylinder$Tuner", "<init>", "()V"⟩, prog_6_method_1_code, 1, none, [], am_i4_0)
def am_i5_0 : List am_I := [(0, .aload_n 0, 1, []), (1, .invokespecial 3, 3, [2, 194, 53, 54]), (4, .aload_n 0, 1, []), (5, .iconst 0, 1, []), (6, .putfield 9, 3, [5, 0, 195]), (9, .aload_n 0, 1, []), (10, .iconst 0, 1, []), (11, .putfield 15, 3, [5, 1, 197]), (14, .aload_n 0, 1, []), (15, .iconst 0, 1, []), (16, .putfield 18, 3, [5, 2, 198]), (19, .aload_n 0, 1, []), (20, .iconst 0, 1, []), (21, .putfield 22, 3, [5, 3, 199]), (24, .aload_n 0, 1, []), (25, .iconst 0, 1, []), (26, .putfield 25, 3, [5, 4, 201]), (29, .aload_n 0, 1, []), (30, .iconst 0, 1, []), (31, .putfield 28, 3, [5, 5, 203]), (34, .aload_n 0, 1, []), (35, .iconst 0, 1, []), (36, .putfield 31, 3, [5, 6, 205]), (39, .aload_n 0, 1, []), (40, .bipush 45, 2, []), (42, .putfield 34, 3, [5, 7, 207]), (45, .aload_n 0, 1, []), (46, .iconst 0, 1, []), (47, .putfield 38, 3, [5, 8, 209]), (50, .aload_n 0, 1, []), (51, .iconst 0, 1, []), (52, .putfield 41, 3, [5, 9, 211]), (55, .aload_n 0, 1, []), (56, .iconst 0, 1, []), (57, .putfield 44, 3, [5, 10, 213]), (60, .aload_n 0, 1, []), (61, .iconst 0, 1, []), (62, .putfield 47, 3, [5, 11, 215]), (65, .return_, 1, [])]
def am_m5 : am_M := (⟨"CombCylinder$Voice", "<init>", "()V"⟩, prog_7_method_1_code, 1, none, [], am_i5_0)
def am_i6_0 : List am_I := [(0, .aload_n 0, 1, []), (1, .invokespecial 3, 3, [2, 246, 53, 54]), (4, .aload_n 0, 1, []), (5, .bipush 30, 2, []), (7, .newarray .int, 2, [189]), (9, .putfield 9, 3, [2, 0, 247]), (12, .aload_n 0, 1, []), (13, .bipush 30, 2, []), (15, .newarray .int, 2, [189]), (17, .putfield 15, 3, [2, 1, 249]), (20, .aload_n 0, 1, []), (21, .bipush 30, 2, []), (23, .newarray .int, 2, [189]), (25, .putfield 18, 3, [2, 2, 250]), (28, .aload_n 0, 1, []), (29, .iconst 0, 1, []), (30, .putfield 21, 3, [2, 3, 252]), (33, .return_, 1, [])]
def am_m6 : am_M := (⟨"CombCylinder$Sheet", "<init>", "()V"⟩, prog_4_method_1_code, 1, none, [], am_i6_0)
def am_i7_0 : List am_I := [(0, .aload_n 0, 1, []), (1, .getfield 42, 3, [6, 5, 268]), (4, .istore_n 2, 1, []), (5, .aload_n 0, 1, []), (6, .iload_n 1, 1, []), (7, .putfield 42, 3, [6, 5, 268]), (10, .iload_n 2, 1, []), (11, .ireturn, 1, [])]
def am_m7 : am_M := (⟨"CombCylinder", "snail", "(Z)Z"⟩, prog_1_method_28_code, 3, (some FieldType.boolean), [], am_i7_0)
def am_i8_0 : List am_I := [(0, .aload_n 0, 1, []), (1, .getfield 31, 3, [6, 3, 266]), (4, .invokevirtual 252, 3, [1, 9, 1, 3, 299, 300, 301, 28, 302]), (7, .invokestatic 256, 3, [0, 10, 1, 303, 304, 25, 305]), (10, .ireturn, 1, [])]
def am_m8 : am_M := (⟨"CombCylinder", "speedBits", "()I"⟩, prog_1_method_31_code, 1, (some FieldType.int), [], am_i8_0)
def am_i9_0 : List am_I := [(0, .bipush 10, 2, []), (2, .aload_n 0, 1, []), (3, .getfield 7, 3, [3, 0, 141]), (6, .iadd, 1, []), (7, .i2f, 1, []), (8, .aload_n 0, 1, []), (9, .getfield 13, 3, [3, 1, 143]), (12, .i2f, 1, []), (13, .fdiv, 1, []), (14, .freturn, 1, [])]
def am_m9 : am_M := (⟨"CombCylinder$Spring", "speed", "()F"⟩, prog_5_method_2_code, 1, (some FieldType.float), [], am_i9_0)
def am_i10_0 : List am_I := [(0, .fload_n 0, 1, []), (1, .fconst 0, 1, []), (2, .fcmp .l, 1, []), (3, .ifCond .gt 5, 3, []), (6, .iconst 0, 1, []), (7, .ireturn, 1, []), (8, .fload_n 0, 1, []), (9, .fstore_n 1, 1, []), (10, .bipush 127, 2, []), (12, .istore_n 2, 1, []), (13, .iconst 0, 1, []), (14, .istore_n 3, 1, []), (15, .iload_n 3, 1, []), (16, .bipush 127, 2, []), (18, .if_icmp .ge 22, 3, []), (21, .fload_n 1, 1, []), (22, .fconst 2, 1, []), (23, .fcmp .l, 1, []), (24, .ifCond .lt 16, 3, []), (27, .fload_n 1, 1, []), (28, .fconst 2, 1, []), (29, .fdiv, 1, []), (30, .fstore_n 1, 1, []), (31, .iinc 2 1, 3, []), (34, .iinc 3 1, 3, []), (37, .goto (-22), 3, []), (40, .iconst 0, 1, []), (41, .istore_n 3, 1, []), (42, .iload_n 3, 1, []), (43, .bipush 126, 2, []), (45, .if_icmp .ge 22, 3, []), (48, .fload_n 1, 1, []), (49, .fconst 1, 1, []), (50, .fcmp .g, 1, []), (51, .ifCond .ge 16, 3, []), (54, .fload_n 1, 1, []), (55, .fconst 2, 1, []), (56, .fmul, 1, []), (57, .fstore_n 1, 1, []), (58, .iinc 2 (-1), 3, []), (61, .iinc 3 1, 3, []), (64, .goto (-22), 3, []), (67, .iload_n 2, 1, []), (68, .bipush 23, 2, []), (70, .ishl, 1, []), (71, .fload_n 1, 1, []), (72, .fconst 1, 1, []), (73, .fsub, 1, []), (74, .ldc_w 414, 3, [2, 1258291200, 306]), (77, .fmul, 1, []), (78, .f2i, 1, []), (79, .ior, 1, []), (80, .ireturn, 1, [])]
def am_m10 : am_M := (⟨"CombCylinder", "bitsOfFloat", "(F)I"⟩, prog_1_method_63_code, 4, (some FieldType.int), [], am_i10_0)
def am_i11_0 : List am_I := [(0, .aload_n 0, 1, []), (1, .getfield 31, 3, [6, 3, 266]), (4, .getfield 283, 3, [3, 2, 146]), (7, .dreturn, 1, [])]
def am_m11 : am_M := (⟨"CombCylinder", "played", "()D"⟩, prog_1_method_35_code, 1, (some FieldType.double), [], am_i11_0)
def am_i12_0 : List am_I := [(0, .aload_n 0, 1, []), (1, .getfield 46, 3, [6, 6, 269]), (4, .i2l, 1, []), (5, .iload_n 1, 1, []), (6, .i2l, 1, []), (7, .lmul, 1, []), (8, .lstore_n 2, 1, []), (9, .ldc2_w 365, 3, [1, 18446744071562067968, 315]), (12, .ldc2_w 367, 3, [1, 2147483647, 316]), (15, .lload_n 2, 1, []), (16, .invokestatic 369, 3, [5, 317, 318, 37, 319]), (19, .invokestatic 372, 3, [6, 320, 321, 37, 322]), (22, .l2i, 1, []), (23, .ireturn, 1, [])]
def am_m12 : am_M := (⟨"CombCylinder", "takings", "(I)I"⟩, prog_1_method_49_code, 4, (some FieldType.int), [], am_i12_0)
def am_i13_0 : List am_I := [(0, .iconst 0, 1, []), (1, .istore_n 1, 1, []), (2, .iconst 0, 1, []), (3, .istore_n 2, 1, []), (4, .iconst 0, 1, []), (5, .istore_n 3, 1, []), (6, .iload_n 3, 1, []), (7, .bipush 28, 2, []), (9, .if_icmp .ge 36, 3, []), (12, .aload_n 0, 1, []), (13, .getfield 11, 3, [6, 0, 263]), (16, .iload_n 3, 1, []), (17, .aaload, 1, []), (18, .invokevirtual 230, 3, [1, 14, 1, 5, 327, 328, 329, 30, 330]), (21, .ifCond .eq 18, 3, []), (24, .iinc 2 1, 3, []), (27, .iload_n 1, 1, []), (28, .aload_n 0, 1, []), (29, .getfield 11, 3, [6, 0, 263]), (32, .iload_n 3, 1, []), (33, .aaload, 1, []), (34, .invokevirtual 380, 3, [1, 15, 1, 5, 331, 332, 333, 30, 334]), (37, .iadd, 1, []), (38, .istore_n 1, 1, []), (39, .iinc 3 1, 3, []), (42, .goto (-36), 3, []), (45, .iload_n 2, 1, []), (46, .ifCond .ne 9, 3, []), (49, .ldc2_w 383, 3, [1, 9221120237041090560, 346]), (52, .goto 11, 3, []), (55, .iload_n 1, 1, []), (56, .i2d, 1, []), (57, .iload_n 2, 1, []), (58, .i2d, 1, []), (59, .ddiv, 1, []), (60, .invokestatic 385, 3, [9, 18, 1, 347, 348, 25, 349]), (63, .lreturn, 1, [])]
def am_m13 : am_M := (⟨"CombCylinder", "meanOffBits", "()J"⟩, prog_1_method_51_code, 4, (some FieldType.long), [], am_i13_0)
def am_i14_0 : List am_I := [(0, .aload_n 0, 1, []), (1, .getfield 9, 3, [5, 0, 195]), (4, .ifCond .eq 14, 3, []), (7, .aload_n 0, 1, []), (8, .getfield 41, 3, [5, 9, 211]), (11, .ifCond .ne 7, 3, []), (14, .iconst 1, 1, []), (15, .goto 4, 3, []), (18, .iconst 0, 1, []), (19, .ireturn, 1, [])]
def am_m14 : am_M := (⟨"CombCylinder$Voice", "sounds", "()Z"⟩, prog_7_method_3_code, 1, (some FieldType.boolean), [], am_i14_0)
def am_i15_0 : List am_I := [(0, .aload_n 0, 1, []), (1, .invokevirtual 50, 3, [1, 16, 1, 5, 335, 336, 337, 30, 338]), (4, .bipush 100, 2, []), (6, .aload_n 0, 1, []), (7, .invokevirtual 54, 3, [1, 17, 1, 5, 339, 340, 341, 30, 342]), (10, .imul, 1, []), (11, .isub, 1, []), (12, .invokestatic 57, 3, [3, 343, 344, 37, 345]), (15, .ireturn, 1, [])]
def am_m15 : am_M := (⟨"CombCylinder$Voice", "howFarOff", "()I"⟩, prog_7_method_7_code, 1, (some FieldType.int), [], am_i15_0)
def am_i16_0 : List am_I := [(0, .aload_n 0, 1, []), (1, .getfield 15, 3, [5, 1, 197]), (4, .ifCond .ne 11, 3, []), (7, .bipush 100, 2, []), (9, .aload_n 0, 1, []), (10, .getfield 18, 3, [5, 2, 198]), (13, .imul, 1, []), (14, .ireturn, 1, []), (15, .sipush 10000, 3, []), (18, .bipush 20, 2, []), (20, .aload_n 0, 1, []), (21, .getfield 18, 3, [5, 2, 198]), (24, .imul, 1, []), (25, .isub, 1, []), (26, .iconst 4, 1, []), (27, .aload_n 0, 1, []), (28, .getfield 25, 3, [5, 4, 201]), (31, .imul, 1, []), (32, .iadd, 1, []), (33, .bipush 6, 2, []), (35, .aload_n 0, 1, []), (36, .getfield 28, 3, [5, 5, 203]), (39, .imul, 1, []), (40, .isub, 1, []), (41, .iconst 3, 1, []), (42, .aload_n 0, 1, []), (43, .getfield 31, 3, [5, 6, 205]), (46, .imul, 1, []), (47, .isub, 1, []), (48, .aload_n 0, 1, []), (49, .getfield 44, 3, [5, 10, 213]), (52, .bipush 50, 2, []), (54, .idiv, 1, []), (55, .isub, 1, []), (56, .ireturn, 1, [])]
def am_m16 : am_M := (⟨"CombCylinder$Voice", "hundredths", "()I"⟩, prog_7_method_5_code, 1, (some FieldType.int), [], am_i16_0)
def am_i17_0 : List am_I := [(0, .aload_n 0, 1, []), (1, .invokevirtual 50, 3, [1, 16, 1, 5, 335, 336, 337, 30, 338]), (4, .bipush 50, 2, []), (6, .iadd, 1, []), (7, .bipush 100, 2, []), (9, .idiv, 1, []), (10, .ireturn, 1, [])]
def am_m17 : am_M := (⟨"CombCylinder$Voice", "nearestNote", "()I"⟩, prog_7_method_6_code, 1, (some FieldType.int), [], am_i17_0)
def am_i18_0 : List am_I := [(0, .dload_n 0, 1, []), (1, .dconst 0, 1, []), (2, .dcmp .l, 1, []), (3, .ifCond .gt 5, 3, []), (6, .lconst 0, 1, []), (7, .lreturn, 1, []), (8, .dload_n 0, 1, []), (9, .dstore_n 2, 1, []), (10, .ldc2_w 415, 3, [1, 1023, 350]), (13, .lstore 4, 2, []), (15, .iconst 0, 1, []), (16, .istore 6, 2, []), (18, .iload 6, 2, []), (20, .sipush 1023, 3, []), (23, .if_icmp .ge 29, 3, []), (26, .dload_n 2, 1, []), (27, .ldc2_w 417, 3, [3, 4611686018427387904, 351]), (30, .dcmp .l, 1, []), (31, .ifCond .lt 21, 3, []), (34, .dload_n 2, 1, []), (35, .ldc2_w 417, 3, [3, 4611686018427387904, 351]), (38, .ddiv, 1, []), (39, .dstore_n 2, 1, []), (40, .lload 4, 2, []), (42, .lconst 1, 1, []), (43, .ladd, 1, []), (44, .lstore 4, 2, []), (46, .iinc 6 1, 3, []), (49, .goto (-31), 3, []), (52, .iconst 0, 1, []), (53, .istore 6, 2, []), (55, .iload 6, 2, []), (57, .sipush 1022, 3, []), (60, .if_icmp .ge 27, 3, []), (63, .dload_n 2, 1, []), (64, .dconst 1, 1, []), (65, .dcmp .g, 1, []), (66, .ifCond .ge 21, 3, []), (69, .dload_n 2, 1, []), (70, .ldc2_w 417, 3, [3, 4611686018427387904, 351]), (73, .dmul, 1, []), (74, .dstore_n 2, 1, []), (75, .lload 4, 2, []), (77, .lconst 1, 1, []), (78, .lsub, 1, []), (79, .lstore 4, 2, []), (81, .iinc 6 1, 3, []), (84, .goto (-29), 3, []), (87, .lload 4, 2, []), (89, .bipush 52, 2, []), (91, .lshl, 1, []), (92, .dload_n 2, 1, []), (93, .dconst 1, 1, []), (94, .dsub, 1, []), (95, .ldc2_w 419, 3, [3, 4841369599423283200, 352]), (98, .dmul, 1, []), (99, .d2l, 1, []), (100, .lor, 1, []), (101, .lreturn, 1, [])]
def am_m18 : am_M := (⟨"CombCylinder", "bitsOfDouble", "(D)J"⟩, prog_1_method_64_code, 7, (some FieldType.long), [], am_i18_0)
def am_i19_0 : List am_I := [(0, .ldc2_w 389, 3, [1, 7, 357]), (3, .lstore_n 1, 1, []), (4, .iconst 0, 1, []), (5, .istore_n 3, 1, []), (6, .iload_n 3, 1, []), (7, .bipush 28, 2, []), (9, .if_icmp .ge 51, 3, []), (12, .aload_n 0, 1, []), (13, .getfield 11, 3, [6, 0, 263]), (16, .iload_n 3, 1, []), (17, .aaload, 1, []), (18, .astore 4, 2, []), (20, .aload 4, 2, []), (22, .getfield 79, 3, [5, 0, 196]), (25, .ifCond .eq 29, 3, []), (28, .ldc2_w 391, 3, [1, 31, 358]), (31, .lload_n 1, 1, []), (32, .lmul, 1, []), (33, .aload 4, 2, []), (35, .invokevirtual 93, 3, [1, 16, 1, 5, 359, 336, 337, 30, 338]), (38, .i2l, 1, []), (39, .ladd, 1, []), (40, .lstore_n 1, 1, []), (41, .ldc2_w 391, 3, [1, 31, 358]), (44, .lload_n 1, 1, []), (45, .lmul, 1, []), (46, .aload 4, 2, []), (48, .getfield 82, 3, [5, 10, 214]), (51, .i2l, 1, []), (52, .ladd, 1, []), (53, .lstore_n 1, 1, []), (54, .iinc 3 1, 3, []), (57, .goto (-51), 3, []), (60, .iconst 0, 1, []), (61, .istore_n 3, 1, []), (62, .iload_n 3, 1, []), (63, .aload_n 0, 1, []), (64, .getfield 24, 3, [6, 2, 265]), (67, .getfield 161, 3, [0, 4, 114]), (70, .if_icmp .ge 59, 3, []), (73, .aload_n 0, 1, []), (74, .getfield 24, 3, [6, 2, 265]), (77, .getfield 190, 3, [0, 5, 117]), (80, .iload_n 3, 1, []), (81, .aaload, 1, []), (82, .astore 4, 2, []), (84, .ldc2_w 391, 3, [1, 31, 358]), (87, .lload_n 1, 1, []), (88, .lmul, 1, []), (89, .aload 4, 2, []), (91, .getfield 359, 3, [1, 1, 79]), (94, .i2l, 1, []), (95, .ladd, 1, []), (96, .lstore_n 1, 1, []), (97, .ldc2_w 391, 3, [1, 31, 358]), (100, .lload_n 1, 1, []), (101, .lmul, 1, []), (102, .aload 4, 2, []), (104, .getfield 273, 3, [1, 2, 83]), (107, .i2l, 1, [])]
def am_i19_1 : List am_I := [(108, .ladd, 1, []), (109, .lstore_n 1, 1, []), (110, .ldc2_w 391, 3, [1, 31, 358]), (113, .lload_n 1, 1, []), (114, .lmul, 1, []), (115, .aload 4, 2, []), (117, .getfield 194, 3, [1, 3, 86]), (120, .i2l, 1, []), (121, .ladd, 1, []), (122, .lstore_n 1, 1, []), (123, .iinc 3 1, 3, []), (126, .goto (-64), 3, []), (129, .ldc2_w 391, 3, [1, 31, 358]), (132, .lload_n 1, 1, []), (133, .lmul, 1, []), (134, .aload_n 0, 1, []), (135, .getfield 31, 3, [6, 3, 266]), (138, .getfield 240, 3, [3, 0, 142]), (141, .i2l, 1, []), (142, .ladd, 1, []), (143, .lreturn, 1, [])]
def am_m19 : am_M := (⟨"CombCylinder", "checksum", "()J"⟩, prog_1_method_52_code, 5, (some FieldType.long), [], am_i19_0 ++ (am_i19_1))
def am_i20_0 : List am_I := [(0, .aload_n 0, 1, []), (1, .getfield 53, 3, [6, 8, 271]), (4, .istore_n 1, 1, []), (5, .iconst 0, 1, []), (6, .istore_n 2, 1, []), (7, .iload_n 2, 1, []), (8, .bipush 28, 2, []), (10, .if_icmp .ge 52, 3, []), (13, .aload_n 0, 1, []), (14, .getfield 11, 3, [6, 0, 263]), (17, .iload_n 2, 1, []), (18, .aaload, 1, []), (19, .astore_n 3, 1, []), (20, .iload_n 1, 1, []), (21, .aload_n 3, 1, []), (22, .getfield 82, 3, [5, 10, 214]), (25, .iadd, 1, []), (26, .istore_n 1, 1, []), (27, .aload_n 3, 1, []), (28, .invokevirtual 113, 3, [1, 21, 1, 5, 364, 365, 366, 30, 367]), (31, .bipush 40, 2, []), (33, .bipush 100, 2, []), (35, .invokestatic 127, 3, [0, 22, 3, 368, 369, 25, 370]), (38, .ifCond .eq 16, 3, []), (41, .aload_n 3, 1, []), (42, .getfield 124, 3, [5, 6, 206]), (45, .iconst 0, 1, []), (46, .bipush 100, 2, []), (48, .invokestatic 127, 3, [0, 22, 3, 368, 369, 25, 370]), (51, .ifCond .ne 5, 3, []), (54, .iconst 0, 1, []), (55, .ireturn, 1, []), (56, .iinc 2 1, 3, []), (59, .goto (-52), 3, []), (62, .iload_n 1, 1, []), (63, .aload_n 0, 1, []), (64, .getfield 50, 3, [6, 7, 270]), (67, .if_icmp .ne 17, 3, []), (70, .aload_n 0, 1, []), (71, .getfield 24, 3, [6, 2, 265]), (74, .invokevirtual 393, 3, [1, 23, 1, 0, 371, 372, 373, 26, 374]), (77, .ifCond .ne 7, 3, []), (80, .iconst 1, 1, []), (81, .goto 4, 3, []), (84, .iconst 0, 1, []), (85, .ireturn, 1, [])]
def am_m20 : am_M := (⟨"CombCylinder", "isTrue", "()Z"⟩, prog_1_method_53_code, 4, (some FieldType.boolean), [], am_i20_0)
def am_i21_0 : List am_I := [(0, .bipush 100, 2, []), (2, .aload_n 0, 1, []), (3, .getfield 25, 3, [5, 4, 201]), (6, .isub, 1, []), (7, .aload_n 0, 1, []), (8, .getfield 28, 3, [5, 5, 203]), (11, .isub, 1, []), (12, .ireturn, 1, [])]
def am_m21 : am_M := (⟨"CombCylinder$Voice", "steelLeft", "()I"⟩, prog_7_method_4_code, 1, (some FieldType.int), [], am_i21_0)
def am_i22_0 : List am_I := [(0, .iload_n 0, 1, []), (1, .iload_n 1, 1, []), (2, .if_icmp .lt 12, 3, []), (5, .iload_n 0, 1, []), (6, .iload_n 2, 1, []), (7, .if_icmp .gt 7, 3, []), (10, .iconst 1, 1, []), (11, .goto 4, 3, []), (14, .iconst 0, 1, []), (15, .ireturn, 1, [])]
def am_m22 : am_M := (⟨"CombCylinder", "isWithin", "(III)Z"⟩, prog_1_method_54_code, 3, (some FieldType.boolean), [], am_i22_0)
def am_i23_0 : List am_I := [(0, .iconst 0, 1, []), (1, .istore_n 1, 1, []), (2, .iload_n 1, 1, []), (3, .aload_n 0, 1, []), (4, .getfield 25, 3, [0, 4, 112]), (7, .if_icmp .ge 64, 3, []), (10, .iconst 0, 1, []), (11, .istore_n 2, 1, []), (12, .iload_n 2, 1, []), (13, .iload_n 1, 1, []), (14, .if_icmp .ge 51, 3, []), (17, .aload_n 0, 1, []), (18, .aload_n 0, 1, []), (19, .getfield 30, 3, [0, 5, 115]), (22, .iload_n 2, 1, []), (23, .aaload, 1, []), (24, .aload_n 0, 1, []), (25, .getfield 30, 3, [0, 5, 115]), (28, .iload_n 1, 1, []), (29, .aaload, 1, []), (30, .getfield 38, 3, [1, 0, 73]), (33, .aload_n 0, 1, []), (34, .getfield 30, 3, [0, 5, 115]), (37, .iload_n 1, 1, []), (38, .aaload, 1, []), (39, .getfield 41, 3, [1, 1, 77]), (42, .aload_n 0, 1, []), (43, .getfield 30, 3, [0, 5, 115]), (46, .iload_n 1, 1, []), (47, .aaload, 1, []), (48, .getfield 44, 3, [1, 2, 81]), (51, .invokevirtual 70, 3, [1, 24, 5, 0, 375, 377, 0, 26, 378]), (54, .ifCond .eq 5, 3, []), (57, .iconst 1, 1, []), (58, .ireturn, 1, []), (59, .iinc 2 1, 3, []), (62, .goto (-50), 3, []), (65, .iinc 1 1, 3, []), (68, .goto (-66), 3, []), (71, .iconst 0, 1, []), (72, .ireturn, 1, [])]
def am_m23 : am_M := (⟨"CombCylinder$Drum", "hasNearPins", "()Z"⟩, prog_2_method_13_code, 3, (some FieldType.boolean), [], am_i23_0)
def am_i24_0 : List am_I := [(0, .aload_n 1, 1, []), (1, .getfield 44, 3, [1, 2, 81]), (4, .iload 4, 2, []), (6, .if_icmp .ne 33, 3, []), (9, .aload_n 1, 1, []), (10, .getfield 38, 3, [1, 0, 73]), (13, .iload_n 2, 1, []), (14, .isub, 1, []), (15, .invokestatic 57, 3, [3, 379, 344, 37, 345]), (18, .iconst 1, 1, []), (19, .if_icmp .gt 20, 3, []), (22, .aload_n 0, 1, []), (23, .aload_n 1, 1, []), (24, .getfield 41, 3, [1, 1, 77]), (27, .iload_n 3, 1, []), (28, .invokevirtual 67, 3, [1, 25, 3, 0, 380, 382, 1, 26, 383]), (31, .iconst 1, 1, []), (32, .if_icmp .gt 7, 3, []), (35, .iconst 1, 1, []), (36, .goto 4, 3, []), (39, .iconst 0, 1, []), (40, .ireturn, 1, [])]
def am_m24 : am_M := (⟨"CombCylinder$Drum", "isNear", "(LCombCylinder$Pin;III)Z"⟩, prog_2_method_11_code, 5, (some FieldType.boolean), [], am_i24_0)
def am_i25_0 : List am_I := [(0, .iload_n 1, 1, []), (1, .iload_n 2, 1, []), (2, .isub, 1, []), (3, .invokestatic 57, 3, [3, 379, 344, 37, 345]), (6, .istore_n 3, 1, []), (7, .iload_n 3, 1, []), (8, .aload_n 0, 1, []), (9, .getfield 9, 3, [0, 0, 104]), (12, .iload_n 3, 1, []), (13, .isub, 1, []), (14, .invokestatic 63, 3, [4, 384, 385, 37, 386]), (17, .ireturn, 1, [])]
def am_m25 : am_M := (⟨"CombCylinder$Drum", "apart", "(II)I"⟩, prog_2_method_10_code, 4, (some FieldType.int), [], am_i25_0)
def am_i26_0 : List am_I := [(0, .iload_n 1, 1, []), (1, .tableswitch 453 66 119 #[264, 231, 349, 453, 315, 453, 453, 453, 453, 453, 330, 453, 453, 453, 422, 453, 453, 453, 242, 439, 453, 453, 453, 453, 453, 453, 453, 453, 453, 453, 453, 453, 361, 453, 389, 414, 453, 453, 453, 453, 453, 453, 453, 453, 291, 453, 283, 453, 453, 341, 299, 453, 453, 397], 231, []), (232, .aload_n 0, 1, []), (233, .aload_n 2, 1, []), (234, .iconst 0, 1, []), (235, .iaload, 1, []), (236, .aload_n 2, 1, []), (237, .iconst 1, 1, []), (238, .iaload, 1, []), (239, .invokevirtual 7, 3, [1, 27, 3, 6, 474, 475, 476, 25, 477]), (242, .ireturn, 1, []), (243, .aload_n 0, 1, []), (244, .aload_n 2, 1, []), (245, .iconst 0, 1, []), (246, .iaload, 1, []), (247, .aload_n 2, 1, []), (248, .iconst 1, 1, []), (249, .iaload, 1, []), (250, .aload_n 2, 1, []), (251, .iconst 2, 1, []), (252, .iaload, 1, []), (253, .invokevirtual 13, 3, [1, 30, 4, 6, 501, 502, 503, 25, 504]), (256, .ifCond .eq 7, 3, []), (259, .iconst 1, 1, []), (260, .goto 4, 3, []), (263, .iconst 0, 1, []), (264, .ireturn, 1, []), (265, .aload_n 0, 1, []), (266, .aload_n 2, 1, []), (267, .iconst 0, 1, []), (268, .iaload, 1, []), (269, .aload_n 2, 1, []), (270, .iconst 1, 1, []), (271, .iaload, 1, []), (272, .invokevirtual 17, 3, [1, 34, 3, 6, 545, 546, 547, 25, 548]), (275, .ifCond .eq 7, 3, []), (278, .iconst 1, 1, []), (279, .goto 4, 3, []), (282, .iconst 0, 1, []), (283, .ireturn, 1, []), (284, .aload_n 0, 1, []), (285, .aload_n 2, 1, []), (286, .iconst 0, 1, []), (287, .iaload, 1, []), (288, .invokevirtual 21, 3, [1, 35, 2, 6, 550, 551, 552, 25, 553]), (291, .ireturn, 1, []), (292, .aload_n 0, 1, []), (293, .aload_n 2, 1, []), (294, .iconst 0, 1, []), (295, .iaload, 1, []), (296, .invokevirtual 25, 3, [1, 37, 2, 6, 574, 575, 576, 25, 577]), (299, .ireturn, 1, []), (300, .aload_n 0, 1, []), (301, .aload_n 2, 1, []), (302, .iconst 0, 1, []), (303, .iaload, 1, []), (304, .invokevirtual 28, 3, [1, 38, 2, 6, 579, 580, 581, 25, 582]), (307, .ifCond .eq 7, 3, []), (310, .iconst 1, 1, []), (311, .goto 4, 3, [])]
def am_i26_1 : List am_I := [(314, .iconst 0, 1, []), (315, .ireturn, 1, []), (316, .aload_n 0, 1, []), (317, .aload_n 2, 1, []), (318, .iconst 0, 1, []), (319, .iaload, 1, []), (320, .aload_n 2, 1, []), (321, .iconst 1, 1, []), (322, .iaload, 1, []), (323, .i2c, 1, []), (324, .aload_n 2, 1, []), (325, .iconst 2, 1, []), (326, .iaload, 1, []), (327, .invokevirtual 32, 3, [1, 40, 4, 6, 588, 589, 590, 25, 591]), (330, .ireturn, 1, []), (331, .aload_n 0, 1, []), (332, .aload_n 2, 1, []), (333, .iconst 0, 1, []), (334, .iaload, 1, []), (335, .aload_n 2, 1, []), (336, .iconst 1, 1, []), (337, .iaload, 1, []), (338, .invokevirtual 36, 3, [1, 42, 3, 6, 598, 599, 600, 25, 601]), (341, .ireturn, 1, []), (342, .aload_n 0, 1, []), (343, .aload_n 2, 1, []), (344, .iconst 0, 1, []), (345, .iaload, 1, []), (346, .invokevirtual 39, 3, [1, 43, 2, 6, 603, 604, 605, 25, 606]), (349, .ireturn, 1, []), (350, .aload_n 0, 1, []), (351, .aload_n 2, 1, []), (352, .iconst 0, 1, []), (353, .iaload, 1, []), (354, .aload_n 2, 1, []), (355, .iconst 1, 1, []), (356, .iaload, 1, []), (357, .i2c, 1, []), (358, .invokevirtual 42, 3, [1, 44, 3, 6, 607, 608, 609, 25, 610]), (361, .ireturn, 1, []), (362, .aload_n 0, 1, []), (363, .aload_n 2, 1, []), (364, .iconst 0, 1, []), (365, .iaload, 1, []), (366, .aload_n 2, 1, []), (367, .iconst 1, 1, []), (368, .iaload, 1, []), (369, .iconst 1, 1, []), (370, .if_icmp .ne 7, 3, []), (373, .iconst 1, 1, []), (374, .goto 4, 3, []), (377, .iconst 0, 1, []), (378, .invokevirtual 46, 3, [1, 45, 3, 6, 612, 613, 614, 25, 615]), (381, .ifCond .eq 7, 3, []), (384, .iconst 1, 1, []), (385, .goto 4, 3, []), (388, .iconst 0, 1, []), (389, .ireturn, 1, []), (390, .aload_n 0, 1, []), (391, .aload_n 2, 1, [])]
def am_i26_2 : List am_I := [(392, .iconst 0, 1, []), (393, .iaload, 1, []), (394, .invokevirtual 50, 3, [1, 46, 2, 6, 617, 618, 619, 25, 620]), (397, .ireturn, 1, []), (398, .aload_n 0, 1, []), (399, .aload_n 2, 1, []), (400, .iconst 0, 1, []), (401, .iaload, 1, []), (402, .aload_n 2, 1, []), (403, .iconst 1, 1, []), (404, .iaload, 1, []), (405, .aload_n 2, 1, []), (406, .iconst 2, 1, []), (407, .iaload, 1, []), (408, .aload_n 2, 1, []), (409, .iconst 3, 1, []), (410, .iaload, 1, []), (411, .invokevirtual 53, 3, [1, 48, 5, 6, 625, 626, 627, 25, 628]), (414, .ireturn, 1, []), (415, .aload_n 0, 1, []), (416, .aload_n 2, 1, []), (417, .iconst 0, 1, []), (418, .iaload, 1, []), (419, .invokevirtual 57, 3, [1, 51, 2, 6, 653, 654, 655, 25, 656]), (422, .ireturn, 1, []), (423, .aload_n 0, 1, []), (424, .aload_n 2, 1, []), (425, .iconst 0, 1, []), (426, .iaload, 1, []), (427, .aload_n 2, 1, []), (428, .iconst 1, 1, []), (429, .iaload, 1, []), (430, .aload_n 2, 1, []), (431, .iconst 2, 1, []), (432, .iaload, 1, []), (433, .aload_n 2, 1, []), (434, .iconst 3, 1, []), (435, .iaload, 1, []), (436, .invokevirtual 60, 3, [1, 52, 5, 6, 657, 658, 659, 25, 660]), (439, .ireturn, 1, []), (440, .aload_n 0, 1, []), (441, .aload_n 2, 1, []), (442, .iconst 0, 1, []), (443, .iaload, 1, []), (444, .aload_n 2, 1, []), (445, .iconst 1, 1, []), (446, .iaload, 1, []), (447, .aload_n 2, 1, []), (448, .iconst 2, 1, []), (449, .iaload, 1, []), (450, .invokevirtual 63, 3, [1, 59, 4, 6, 689, 690, 691, 25, 692]), (453, .ireturn, 1, []), (454, .aload_n 0, 1, []), (455, .iload_n 1, 1, []), (456, .aload_n 2, 1, []), (457, .invokestatic 67, 3, [0, 62, 3, 702, 703, 24, 704]), (460, .ireturn, 1, []), (461, .astore_n 3, 1, []), (462, .ldc 75, 2, [0, 2294967295, 906]), (464, .ireturn, 1, [])]
def am_i26_3 : List am_I := [(465, .astore_n 3, 1, []), (466, .ldc 78, 2, [0, 2294967294, 907]), (468, .ireturn, 1, []), (469, .astore_n 3, 1, []), (470, .ldc 81, 2, [0, 2294967293, 908]), (472, .ireturn, 1, []), (473, .astore_n 3, 1, []), (474, .ldc 84, 2, [0, 2294967292, 909]), (476, .ireturn, 1, []), (477, .astore_n 3, 1, []), (478, .ldc 87, 2, [0, 2294967291, 910]), (480, .ireturn, 1, [])]
def am_m26 : am_M := (⟨"CombCylinderLaw", "ask", "(LCombCylinder;C[I)I"⟩, method_4_code, 4, (some FieldType.int), [(0, 242, 461, 73), (243, 264, 461, 73), (265, 283, 461, 73), (284, 291, 461, 73), (292, 299, 461, 73), (300, 315, 461, 73), (316, 330, 461, 73), (331, 341, 461, 73), (342, 349, 461, 73), (350, 361, 461, 73), (362, 389, 461, 73), (390, 397, 461, 73), (398, 414, 461, 73), (415, 422, 461, 73), (423, 439, 461, 73), (440, 453, 461, 73), (454, 460, 461, 73), (0, 242, 465, 76), (243, 264, 465, 76), (265, 283, 465, 76), (284, 291, 465, 76), (292, 299, 465, 76), (300, 315, 465, 76), (316, 330, 465, 76), (331, 341, 465, 76), (342, 349, 465, 76), (350, 361, 465, 76), (362, 389, 465, 76), (390, 397, 465, 76), (398, 414, 465, 76), (415, 422, 465, 76), (423, 439, 465, 76), (440, 453, 465, 76), (454, 460, 465, 76), (0, 242, 469, 79), (243, 264, 469, 79), (265, 283, 469, 79), (284, 291, 469, 79), (292, 299, 469, 79), (300, 315, 469, 79), (316, 330, 469, 79), (331, 341, 469, 79), (342, 349, 469, 79), (350, 361, 469, 79), (362, 389, 469, 79), (390, 397, 469, 79), (398, 414, 469, 79), (415, 422, 469, 79), (423, 439, 469, 79), (440, 453, 469, 79), (454, 460, 469, 79), (0, 242, 473, 82), (243, 264, 473, 82), (265, 283, 473, 82), (284, 291, 473, 82), (292, 299, 473, 82), (300, 315, 473, 82), (316, 330, 473, 82), (331, 341, 473, 82), (342, 349, 473, 82), (350, 361, 473, 82), (362, 389, 473, 82), (390, 397, 473, 82), (398, 414, 473, 82), (415, 422, 473, 82), (423, 439, 473, 82), (440, 453, 473, 82), (454, 460, 473, 82), (0, 242, 477, 85), (243, 264, 477, 85), (265, 283, 477, 85), (284, 291, 477, 85), (292, 299, 477, 85), (300, 315, 477, 85), (316, 330, 477, 85), (331, 341, 477, 85), (342, 349, 477, 85), (350, 361, 477, 85), (362, 389, 477, 85), (390, 397, 477, 85), (398, 414, 477, 85), (415, 422, 477, 85), (423, 439, 477, 85), (440, 453, 477, 85), (454, 460, 477, 85)], am_i26_0 ++ (am_i26_1 ++ (am_i26_2 ++ (am_i26_3))))
def am_i27_0 : List am_I := [(0, .iload_n 1, 1, []), (1, .bipush 40, 2, []), (3, .sipush 600, 3, []), (6, .invokestatic 62, 3, [0, 28, 3, 478, 479, 25, 480]), (9, .iload_n 2, 1, []), (10, .iconst 1, 1, []), (11, .bipush 6, 2, []), (13, .invokestatic 62, 3, [0, 28, 3, 478, 479, 25, 480]), (16, .aload_n 0, 1, []), (17, .getfield 24, 3, [6, 2, 265]), (20, .getfield 161, 3, [0, 4, 114]), (23, .istore_n 3, 1, []), (24, .aload_n 0, 1, []), (25, .getfield 24, 3, [6, 2, 265]), (28, .iload_n 1, 1, []), (29, .iload_n 2, 1, []), (30, .invokevirtual 162, 3, [1, 29, 3, 0, 497, 498, 499, 26, 500]), (33, .iload_n 3, 1, []), (34, .ireturn, 1, [])]
def am_m27 : am_M := (⟨"CombCylinder", "cylinder", "(II)I"⟩, prog_1_method_18_code, 4, (some FieldType.int), [], am_i27_0)
def am_i28_0 : List am_I := [(0, .iload_n 0, 1, []), (1, .iload_n 1, 1, []), (2, .iload_n 2, 1, []), (3, .invokestatic 127, 3, [0, 22, 3, 368, 369, 25, 370]), (6, .ifCond .ne 14, 3, []), (9, .new 104, 3, [9, 1]), (12, .dup, 1, []), (13, .ldc_w 396, 3, []), (16, .invokespecial 108, 3, []), (19, .athrow, 1, []), (20, .return_, 1, [])]
def am_m28 : am_M := (⟨"CombCylinder", "needNumber", "(III)V"⟩, prog_1_method_55_code, 3, none, [], am_i28_0)
def am_i29_0 : List am_I := [(0, .aload_n 0, 1, []), (1, .iload_n 1, 1, []), (2, .putfield 9, 3, [0, 0, 104]), (5, .aload_n 0, 1, []), (6, .iload_n 2, 1, []), (7, .putfield 15, 3, [0, 1, 106]), (10, .aload_n 0, 1, []), (11, .iconst 0, 1, []), (12, .putfield 18, 3, [0, 2, 108]), (15, .aload_n 0, 1, []), (16, .iconst 0, 1, []), (17, .putfield 21, 3, [0, 3, 110]), (20, .aload_n 0, 1, []), (21, .iconst 0, 1, []), (22, .putfield 25, 3, [0, 4, 112]), (25, .return_, 1, [])]
def am_m29 : am_M := (⟨"CombCylinder$Drum", "make", "(II)V"⟩, prog_2_method_2_code, 3, none, [], am_i29_0)
def am_i30_0 : List am_I := [(0, .iload_n 1, 1, []), (1, .bipush 28, 2, []), (3, .invokestatic 58, 3, [0, 31, 2, 505, 506, 25, 507]), (6, .iload_n 2, 1, []), (7, .bipush 100, 2, []), (9, .sipush 400, 3, []), (12, .invokestatic 62, 3, [0, 28, 3, 478, 479, 25, 480]), (15, .iload_n 3, 1, []), (16, .iconst 0, 1, []), (17, .iconst 2, 1, []), (18, .invokestatic 62, 3, [0, 28, 3, 478, 479, 25, 480]), (21, .iload_n 1, 1, []), (22, .bipush 24, 2, []), (24, .if_icmp .lt 13, 3, []), (27, .new 66, 3, [9, 3]), (30, .dup, 1, []), (31, .ldc 68, 2, []), (33, .invokespecial 70, 3, []), (36, .athrow, 1, []), (37, .aload_n 0, 1, []), (38, .iload_n 1, 1, []), (39, .iconst 1, 1, []), (40, .iload_n 2, 1, []), (41, .iload_n 3, 1, []), (42, .invokevirtual 73, 3, [1, 32, 5, 6, 537, 539, 3, 25, 540]), (45, .ireturn, 1, [])]
def am_m30 : am_M := (⟨"CombCylinder", "tooth", "(III)Z"⟩, prog_1_method_2_code, 4, (some FieldType.boolean), [], am_i30_0)
def am_i31_0 : List am_I := [(0, .iload_n 0, 1, []), (1, .ifCond .lt 8, 3, []), (4, .iload_n 0, 1, []), (5, .iload_n 1, 1, []), (6, .if_icmp .lt 14, 3, []), (9, .new 398, 3, [9, 0]), (12, .dup, 1, []), (13, .ldc_w 400, 3, []), (16, .invokespecial 402, 3, []), (19, .athrow, 1, []), (20, .return_, 1, [])]
def am_m31 : am_M := (⟨"CombCylinder", "needIndex", "(II)V"⟩, prog_1_method_56_code, 2, none, [], am_i31_0)
def am_i32_0 : List am_I := [(0, .aload_n 0, 1, []), (1, .getfield 11, 3, [6, 0, 263]), (4, .iload_n 1, 1, []), (5, .aaload, 1, []), (6, .astore 5, 2, []), (8, .aload 5, 2, []), (10, .getfield 79, 3, [5, 0, 196]), (13, .istore 6, 2, []), (15, .aload_n 0, 1, []), (16, .dup, 1, []), (17, .getfield 53, 3, [6, 8, 271]), (20, .aload 5, 2, []), (22, .getfield 82, 3, [5, 10, 214]), (25, .iadd, 1, []), (26, .putfield 53, 3, [6, 8, 271]), (29, .aload 5, 2, []), (31, .iload_n 2, 1, []), (32, .iload_n 3, 1, []), (33, .iload 4, 2, []), (35, .invokevirtual 85, 3, [1, 33, 4, 5, 541, 542, 543, 30, 544]), (38, .iload 6, 2, []), (40, .ireturn, 1, [])]
def am_m32 : am_M := (⟨"CombCylinder", "replaceVoice", "(IZII)Z"⟩, prog_1_method_4_code, 7, (some FieldType.boolean), [], am_i32_0)
def am_i33_0 : List am_I := [(0, .aload_n 0, 1, []), (1, .iconst 1, 1, []), (2, .putfield 9, 3, [5, 0, 195]), (5, .aload_n 0, 1, []), (6, .iload_n 1, 1, []), (7, .putfield 15, 3, [5, 1, 197]), (10, .aload_n 0, 1, []), (11, .iload_n 2, 1, []), (12, .putfield 18, 3, [5, 2, 198]), (15, .aload_n 0, 1, []), (16, .iload_n 3, 1, []), (17, .putfield 22, 3, [5, 3, 199]), (20, .aload_n 0, 1, []), (21, .iconst 0, 1, []), (22, .putfield 25, 3, [5, 4, 201]), (25, .aload_n 0, 1, []), (26, .iconst 0, 1, []), (27, .putfield 28, 3, [5, 5, 203]), (30, .aload_n 0, 1, []), (31, .iconst 0, 1, []), (32, .putfield 31, 3, [5, 6, 205]), (35, .aload_n 0, 1, []), (36, .bipush 45, 2, []), (38, .putfield 34, 3, [5, 7, 207]), (41, .aload_n 0, 1, []), (42, .iconst 0, 1, []), (43, .putfield 38, 3, [5, 8, 209]), (46, .aload_n 0, 1, []), (47, .iconst 0, 1, []), (48, .putfield 41, 3, [5, 9, 211]), (51, .aload_n 0, 1, []), (52, .iconst 0, 1, []), (53, .putfield 44, 3, [5, 10, 213]), (56, .aload_n 0, 1, []), (57, .iconst 0, 1, []), (58, .putfield 47, 3, [5, 11, 215]), (61, .return_, 1, [])]
def am_m33 : am_M := (⟨"CombCylinder$Voice", "put", "(ZII)V"⟩, prog_7_method_2_code, 4, none, [], am_i33_0)
def am_i34_0 : List am_I := [(0, .iload_n 1, 1, []), (1, .bipush 28, 2, []), (3, .invokestatic 58, 3, [0, 31, 2, 505, 506, 25, 507]), (6, .iload_n 2, 1, []), (7, .iconst 1, 1, []), (8, .bipush 120, 2, []), (10, .invokestatic 62, 3, [0, 28, 3, 478, 479, 25, 480]), (13, .iload_n 1, 1, []), (14, .bipush 24, 2, []), (16, .if_icmp .ge 13, 3, []), (19, .new 66, 3, [9, 3]), (22, .dup, 1, []), (23, .ldc 77, 2, []), (25, .invokespecial 70, 3, []), (28, .athrow, 1, []), (29, .aload_n 0, 1, []), (30, .iload_n 1, 1, []), (31, .iconst 0, 1, []), (32, .iload_n 2, 1, []), (33, .iconst 0, 1, []), (34, .invokevirtual 73, 3, [1, 32, 5, 6, 537, 539, 3, 25, 540]), (37, .ireturn, 1, [])]
def am_m34 : am_M := (⟨"CombCylinder", "bell", "(II)Z"⟩, prog_1_method_3_code, 3, (some FieldType.boolean), [], am_i34_0)
def am_i35_0 : List am_I := [(0, .aload_n 0, 1, []), (1, .iload_n 1, 1, []), (2, .invokevirtual 89, 3, [1, 36, 2, 6, 554, 556, 4, 25, 557]), (5, .invokevirtual 93, 3, [1, 16, 1, 5, 359, 336, 337, 30, 338]), (8, .ireturn, 1, [])]
def am_m35 : am_M := (⟨"CombCylinder", "pitch", "(I)I"⟩, prog_1_method_5_code, 2, (some FieldType.int), [], am_i35_0)
def am_i36_0 : List am_I := [(0, .iload_n 1, 1, []), (1, .bipush 28, 2, []), (3, .invokestatic 58, 3, [0, 31, 2, 505, 506, 25, 507]), (6, .aload_n 0, 1, []), (7, .getfield 11, 3, [6, 0, 263]), (10, .iload_n 1, 1, []), (11, .aaload, 1, []), (12, .astore_n 2, 1, []), (13, .aload_n 2, 1, []), (14, .getfield 79, 3, [5, 0, 196]), (17, .ifCond .ne 14, 3, []), (20, .new 185, 3, [9, 4]), (23, .dup, 1, []), (24, .ldc_w 405, 3, []), (27, .invokespecial 189, 3, []), (30, .athrow, 1, []), (31, .aload_n 2, 1, []), (32, .areturn, 1, [])]
def am_m36 : am_M := (⟨"CombCylinder", "voiceAt", "(I)LCombCylinder$Voice;"⟩, prog_1_method_58_code, 3, (some (FieldType.object "CombCylinder$Voice")), [], am_i36_0)
def am_i37_0 : List am_I := [(0, .aload_n 0, 1, []), (1, .iload_n 1, 1, []), (2, .invokevirtual 89, 3, [1, 36, 2, 6, 554, 556, 4, 25, 557]), (5, .invokevirtual 97, 3, [1, 17, 1, 5, 578, 340, 341, 30, 342]), (8, .ireturn, 1, [])]
def am_m37 : am_M := (⟨"CombCylinder", "note", "(I)I"⟩, prog_1_method_6_code, 2, (some FieldType.int), [], am_i37_0)
def am_i38_0 : List am_I := [(0, .aload_n 0, 1, []), (1, .iload_n 1, 1, []), (2, .invokevirtual 89, 3, [1, 36, 2, 6, 554, 556, 4, 25, 557]), (5, .invokevirtual 100, 3, [1, 39, 1, 5, 583, 584, 585, 30, 586]), (8, .ireturn, 1, [])]
def am_m38 : am_M := (⟨"CombCylinder", "isInTune", "(I)Z"⟩, prog_1_method_7_code, 2, (some FieldType.boolean), [], am_i38_0)
def am_i39_0 : List am_I := [(0, .aload_n 0, 1, []), (1, .invokevirtual 63, 3, [1, 15, 1, 5, 587, 332, 333, 30, 334]), (4, .iconst 5, 1, []), (5, .if_icmp .gt 7, 3, []), (8, .iconst 1, 1, []), (9, .goto 4, 3, []), (12, .iconst 0, 1, []), (13, .ireturn, 1, [])]
def am_m39 : am_M := (⟨"CombCylinder$Voice", "isTuned", "()Z"⟩, prog_7_method_8_code, 1, (some FieldType.boolean), [], am_i39_0)
def am_i40_0 : List am_I := [(0, .iload_n 1, 1, []), (1, .bipush 24, 2, []), (3, .invokestatic 58, 3, [0, 31, 2, 505, 506, 25, 507]), (6, .iload_n 2, 1, []), (7, .bipush 116, 2, []), (9, .if_icmp .eq 19, 3, []), (12, .iload_n 2, 1, []), (13, .bipush 114, 2, []), (15, .if_icmp .eq 13, 3, []), (18, .new 104, 3, [9, 1]), (21, .dup, 1, []), (22, .ldc 106, 2, []), (24, .invokespecial 108, 3, []), (27, .athrow, 1, []), (28, .iload_n 3, 1, []), (29, .iconst 1, 1, []), (30, .bipush 60, 2, []), (32, .invokestatic 62, 3, [0, 28, 3, 478, 479, 25, 480]), (35, .aload_n 0, 1, []), (36, .iload_n 1, 1, []), (37, .invokevirtual 89, 3, [1, 36, 2, 6, 554, 556, 4, 25, 557]), (40, .astore 4, 2, []), (42, .aload 4, 2, []), (44, .invokestatic 109, 3, [0, 41, 1, 593, 594, 25, 595]), (47, .aload 4, 2, []), (49, .invokevirtual 113, 3, [1, 21, 1, 5, 364, 365, 366, 30, 367]), (52, .iload_n 3, 1, []), (53, .isub, 1, []), (54, .bipush 40, 2, []), (56, .if_icmp .ge 13, 3, []), (59, .new 66, 3, [9, 3]), (62, .dup, 1, []), (63, .ldc 116, 2, []), (65, .invokespecial 70, 3, []), (68, .athrow, 1, []), (69, .iload_n 2, 1, []), (70, .bipush 116, 2, []), (72, .if_icmp .ne 17, 3, []), (75, .aload 4, 2, []), (77, .dup, 1, []), (78, .getfield 118, 3, [5, 4, 202]), (81, .iload_n 3, 1, []), (82, .iadd, 1, []), (83, .putfield 118, 3, [5, 4, 202]), (86, .goto 14, 3, []), (89, .aload 4, 2, []), (91, .dup, 1, []), (92, .getfield 121, 3, [5, 5, 204]), (95, .iload_n 3, 1, []), (96, .iadd, 1, []), (97, .putfield 121, 3, [5, 5, 204]), (100, .aload 4, 2, []), (102, .invokevirtual 93, 3, [1, 16, 1, 5, 359, 336, 337, 30, 338]), (105, .ireturn, 1, [])]
def am_m40 : am_M := (⟨"CombCylinder", "file", "(ICI)I"⟩, prog_1_method_8_code, 5, (some FieldType.int), [], am_i40_0)
def am_i41_0 : List am_I := [(0, .aload_n 0, 1, []), (1, .getfield 147, 3, [5, 9, 212]), (4, .ifCond .eq 14, 3, []), (7, .new 66, 3, [9, 3]), (10, .dup, 1, []), (11, .ldc_w 403, 3, []), (14, .invokespecial 70, 3, []), (17, .athrow, 1, []), (18, .return_, 1, [])]
def am_m41 : am_M := (⟨"CombCylinder", "needWhole", "(LCombCylinder$Voice;)V"⟩, prog_1_method_57_code, 1, none, [], am_i41_0)
def am_i42_0 : List am_I := [(0, .iload_n 1, 1, []), (1, .bipush 24, 2, []), (3, .invokestatic 58, 3, [0, 31, 2, 505, 506, 25, 507]), (6, .iload_n 2, 1, []), (7, .bipush (-50), 2, []), (9, .bipush 50, 2, []), (11, .invokestatic 62, 3, [0, 28, 3, 478, 479, 25, 480]), (14, .aload_n 0, 1, []), (15, .iload_n 1, 1, []), (16, .invokevirtual 89, 3, [1, 36, 2, 6, 554, 556, 4, 25, 557]), (19, .astore_n 3, 1, []), (20, .aload_n 3, 1, []), (21, .invokestatic 109, 3, [0, 41, 1, 593, 594, 25, 595]), (24, .aload_n 3, 1, []), (25, .getfield 124, 3, [5, 6, 206]), (28, .iload_n 2, 1, []), (29, .iadd, 1, []), (30, .iconst 0, 1, []), (31, .bipush 100, 2, []), (33, .invokestatic 127, 3, [0, 22, 3, 368, 369, 25, 370]), (36, .ifCond .ne 13, 3, []), (39, .new 66, 3, [9, 3]), (42, .dup, 1, []), (43, .ldc 131, 2, []), (45, .invokespecial 70, 3, []), (48, .athrow, 1, []), (49, .aload_n 3, 1, []), (50, .dup, 1, []), (51, .getfield 124, 3, [5, 6, 206]), (54, .iload_n 2, 1, []), (55, .iadd, 1, []), (56, .putfield 124, 3, [5, 6, 206]), (59, .aload_n 3, 1, []), (60, .invokevirtual 93, 3, [1, 16, 1, 5, 359, 336, 337, 30, 338]), (63, .ireturn, 1, [])]
def am_m42 : am_M := (⟨"CombCylinder", "lead", "(II)I"⟩, prog_1_method_9_code, 4, (some FieldType.int), [], am_i42_0)
def am_i43_0 : List am_I := [(0, .iload_n 1, 1, []), (1, .bipush 24, 2, []), (3, .invokestatic 58, 3, [0, 31, 2, 505, 506, 25, 507]), (6, .aload_n 0, 1, []), (7, .iload_n 1, 1, []), (8, .invokevirtual 89, 3, [1, 36, 2, 6, 554, 556, 4, 25, 557]), (11, .invokevirtual 113, 3, [1, 21, 1, 5, 364, 365, 366, 30, 367]), (14, .ireturn, 1, [])]
def am_m43 : am_M := (⟨"CombCylinder", "steel", "(I)I"⟩, prog_1_method_10_code, 2, (some FieldType.int), [], am_i43_0)
def am_i44_0 : List am_I := [(0, .iload_n 1, 1, []), (1, .bipush 28, 2, []), (3, .invokestatic 58, 3, [0, 31, 2, 505, 506, 25, 507]), (6, .iload_n 2, 1, []), (7, .bipush 45, 2, []), (9, .if_icmp .eq 25, 3, []), (12, .iload_n 2, 1, []), (13, .bipush 119, 2, []), (15, .if_icmp .eq 19, 3, []), (18, .iload_n 2, 1, []), (19, .bipush 102, 2, []), (21, .if_icmp .eq 13, 3, []), (24, .new 104, 3, [9, 1]), (27, .dup, 1, []), (28, .ldc 133, 2, []), (30, .invokespecial 108, 3, []), (33, .athrow, 1, []), (34, .aload_n 0, 1, []), (35, .iload_n 1, 1, []), (36, .invokevirtual 89, 3, [1, 36, 2, 6, 554, 556, 4, 25, 557]), (39, .astore_n 3, 1, []), (40, .aload_n 3, 1, []), (41, .getfield 135, 3, [5, 7, 208]), (44, .istore 4, 2, []), (46, .aload_n 3, 1, []), (47, .iload_n 2, 1, []), (48, .putfield 135, 3, [5, 7, 208]), (51, .aload_n 3, 1, []), (52, .iconst 0, 1, []), (53, .putfield 139, 3, [5, 8, 210]), (56, .iload 4, 2, []), (58, .ireturn, 1, [])]
def am_m44 : am_M := (⟨"CombCylinder", "damper", "(IC)C"⟩, prog_1_method_11_code, 5, (some FieldType.char), [], am_i44_0)
def am_i45_0 : List am_I := [(0, .aload_n 0, 1, []), (1, .iload_n 1, 1, []), (2, .invokevirtual 89, 3, [1, 36, 2, 6, 554, 556, 4, 25, 557]), (5, .astore_n 3, 1, []), (6, .aload_n 3, 1, []), (7, .getfield 135, 3, [5, 7, 208]), (10, .bipush 45, 2, []), (12, .if_icmp .ne 13, 3, []), (15, .new 66, 3, [9, 3]), (18, .dup, 1, []), (19, .ldc 142, 2, []), (21, .invokespecial 70, 3, []), (24, .athrow, 1, []), (25, .aload_n 3, 1, []), (26, .getfield 139, 3, [5, 8, 210]), (29, .istore 4, 2, []), (31, .aload_n 3, 1, []), (32, .iload_n 2, 1, []), (33, .putfield 139, 3, [5, 8, 210]), (36, .iload 4, 2, []), (38, .ireturn, 1, [])]
def am_m45 : am_M := (⟨"CombCylinder", "bend", "(IZ)Z"⟩, prog_1_method_12_code, 5, (some FieldType.boolean), [], am_i45_0)
def am_i46_0 : List am_I := [(0, .aload_n 0, 1, []), (1, .iload_n 1, 1, []), (2, .invokevirtual 89, 3, [1, 36, 2, 6, 554, 556, 4, 25, 557]), (5, .invokevirtual 144, 3, []), (8, .ireturn, 1, [])]
def am_m46 : am_M := (⟨"CombCylinder", "damping", "(I)I"⟩, prog_1_method_13_code, 2, (some FieldType.int), [], am_i46_0)
def am_i47_0 : List am_I := [(0, .bipush 8, 2, []), (2, .istore_n 1, 1, []), (3, .aload_n 0, 1, []), (4, .getfield 15, 3, [5, 1, 197]), (7, .ifCond .ne 8, 3, []), (10, .iconst 1, 1, []), (11, .istore_n 1, 1, []), (12, .goto 28, 3, []), (15, .aload_n 0, 1, []), (16, .getfield 34, 3, [5, 7, 207]), (19, .bipush 119, 2, []), (21, .if_icmp .ne 8, 3, []), (24, .iconst 4, 1, []), (25, .istore_n 1, 1, []), (26, .goto 14, 3, []), (29, .aload_n 0, 1, []), (30, .getfield 34, 3, [5, 7, 207]), (33, .bipush 102, 2, []), (35, .if_icmp .ne 5, 3, []), (38, .iconst 2, 1, []), (39, .istore_n 1, 1, []), (40, .aload_n 0, 1, []), (41, .getfield 38, 3, [5, 8, 209]), (44, .ifCond .eq 9, 3, []), (47, .iconst 2, 1, []), (48, .iload_n 1, 1, []), (49, .imul, 1, []), (50, .goto 4, 3, []), (53, .iload_n 1, 1, []), (54, .ireturn, 1, [])]
def am_m47 : am_M := (⟨"CombCylinder$Voice", "stillAfter", "()I"⟩, prog_7_method_9_code, 2, (some FieldType.int), [], am_i47_0)
def am_i48_0 : List am_I := [(0, .iload_n 1, 1, []), (1, .bipush 6, 2, []), (3, .invokestatic 58, 3, [0, 31, 2, 505, 506, 25, 507]), (6, .iload_n 2, 1, []), (7, .iconst 0, 1, []), (8, .sipush 599, 3, []), (11, .invokestatic 62, 3, [0, 28, 3, 478, 479, 25, 480]), (14, .iload_n 3, 1, []), (15, .iconst 1, 1, []), (16, .bipush 120, 2, []), (18, .invokestatic 62, 3, [0, 28, 3, 478, 479, 25, 480]), (21, .iload 4, 2, []), (23, .iconst 0, 1, []), (24, .iconst 3, 1, []), (25, .invokestatic 62, 3, [0, 28, 3, 478, 479, 25, 480]), (28, .aload_n 0, 1, []), (29, .getfield 17, 3, [6, 1, 264]), (32, .iload_n 1, 1, []), (33, .aaload, 1, []), (34, .astore 5, 2, []), (36, .aload 5, 2, []), (38, .getfield 150, 3, [2, 3, 253]), (41, .bipush 30, 2, []), (43, .if_icmp .lt 13, 3, []), (46, .new 153, 3, [9, 2]), (49, .dup, 1, []), (50, .ldc 155, 2, []), (52, .invokespecial 157, 3, []), (55, .athrow, 1, []), (56, .aload 5, 2, []), (58, .iload_n 2, 1, []), (59, .iload_n 3, 1, []), (60, .iload 4, 2, []), (62, .invokevirtual 158, 3, [1, 49, 4, 2, 645, 646, 647, 31, 648]), (65, .aload 5, 2, []), (67, .getfield 150, 3, [2, 3, 253]), (70, .ireturn, 1, [])]
def am_m48 : am_M := (⟨"CombCylinder", "write", "(IIII)I"⟩, prog_1_method_16_code, 6, (some FieldType.int), [], am_i48_0)
def am_i49_0 : List am_I := [(0, .aload_n 0, 1, []), (1, .getfield 21, 3, [2, 3, 252]), (4, .bipush 30, 2, []), (6, .if_icmp .lt 4, 3, []), (9, .return_, 1, []), (10, .aload_n 0, 1, []), (11, .getfield 21, 3, [2, 3, 252]), (14, .istore 4, 2, []), (16, .iload 4, 2, []), (18, .ifCond .le 71, 3, []), (21, .aload_n 0, 1, []), (22, .iload_n 1, 1, []), (23, .iload_n 3, 1, []), (24, .iload_n 2, 1, []), (25, .iload 4, 2, []), (27, .iconst 1, 1, []), (28, .isub, 1, []), (29, .invokevirtual 25, 3, [1, 50, 5, 2, 649, 651, 5, 31, 652]), (32, .ifCond .eq 57, 3, []), (35, .aload_n 0, 1, []), (36, .getfield 9, 3, [2, 0, 247]), (39, .iload 4, 2, []), (41, .aload_n 0, 1, []), (42, .getfield 9, 3, [2, 0, 247]), (45, .iload 4, 2, []), (47, .iconst 1, 1, []), (48, .isub, 1, []), (49, .iaload, 1, []), (50, .iastore, 1, []), (51, .aload_n 0, 1, []), (52, .getfield 15, 3, [2, 1, 249]), (55, .iload 4, 2, []), (57, .aload_n 0, 1, []), (58, .getfield 15, 3, [2, 1, 249]), (61, .iload 4, 2, []), (63, .iconst 1, 1, []), (64, .isub, 1, []), (65, .iaload, 1, []), (66, .iastore, 1, []), (67, .aload_n 0, 1, []), (68, .getfield 18, 3, [2, 2, 250]), (71, .iload 4, 2, []), (73, .aload_n 0, 1, []), (74, .getfield 18, 3, [2, 2, 250]), (77, .iload 4, 2, []), (79, .iconst 1, 1, []), (80, .isub, 1, []), (81, .iaload, 1, []), (82, .iastore, 1, []), (83, .iinc 4 (-1), 3, []), (86, .goto (-70), 3, []), (89, .aload_n 0, 1, []), (90, .getfield 9, 3, [2, 0, 247]), (93, .iload 4, 2, []), (95, .iload_n 1, 1, []), (96, .iastore, 1, []), (97, .aload_n 0, 1, []), (98, .getfield 15, 3, [2, 1, 249]), (101, .iload 4, 2, []), (103, .iload_n 3, 1, [])]
def am_i49_1 : List am_I := [(104, .iastore, 1, []), (105, .aload_n 0, 1, []), (106, .getfield 18, 3, [2, 2, 250]), (109, .iload 4, 2, []), (111, .iload_n 2, 1, []), (112, .iastore, 1, []), (113, .aload_n 0, 1, []), (114, .dup, 1, []), (115, .getfield 21, 3, [2, 3, 252]), (118, .iconst 1, 1, []), (119, .iadd, 1, []), (120, .putfield 21, 3, [2, 3, 252]), (123, .return_, 1, [])]
def am_m49 : am_M := (⟨"CombCylinder$Sheet", "add", "(III)V"⟩, prog_4_method_2_code, 5, none, [], am_i49_0 ++ (am_i49_1))
def am_i50_0 : List am_I := [(0, .iload_n 1, 1, []), (1, .aload_n 0, 1, []), (2, .getfield 9, 3, [2, 0, 247]), (5, .iload 4, 2, []), (7, .iaload, 1, []), (8, .if_icmp .eq 20, 3, []), (11, .iload_n 1, 1, []), (12, .aload_n 0, 1, []), (13, .getfield 9, 3, [2, 0, 247]), (16, .iload 4, 2, []), (18, .iaload, 1, []), (19, .if_icmp .ge 7, 3, []), (22, .iconst 1, 1, []), (23, .goto 4, 3, []), (26, .iconst 0, 1, []), (27, .ireturn, 1, []), (28, .iload_n 2, 1, []), (29, .aload_n 0, 1, []), (30, .getfield 15, 3, [2, 1, 249]), (33, .iload 4, 2, []), (35, .iaload, 1, []), (36, .if_icmp .eq 20, 3, []), (39, .iload_n 2, 1, []), (40, .aload_n 0, 1, []), (41, .getfield 15, 3, [2, 1, 249]), (44, .iload 4, 2, []), (46, .iaload, 1, []), (47, .if_icmp .ge 7, 3, []), (50, .iconst 1, 1, []), (51, .goto 4, 3, []), (54, .iconst 0, 1, []), (55, .ireturn, 1, []), (56, .iload_n 3, 1, []), (57, .aload_n 0, 1, []), (58, .getfield 18, 3, [2, 2, 250]), (61, .iload 4, 2, []), (63, .iaload, 1, []), (64, .if_icmp .ge 7, 3, []), (67, .iconst 1, 1, []), (68, .goto 4, 3, []), (71, .iconst 0, 1, []), (72, .ireturn, 1, [])]
def am_m50 : am_M := (⟨"CombCylinder$Sheet", "isBefore", "(IIII)Z"⟩, prog_4_method_3_code, 5, (some FieldType.boolean), [], am_i50_0)
def am_i51_0 : List am_I := [(0, .iload_n 1, 1, []), (1, .bipush 6, 2, []), (3, .invokestatic 58, 3, [0, 31, 2, 505, 506, 25, 507]), (6, .aload_n 0, 1, []), (7, .getfield 17, 3, [6, 1, 264]), (10, .iload_n 1, 1, []), (11, .aaload, 1, []), (12, .getfield 150, 3, [2, 3, 253]), (15, .istore_n 2, 1, []), (16, .aload_n 0, 1, []), (17, .getfield 17, 3, [6, 1, 264]), (20, .iload_n 1, 1, []), (21, .aaload, 1, []), (22, .iconst 0, 1, []), (23, .putfield 150, 3, [2, 3, 253]), (26, .iload_n 2, 1, []), (27, .ireturn, 1, [])]
def am_m51 : am_M := (⟨"CombCylinder", "erase", "(I)I"⟩, prog_1_method_17_code, 3, (some FieldType.int), [], am_i51_0)
def am_i52_0 : List am_I := [(0, .aload_n 0, 1, []), (1, .iload_n 1, 1, []), (2, .iload_n 2, 1, []), (3, .iload_n 3, 1, []), (4, .invokevirtual 165, 3, [1, 53, 4, 6, 661, 663, 6, 25, 664]), (7, .iload 4, 2, []), (9, .bipush (-2), 2, []), (11, .iconst 2, 1, []), (12, .invokestatic 62, 3, [0, 28, 3, 478, 479, 25, 480]), (15, .aload_n 0, 1, []), (16, .invokevirtual 168, 3, [1, 56, 1, 6, 674, 676, 9, 25, 677]), (19, .aload_n 0, 1, []), (20, .getfield 24, 3, [6, 2, 265]), (23, .getfield 161, 3, [0, 4, 114]), (26, .bipush 60, 2, []), (28, .if_icmp .lt 13, 3, []), (31, .new 66, 3, [9, 3]), (34, .dup, 1, []), (35, .ldc 171, 2, []), (37, .invokespecial 70, 3, []), (40, .athrow, 1, []), (41, .aload_n 0, 1, []), (42, .getfield 24, 3, [6, 2, 265]), (45, .iload_n 1, 1, []), (46, .iload_n 2, 1, []), (47, .iload_n 3, 1, []), (48, .invokevirtual 173, 3, [1, 57, 4, 0, 680, 681, 682, 26, 683]), (51, .ifCond .eq 13, 3, []), (54, .new 66, 3, [9, 3]), (57, .dup, 1, []), (58, .ldc 176, 2, []), (60, .invokespecial 70, 3, []), (63, .athrow, 1, []), (64, .aload_n 0, 1, []), (65, .getfield 24, 3, [6, 2, 265]), (68, .iload_n 1, 1, []), (69, .iload_n 2, 1, []), (70, .iload_n 3, 1, []), (71, .iload 4, 2, []), (73, .invokevirtual 178, 3, [1, 58, 5, 0, 685, 686, 687, 26, 688]), (76, .aload_n 0, 1, []), (77, .getfield 24, 3, [6, 2, 265]), (80, .getfield 161, 3, [0, 4, 114]), (83, .ireturn, 1, [])]
def am_m52 : am_M := (⟨"CombCylinder", "pin", "(IIII)I"⟩, prog_1_method_19_code, 5, (some FieldType.int), [], am_i52_0)
def am_i53_0 : List am_I := [(0, .aload_n 0, 1, []), (1, .iload_n 1, 1, []), (2, .invokevirtual 212, 3, [1, 54, 2, 6, 665, 667, 7, 25, 668]), (5, .iload_n 2, 1, []), (6, .aload_n 0, 1, []), (7, .getfield 24, 3, [6, 2, 265]), (10, .getfield 228, 3, [0, 0, 105]), (13, .invokestatic 58, 3, [0, 31, 2, 505, 506, 25, 507]), (16, .iload_n 3, 1, []), (17, .bipush 28, 2, []), (19, .invokestatic 58, 3, [0, 31, 2, 505, 506, 25, 507]), (22, .return_, 1, [])]
def am_m53 : am_M := (⟨"CombCylinder", "needPinPlace", "(III)V"⟩, prog_1_method_61_code, 4, none, [], am_i53_0)
def am_i54_0 : List am_I := [(0, .aload_n 0, 1, []), (1, .invokevirtual 206, 3, [1, 55, 1, 6, 669, 671, 8, 25, 672]), (4, .iload_n 1, 1, []), (5, .aload_n 0, 1, []), (6, .getfield 24, 3, [6, 2, 265]), (9, .getfield 409, 3, [0, 1, 107]), (12, .invokestatic 58, 3, [0, 31, 2, 505, 506, 25, 507]), (15, .return_, 1, [])]
def am_m54 : am_M := (⟨"CombCylinder", "needAir", "(I)V"⟩, prog_1_method_60_code, 2, none, [], am_i54_0)
def am_i55_0 : List am_I := [(0, .aload_n 0, 1, []), (1, .getfield 24, 3, [6, 2, 265]), (4, .getfield 228, 3, [0, 0, 105]), (7, .ifCond .ne 14, 3, []), (10, .new 153, 3, [9, 2]), (13, .dup, 1, []), (14, .ldc_w 407, 3, []), (17, .invokespecial 157, 3, []), (20, .athrow, 1, []), (21, .return_, 1, [])]
def am_m55 : am_M := (⟨"CombCylinder", "needCylinder", "()V"⟩, prog_1_method_59_code, 1, none, [], am_i55_0)
def am_i56_0 : List am_I := [(0, .aload_n 0, 1, []), (1, .getfield 24, 3, [6, 2, 265]), (4, .getfield 209, 3, [0, 3, 111]), (7, .ifCond .eq 14, 3, []), (10, .new 66, 3, [9, 3]), (13, .dup, 1, []), (14, .ldc_w 412, 3, []), (17, .invokespecial 70, 3, []), (20, .athrow, 1, []), (21, .return_, 1, [])]
def am_m56 : am_M := (⟨"CombCylinder", "needSoft", "()V"⟩, prog_1_method_62_code, 1, none, [], am_i56_0)
def am_i57_0 : List am_I := [(0, .iconst 0, 1, []), (1, .istore 4, 2, []), (3, .iload 4, 2, []), (5, .aload_n 0, 1, []), (6, .getfield 25, 3, [0, 4, 112]), (9, .if_icmp .ge 28, 3, []), (12, .aload_n 0, 1, []), (13, .aload_n 0, 1, []), (14, .getfield 30, 3, [0, 5, 115]), (17, .iload 4, 2, []), (19, .aaload, 1, []), (20, .iload_n 1, 1, []), (21, .iload_n 2, 1, []), (22, .iload_n 3, 1, []), (23, .invokevirtual 70, 3, [1, 24, 5, 0, 375, 377, 0, 26, 378]), (26, .ifCond .eq 5, 3, []), (29, .iconst 1, 1, []), (30, .ireturn, 1, []), (31, .iinc 4 1, 3, []), (34, .goto (-31), 3, []), (37, .iconst 0, 1, []), (38, .ireturn, 1, [])]
def am_m57 : am_M := (⟨"CombCylinder$Drum", "isNearAny", "(III)Z"⟩, prog_2_method_12_code, 5, (some FieldType.boolean), [], am_i57_0)
def am_i58_0 : List am_I := [(0, .aload_n 0, 1, []), (1, .getfield 25, 3, [0, 4, 112]), (4, .bipush 60, 2, []), (6, .if_icmp .lt 4, 3, []), (9, .return_, 1, []), (10, .aload_n 0, 1, []), (11, .getfield 30, 3, [0, 5, 115]), (14, .aload_n 0, 1, []), (15, .getfield 25, 3, [0, 4, 112]), (18, .aaload, 1, []), (19, .astore 5, 2, []), (21, .aload 5, 2, []), (23, .iload_n 1, 1, []), (24, .putfield 38, 3, [1, 0, 73]), (27, .aload 5, 2, []), (29, .iload_n 2, 1, []), (30, .putfield 41, 3, [1, 1, 77]), (33, .aload 5, 2, []), (35, .iload_n 3, 1, []), (36, .putfield 44, 3, [1, 2, 81]), (39, .aload 5, 2, []), (41, .iload 4, 2, []), (43, .putfield 47, 3, [1, 3, 85]), (46, .aload 5, 2, []), (48, .iload_n 1, 1, []), (49, .sipush 600, 3, []), (52, .imul, 1, []), (53, .iload_n 2, 1, []), (54, .iadd, 1, []), (55, .bipush 28, 2, []), (57, .imul, 1, []), (58, .iload_n 3, 1, []), (59, .iadd, 1, []), (60, .putfield 50, 3, [1, 4, 88]), (63, .aload_n 0, 1, []), (64, .getfield 25, 3, [0, 4, 112]), (67, .istore 6, 2, []), (69, .iload 6, 2, []), (71, .ifCond .le 45, 3, []), (74, .aload_n 0, 1, []), (75, .getfield 30, 3, [0, 5, 115]), (78, .iload 6, 2, []), (80, .iconst 1, 1, []), (81, .isub, 1, []), (82, .aaload, 1, []), (83, .getfield 50, 3, [1, 4, 88]), (86, .aload 5, 2, []), (88, .getfield 50, 3, [1, 4, 88]), (91, .if_icmp .le 25, 3, []), (94, .aload_n 0, 1, []), (95, .getfield 30, 3, [0, 5, 115]), (98, .iload 6, 2, []), (100, .aload_n 0, 1, []), (101, .getfield 30, 3, [0, 5, 115]), (104, .iload 6, 2, []), (106, .iconst 1, 1, []), (107, .isub, 1, []), (108, .aaload, 1, []), (109, .aastore, 1, []), (110, .iinc 6 (-1), 3, [])]
def am_i58_1 : List am_I := [(113, .goto (-44), 3, []), (116, .aload_n 0, 1, []), (117, .getfield 30, 3, [0, 5, 115]), (120, .iload 6, 2, []), (122, .aload 5, 2, []), (124, .aastore, 1, []), (125, .aload_n 0, 1, []), (126, .dup, 1, []), (127, .getfield 25, 3, [0, 4, 112]), (130, .iconst 1, 1, []), (131, .iadd, 1, []), (132, .putfield 25, 3, [0, 4, 112]), (135, .return_, 1, [])]
def am_m58 : am_M := (⟨"CombCylinder$Drum", "add", "(IIII)V"⟩, prog_2_method_4_code, 7, none, [], am_i58_0 ++ (am_i58_1))
def am_i59_0 : List am_I := [(0, .aload_n 0, 1, []), (1, .iload_n 1, 1, []), (2, .iload_n 2, 1, []), (3, .iload_n 3, 1, []), (4, .invokevirtual 165, 3, [1, 53, 4, 6, 661, 663, 6, 25, 664]), (7, .aload_n 0, 1, []), (8, .getfield 24, 3, [6, 2, 265]), (11, .iload_n 1, 1, []), (12, .iload_n 2, 1, []), (13, .iload_n 3, 1, []), (14, .invokevirtual 181, 3, [1, 60, 4, 0, 693, 694, 695, 26, 696]), (17, .istore 4, 2, []), (19, .iload 4, 2, []), (21, .ifCond .ge 13, 3, []), (24, .new 185, 3, [9, 4]), (27, .dup, 1, []), (28, .ldc 187, 2, []), (30, .invokespecial 189, 3, []), (33, .athrow, 1, []), (34, .aload_n 0, 1, []), (35, .invokevirtual 168, 3, [1, 56, 1, 6, 674, 676, 9, 25, 677]), (38, .aload_n 0, 1, []), (39, .getfield 24, 3, [6, 2, 265]), (42, .getfield 190, 3, [0, 5, 117]), (45, .iload 4, 2, []), (47, .aaload, 1, []), (48, .getfield 194, 3, [1, 3, 86]), (51, .istore 5, 2, []), (53, .aload_n 0, 1, []), (54, .getfield 24, 3, [6, 2, 265]), (57, .iload 4, 2, []), (59, .invokevirtual 199, 3, [1, 61, 2, 0, 698, 699, 700, 26, 701]), (62, .iload 5, 2, []), (64, .ireturn, 1, [])]
def am_m59 : am_M := (⟨"CombCylinder", "pull", "(III)I"⟩, prog_1_method_20_code, 6, (some FieldType.int), [], am_i59_0)
def am_i60_0 : List am_I := [(0, .iconst 0, 1, []), (1, .istore 4, 2, []), (3, .iload 4, 2, []), (5, .aload_n 0, 1, []), (6, .getfield 25, 3, [0, 4, 112]), (9, .if_icmp .ge 54, 3, []), (12, .aload_n 0, 1, []), (13, .getfield 30, 3, [0, 5, 115]), (16, .iload 4, 2, []), (18, .aaload, 1, []), (19, .getfield 38, 3, [1, 0, 73]), (22, .iload_n 1, 1, []), (23, .if_icmp .ne 34, 3, []), (26, .aload_n 0, 1, []), (27, .getfield 30, 3, [0, 5, 115]), (30, .iload 4, 2, []), (32, .aaload, 1, []), (33, .getfield 41, 3, [1, 1, 77]), (36, .iload_n 2, 1, []), (37, .if_icmp .ne 20, 3, []), (40, .aload_n 0, 1, []), (41, .getfield 30, 3, [0, 5, 115]), (44, .iload 4, 2, []), (46, .aaload, 1, []), (47, .getfield 44, 3, [1, 2, 81]), (50, .iload_n 3, 1, []), (51, .if_icmp .ne 6, 3, []), (54, .iload 4, 2, []), (56, .ireturn, 1, []), (57, .iinc 4 1, 3, []), (60, .goto (-57), 3, []), (63, .iconst (-1), 1, []), (64, .ireturn, 1, [])]
def am_m60 : am_M := (⟨"CombCylinder$Drum", "find", "(III)I"⟩, prog_2_method_8_code, 5, (some FieldType.int), [], am_i60_0)
def am_i61_0 : List am_I := [(0, .iload_n 1, 1, []), (1, .ifCond .lt 11, 3, []), (4, .iload_n 1, 1, []), (5, .aload_n 0, 1, []), (6, .getfield 25, 3, [0, 4, 112]), (9, .if_icmp .lt 4, 3, []), (12, .return_, 1, []), (13, .aload_n 0, 1, []), (14, .getfield 30, 3, [0, 5, 115]), (17, .iload_n 1, 1, []), (18, .aaload, 1, []), (19, .astore_n 2, 1, []), (20, .iload_n 1, 1, []), (21, .iconst 1, 1, []), (22, .iadd, 1, []), (23, .istore_n 3, 1, []), (24, .iload_n 3, 1, []), (25, .aload_n 0, 1, []), (26, .getfield 25, 3, [0, 4, 112]), (29, .if_icmp .ge 23, 3, []), (32, .aload_n 0, 1, []), (33, .getfield 30, 3, [0, 5, 115]), (36, .iload_n 3, 1, []), (37, .iconst 1, 1, []), (38, .isub, 1, []), (39, .aload_n 0, 1, []), (40, .getfield 30, 3, [0, 5, 115]), (43, .iload_n 3, 1, []), (44, .aaload, 1, []), (45, .aastore, 1, []), (46, .iinc 3 1, 3, []), (49, .goto (-25), 3, []), (52, .aload_n 0, 1, []), (53, .dup, 1, []), (54, .getfield 25, 3, [0, 4, 112]), (57, .iconst 1, 1, []), (58, .isub, 1, []), (59, .putfield 25, 3, [0, 4, 112]), (62, .aload_n 0, 1, []), (63, .getfield 30, 3, [0, 5, 115]), (66, .aload_n 0, 1, []), (67, .getfield 25, 3, [0, 4, 112]), (70, .aload_n 2, 1, []), (71, .aastore, 1, []), (72, .return_, 1, [])]
def am_m61 : am_M := (⟨"CombCylinder$Drum", "remove", "(I)V"⟩, prog_2_method_5_code, 4, none, [], am_i61_0)
def am_i62_0 : List am_I := [(0, .iload_n 1, 1, []), (1, .tableswitch 387 65 122 #[273, 387, 387, 387, 387, 387, 387, 342, 387, 387, 387, 387, 387, 374, 387, 387, 387, 353, 281, 387, 387, 387, 294, 387, 310, 387, 387, 387, 387, 387, 387, 387, 387, 387, 260, 387, 387, 302, 387, 289, 387, 387, 318, 379, 247, 387, 334, 387, 387, 255, 387, 387, 387, 387, 387, 358, 387, 326], 247, []), (248, .aload_n 0, 1, []), (249, .aload_n 2, 1, []), (250, .iconst 0, 1, []), (251, .iaload, 1, []), (252, .invokevirtual 88, 3, [1, 63, 2, 6, 705, 706, 707, 25, 708]), (255, .ireturn, 1, []), (256, .aload_n 0, 1, []), (257, .invokevirtual 91, 3, [1, 64, 1, 6, 709, 710, 711, 25, 712]), (260, .ireturn, 1, []), (261, .aload_n 0, 1, []), (262, .invokevirtual 95, 3, [1, 65, 1, 6, 713, 714, 715, 25, 716]), (265, .ifCond .eq 7, 3, []), (268, .iconst 1, 1, []), (269, .goto 4, 3, []), (272, .iconst 0, 1, []), (273, .ireturn, 1, []), (274, .aload_n 0, 1, []), (275, .aload_n 2, 1, []), (276, .iconst 0, 1, []), (277, .iaload, 1, []), (278, .invokevirtual 99, 3, [1, 66, 2, 6, 717, 718, 719, 25, 720]), (281, .ireturn, 1, []), (282, .aload_n 0, 1, []), (283, .aload_n 2, 1, []), (284, .iconst 0, 1, []), (285, .iaload, 1, []), (286, .invokevirtual 102, 3, [1, 70, 2, 6, 734, 735, 736, 25, 737]), (289, .ireturn, 1, []), (290, .aload_n 0, 1, []), (291, .invokevirtual 105, 3, [1, 71, 1, 6, 738, 739, 740, 25, 741]), (294, .ireturn, 1, []), (295, .aload_n 0, 1, []), (296, .aload_n 2, 1, []), (297, .iconst 0, 1, []), (298, .iaload, 1, []), (299, .invokevirtual 108, 3, [1, 72, 2, 6, 742, 743, 744, 25, 745]), (302, .ireturn, 1, []), (303, .aload_n 0, 1, []), (304, .aload_n 2, 1, []), (305, .iconst 0, 1, []), (306, .iaload, 1, []), (307, .invokevirtual 111, 3, [1, 73, 2, 6, 747, 748, 749, 25, 750]), (310, .ireturn, 1, []), (311, .aload_n 0, 1, []), (312, .aload_n 2, 1, []), (313, .iconst 0, 1, []), (314, .iaload, 1, []), (315, .invokevirtual 114, 3, [1, 74, 2, 6, 751, 752, 753, 25, 754]), (318, .ireturn, 1, []), (319, .aload_n 0, 1, []), (320, .aload_n 2, 1, []), (321, .iconst 0, 1, []), (322, .iaload, 1, []), (323, .invokevirtual 117, 3, [1, 79, 2, 6, 773, 774, 775, 25, 776]), (326, .ireturn, 1, []), (327, .aload_n 0, 1, []), (328, .aload_n 2, 1, []), (329, .iconst 0, 1, [])]
def am_i62_1 : List am_I := [(330, .iaload, 1, []), (331, .invokevirtual 120, 3, [1, 80, 2, 6, 777, 778, 779, 25, 780]), (334, .ireturn, 1, []), (335, .aload_n 0, 1, []), (336, .aload_n 2, 1, []), (337, .iconst 0, 1, []), (338, .iaload, 1, []), (339, .invokevirtual 123, 3, [1, 85, 2, 6, 797, 798, 799, 25, 800]), (342, .ireturn, 1, []), (343, .aload_n 0, 1, []), (344, .aload_n 2, 1, []), (345, .iconst 0, 1, []), (346, .iaload, 1, []), (347, .aload_n 2, 1, []), (348, .iconst 1, 1, []), (349, .iaload, 1, []), (350, .invokevirtual 126, 3, [1, 86, 3, 6, 801, 802, 803, 25, 804]), (353, .ireturn, 1, []), (354, .aload_n 0, 1, []), (355, .invokevirtual 129, 3, [1, 87, 1, 6, 806, 807, 808, 25, 809]), (358, .ireturn, 1, []), (359, .aload_n 0, 1, []), (360, .aload_n 2, 1, []), (361, .iconst 0, 1, []), (362, .iaload, 1, []), (363, .invokevirtual 132, 3, [1, 93, 2, 6, 831, 832, 833, 25, 834]), (366, .ifCond .eq 7, 3, []), (369, .iconst 1, 1, []), (370, .goto 4, 3, []), (373, .iconst 0, 1, []), (374, .ireturn, 1, []), (375, .aload_n 0, 1, []), (376, .invokevirtual 135, 3, [1, 94, 1, 6, 835, 836, 837, 25, 838]), (379, .ireturn, 1, []), (380, .aload_n 0, 1, []), (381, .aload_n 2, 1, []), (382, .iconst 0, 1, []), (383, .iaload, 1, []), (384, .invokevirtual 138, 3, [1, 107, 2, 6, 887, 888, 889, 25, 890]), (387, .ireturn, 1, []), (388, .aload_n 0, 1, []), (389, .aload_n 2, 1, []), (390, .iconst 0, 1, []), (391, .iaload, 1, []), (392, .invokevirtual 141, 3, [1, 109, 2, 6, 896, 897, 898, 25, 899]), (395, .ireturn, 1, [])]
def am_m62 : am_M := (⟨"CombCylinderLaw", "asked", "(LCombCylinder;C[I)I"⟩, method_5_code, 3, (some FieldType.int), [], am_i62_0 ++ (am_i62_1))
def am_i63_0 : List am_I := [(0, .iload_n 1, 1, []), (1, .bipush 6, 2, []), (3, .invokestatic 58, 3, [0, 31, 2, 505, 506, 25, 507]), (6, .iconst 0, 1, []), (7, .istore_n 2, 1, []), (8, .iconst 0, 1, []), (9, .istore_n 3, 1, []), (10, .iload_n 3, 1, []), (11, .aload_n 0, 1, []), (12, .getfield 24, 3, [6, 2, 265]), (15, .getfield 161, 3, [0, 4, 114]), (18, .if_icmp .ge 28, 3, []), (21, .aload_n 0, 1, []), (22, .getfield 24, 3, [6, 2, 265]), (25, .getfield 190, 3, [0, 5, 117]), (28, .iload_n 3, 1, []), (29, .aaload, 1, []), (30, .getfield 203, 3, [1, 0, 75]), (33, .iload_n 1, 1, []), (34, .if_icmp .ne 6, 3, []), (37, .iinc 2 1, 3, []), (40, .iinc 3 1, 3, []), (43, .goto (-33), 3, []), (46, .iload_n 2, 1, []), (47, .ireturn, 1, [])]
def am_m63 : am_M := (⟨"CombCylinder", "pins", "(I)I"⟩, prog_1_method_21_code, 4, (some FieldType.int), [], am_i63_0)
def am_i64_0 : List am_I := [(0, .aload_n 0, 1, []), (1, .invokevirtual 206, 3, [1, 55, 1, 6, 669, 671, 8, 25, 672]), (4, .aload_n 0, 1, []), (5, .invokevirtual 168, 3, [1, 56, 1, 6, 674, 676, 9, 25, 677]), (8, .iconst 0, 1, []), (9, .istore_n 1, 1, []), (10, .iconst 0, 1, []), (11, .istore_n 2, 1, []), (12, .iload_n 2, 1, []), (13, .aload_n 0, 1, []), (14, .getfield 24, 3, [6, 2, 265]), (17, .getfield 161, 3, [0, 4, 114]), (20, .if_icmp .ge 34, 3, []), (23, .aload_n 0, 1, []), (24, .getfield 24, 3, [6, 2, 265]), (27, .getfield 190, 3, [0, 5, 117]), (30, .iload_n 2, 1, []), (31, .aaload, 1, []), (32, .astore_n 3, 1, []), (33, .aload_n 3, 1, []), (34, .getfield 194, 3, [1, 3, 86]), (37, .ifCond .eq 11, 3, []), (40, .iinc 1 1, 3, []), (43, .aload_n 3, 1, []), (44, .iconst 0, 1, []), (45, .putfield 194, 3, [1, 3, 86]), (48, .iinc 2 1, 3, []), (51, .goto (-39), 3, []), (54, .iload_n 1, 1, []), (55, .ireturn, 1, [])]
def am_m64 : am_M := (⟨"CombCylinder", "rake", "()I"⟩, prog_1_method_22_code, 4, (some FieldType.int), [], am_i64_0)
def am_i65_0 : List am_I := [(0, .aload_n 0, 1, []), (1, .invokevirtual 206, 3, [1, 55, 1, 6, 669, 671, 8, 25, 672]), (4, .aload_n 0, 1, []), (5, .getfield 24, 3, [6, 2, 265]), (8, .getfield 209, 3, [0, 3, 111]), (11, .istore_n 1, 1, []), (12, .aload_n 0, 1, []), (13, .getfield 24, 3, [6, 2, 265]), (16, .iconst 1, 1, []), (17, .putfield 209, 3, [0, 3, 111]), (20, .iload_n 1, 1, []), (21, .ireturn, 1, [])]
def am_m65 : am_M := (⟨"CombCylinder", "cement", "()Z"⟩, prog_1_method_23_code, 2, (some FieldType.boolean), [], am_i65_0)
def am_i66_0 : List am_I := [(0, .aload_n 0, 1, []), (1, .iload_n 1, 1, []), (2, .invokevirtual 212, 3, [1, 54, 2, 6, 665, 667, 7, 25, 668]), (5, .aload_n 0, 1, []), (6, .invokevirtual 168, 3, [1, 56, 1, 6, 674, 676, 9, 25, 677]), (9, .aload_n 0, 1, []), (10, .getfield 24, 3, [6, 2, 265]), (13, .iload_n 1, 1, []), (14, .invokevirtual 215, 3, []), (17, .aload_n 0, 1, []), (18, .getfield 17, 3, [6, 1, 264]), (21, .iload_n 1, 1, []), (22, .aaload, 1, []), (23, .astore_n 2, 1, []), (24, .iconst 0, 1, []), (25, .istore_n 3, 1, []), (26, .iconst 0, 1, []), (27, .istore 4, 2, []), (29, .iload 4, 2, []), (31, .aload_n 2, 1, []), (32, .getfield 150, 3, [2, 3, 253]), (35, .if_icmp .ge 34, 3, []), (38, .aload_n 0, 1, []), (39, .iload_n 1, 1, []), (40, .aload_n 2, 1, []), (41, .getfield 218, 3, [2, 0, 248]), (44, .iload 4, 2, []), (46, .iaload, 1, []), (47, .aload_n 2, 1, []), (48, .getfield 222, 3, [2, 2, 251]), (51, .iload 4, 2, []), (53, .iaload, 1, []), (54, .invokevirtual 225, 3, []), (57, .ifCond .ne 6, 3, []), (60, .iinc 3 1, 3, []), (63, .iinc 4 1, 3, []), (66, .goto (-37), 3, []), (69, .iload_n 3, 1, []), (70, .ireturn, 1, [])]
def am_m66 : am_M := (⟨"CombCylinder", "arrange", "(I)I"⟩, prog_1_method_24_code, 5, (some FieldType.int), [], am_i66_0)
def am_i67_0 : List am_I := [(0, .aload_n 0, 1, []), (1, .getfield 25, 3, [0, 4, 112]), (4, .iconst 1, 1, []), (5, .isub, 1, []), (6, .istore_n 2, 1, []), (7, .iload_n 2, 1, []), (8, .ifCond .lt 27, 3, []), (11, .aload_n 0, 1, []), (12, .getfield 30, 3, [0, 5, 115]), (15, .iload_n 2, 1, []), (16, .aaload, 1, []), (17, .getfield 38, 3, [1, 0, 73]), (20, .iload_n 1, 1, []), (21, .if_icmp .ne 8, 3, []), (24, .aload_n 0, 1, []), (25, .iload_n 2, 1, []), (26, .invokevirtual 53, 3, [1, 61, 2, 0, 725, 699, 700, 26, 701]), (29, .iinc 2 (-1), 3, []), (32, .goto (-25), 3, []), (35, .return_, 1, [])]
def am_m67 : am_M := (⟨"CombCylinder$Drum", "removeAir", "(I)V"⟩, prog_2_method_6_code, 3, none, [], am_i67_0)
def am_i68_0 : List am_I := [(0, .iload_n 2, 1, []), (1, .aload_n 0, 1, []), (2, .getfield 24, 3, [6, 2, 265]), (5, .getfield 228, 3, [0, 0, 105]), (8, .if_icmp .ge 15, 3, []), (11, .aload_n 0, 1, []), (12, .getfield 24, 3, [6, 2, 265]), (15, .getfield 161, 3, [0, 4, 114]), (18, .bipush 60, 2, []), (20, .if_icmp .lt 5, 3, []), (23, .iconst 0, 1, []), (24, .ireturn, 1, []), (25, .iconst 0, 1, []), (26, .istore 4, 2, []), (28, .iload 4, 2, []), (30, .bipush 28, 2, []), (32, .if_icmp .ge 90, 3, []), (35, .aload_n 0, 1, []), (36, .getfield 11, 3, [6, 0, 263]), (39, .iload 4, 2, []), (41, .aaload, 1, []), (42, .astore 5, 2, []), (44, .aload 5, 2, []), (46, .invokevirtual 230, 3, [1, 14, 1, 5, 327, 328, 329, 30, 330]), (49, .ifCond .eq 67, 3, []), (52, .aload 5, 2, []), (54, .invokevirtual 100, 3, [1, 39, 1, 5, 583, 584, 585, 30, 586]), (57, .ifCond .eq 59, 3, []), (60, .aload 5, 2, []), (62, .invokevirtual 97, 3, [1, 17, 1, 5, 578, 340, 341, 30, 342]), (65, .iload_n 3, 1, []), (66, .if_icmp .ne 50, 3, []), (69, .aload_n 0, 1, []), (70, .getfield 24, 3, [6, 2, 265]), (73, .iload_n 1, 1, []), (74, .iload_n 2, 1, []), (75, .iload 4, 2, []), (77, .aload 5, 2, []), (79, .invokevirtual 144, 3, []), (82, .invokevirtual 233, 3, []), (85, .ifCond .eq 31, 3, []), (88, .aload_n 0, 1, []), (89, .getfield 24, 3, [6, 2, 265]), (92, .iload_n 1, 1, []), (93, .iload_n 2, 1, []), (94, .iload 4, 2, []), (96, .invokevirtual 173, 3, [1, 57, 4, 0, 680, 681, 682, 26, 683]), (99, .ifCond .ne 17, 3, []), (102, .aload_n 0, 1, []), (103, .getfield 24, 3, [6, 2, 265]), (106, .iload_n 1, 1, []), (107, .iload_n 2, 1, []), (108, .iload 4, 2, []), (110, .iconst 0, 1, []), (111, .invokevirtual 178, 3, [1, 58, 5, 0, 685, 686, 687, 26, 688]), (114, .iconst 1, 1, []), (115, .ireturn, 1, []), (116, .iinc 4 1, 3, []), (119, .goto (-91), 3, []), (122, .iconst 0, 1, [])]
def am_i68_1 : List am_I := [(123, .ireturn, 1, [])]
def am_m68 : am_M := (⟨"CombCylinder", "arrangeNote", "(III)Z"⟩, prog_1_method_25_code, 6, (some FieldType.boolean), [], am_i68_0 ++ (am_i68_1))
def am_i69_0 : List am_I := [(0, .iconst 0, 1, []), (1, .istore 5, 2, []), (3, .iload 5, 2, []), (5, .aload_n 0, 1, []), (6, .getfield 25, 3, [0, 4, 112]), (9, .if_icmp .ge 53, 3, []), (12, .aload_n 0, 1, []), (13, .getfield 30, 3, [0, 5, 115]), (16, .iload 5, 2, []), (18, .aaload, 1, []), (19, .astore 6, 2, []), (21, .aload 6, 2, []), (23, .getfield 38, 3, [1, 0, 73]), (26, .iload_n 1, 1, []), (27, .if_icmp .ne 29, 3, []), (30, .aload 6, 2, []), (32, .getfield 44, 3, [1, 2, 81]), (35, .iload_n 3, 1, []), (36, .if_icmp .ne 20, 3, []), (39, .aload_n 0, 1, []), (40, .aload 6, 2, []), (42, .getfield 41, 3, [1, 1, 77]), (45, .iload_n 2, 1, []), (46, .invokevirtual 67, 3, [1, 25, 3, 0, 380, 382, 1, 26, 383]), (49, .iload 4, 2, []), (51, .if_icmp .ge 5, 3, []), (54, .iconst 0, 1, []), (55, .ireturn, 1, []), (56, .iinc 5 1, 3, []), (59, .goto (-56), 3, []), (62, .iconst 1, 1, []), (63, .ireturn, 1, [])]
def am_m69 : am_M := (⟨"CombCylinder$Drum", "isStill", "(IIII)Z"⟩, prog_2_method_14_code, 7, (some FieldType.boolean), [], am_i69_0)
def am_i70_0 : List am_I := [(0, .aload_n 0, 1, []), (1, .iload_n 1, 1, []), (2, .invokevirtual 212, 3, [1, 54, 2, 6, 665, 667, 7, 25, 668]), (5, .aload_n 0, 1, []), (6, .getfield 24, 3, [6, 2, 265]), (9, .getfield 237, 3, [0, 2, 109]), (12, .istore_n 2, 1, []), (13, .aload_n 0, 1, []), (14, .getfield 24, 3, [6, 2, 265]), (17, .iload_n 1, 1, []), (18, .putfield 237, 3, [0, 2, 109]), (21, .iload_n 2, 1, []), (22, .ireturn, 1, [])]
def am_m70 : am_M := (⟨"CombCylinder", "shift", "(I)I"⟩, prog_1_method_26_code, 3, (some FieldType.int), [], am_i70_0)
def am_i71_0 : List am_I := [(0, .aload_n 0, 1, []), (1, .invokevirtual 206, 3, [1, 55, 1, 6, 669, 671, 8, 25, 672]), (4, .aload_n 0, 1, []), (5, .getfield 24, 3, [6, 2, 265]), (8, .getfield 237, 3, [0, 2, 109]), (11, .ireturn, 1, [])]
def am_m71 : am_M := (⟨"CombCylinder", "shifted", "()I"⟩, prog_1_method_27_code, 1, (some FieldType.int), [], am_i71_0)
def am_i72_0 : List am_I := [(0, .iload_n 1, 1, []), (1, .iconst 1, 1, []), (2, .bipush 20, 2, []), (4, .invokestatic 62, 3, [0, 28, 3, 478, 479, 25, 480]), (7, .aload_n 0, 1, []), (8, .getfield 31, 3, [6, 3, 266]), (11, .bipush 80, 2, []), (13, .aload_n 0, 1, []), (14, .getfield 31, 3, [6, 3, 266]), (17, .getfield 240, 3, [3, 0, 142]), (20, .iconst 4, 1, []), (21, .iload_n 1, 1, []), (22, .imul, 1, []), (23, .iadd, 1, []), (24, .invokestatic 243, 3, [4, 746, 385, 37, 386]), (27, .putfield 240, 3, [3, 0, 142]), (30, .aload_n 0, 1, []), (31, .getfield 31, 3, [6, 3, 266]), (34, .getfield 240, 3, [3, 0, 142]), (37, .ireturn, 1, [])]
def am_m72 : am_M := (⟨"CombCylinder", "wind", "(I)I"⟩, prog_1_method_29_code, 2, (some FieldType.int), [], am_i72_0)
def am_i73_0 : List am_I := [(0, .iload_n 1, 1, []), (1, .iconst 1, 1, []), (2, .bipush 50, 2, []), (4, .invokestatic 62, 3, [0, 28, 3, 478, 479, 25, 480]), (7, .aload_n 0, 1, []), (8, .getfield 31, 3, [6, 3, 266]), (11, .getfield 249, 3, [3, 1, 144]), (14, .istore_n 2, 1, []), (15, .aload_n 0, 1, []), (16, .getfield 31, 3, [6, 3, 266]), (19, .iload_n 1, 1, []), (20, .putfield 249, 3, [3, 1, 144]), (23, .iload_n 2, 1, []), (24, .ireturn, 1, [])]
def am_m73 : am_M := (⟨"CombCylinder", "fan", "(I)I"⟩, prog_1_method_30_code, 3, (some FieldType.int), [], am_i73_0)
def am_i74_0 : List am_I := [(0, .aload_n 0, 1, []), (1, .invokevirtual 206, 3, [1, 55, 1, 6, 669, 671, 8, 25, 672]), (4, .iload_n 1, 1, []), (5, .iconst 1, 1, []), (6, .bipush 40, 2, []), (8, .invokestatic 62, 3, [0, 28, 3, 478, 479, 25, 480]), (11, .iconst 0, 1, []), (12, .istore_n 2, 1, []), (13, .iconst 0, 1, []), (14, .istore_n 3, 1, []), (15, .iload_n 3, 1, []), (16, .iload_n 1, 1, []), (17, .if_icmp .ge 54, 3, []), (20, .aload_n 0, 1, []), (21, .getfield 31, 3, [6, 3, 266]), (24, .getfield 240, 3, [3, 0, 142]), (27, .ifCond .le 44, 3, []), (30, .iload_n 2, 1, []), (31, .aload_n 0, 1, []), (32, .invokevirtual 260, 3, [1, 75, 1, 6, 755, 757, 11, 25, 758]), (35, .iadd, 1, []), (36, .istore_n 2, 1, []), (37, .aload_n 0, 1, []), (38, .getfield 31, 3, [6, 3, 266]), (41, .aload_n 0, 1, []), (42, .getfield 24, 3, [6, 2, 265]), (45, .getfield 228, 3, [0, 0, 105]), (48, .invokevirtual 263, 3, [1, 77, 2, 3, 764, 765, 766, 28, 767]), (51, .aload_n 0, 1, []), (52, .getfield 42, 3, [6, 5, 268]), (55, .ifCond .eq 10, 3, []), (58, .aload_n 0, 1, []), (59, .getfield 24, 3, [6, 2, 265]), (62, .invokevirtual 266, 3, []), (65, .iinc 3 1, 3, []), (68, .goto (-53), 3, []), (71, .aload_n 0, 1, []), (72, .dup, 1, []), (73, .getfield 50, 3, [6, 7, 270]), (76, .iload_n 2, 1, []), (77, .iadd, 1, []), (78, .putfield 50, 3, [6, 7, 270]), (81, .iload_n 2, 1, []), (82, .ireturn, 1, [])]
def am_m74 : am_M := (⟨"CombCylinder", "play", "(I)I"⟩, prog_1_method_32_code, 4, (some FieldType.int), [], am_i74_0)
def am_i75_0 : List am_I := [(0, .iconst 0, 1, []), (1, .istore_n 1, 1, []), (2, .iconst 0, 1, []), (3, .istore_n 2, 1, []), (4, .iload_n 2, 1, []), (5, .aload_n 0, 1, []), (6, .getfield 24, 3, [6, 2, 265]), (9, .getfield 161, 3, [0, 4, 114]), (12, .if_icmp .ge 55, 3, []), (15, .aload_n 0, 1, []), (16, .getfield 24, 3, [6, 2, 265]), (19, .getfield 190, 3, [0, 5, 117]), (22, .iload_n 2, 1, []), (23, .aaload, 1, []), (24, .astore_n 3, 1, []), (25, .aload_n 0, 1, []), (26, .aload_n 3, 1, []), (27, .aload_n 0, 1, []), (28, .getfield 24, 3, [6, 2, 265]), (31, .getfield 237, 3, [0, 2, 109]), (34, .invokevirtual 269, 3, [1, 76, 3, 6, 759, 761, 12, 25, 762]), (37, .ifCond .eq 24, 3, []), (40, .aload_n 0, 1, []), (41, .getfield 11, 3, [6, 0, 263]), (44, .aload_n 3, 1, []), (45, .getfield 273, 3, [1, 2, 83]), (48, .aaload, 1, []), (49, .dup, 1, []), (50, .getfield 82, 3, [5, 10, 214]), (53, .iconst 1, 1, []), (54, .iadd, 1, []), (55, .putfield 82, 3, [5, 10, 214]), (58, .iinc 1 1, 3, []), (61, .iinc 2 1, 3, []), (64, .goto (-60), 3, []), (67, .iload_n 1, 1, []), (68, .ireturn, 1, [])]
def am_m75 : am_M := (⟨"CombCylinder", "playTurn", "()I"⟩, prog_1_method_33_code, 4, (some FieldType.int), [], am_i75_0)
def am_i76_0 : List am_I := [(0, .aload_n 0, 1, []), (1, .getfield 11, 3, [6, 0, 263]), (4, .aload_n 1, 1, []), (5, .getfield 273, 3, [1, 2, 83]), (8, .aaload, 1, []), (9, .astore_n 3, 1, []), (10, .aload_n 3, 1, []), (11, .invokevirtual 230, 3, [1, 14, 1, 5, 327, 328, 329, 30, 330]), (14, .ifCond .eq 23, 3, []), (17, .aload_n 1, 1, []), (18, .getfield 203, 3, [1, 0, 75]), (21, .iload_n 2, 1, []), (22, .isub, 1, []), (23, .invokestatic 276, 3, [3, 763, 344, 37, 345]), (26, .aload_n 3, 1, []), (27, .getfield 280, 3, [5, 3, 200]), (30, .if_icmp .gt 7, 3, []), (33, .iconst 1, 1, []), (34, .goto 4, 3, []), (37, .iconst 0, 1, []), (38, .ireturn, 1, [])]
def am_m76 : am_M := (⟨"CombCylinder", "doesStrike", "(LCombCylinder$Pin;I)Z"⟩, prog_1_method_34_code, 4, (some FieldType.boolean), [], am_i76_0)
def am_i77_0 : List am_I := [(0, .aload_n 0, 1, []), (1, .aload_n 0, 1, []), (2, .getfield 16, 3, [3, 2, 145]), (5, .iload_n 1, 1, []), (6, .i2f, 1, []), (7, .aload_n 0, 1, []), (8, .invokevirtual 20, 3, [1, 9, 1, 3, 768, 300, 301, 28, 302]), (11, .fdiv, 1, []), (12, .f2d, 1, []), (13, .dadd, 1, []), (14, .putfield 16, 3, [3, 2, 145]), (17, .aload_n 0, 1, []), (18, .dup, 1, []), (19, .getfield 7, 3, [3, 0, 141]), (22, .iconst 1, 1, []), (23, .isub, 1, []), (24, .putfield 7, 3, [3, 0, 141]), (27, .return_, 1, [])]
def am_m77 : am_M := (⟨"CombCylinder$Spring", "driveTurn", "(I)V"⟩, prog_5_method_3_code, 2, none, [], am_i77_0)
def am_i78_0 : List am_I := [(0, .aload_n 0, 1, []), (1, .aload_n 0, 1, []), (2, .getfield 18, 3, [0, 2, 108]), (5, .iconst 1, 1, []), (6, .iadd, 1, []), (7, .aload_n 0, 1, []), (8, .getfield 15, 3, [0, 1, 106]), (11, .if_icmp .ge 12, 3, []), (14, .aload_n 0, 1, []), (15, .getfield 18, 3, [0, 2, 108]), (18, .iconst 1, 1, []), (19, .iadd, 1, []), (20, .goto 4, 3, []), (23, .iconst 0, 1, []), (24, .putfield 18, 3, [0, 2, 108]), (27, .return_, 1, [])]
def am_m78 : am_M := (⟨"CombCylinder$Drum", "shiftOn", "()V"⟩, prog_2_method_3_code, 1, none, [], am_i78_0)
def am_i79_0 : List am_I := [(0, .aload_n 0, 1, []), (1, .iload_n 1, 1, []), (2, .invokevirtual 89, 3, [1, 36, 2, 6, 554, 556, 4, 25, 557]), (5, .getfield 82, 3, [5, 10, 214]), (8, .ireturn, 1, [])]
def am_m79 : am_M := (⟨"CombCylinder", "strikes", "(I)I"⟩, prog_1_method_14_code, 2, (some FieldType.int), [], am_i79_0)
def am_i80_0 : List am_I := [(0, .aload_n 0, 1, []), (1, .iload_n 1, 1, []), (2, .invokevirtual 212, 3, [1, 54, 2, 6, 665, 667, 7, 25, 668]), (5, .iconst 0, 1, []), (6, .istore_n 2, 1, []), (7, .iconst 0, 1, []), (8, .istore_n 3, 1, []), (9, .iload_n 3, 1, []), (10, .aload_n 0, 1, []), (11, .getfield 24, 3, [6, 2, 265]), (14, .getfield 161, 3, [0, 4, 114]), (17, .if_icmp .ge 38, 3, []), (20, .aload_n 0, 1, []), (21, .aload_n 0, 1, []), (22, .getfield 24, 3, [6, 2, 265]), (25, .getfield 190, 3, [0, 5, 117]), (28, .iload_n 3, 1, []), (29, .aaload, 1, []), (30, .iload_n 1, 1, []), (31, .invokevirtual 269, 3, [1, 76, 3, 6, 759, 761, 12, 25, 762]), (34, .ifCond .eq 15, 3, []), (37, .aload_n 0, 1, []), (38, .iload_n 3, 1, []), (39, .iload_n 1, 1, []), (40, .invokevirtual 287, 3, []), (43, .ifCond .eq 6, 3, []), (46, .iinc 2 1, 3, []), (49, .iinc 3 1, 3, []), (52, .goto (-43), 3, []), (55, .iload_n 2, 1, []), (56, .ireturn, 1, [])]
def am_m80 : am_M := (⟨"CombCylinder", "buzzes", "(I)I"⟩, prog_1_method_36_code, 4, (some FieldType.int), [], am_i80_0)
def am_i81_0 : List am_I := [(0, .aload_n 0, 1, []), (1, .getfield 24, 3, [6, 2, 265]), (4, .getfield 190, 3, [0, 5, 117]), (7, .iload_n 1, 1, []), (8, .aaload, 1, []), (9, .astore_n 3, 1, []), (10, .aload_n 0, 1, []), (11, .getfield 11, 3, [6, 0, 263]), (14, .aload_n 3, 1, []), (15, .getfield 273, 3, [1, 2, 83]), (18, .aaload, 1, []), (19, .invokevirtual 144, 3, []), (22, .istore 4, 2, []), (24, .iconst 0, 1, []), (25, .istore 5, 2, []), (27, .iload 5, 2, []), (29, .aload_n 0, 1, []), (30, .getfield 24, 3, [6, 2, 265]), (33, .getfield 161, 3, [0, 4, 114]), (36, .if_icmp .ge 66, 3, []), (39, .aload_n 0, 1, []), (40, .getfield 24, 3, [6, 2, 265]), (43, .getfield 190, 3, [0, 5, 117]), (46, .iload 5, 2, []), (48, .aaload, 1, []), (49, .astore 6, 2, []), (51, .iload 5, 2, []), (53, .iload_n 1, 1, []), (54, .if_icmp .eq 42, 3, []), (57, .aload 6, 2, []), (59, .getfield 273, 3, [1, 2, 83]), (62, .aload_n 3, 1, []), (63, .getfield 273, 3, [1, 2, 83]), (66, .if_icmp .ne 30, 3, []), (69, .aload_n 0, 1, []), (70, .aload 6, 2, []), (72, .iload_n 2, 1, []), (73, .invokevirtual 269, 3, [1, 76, 3, 6, 759, 761, 12, 25, 762]), (76, .ifCond .eq 20, 3, []), (79, .aload_n 0, 1, []), (80, .getfield 24, 3, [6, 2, 265]), (83, .aload 6, 2, []), (85, .aload_n 3, 1, []), (86, .invokevirtual 291, 3, []), (89, .iload 4, 2, []), (91, .if_icmp .ge 5, 3, []), (94, .iconst 1, 1, []), (95, .ireturn, 1, []), (96, .iinc 5 1, 3, []), (99, .goto (-72), 3, []), (102, .iconst 0, 1, []), (103, .ireturn, 1, [])]
def am_m81 : am_M := (⟨"CombCylinder", "doesBuzz", "(II)Z"⟩, prog_1_method_37_code, 7, (some FieldType.boolean), [], am_i81_0)
def am_i82_0 : List am_I := [(0, .aload_n 0, 1, []), (1, .aload_n 0, 1, []), (2, .aload_n 2, 1, []), (3, .invokevirtual 77, 3, [1, 83, 2, 0, 789, 790, 791, 26, 792]), (6, .aload_n 0, 1, []), (7, .aload_n 1, 1, []), (8, .invokevirtual 77, 3, [1, 83, 2, 0, 789, 790, 791, 26, 792]), (11, .isub, 1, []), (12, .invokevirtual 74, 3, [1, 84, 2, 0, 793, 795, 14, 26, 796]), (15, .ireturn, 1, [])]
def am_m82 : am_M := (⟨"CombCylinder$Drum", "ticksAhead", "(LCombCylinder$Pin;LCombCylinder$Pin;)I"⟩, prog_2_method_17_code, 3, (some FieldType.int), [], am_i82_0)
def am_i83_0 : List am_I := [(0, .aload_n 0, 1, []), (1, .aload_n 1, 1, []), (2, .getfield 41, 3, [1, 1, 77]), (5, .aload_n 1, 1, []), (6, .getfield 47, 3, [1, 3, 85]), (9, .iadd, 1, []), (10, .invokevirtual 74, 3, [1, 84, 2, 0, 793, 795, 14, 26, 796]), (13, .ireturn, 1, [])]
def am_m83 : am_M := (⟨"CombCylinder$Drum", "strikeTick", "(LCombCylinder$Pin;)I"⟩, prog_2_method_16_code, 2, (some FieldType.int), [], am_i83_0)
def am_i84_0 : List am_I := [(0, .iload_n 1, 1, []), (1, .ifCond .ge 10, 3, []), (4, .iload_n 1, 1, []), (5, .aload_n 0, 1, []), (6, .getfield 9, 3, [0, 0, 104]), (9, .iadd, 1, []), (10, .ireturn, 1, []), (11, .iload_n 1, 1, []), (12, .aload_n 0, 1, []), (13, .getfield 9, 3, [0, 0, 104]), (16, .if_icmp .lt 12, 3, []), (19, .iload_n 1, 1, []), (20, .aload_n 0, 1, []), (21, .getfield 9, 3, [0, 0, 104]), (24, .isub, 1, []), (25, .goto 4, 3, []), (28, .iload_n 1, 1, []), (29, .ireturn, 1, [])]
def am_m84 : am_M := (⟨"CombCylinder$Drum", "goneRound", "(I)I"⟩, prog_2_method_15_code, 2, (some FieldType.int), [], am_i84_0)
def am_i85_0 : List am_I := [(0, .aload_n 0, 1, []), (1, .iload_n 1, 1, []), (2, .invokevirtual 212, 3, [1, 54, 2, 6, 665, 667, 7, 25, 668]), (5, .iconst 0, 1, []), (6, .istore_n 2, 1, []), (7, .iconst 0, 1, []), (8, .istore_n 3, 1, []), (9, .iload_n 3, 1, []), (10, .aload_n 0, 1, []), (11, .getfield 24, 3, [6, 2, 265]), (14, .getfield 161, 3, [0, 4, 114]), (17, .if_icmp .ge 42, 3, []), (20, .aload_n 0, 1, []), (21, .getfield 24, 3, [6, 2, 265]), (24, .getfield 190, 3, [0, 5, 117]), (27, .iload_n 3, 1, []), (28, .aaload, 1, []), (29, .astore 4, 2, []), (31, .aload 4, 2, []), (33, .getfield 203, 3, [1, 0, 75]), (36, .iload_n 1, 1, []), (37, .if_icmp .eq 16, 3, []), (40, .aload_n 0, 1, []), (41, .aload 4, 2, []), (43, .iload_n 1, 1, []), (44, .invokevirtual 269, 3, [1, 76, 3, 6, 759, 761, 12, 25, 762]), (47, .ifCond .eq 6, 3, []), (50, .iinc 2 1, 3, []), (53, .iinc 3 1, 3, []), (56, .goto (-47), 3, []), (59, .iload_n 2, 1, []), (60, .ireturn, 1, [])]
def am_m85 : am_M := (⟨"CombCylinder", "foreign", "(I)I"⟩, prog_1_method_38_code, 5, (some FieldType.int), [], am_i85_0)
def am_i86_0 : List am_I := [(0, .aload_n 0, 1, []), (1, .iload_n 1, 1, []), (2, .invokevirtual 212, 3, [1, 54, 2, 6, 665, 667, 7, 25, 668]), (5, .iload_n 2, 1, []), (6, .aload_n 0, 1, []), (7, .getfield 24, 3, [6, 2, 265]), (10, .getfield 228, 3, [0, 0, 105]), (13, .invokestatic 58, 3, [0, 31, 2, 505, 506, 25, 507]), (16, .iconst 0, 1, []), (17, .istore_n 3, 1, []), (18, .iconst 0, 1, []), (19, .istore 4, 2, []), (21, .iload 4, 2, []), (23, .aload_n 0, 1, []), (24, .getfield 24, 3, [6, 2, 265]), (27, .getfield 161, 3, [0, 4, 114]), (30, .if_icmp .ge 47, 3, []), (33, .aload_n 0, 1, []), (34, .getfield 24, 3, [6, 2, 265]), (37, .getfield 190, 3, [0, 5, 117]), (40, .iload 4, 2, []), (42, .aaload, 1, []), (43, .astore 5, 2, []), (45, .aload_n 0, 1, []), (46, .getfield 24, 3, [6, 2, 265]), (49, .aload 5, 2, []), (51, .invokevirtual 295, 3, [1, 83, 2, 0, 805, 790, 791, 26, 792]), (54, .iload_n 2, 1, []), (55, .if_icmp .ne 16, 3, []), (58, .aload_n 0, 1, []), (59, .aload 5, 2, []), (61, .iload_n 1, 1, []), (62, .invokevirtual 269, 3, [1, 76, 3, 6, 759, 761, 12, 25, 762]), (65, .ifCond .eq 6, 3, []), (68, .iinc 3 1, 3, []), (71, .iinc 4 1, 3, []), (74, .goto (-53), 3, []), (77, .iload_n 3, 1, []), (78, .ireturn, 1, [])]
def am_m86 : am_M := (⟨"CombCylinder", "heard", "(II)I"⟩, prog_1_method_39_code, 6, (some FieldType.int), [], am_i86_0)
def am_i87_0 : List am_I := [(0, .aload_n 0, 1, []), (1, .invokevirtual 206, 3, [1, 55, 1, 6, 669, 671, 8, 25, 672]), (4, .iconst 0, 1, []), (5, .istore_n 1, 1, []), (6, .iload_n 1, 1, []), (7, .bipush 28, 2, []), (9, .if_icmp .ge 19, 3, []), (12, .aload_n 0, 1, []), (13, .getfield 11, 3, [6, 0, 263]), (16, .iload_n 1, 1, []), (17, .aaload, 1, []), (18, .iconst 0, 1, []), (19, .putfield 299, 3, [5, 11, 216]), (22, .iinc 1 1, 3, []), (25, .goto (-19), 3, []), (28, .iconst 0, 1, []), (29, .istore_n 1, 1, []), (30, .iconst 0, 1, []), (31, .istore_n 2, 1, []), (32, .iload_n 2, 1, []), (33, .iconst 3, 1, []), (34, .if_icmp .ge 16, 3, []), (37, .iload_n 1, 1, []), (38, .aload_n 0, 1, []), (39, .invokevirtual 302, 3, [1, 88, 1, 6, 810, 812, 15, 25, 813]), (42, .iadd, 1, []), (43, .istore_n 1, 1, []), (44, .iinc 2 1, 3, []), (47, .goto (-15), 3, []), (50, .iload_n 1, 1, []), (51, .ireturn, 1, [])]
def am_m87 : am_M := (⟨"CombCylinder", "run", "()I"⟩, prog_1_method_40_code, 3, (some FieldType.int), [], am_i87_0)
def am_i88_0 : List am_I := [(0, .aload_n 0, 1, []), (1, .getfield 24, 3, [6, 2, 265]), (4, .invokevirtual 305, 3, [1, 89, 1, 0, 814, 815, 816, 26, 817]), (7, .iconst 0, 1, []), (8, .istore_n 1, 1, []), (9, .iconst 0, 1, []), (10, .istore_n 2, 1, []), (11, .iload_n 2, 1, []), (12, .aload_n 0, 1, []), (13, .getfield 24, 3, [6, 2, 265]), (16, .getfield 161, 3, [0, 4, 114]), (19, .if_icmp .ge 72, 3, []), (22, .aload_n 0, 1, []), (23, .getfield 24, 3, [6, 2, 265]), (26, .getfield 308, 3, [0, 6, 119]), (29, .iload_n 2, 1, []), (30, .aaload, 1, []), (31, .astore_n 3, 1, []), (32, .aload_n 0, 1, []), (33, .aload_n 3, 1, []), (34, .aload_n 0, 1, []), (35, .getfield 24, 3, [6, 2, 265]), (38, .getfield 237, 3, [0, 2, 109]), (41, .invokevirtual 269, 3, [1, 76, 3, 6, 759, 761, 12, 25, 762]), (44, .ifCond .eq 41, 3, []), (47, .aload_n 3, 1, []), (48, .dup, 1, []), (49, .getfield 194, 3, [1, 3, 86]), (52, .iconst 1, 1, []), (53, .iadd, 1, []), (54, .putfield 194, 3, [1, 3, 86]), (57, .aload_n 0, 1, []), (58, .dup, 1, []), (59, .getfield 50, 3, [6, 7, 270]), (62, .iconst 1, 1, []), (63, .iadd, 1, []), (64, .putfield 50, 3, [6, 7, 270]), (67, .aload_n 0, 1, []), (68, .getfield 11, 3, [6, 0, 263]), (71, .aload_n 3, 1, []), (72, .getfield 273, 3, [1, 2, 83]), (75, .aaload, 1, []), (76, .invokevirtual 311, 3, [1, 91, 1, 5, 822, 823, 824, 30, 825]), (79, .ifCond .eq 6, 3, []), (82, .iinc 1 1, 3, []), (85, .iinc 2 1, 3, []), (88, .goto (-77), 3, []), (91, .aload_n 0, 1, []), (92, .getfield 24, 3, [6, 2, 265]), (95, .invokevirtual 314, 3, [1, 92, 1, 0, 827, 828, 829, 26, 830]), (98, .iload_n 1, 1, []), (99, .ireturn, 1, [])]
def am_m88 : am_M := (⟨"CombCylinder", "runTurn", "()I"⟩, prog_1_method_41_code, 4, (some FieldType.int), [], am_i88_0)
def am_i89_0 : List am_I := [(0, .iconst 0, 1, []), (1, .istore_n 1, 1, []), (2, .iload_n 1, 1, []), (3, .aload_n 0, 1, []), (4, .getfield 25, 3, [0, 4, 112]), (7, .if_icmp .ge 76, 3, []), (10, .aload_n 0, 1, []), (11, .getfield 30, 3, [0, 5, 115]), (14, .iload_n 1, 1, []), (15, .aaload, 1, []), (16, .astore_n 2, 1, []), (17, .aload_n 2, 1, []), (18, .aload_n 0, 1, []), (19, .aload_n 2, 1, []), (20, .invokevirtual 81, 3, [1, 90, 2, 0, 818, 820, 16, 26, 821]), (23, .putfield 84, 3, [1, 5, 90]), (26, .iload_n 1, 1, []), (27, .istore_n 3, 1, []), (28, .iload_n 3, 1, []), (29, .ifCond .le 41, 3, []), (32, .aload_n 0, 1, []), (33, .getfield 34, 3, [0, 6, 118]), (36, .iload_n 3, 1, []), (37, .iconst 1, 1, []), (38, .isub, 1, []), (39, .aaload, 1, []), (40, .getfield 84, 3, [1, 5, 90]), (43, .aload_n 2, 1, []), (44, .getfield 84, 3, [1, 5, 90]), (47, .if_icmp .le 23, 3, []), (50, .aload_n 0, 1, []), (51, .getfield 34, 3, [0, 6, 118]), (54, .iload_n 3, 1, []), (55, .aload_n 0, 1, []), (56, .getfield 34, 3, [0, 6, 118]), (59, .iload_n 3, 1, []), (60, .iconst 1, 1, []), (61, .isub, 1, []), (62, .aaload, 1, []), (63, .aastore, 1, []), (64, .iinc 3 (-1), 3, []), (67, .goto (-39), 3, []), (70, .aload_n 0, 1, []), (71, .getfield 34, 3, [0, 6, 118]), (74, .iload_n 3, 1, []), (75, .aload_n 2, 1, []), (76, .aastore, 1, []), (77, .iinc 1 1, 3, []), (80, .goto (-78), 3, []), (83, .return_, 1, [])]
def am_m89 : am_M := (⟨"CombCylinder$Drum", "sortForRun", "()V"⟩, prog_2_method_18_code, 4, none, [], am_i89_0)
def am_i90_0 : List am_I := [(0, .aload_n 0, 1, []), (1, .aload_n 1, 1, []), (2, .invokevirtual 77, 3, [1, 83, 2, 0, 789, 790, 791, 26, 792]), (5, .bipush 28, 2, []), (7, .imul, 1, []), (8, .aload_n 1, 1, []), (9, .getfield 44, 3, [1, 2, 81]), (12, .iadd, 1, []), (13, .bipush 6, 2, []), (15, .imul, 1, []), (16, .aload_n 1, 1, []), (17, .getfield 38, 3, [1, 0, 73]), (20, .iadd, 1, []), (21, .sipush 600, 3, []), (24, .imul, 1, []), (25, .aload_n 1, 1, []), (26, .getfield 41, 3, [1, 1, 77]), (29, .iadd, 1, []), (30, .ireturn, 1, [])]
def am_m90 : am_M := (⟨"CombCylinder$Drum", "rankInTurn", "(LCombCylinder$Pin;)I"⟩, prog_2_method_19_code, 2, (some FieldType.int), [], am_i90_0)
def am_i91_0 : List am_I := [(0, .aload_n 0, 1, []), (1, .dup, 1, []), (2, .getfield 44, 3, [5, 10, 213]), (5, .iconst 1, 1, []), (6, .iadd, 1, []), (7, .putfield 44, 3, [5, 10, 213]), (10, .aload_n 0, 1, []), (11, .dup, 1, []), (12, .getfield 47, 3, [5, 11, 215]), (15, .iconst 1, 1, []), (16, .iadd, 1, []), (17, .putfield 47, 3, [5, 11, 215]), (20, .aload_n 0, 1, []), (21, .invokevirtual 66, 3, [1, 21, 1, 5, 826, 365, 366, 30, 367]), (24, .bipush 60, 2, []), (26, .if_icmp .ge 7, 3, []), (29, .iconst 1, 1, []), (30, .goto 4, 3, []), (33, .iconst 3, 1, []), (34, .istore_n 1, 1, []), (35, .aload_n 0, 1, []), (36, .aload_n 0, 1, []), (37, .getfield 15, 3, [5, 1, 197]), (40, .ifCond .eq 15, 3, []), (43, .aload_n 0, 1, []), (44, .getfield 47, 3, [5, 11, 215]), (47, .iload_n 1, 1, []), (48, .if_icmp .lt 7, 3, []), (51, .iconst 1, 1, []), (52, .goto 4, 3, []), (55, .iconst 0, 1, []), (56, .putfield 41, 3, [5, 9, 211]), (59, .aload_n 0, 1, []), (60, .getfield 41, 3, [5, 9, 211]), (63, .ireturn, 1, [])]
def am_m91 : am_M := (⟨"CombCylinder$Voice", "breaksWhenStruck", "()Z"⟩, prog_7_method_10_code, 2, (some FieldType.boolean), [], am_i91_0)
def am_i92_0 : List am_I := [(0, .aload_n 0, 1, []), (1, .getfield 25, 3, [0, 4, 112]), (4, .iconst 1, 1, []), (5, .isub, 1, []), (6, .istore_n 1, 1, []), (7, .iload_n 1, 1, []), (8, .ifCond .lt 27, 3, []), (11, .aload_n 0, 1, []), (12, .getfield 30, 3, [0, 5, 115]), (15, .iload_n 1, 1, []), (16, .aaload, 1, []), (17, .getfield 47, 3, [1, 3, 85]), (20, .iconst 2, 1, []), (21, .if_icmp .le 8, 3, []), (24, .aload_n 0, 1, []), (25, .iload_n 1, 1, []), (26, .invokevirtual 53, 3, [1, 61, 2, 0, 725, 699, 700, 26, 701]), (29, .iinc 1 (-1), 3, []), (32, .goto (-25), 3, []), (35, .return_, 1, [])]
def am_m92 : am_M := (⟨"CombCylinder$Drum", "dropFallen", "()V"⟩, prog_2_method_7_code, 2, none, [], am_i92_0)
def am_i93_0 : List am_I := [(0, .aload_n 0, 1, []), (1, .iload_n 1, 1, []), (2, .invokevirtual 89, 3, [1, 36, 2, 6, 554, 556, 4, 25, 557]), (5, .getfield 147, 3, [5, 9, 212]), (8, .ireturn, 1, [])]
def am_m93 : am_M := (⟨"CombCylinder", "isBroken", "(I)Z"⟩, prog_1_method_15_code, 2, (some FieldType.boolean), [], am_i93_0)
def am_i94_0 : List am_I := [(0, .aload_n 0, 1, []), (1, .invokevirtual 206, 3, [1, 55, 1, 6, 669, 671, 8, 25, 672]), (4, .aload_n 0, 1, []), (5, .invokevirtual 317, 3, [1, 95, 1, 6, 839, 841, 17, 25, 842]), (8, .aload_n 0, 1, []), (9, .getfield 38, 3, [6, 4, 267]), (12, .getfield 320, 3, [4, 6, 173]), (15, .ireturn, 1, [])]
def am_m94 : am_M := (⟨"CombCylinder", "tunings", "()I"⟩, prog_1_method_42_code, 1, (some FieldType.int), [], am_i94_0)
def am_i95_0 : List am_I := [(0, .aload_n 0, 1, []), (1, .getfield 38, 3, [6, 4, 267]), (4, .iconst 0, 1, []), (5, .putfield 331, 3, [4, 0, 163]), (8, .iconst 0, 1, []), (9, .istore_n 1, 1, []), (10, .iload_n 1, 1, []), (11, .bipush 24, 2, []), (13, .if_icmp .ge 95, 3, []), (16, .aload_n 0, 1, []), (17, .getfield 11, 3, [6, 0, 263]), (20, .iload_n 1, 1, []), (21, .aaload, 1, []), (22, .getfield 79, 3, [5, 0, 196]), (25, .ifCond .eq 77, 3, []), (28, .aload_n 0, 1, []), (29, .getfield 11, 3, [6, 0, 263]), (32, .iload_n 1, 1, []), (33, .aaload, 1, []), (34, .getfield 147, 3, [5, 9, 212]), (37, .ifCond .eq 65, 3, []), (40, .aload_n 0, 1, []), (41, .getfield 24, 3, [6, 2, 265]), (44, .iload_n 1, 1, []), (45, .invokevirtual 334, 3, []), (48, .ifCond .lt 54, 3, []), (51, .aload_n 0, 1, []), (52, .getfield 38, 3, [6, 4, 267]), (55, .getfield 331, 3, [4, 0, 163]), (58, .iconst 3, 1, []), (59, .if_icmp .lt 14, 3, []), (62, .new 66, 3, [9, 3]), (65, .dup, 1, []), (66, .ldc_w 337, 3, []), (69, .invokespecial 70, 3, []), (72, .athrow, 1, []), (73, .aload_n 0, 1, []), (74, .getfield 38, 3, [6, 4, 267]), (77, .getfield 339, 3, [4, 1, 165]), (80, .aload_n 0, 1, []), (81, .getfield 38, 3, [6, 4, 267]), (84, .getfield 331, 3, [4, 0, 163]), (87, .iload_n 1, 1, []), (88, .iastore, 1, []), (89, .aload_n 0, 1, []), (90, .getfield 38, 3, [6, 4, 267]), (93, .dup, 1, []), (94, .getfield 331, 3, [4, 0, 163]), (97, .iconst 1, 1, []), (98, .iadd, 1, []), (99, .putfield 331, 3, [4, 0, 163]), (102, .iinc 1 1, 3, []), (105, .goto (-95), 3, []), (108, .iconst 0, 1, []), (109, .istore_n 1, 1, []), (110, .iload_n 1, 1, []), (111, .bipush 28, 2, []), (113, .if_icmp .ge 27, 3, []), (116, .aload_n 0, 1, []), (117, .getfield 38, 3, [6, 4, 267])]
def am_i95_1 : List am_I := [(120, .getfield 342, 3, [4, 2, 167]), (123, .iload_n 1, 1, []), (124, .aload_n 0, 1, []), (125, .getfield 11, 3, [6, 0, 263]), (128, .iload_n 1, 1, []), (129, .aaload, 1, []), (130, .invokestatic 345, 3, [0, 97, 1, 848, 849, 25, 850]), (133, .iastore, 1, []), (134, .iinc 1 1, 3, []), (137, .goto (-27), 3, []), (140, .aload_n 0, 1, []), (141, .getfield 38, 3, [6, 4, 267]), (144, .aload_n 0, 1, []), (145, .getfield 24, 3, [6, 2, 265]), (148, .aload_n 0, 1, []), (149, .getfield 17, 3, [6, 1, 264]), (152, .invokevirtual 349, 3, [1, 98, 3, 4, 851, 852, 853, 29, 854]), (155, .return_, 1, [])]
def am_m95 : am_M := (⟨"CombCylinder", "findTunings", "()V"⟩, prog_1_method_44_code, 2, none, [], am_i95_0 ++ (am_i95_1))
def am_i96_0 : List am_I := [(0, .iconst 0, 1, []), (1, .istore_n 2, 1, []), (2, .iload_n 2, 1, []), (3, .aload_n 0, 1, []), (4, .getfield 25, 3, [0, 4, 112]), (7, .if_icmp .ge 24, 3, []), (10, .aload_n 0, 1, []), (11, .getfield 30, 3, [0, 5, 115]), (14, .iload_n 2, 1, []), (15, .aaload, 1, []), (16, .getfield 44, 3, [1, 2, 81]), (19, .iload_n 1, 1, []), (20, .if_icmp .ne 5, 3, []), (23, .iload_n 2, 1, []), (24, .ireturn, 1, []), (25, .iinc 2 1, 3, []), (28, .goto (-26), 3, []), (31, .iconst (-1), 1, []), (32, .ireturn, 1, [])]
def am_m96 : am_M := (⟨"CombCylinder$Drum", "firstPinFor", "(I)I"⟩, prog_2_method_9_code, 3, (some FieldType.int), [], am_i96_0)
def am_i97_0 : List am_I := [(0, .aload_n 0, 1, []), (1, .invokevirtual 230, 3, [1, 14, 1, 5, 327, 328, 329, 30, 330]), (4, .ifCond .eq 17, 3, []), (7, .aload_n 0, 1, []), (8, .invokevirtual 100, 3, [1, 39, 1, 5, 583, 584, 585, 30, 586]), (11, .ifCond .eq 10, 3, []), (14, .aload_n 0, 1, []), (15, .invokevirtual 97, 3, [1, 17, 1, 5, 578, 340, 341, 30, 342]), (18, .goto 4, 3, []), (21, .iconst (-1), 1, []), (22, .ireturn, 1, [])]
def am_m97 : am_M := (⟨"CombCylinder", "knownNote", "(LCombCylinder$Voice;)I"⟩, prog_1_method_45_code, 1, (some FieldType.int), [], am_i97_0)
def am_i98_0 : List am_I := [(0, .aload_n 0, 1, []), (1, .iconst 0, 1, []), (2, .putfield 33, 3, [4, 6, 172]), (5, .iconst 0, 1, []), (6, .istore_n 3, 1, []), (7, .iload_n 3, 1, []), (8, .bipush 28, 2, []), (10, .if_icmp .ge 20, 3, []), (13, .aload_n 0, 1, []), (14, .iload_n 3, 1, []), (15, .aload_n 1, 1, []), (16, .aload_n 2, 1, []), (17, .invokevirtual 36, 3, [1, 99, 4, 4, 855, 857, 18, 29, 858]), (20, .ifCond .ne 4, 3, []), (23, .return_, 1, []), (24, .iinc 3 1, 3, []), (27, .goto (-20), 3, []), (30, .iconst 0, 1, []), (31, .istore_n 3, 1, []), (32, .iload_n 3, 1, []), (33, .aload_n 0, 1, []), (34, .getfield 9, 3, [4, 0, 162]), (37, .if_icmp .ge 16, 3, []), (40, .aload_n 0, 1, []), (41, .iload_n 3, 1, []), (42, .aload_n 1, 1, []), (43, .aload_n 2, 1, []), (44, .invokevirtual 40, 3, []), (47, .iinc 3 1, 3, []), (50, .goto (-18), 3, []), (53, .iconst 0, 1, []), (54, .aload_n 0, 1, []), (55, .aload_n 1, 1, []), (56, .aload_n 2, 1, []), (57, .invokestatic 44, 3, [0, 104, 4, 876, 877, 29, 878]), (60, .return_, 1, [])]
def am_m98 : am_M := (⟨"CombCylinder$Tuner", "search", "(LCombCylinder$Drum;[LCombCylinder$Sheet;)V"⟩, prog_6_method_3_code, 4, none, [], am_i98_0)
def am_i99_0 : List am_I := [(0, .aload_n 0, 1, []), (1, .getfield 19, 3, [4, 2, 166]), (4, .iload_n 1, 1, []), (5, .iaload, 1, []), (6, .istore 4, 2, []), (8, .iload 4, 2, []), (10, .iconst (-1), 1, []), (11, .if_icmp .ne 5, 3, []), (14, .iconst 1, 1, []), (15, .ireturn, 1, []), (16, .iconst 0, 1, []), (17, .istore 5, 2, []), (19, .iload 5, 2, []), (21, .aload_n 2, 1, []), (22, .getfield 48, 3, [0, 4, 113]), (25, .if_icmp .ge 56, 3, []), (28, .aload_n 2, 1, []), (29, .getfield 53, 3, [0, 5, 116]), (32, .iload 5, 2, []), (34, .aaload, 1, []), (35, .astore 6, 2, []), (37, .aload 6, 2, []), (39, .getfield 57, 3, [1, 2, 82]), (42, .iload_n 1, 1, []), (43, .if_icmp .ne 32, 3, []), (46, .aload_n 3, 1, []), (47, .aload 6, 2, []), (49, .getfield 62, 3, [1, 0, 74]), (52, .aaload, 1, []), (53, .aload 6, 2, []), (55, .getfield 65, 3, [1, 1, 78]), (58, .iload 4, 2, []), (60, .invokevirtual 68, 3, []), (63, .aload_n 0, 1, []), (64, .aload 6, 2, []), (66, .aload_n 2, 1, []), (67, .invokevirtual 74, 3, []), (70, .if_icmp .ge 5, 3, []), (73, .iconst 0, 1, []), (74, .ireturn, 1, []), (75, .iinc 5 1, 3, []), (78, .goto (-59), 3, []), (81, .iconst 1, 1, []), (82, .ireturn, 1, [])]
def am_m99 : am_M := (⟨"CombCylinder$Tuner", "fits", "(ILCombCylinder$Drum;[LCombCylinder$Sheet;)Z"⟩, prog_6_method_4_code, 7, (some FieldType.boolean), [], am_i99_0)
def am_i100_0 : List am_I := [(0, .iconst 0, 1, []), (1, .istore_n 3, 1, []), (2, .iconst 0, 1, []), (3, .istore 4, 2, []), (5, .iload 4, 2, []), (7, .aload_n 0, 1, []), (8, .getfield 21, 3, [2, 3, 252]), (11, .if_icmp .ge 34, 3, []), (14, .aload_n 0, 1, []), (15, .getfield 9, 3, [2, 0, 247]), (18, .iload 4, 2, []), (20, .iaload, 1, []), (21, .iload_n 1, 1, []), (22, .if_icmp .ne 17, 3, []), (25, .aload_n 0, 1, []), (26, .getfield 18, 3, [2, 2, 250]), (29, .iload 4, 2, []), (31, .iaload, 1, []), (32, .iload_n 2, 1, []), (33, .if_icmp .ne 6, 3, []), (36, .iinc 3 1, 3, []), (39, .iinc 4 1, 3, []), (42, .goto (-37), 3, []), (45, .iload_n 3, 1, []), (46, .ireturn, 1, [])]
def am_m100 : am_M := (⟨"CombCylinder$Sheet", "howOften", "(II)I"⟩, prog_4_method_4_code, 5, (some FieldType.int), [], am_i100_0)
def am_i101_0 : List am_I := [(0, .iconst 0, 1, []), (1, .istore_n 3, 1, []), (2, .iconst 0, 1, []), (3, .istore 4, 2, []), (5, .iload 4, 2, []), (7, .aload_n 2, 1, []), (8, .getfield 48, 3, [0, 4, 113]), (11, .if_icmp .ge 67, 3, []), (14, .aload_n 2, 1, []), (15, .getfield 53, 3, [0, 5, 116]), (18, .iload 4, 2, []), (20, .aaload, 1, []), (21, .astore 5, 2, []), (23, .aload 5, 2, []), (25, .getfield 62, 3, [1, 0, 74]), (28, .aload_n 1, 1, []), (29, .getfield 62, 3, [1, 0, 74]), (32, .if_icmp .ne 40, 3, []), (35, .aload 5, 2, []), (37, .getfield 65, 3, [1, 1, 78]), (40, .aload_n 1, 1, []), (41, .getfield 65, 3, [1, 1, 78]), (44, .if_icmp .ne 28, 3, []), (47, .aload_n 0, 1, []), (48, .getfield 19, 3, [4, 2, 166]), (51, .aload 5, 2, []), (53, .getfield 57, 3, [1, 2, 82]), (56, .iaload, 1, []), (57, .aload_n 0, 1, []), (58, .getfield 19, 3, [4, 2, 166]), (61, .aload_n 1, 1, []), (62, .getfield 57, 3, [1, 2, 82]), (65, .iaload, 1, []), (66, .if_icmp .ne 6, 3, []), (69, .iinc 3 1, 3, []), (72, .iinc 4 1, 3, []), (75, .goto (-70), 3, []), (78, .iload_n 3, 1, []), (79, .ireturn, 1, [])]
def am_m101 : am_M := (⟨"CombCylinder$Tuner", "howOften", "(LCombCylinder$Pin;LCombCylinder$Drum;)I"⟩, prog_6_method_5_code, 6, (some FieldType.int), [], am_i101_0)
def am_i102_0 : List am_I := [(0, .aload_n 0, 1, []), (1, .getfield 27, 3, [4, 4, 169]), (4, .iload_n 1, 1, []), (5, .iconst 0, 1, []), (6, .iastore, 1, []), (7, .aload_n 0, 1, []), (8, .getfield 15, 3, [4, 1, 164]), (11, .iload_n 1, 1, []), (12, .iaload, 1, []), (13, .istore 4, 2, []), (15, .aload_n 2, 1, []), (16, .iload 4, 2, []), (18, .invokevirtual 77, 3, []), (21, .istore 5, 2, []), (23, .iload 5, 2, []), (25, .ifCond .ge 4, 3, []), (28, .return_, 1, []), (29, .aload_n 2, 1, []), (30, .getfield 53, 3, [0, 5, 116]), (33, .iload 5, 2, []), (35, .aaload, 1, []), (36, .astore 6, 2, []), (38, .aload_n 3, 1, []), (39, .aload 6, 2, []), (41, .getfield 62, 3, [1, 0, 74]), (44, .aaload, 1, []), (45, .astore 7, 2, []), (47, .aload 7, 2, []), (49, .aload 6, 2, []), (51, .getfield 65, 3, [1, 1, 78]), (54, .iconst 0, 1, []), (55, .invokevirtual 81, 3, []), (58, .istore 8, 2, []), (60, .iconst 0, 1, []), (61, .istore 9, 2, []), (63, .iload 9, 2, []), (65, .bipush 30, 2, []), (67, .if_icmp .ge 74, 3, []), (70, .iload 8, 2, []), (72, .iconst (-1), 1, []), (73, .if_icmp .eq 68, 3, []), (76, .aload_n 0, 1, []), (77, .getfield 19, 3, [4, 2, 166]), (80, .iload 4, 2, []), (82, .iload 8, 2, []), (84, .iastore, 1, []), (85, .aload_n 0, 1, []), (86, .iload 4, 2, []), (88, .aload_n 2, 1, []), (89, .aload_n 3, 1, []), (90, .invokevirtual 36, 3, [1, 99, 4, 4, 855, 857, 18, 29, 858]), (93, .ifCond .eq 28, 3, []), (96, .aload_n 0, 1, []), (97, .getfield 24, 3, [4, 3, 168]), (100, .iload_n 1, 1, []), (101, .aaload, 1, []), (102, .aload_n 0, 1, []), (103, .getfield 27, 3, [4, 4, 169]), (106, .iload_n 1, 1, []), (107, .iaload, 1, [])]
def am_i102_1 : List am_I := [(108, .iload 8, 2, []), (110, .iastore, 1, []), (111, .aload_n 0, 1, []), (112, .getfield 27, 3, [4, 4, 169]), (115, .iload_n 1, 1, []), (116, .dup2, 1, []), (117, .iaload, 1, []), (118, .iconst 1, 1, []), (119, .iadd, 1, []), (120, .iastore, 1, []), (121, .aload 7, 2, []), (123, .aload 6, 2, []), (125, .getfield 65, 3, [1, 1, 78]), (128, .iload 8, 2, []), (130, .invokevirtual 81, 3, []), (133, .istore 8, 2, []), (135, .iinc 9 1, 3, []), (138, .goto (-75), 3, []), (141, .aload_n 0, 1, []), (142, .getfield 19, 3, [4, 2, 166]), (145, .iload 4, 2, []), (147, .iconst (-1), 1, []), (148, .iastore, 1, []), (149, .return_, 1, [])]
def am_m102 : am_M := (⟨"CombCylinder$Tuner", "findChoices", "(ILCombCylinder$Drum;[LCombCylinder$Sheet;)V"⟩, prog_6_method_6_code, 10, none, [], am_i102_0 ++ (am_i102_1))
def am_i103_0 : List am_I := [(0, .iconst (-1), 1, []), (1, .istore_n 3, 1, []), (2, .iconst 0, 1, []), (3, .istore 4, 2, []), (5, .iload 4, 2, []), (7, .aload_n 0, 1, []), (8, .getfield 21, 3, [2, 3, 252]), (11, .if_icmp .ge 55, 3, []), (14, .aload_n 0, 1, []), (15, .getfield 9, 3, [2, 0, 247]), (18, .iload 4, 2, []), (20, .iaload, 1, []), (21, .iload_n 1, 1, []), (22, .if_icmp .ne 38, 3, []), (25, .aload_n 0, 1, []), (26, .getfield 18, 3, [2, 2, 250]), (29, .iload 4, 2, []), (31, .iaload, 1, []), (32, .iload_n 2, 1, []), (33, .if_icmp .le 27, 3, []), (36, .iload_n 3, 1, []), (37, .iconst (-1), 1, []), (38, .if_icmp .eq 14, 3, []), (41, .aload_n 0, 1, []), (42, .getfield 18, 3, [2, 2, 250]), (45, .iload 4, 2, []), (47, .iaload, 1, []), (48, .iload_n 3, 1, []), (49, .if_icmp .ge 11, 3, []), (52, .aload_n 0, 1, []), (53, .getfield 18, 3, [2, 2, 250]), (56, .iload 4, 2, []), (58, .iaload, 1, []), (59, .istore_n 3, 1, []), (60, .iinc 4 1, 3, []), (63, .goto (-58), 3, []), (66, .iload_n 3, 1, []), (67, .ireturn, 1, [])]
def am_m103 : am_M := (⟨"CombCylinder$Sheet", "nextNumber", "(II)I"⟩, prog_4_method_5_code, 5, (some FieldType.int), [], am_i103_0)
def am_i104_0 : List am_I := [(0, .iload_n 0, 1, []), (1, .aload_n 1, 1, []), (2, .getfield 9, 3, [4, 0, 162]), (5, .if_icmp .ge 8, 3, []), (8, .iload_n 0, 1, []), (9, .iconst 3, 1, []), (10, .if_icmp .lt 8, 3, []), (13, .aload_n 1, 1, []), (14, .invokevirtual 84, 3, [1, 105, 1, 4, 879, 881, 21, 29, 882]), (17, .return_, 1, []), (18, .aload_n 1, 1, []), (19, .getfield 15, 3, [4, 1, 164]), (22, .iload_n 0, 1, []), (23, .iaload, 1, []), (24, .istore 4, 2, []), (26, .iconst 0, 1, []), (27, .istore 5, 2, []), (29, .iload 5, 2, []), (31, .aload_n 1, 1, []), (32, .getfield 27, 3, [4, 4, 169]), (35, .iload_n 0, 1, []), (36, .iaload, 1, []), (37, .if_icmp .ge 53, 3, []), (40, .aload_n 1, 1, []), (41, .getfield 19, 3, [4, 2, 166]), (44, .iload 4, 2, []), (46, .aload_n 1, 1, []), (47, .getfield 24, 3, [4, 3, 168]), (50, .iload_n 0, 1, []), (51, .aaload, 1, []), (52, .iload 5, 2, []), (54, .iaload, 1, []), (55, .iastore, 1, []), (56, .aload_n 1, 1, []), (57, .iload_n 0, 1, []), (58, .invokevirtual 87, 3, []), (61, .ifCond .eq 14, 3, []), (64, .aload_n 1, 1, []), (65, .iload 4, 2, []), (67, .aload_n 2, 1, []), (68, .aload_n 3, 1, []), (69, .invokevirtual 36, 3, [1, 99, 4, 4, 855, 857, 18, 29, 858]), (72, .ifCond .eq 12, 3, []), (75, .iload_n 0, 1, []), (76, .iconst 1, 1, []), (77, .iadd, 1, []), (78, .aload_n 1, 1, []), (79, .aload_n 2, 1, []), (80, .aload_n 3, 1, []), (81, .invokestatic 44, 3, [0, 104, 4, 876, 877, 29, 878]), (84, .iinc 5 1, 3, []), (87, .goto (-58), 3, []), (90, .aload_n 1, 1, []), (91, .getfield 19, 3, [4, 2, 166]), (94, .iload 4, 2, []), (96, .iconst (-1), 1, []), (97, .iastore, 1, []), (98, .return_, 1, [])]
def am_m104 : am_M := (⟨"CombCylinder$Tuner", "tryFrom", "(ILCombCylinder$Tuner;LCombCylinder$Drum;[LCombCylinder$Sheet;)V"⟩, prog_6_method_7_code, 6, none, [], am_i104_0)
def am_i105_0 : List am_I := [(0, .aload_n 0, 1, []), (1, .getfield 33, 3, [4, 6, 172]), (4, .ifCond .ne 36, 3, []), (7, .iconst 0, 1, []), (8, .istore_n 1, 1, []), (9, .iload_n 1, 1, []), (10, .aload_n 0, 1, []), (11, .getfield 9, 3, [4, 0, 162]), (14, .if_icmp .ge 26, 3, []), (17, .aload_n 0, 1, []), (18, .getfield 30, 3, [4, 5, 170]), (21, .iload_n 1, 1, []), (22, .aload_n 0, 1, []), (23, .getfield 19, 3, [4, 2, 166]), (26, .aload_n 0, 1, []), (27, .getfield 15, 3, [4, 1, 164]), (30, .iload_n 1, 1, []), (31, .iaload, 1, []), (32, .iaload, 1, []), (33, .iastore, 1, []), (34, .iinc 1 1, 3, []), (37, .goto (-28), 3, []), (40, .aload_n 0, 1, []), (41, .dup, 1, []), (42, .getfield 33, 3, [4, 6, 172]), (45, .iconst 1, 1, []), (46, .iadd, 1, []), (47, .putfield 33, 3, [4, 6, 172]), (50, .return_, 1, [])]
def am_m105 : am_M := (⟨"CombCylinder$Tuner", "keepTuning", "()V"⟩, prog_6_method_9_code, 2, none, [], am_i105_0)
def am_i106_0 : List am_I := [(0, .iconst 0, 1, []), (1, .istore_n 2, 1, []), (2, .iload_n 2, 1, []), (3, .iload_n 1, 1, []), (4, .if_icmp .ge 36, 3, []), (7, .aload_n 0, 1, []), (8, .getfield 19, 3, [4, 2, 166]), (11, .aload_n 0, 1, []), (12, .getfield 15, 3, [4, 1, 164]), (15, .iload_n 2, 1, []), (16, .iaload, 1, []), (17, .iaload, 1, []), (18, .aload_n 0, 1, []), (19, .getfield 19, 3, [4, 2, 166]), (22, .aload_n 0, 1, []), (23, .getfield 15, 3, [4, 1, 164]), (26, .iload_n 1, 1, []), (27, .iaload, 1, []), (28, .iaload, 1, []), (29, .if_icmp .ne 5, 3, []), (32, .iconst 1, 1, []), (33, .ireturn, 1, []), (34, .iinc 2 1, 3, []), (37, .goto (-35), 3, []), (40, .iconst 0, 1, []), (41, .ireturn, 1, [])]
def am_m106 : am_M := (⟨"CombCylinder$Tuner", "isTakenAhead", "(I)Z"⟩, prog_6_method_8_code, 3, (some FieldType.boolean), [], am_i106_0)
def am_i107_0 : List am_I := [(0, .aload_n 0, 1, []), (1, .invokevirtual 206, 3, [1, 55, 1, 6, 669, 671, 8, 25, 672]), (4, .iload_n 1, 1, []), (5, .bipush 24, 2, []), (7, .invokestatic 58, 3, [0, 31, 2, 505, 506, 25, 507]), (10, .aload_n 0, 1, []), (11, .invokevirtual 317, 3, [1, 95, 1, 6, 839, 841, 17, 25, 842]), (14, .aload_n 0, 1, []), (15, .getfield 38, 3, [6, 4, 267]), (18, .iload_n 1, 1, []), (19, .invokevirtual 323, 3, [1, 108, 2, 4, 891, 892, 893, 29, 894]), (22, .istore_n 2, 1, []), (23, .iload_n 2, 1, []), (24, .ifCond .lt 13, 3, []), (27, .aload_n 0, 1, []), (28, .getfield 38, 3, [6, 4, 267]), (31, .getfield 320, 3, [4, 6, 173]), (34, .ifCond .ne 14, 3, []), (37, .new 185, 3, [9, 4]), (40, .dup, 1, []), (41, .ldc_w 326, 3, []), (44, .invokespecial 189, 3, []), (47, .athrow, 1, []), (48, .aload_n 0, 1, []), (49, .getfield 38, 3, [6, 4, 267]), (52, .getfield 328, 3, [4, 5, 171]), (55, .iload_n 2, 1, []), (56, .iaload, 1, []), (57, .ireturn, 1, [])]
def am_m107 : am_M := (⟨"CombCylinder", "lost", "(I)I"⟩, prog_1_method_43_code, 3, (some FieldType.int), [], am_i107_0)
def am_i108_0 : List am_I := [(0, .iconst 0, 1, []), (1, .istore_n 2, 1, []), (2, .iload_n 2, 1, []), (3, .aload_n 0, 1, []), (4, .getfield 9, 3, [4, 0, 162]), (7, .if_icmp .ge 21, 3, []), (10, .aload_n 0, 1, []), (11, .getfield 15, 3, [4, 1, 164]), (14, .iload_n 2, 1, []), (15, .iaload, 1, []), (16, .iload_n 1, 1, []), (17, .if_icmp .ne 5, 3, []), (20, .iload_n 2, 1, []), (21, .ireturn, 1, []), (22, .iinc 2 1, 3, []), (25, .goto (-23), 3, []), (28, .iconst (-1), 1, []), (29, .ireturn, 1, [])]
def am_m108 : am_M := (⟨"CombCylinder$Tuner", "whichLost", "(I)I"⟩, prog_6_method_2_code, 3, (some FieldType.int), [], am_i108_0)
def am_i109_0 : List am_I := [(0, .aload_n 0, 1, []), (1, .iload_n 1, 1, []), (2, .invokevirtual 212, 3, [1, 54, 2, 6, 665, 667, 7, 25, 668]), (5, .iconst (-1), 1, []), (6, .istore_n 2, 1, []), (7, .iconst 0, 1, []), (8, .istore_n 3, 1, []), (9, .iconst 0, 1, []), (10, .istore 4, 2, []), (12, .iload 4, 2, []), (14, .bipush 6, 2, []), (16, .if_icmp .ge 35, 3, []), (19, .aload_n 0, 1, []), (20, .iload_n 1, 1, []), (21, .aload_n 0, 1, []), (22, .getfield 17, 3, [6, 1, 264]), (25, .iload 4, 2, []), (27, .aaload, 1, []), (28, .invokevirtual 353, 3, [1, 110, 3, 6, 900, 902, 23, 25, 903]), (31, .istore 5, 2, []), (33, .iload 5, 2, []), (35, .iload_n 3, 1, []), (36, .if_icmp .le 9, 3, []), (39, .iload 5, 2, []), (41, .istore_n 3, 1, []), (42, .iload 4, 2, []), (44, .istore_n 2, 1, []), (45, .iinc 4 1, 3, []), (48, .goto (-36), 3, []), (51, .iload_n 2, 1, []), (52, .ifCond .ge 14, 3, []), (55, .new 185, 3, [9, 4]), (58, .dup, 1, []), (59, .ldc_w 357, 3, []), (62, .invokespecial 189, 3, []), (65, .athrow, 1, []), (66, .iload_n 2, 1, []), (67, .ireturn, 1, [])]
def am_m109 : am_M := (⟨"CombCylinder", "known", "(I)I"⟩, prog_1_method_46_code, 6, (some FieldType.int), [], am_i109_0)
def am_i110_0 : List am_I := [(0, .iconst 0, 1, []), (1, .istore_n 3, 1, []), (2, .iconst 0, 1, []), (3, .istore 4, 2, []), (5, .iload 4, 2, []), (7, .aload_n 0, 1, []), (8, .getfield 24, 3, [6, 2, 265]), (11, .getfield 161, 3, [0, 4, 114]), (14, .if_icmp .ge 58, 3, []), (17, .aload_n 0, 1, []), (18, .getfield 24, 3, [6, 2, 265]), (21, .getfield 190, 3, [0, 5, 117]), (24, .iload 4, 2, []), (26, .aaload, 1, []), (27, .astore 5, 2, []), (29, .aload 5, 2, []), (31, .getfield 203, 3, [1, 0, 75]), (34, .iload_n 1, 1, []), (35, .if_icmp .ne 31, 3, []), (38, .aload_n 2, 1, []), (39, .aload 5, 2, []), (41, .getfield 359, 3, [1, 1, 79]), (44, .aload_n 0, 1, []), (45, .getfield 11, 3, [6, 0, 263]), (48, .aload 5, 2, []), (50, .getfield 273, 3, [1, 2, 83]), (53, .aaload, 1, []), (54, .invokestatic 345, 3, [0, 97, 1, 848, 849, 25, 850]), (57, .invokevirtual 362, 3, []), (60, .ifCond .le 6, 3, []), (63, .iinc 3 1, 3, []), (66, .iinc 4 1, 3, []), (69, .goto (-64), 3, []), (72, .iload_n 3, 1, []), (73, .ireturn, 1, [])]
def am_m110 : am_M := (⟨"CombCylinder", "pinsOnSheet", "(ILCombCylinder$Sheet;)I"⟩, prog_1_method_47_code, 6, (some FieldType.int), [], am_i110_0)
def am_i111_0 : List am_I := [(0, .aload_n 0, 1, []), (1, .invokevirtual 144, 3, [1, 112, 1, 6, 928, 929, 930, 25, 931]), (4, .fstore_n 1, 1, []), (5, .iconst 0, 1, []), (6, .ireturn, 1, []), (7, .astore_n 1, 1, []), (8, .iconst 1, 1, []), (9, .ireturn, 1, [])]
def am_m111 : am_M := (⟨"CombCylinderLaw", "hasNone", "(LCombCylinder;)Z"⟩, method_6_code, 2, (some FieldType.boolean), [(0, 6, 7, 148)], am_i111_0)
def am_i112_0 : List am_I := [(0, .iconst 0, 1, []), (1, .istore_n 1, 1, []), (2, .iconst 0, 1, []), (3, .istore_n 2, 1, []), (4, .iconst 0, 1, []), (5, .istore_n 3, 1, []), (6, .iload_n 3, 1, []), (7, .bipush 28, 2, []), (9, .if_icmp .ge 39, 3, []), (12, .aload_n 0, 1, []), (13, .getfield 11, 3, [6, 0, 263]), (16, .iload_n 3, 1, []), (17, .aaload, 1, []), (18, .invokevirtual 230, 3, [1, 14, 1, 5, 327, 328, 329, 30, 330]), (21, .ifCond .eq 21, 3, []), (24, .iinc 2 1, 3, []), (27, .aload_n 0, 1, []), (28, .getfield 11, 3, [6, 0, 263]), (31, .iload_n 3, 1, []), (32, .aaload, 1, []), (33, .invokevirtual 100, 3, [1, 39, 1, 5, 583, 584, 585, 30, 586]), (36, .ifCond .eq 6, 3, []), (39, .iinc 1 1, 3, []), (42, .iinc 3 1, 3, []), (45, .goto (-39), 3, []), (48, .iload_n 2, 1, []), (49, .ifCond .ne 14, 3, []), (52, .new 375, 3, [9, 5]), (55, .dup, 1, []), (56, .ldc_w 377, 3, []), (59, .invokespecial 379, 3, []), (62, .athrow, 1, []), (63, .iload_n 1, 1, []), (64, .i2f, 1, []), (65, .iload_n 2, 1, []), (66, .i2f, 1, []), (67, .fdiv, 1, []), (68, .freturn, 1, [])]
def am_m112 : am_M := (⟨"CombCylinder", "inTuneShare", "()F"⟩, prog_1_method_50_code, 4, (some FieldType.float), [], am_i112_0)
def am_i113_0 : List am_I := [(0, .new 8, 3, [6, 47, 48, 25]), (3, .dup, 1, []), (4, .invokespecial 150, 3, [0, 0, 1, 49, 50, 25, 51]), (7, .astore_n 1, 1, []), (8, .iconst 4, 1, []), (9, .anewarray 208, 3, [104, 938, 161]), (12, .astore_n 2, 1, []), (13, .iconst 0, 1, []), (14, .istore_n 3, 1, []), (15, .iload_n 3, 1, []), (16, .bipush 40, 2, []), (18, .if_icmp .ge 640, 3, []), (21, .aload_n 0, 1, []), (22, .iload_n 3, 1, []), (23, .invokestatic 210, 3, [0, 114, 2, 939, 940, 24, 941]), (26, .ldc 214, 2, [0, 100000000, 942]), (28, .invokestatic 215, 3, [0, 115, 2, 943, 944, 24, 945]), (31, .istore 4, 2, []), (33, .iload 4, 2, []), (35, .iconst 4, 1, []), (36, .idiv, 1, []), (37, .iconst 4, 1, []), (38, .irem, 1, []), (39, .istore 5, 2, []), (41, .aload_n 2, 1, []), (42, .iload 5, 2, []), (44, .aaload, 1, []), (45, .astore 6, 2, []), (47, .iload 4, 2, []), (49, .iconst 4, 1, []), (50, .irem, 1, []), (51, .tableswitch 264 0 2 #[25, 124, 124], 25, []), (76, .aload 6, 2, []), (78, .ifnull 16, 3, []), (81, .iload 4, 2, []), (83, .bipush 16, 2, []), (85, .idiv, 1, []), (86, .iconst 3, 1, []), (87, .irem, 1, []), (88, .ifCond .le 6, 3, []), (91, .goto 324, 3, []), (94, .bipush 100, 2, []), (96, .iload 4, 2, []), (98, .bipush 48, 2, []), (100, .idiv, 1, []), (101, .sipush 301, 3, []), (104, .irem, 1, []), (105, .iadd, 1, []), (106, .istore 7, 2, []), (108, .aload_n 2, 1, []), (109, .iload 5, 2, []), (111, .iconst 5, 1, []), (112, .newarray .int, 2, [189]), (114, .dup, 1, []), (115, .iconst 0, 1, []), (116, .iload 7, 2, []), (118, .iastore, 1, []), (119, .dup, 1, []), (120, .iconst 1, 1, []), (121, .bipush 100, 2, [])]
def am_i113_1 : List am_I := [(123, .iastore, 1, []), (124, .dup, 1, []), (125, .iconst 2, 1, []), (126, .iconst 0, 1, []), (127, .iastore, 1, []), (128, .dup, 1, []), (129, .iconst 3, 1, []), (130, .iconst 0, 1, []), (131, .iastore, 1, []), (132, .dup, 1, []), (133, .iconst 4, 1, []), (134, .iconst 0, 1, []), (135, .iastore, 1, []), (136, .aastore, 1, []), (137, .aload_n 1, 1, []), (138, .bipush 84, 2, []), (140, .iconst 3, 1, []), (141, .newarray .int, 2, [189]), (143, .dup, 1, []), (144, .iconst 0, 1, []), (145, .iload 5, 2, []), (147, .iastore, 1, []), (148, .dup, 1, []), (149, .iconst 1, 1, []), (150, .iload 7, 2, []), (152, .iastore, 1, []), (153, .dup, 1, []), (154, .iconst 2, 1, []), (155, .iconst 0, 1, []), (156, .iastore, 1, []), (157, .invokestatic 195, 3, [0, 26, 3, 387, 388, 24, 389]), (160, .aload 6, 2, []), (162, .ifnonnull 7, 3, []), (165, .iconst 0, 1, []), (166, .goto 4, 3, []), (169, .iconst 1, 1, []), (170, .if_icmp .eq 245, 3, []), (173, .iconst 0, 1, []), (174, .ireturn, 1, []), (175, .iconst 1, 1, []), (176, .iload 4, 2, []), (178, .bipush 16, 2, []), (180, .idiv, 1, []), (181, .bipush 30, 2, []), (183, .irem, 1, []), (184, .iadd, 1, []), (185, .istore 8, 2, []), (187, .iload 4, 2, []), (189, .sipush 480, 3, []), (192, .idiv, 1, []), (193, .iconst 2, 1, []), (194, .irem, 1, []), (195, .ifCond .ne 7, 3, []), (198, .iconst 1, 1, []), (199, .goto 4, 3, []), (202, .iconst 0, 1, []), (203, .istore 9, 2, []), (205, .aload 6, 2, []), (207, .ifnonnull 8, 3, []), (210, .ldc 87, 2, [0, 2294967291, 910])]
def am_i113_2 : List am_I := [(212, .goto 21, 3, []), (215, .aload 6, 2, []), (217, .iconst 1, 1, []), (218, .iaload, 1, []), (219, .iload 8, 2, []), (221, .isub, 1, []), (222, .bipush 40, 2, []), (224, .if_icmp .ge 8, 3, []), (227, .ldc 84, 2, [0, 2294967292, 909]), (229, .goto 4, 3, []), (232, .iconst 0, 1, []), (233, .istore 10, 2, []), (235, .iload 10, 2, []), (237, .ifCond .ne 37, 3, []), (240, .aload 6, 2, []), (242, .iconst 1, 1, []), (243, .dup2, 1, []), (244, .iaload, 1, []), (245, .iload 8, 2, []), (247, .isub, 1, []), (248, .iastore, 1, []), (249, .aload 6, 2, []), (251, .iload 9, 2, []), (253, .ifCond .eq 7, 3, []), (256, .iconst 2, 1, []), (257, .goto 4, 3, []), (260, .iconst 3, 1, []), (261, .dup2, 1, []), (262, .iaload, 1, []), (263, .iload 8, 2, []), (265, .iadd, 1, []), (266, .iastore, 1, []), (267, .aload 6, 2, []), (269, .invokestatic 218, 3, [0, 116, 1, 946, 947, 24, 948]), (272, .istore 10, 2, []), (274, .aload_n 1, 1, []), (275, .bipush 70, 2, []), (277, .iconst 3, 1, []), (278, .newarray .int, 2, [189]), (280, .dup, 1, []), (281, .iconst 0, 1, []), (282, .iload 5, 2, []), (284, .iastore, 1, []), (285, .dup, 1, []), (286, .iconst 1, 1, []), (287, .iload 9, 2, []), (289, .ifCond .eq 8, 3, []), (292, .bipush 116, 2, []), (294, .goto 5, 3, []), (297, .bipush 114, 2, []), (299, .iastore, 1, []), (300, .dup, 1, []), (301, .iconst 2, 1, []), (302, .iload 8, 2, []), (304, .iastore, 1, []), (305, .invokestatic 195, 3, [0, 26, 3, 387, 388, 24, 389]), (308, .iload 10, 2, []), (310, .if_icmp .eq 105, 3, []), (313, .iconst 0, 1, []), (314, .ireturn, 1, [])]
def am_i113_3 : List am_I := [(315, .iload 4, 2, []), (317, .bipush 16, 2, []), (319, .idiv, 1, []), (320, .bipush 101, 2, []), (322, .irem, 1, []), (323, .bipush 50, 2, []), (325, .isub, 1, []), (326, .istore 11, 2, []), (328, .aload 6, 2, []), (330, .ifnonnull 8, 3, []), (333, .ldc 87, 2, [0, 2294967291, 910]), (335, .goto 31, 3, []), (338, .aload 6, 2, []), (340, .iconst 4, 1, []), (341, .iaload, 1, []), (342, .iload 11, 2, []), (344, .iadd, 1, []), (345, .ifCond .lt 15, 3, []), (348, .aload 6, 2, []), (350, .iconst 4, 1, []), (351, .iaload, 1, []), (352, .iload 11, 2, []), (354, .iadd, 1, []), (355, .bipush 100, 2, []), (357, .if_icmp .le 8, 3, []), (360, .ldc 84, 2, [0, 2294967292, 909]), (362, .goto 4, 3, []), (365, .iconst 0, 1, []), (366, .istore 12, 2, []), (368, .iload 12, 2, []), (370, .ifCond .ne 19, 3, []), (373, .aload 6, 2, []), (375, .iconst 4, 1, []), (376, .dup2, 1, []), (377, .iaload, 1, []), (378, .iload 11, 2, []), (380, .iadd, 1, []), (381, .iastore, 1, []), (382, .aload 6, 2, []), (384, .invokestatic 218, 3, [0, 116, 1, 946, 947, 24, 948]), (387, .istore 12, 2, []), (389, .aload_n 1, 1, []), (390, .bipush 76, 2, []), (392, .iconst 2, 1, []), (393, .newarray .int, 2, [189]), (395, .dup, 1, []), (396, .iconst 0, 1, []), (397, .iload 5, 2, []), (399, .iastore, 1, []), (400, .dup, 1, []), (401, .iconst 1, 1, []), (402, .iload 11, 2, []), (404, .iastore, 1, []), (405, .invokestatic 195, 3, [0, 26, 3, 387, 388, 24, 389]), (408, .iload 12, 2, []), (410, .if_icmp .eq 5, 3, []), (413, .iconst 0, 1, []), (414, .ireturn, 1, []), (415, .iconst 0, 1, []), (416, .istore 7, 2, [])]
def am_i113_4 : List am_I := [(418, .iconst 0, 1, []), (419, .istore 8, 2, []), (421, .iconst 0, 1, []), (422, .istore 9, 2, []), (424, .iconst 0, 1, []), (425, .istore 10, 2, []), (427, .iload 10, 2, []), (429, .iconst 4, 1, []), (430, .if_icmp .ge 182, 3, []), (433, .aload_n 2, 1, []), (434, .iload 10, 2, []), (436, .aaload, 1, []), (437, .ifnull 169, 3, []), (440, .aload_n 2, 1, []), (441, .iload 10, 2, []), (443, .aaload, 1, []), (444, .invokestatic 218, 3, [0, 116, 1, 946, 947, 24, 948]), (447, .istore 11, 2, []), (449, .iload 11, 2, []), (451, .bipush 100, 2, []), (453, .irem, 1, []), (454, .bipush 50, 2, []), (456, .if_icmp .lt 13, 3, []), (459, .iload 11, 2, []), (461, .bipush 100, 2, []), (463, .idiv, 1, []), (464, .iconst 1, 1, []), (465, .iadd, 1, []), (466, .goto 8, 3, []), (469, .iload 11, 2, []), (471, .bipush 100, 2, []), (473, .idiv, 1, []), (474, .istore 12, 2, []), (476, .iload 11, 2, []), (478, .bipush 100, 2, []), (480, .iload 12, 2, []), (482, .imul, 1, []), (483, .isub, 1, []), (484, .invokestatic 221, 3, [3, 949, 344, 37, 345]), (487, .istore 13, 2, []), (489, .aload_n 1, 1, []), (490, .bipush 112, 2, []), (492, .iconst 1, 1, []), (493, .newarray .int, 2, [189]), (495, .dup, 1, []), (496, .iconst 0, 1, []), (497, .iload 10, 2, []), (499, .iastore, 1, []), (500, .invokestatic 195, 3, [0, 26, 3, 387, 388, 24, 389]), (503, .iload 11, 2, []), (505, .if_icmp .ne 73, 3, []), (508, .aload_n 1, 1, []), (509, .bipush 110, 2, []), (511, .iconst 1, 1, []), (512, .newarray .int, 2, [189]), (514, .dup, 1, []), (515, .iconst 0, 1, []), (516, .iload 10, 2, []), (518, .iastore, 1, []), (519, .invokestatic 195, 3, [0, 26, 3, 387, 388, 24, 389])]
def am_i113_5 : List am_I := [(522, .iload 12, 2, []), (524, .if_icmp .ne 54, 3, []), (527, .aload_n 1, 1, []), (528, .bipush 116, 2, []), (530, .iconst 1, 1, []), (531, .newarray .int, 2, [189]), (533, .dup, 1, []), (534, .iconst 0, 1, []), (535, .iload 10, 2, []), (537, .iastore, 1, []), (538, .invokestatic 195, 3, [0, 26, 3, 387, 388, 24, 389]), (541, .iload 13, 2, []), (543, .iconst 5, 1, []), (544, .if_icmp .gt 7, 3, []), (547, .iconst 1, 1, []), (548, .goto 4, 3, []), (551, .iconst 0, 1, []), (552, .if_icmp .ne 26, 3, []), (555, .aload_n 1, 1, []), (556, .bipush 115, 2, []), (558, .iconst 1, 1, []), (559, .newarray .int, 2, [189]), (561, .dup, 1, []), (562, .iconst 0, 1, []), (563, .iload 10, 2, []), (565, .iastore, 1, []), (566, .invokestatic 195, 3, [0, 26, 3, 387, 388, 24, 389]), (569, .aload_n 2, 1, []), (570, .iload 10, 2, []), (572, .aaload, 1, []), (573, .iconst 1, 1, []), (574, .iaload, 1, []), (575, .if_icmp .eq 5, 3, []), (578, .iconst 0, 1, []), (579, .ireturn, 1, []), (580, .iinc 8 1, 3, []), (583, .iload 7, 2, []), (585, .iload 13, 2, []), (587, .iconst 5, 1, []), (588, .if_icmp .gt 7, 3, []), (591, .iconst 1, 1, []), (592, .goto 4, 3, []), (595, .iconst 0, 1, []), (596, .iadd, 1, []), (597, .istore 7, 2, []), (599, .iload 9, 2, []), (601, .iload 13, 2, []), (603, .iadd, 1, []), (604, .istore 9, 2, []), (606, .iinc 10 1, 3, []), (609, .goto (-182), 3, []), (612, .iload 8, 2, []), (614, .ifCond .le 38, 3, []), (617, .aload_n 1, 1, []), (618, .invokevirtual 144, 3, [1, 112, 1, 6, 928, 929, 930, 25, 931]), (621, .iload 7, 2, []), (623, .i2f, 1, []), (624, .iload 8, 2, []), (626, .i2f, 1, []), (627, .fdiv, 1, [])]
def am_i113_6 : List am_I := [(628, .fcmp .l, 1, []), (629, .ifCond .ne 21, 3, []), (632, .aload_n 1, 1, []), (633, .invokevirtual 155, 3, [1, 13, 1, 6, 323, 324, 325, 25, 326]), (636, .iload 9, 2, []), (638, .i2d, 1, []), (639, .iload 8, 2, []), (641, .i2d, 1, []), (642, .ddiv, 1, []), (643, .invokestatic 163, 3, [0, 123, 1, 950, 951, 39, 952]), (646, .lcmp, 1, []), (647, .ifCond .eq 5, 3, []), (650, .iconst 0, 1, []), (651, .ireturn, 1, []), (652, .iinc 3 1, 3, []), (655, .goto (-640), 3, []), (658, .aload_n 1, 1, []), (659, .invokevirtual 192, 3, [1, 20, 1, 6, 360, 361, 362, 25, 363]), (662, .ireturn, 1, [])]
def am_m113 : am_M := (⟨"CombCylinderLaw", "tuning", "([I)Z"⟩, method_8_code, 14, (some FieldType.boolean), [], am_i113_0 ++ (am_i113_1 ++ (am_i113_2 ++ (am_i113_3 ++ (am_i113_4 ++ (am_i113_5 ++ (am_i113_6)))))))
def am_i114_0 : List am_I := [(0, .iload_n 1, 1, []), (1, .aload_n 0, 1, []), (2, .arraylength, 1, []), (3, .if_icmp .ge 9, 3, []), (6, .aload_n 0, 1, []), (7, .iload_n 1, 1, []), (8, .iaload, 1, []), (9, .goto 4, 3, []), (12, .iconst 0, 1, []), (13, .ireturn, 1, [])]
def am_m114 : am_M := (⟨"CombCylinderLaw", "at", "([II)I"⟩, method_2_code, 2, (some FieldType.int), [], am_i114_0)
def am_i115_0 : List am_I := [(0, .iload_n 0, 1, []), (1, .iload_n 1, 1, []), (2, .irem, 1, []), (3, .istore_n 2, 1, []), (4, .iload_n 2, 1, []), (5, .ifCond .ge 9, 3, []), (8, .iload_n 2, 1, []), (9, .iload_n 1, 1, []), (10, .iadd, 1, []), (11, .goto 4, 3, []), (14, .iload_n 2, 1, []), (15, .ireturn, 1, [])]
def am_m115 : am_M := (⟨"CombCylinderLaw", "some", "(II)I"⟩, method_3_code, 3, (some FieldType.int), [], am_i115_0)
def am_i116_0 : List am_I := [(0, .sipush 10000, 3, []), (3, .bipush 20, 2, []), (5, .aload_n 0, 1, []), (6, .iconst 0, 1, []), (7, .iaload, 1, []), (8, .imul, 1, []), (9, .isub, 1, []), (10, .iconst 4, 1, []), (11, .aload_n 0, 1, []), (12, .iconst 2, 1, []), (13, .iaload, 1, []), (14, .imul, 1, []), (15, .iadd, 1, []), (16, .bipush 6, 2, []), (18, .aload_n 0, 1, []), (19, .iconst 3, 1, []), (20, .iaload, 1, []), (21, .imul, 1, []), (22, .isub, 1, []), (23, .iconst 3, 1, []), (24, .aload_n 0, 1, []), (25, .iconst 4, 1, []), (26, .iaload, 1, []), (27, .imul, 1, []), (28, .isub, 1, []), (29, .ireturn, 1, [])]
def am_m116 : am_M := (⟨"CombCylinderLaw", "pitch", "([I)I"⟩, method_9_code, 1, (some FieldType.int), [], am_i116_0)
def am_i117_0 : List am_I := [(0, .new 8, 3, [6, 47, 48, 25]), (3, .dup, 1, []), (4, .invokespecial 150, 3, [0, 0, 1, 49, 50, 25, 51]), (7, .astore_n 1, 1, []), (8, .lconst 0, 1, []), (9, .lstore_n 2, 1, []), (10, .iconst 0, 1, []), (11, .istore 4, 2, []), (13, .iload 4, 2, []), (15, .bipush 20, 2, []), (17, .if_icmp .ge 212, 3, []), (20, .bipush 38, 2, []), (22, .aload_n 0, 1, []), (23, .bipush 40, 2, []), (25, .iload 4, 2, []), (27, .iadd, 1, []), (28, .invokestatic 210, 3, [0, 114, 2, 939, 940, 24, 941]), (31, .bipush 9, 2, []), (33, .invokestatic 215, 3, [0, 115, 2, 943, 944, 24, 945]), (36, .iadd, 1, []), (37, .istore 5, 2, []), (39, .bipush 19, 2, []), (41, .aload_n 0, 1, []), (42, .bipush 60, 2, []), (44, .iload 4, 2, []), (46, .iadd, 1, []), (47, .invokestatic 210, 3, [0, 114, 2, 939, 940, 24, 941]), (50, .iconst 5, 1, []), (51, .invokestatic 215, 3, [0, 115, 2, 943, 944, 24, 945]), (54, .iadd, 1, []), (55, .istore 6, 2, []), (57, .iload 5, 2, []), (59, .bipush 39, 2, []), (61, .if_icmp .le 28, 3, []), (64, .iload 5, 2, []), (66, .bipush 45, 2, []), (68, .if_icmp .ge 21, 3, []), (71, .iload 6, 2, []), (73, .bipush 19, 2, []), (75, .if_icmp .le 14, 3, []), (78, .iload 6, 2, []), (80, .bipush 23, 2, []), (82, .if_icmp .ge 7, 3, []), (85, .iconst 1, 1, []), (86, .goto 4, 3, []), (89, .iconst 0, 1, []), (90, .istore 7, 2, []), (92, .aload_n 1, 1, []), (93, .iload 5, 2, []), (95, .iload 6, 2, []), (97, .invokevirtual 226, 3, [1, 118, 3, 6, 963, 964, 965, 25, 966]), (100, .iload 7, 2, []), (102, .if_icmp .eq 5, 3, []), (105, .iconst 0, 1, []), (106, .ireturn, 1, []), (107, .lload_n 2, 1, []), (108, .iload 7, 2, []), (110, .ifCond .eq 7, 3, []), (113, .lconst 1, 1, []), (114, .goto 4, 3, [])]
def am_i117_1 : List am_I := [(117, .lconst 0, 1, []), (118, .ladd, 1, []), (119, .lstore_n 2, 1, []), (120, .aload_n 0, 1, []), (121, .bipush 80, 2, []), (123, .iload 4, 2, []), (125, .iadd, 1, []), (126, .invokestatic 210, 3, [0, 114, 2, 939, 940, 24, 941]), (129, .iconst 3, 1, []), (130, .invokestatic 215, 3, [0, 115, 2, 943, 944, 24, 945]), (133, .ifCond .ne 8, 3, []), (136, .ldc 231, 2, [0, 2147483648, 967]), (138, .goto 27, 3, []), (141, .aload_n 0, 1, []), (142, .bipush 80, 2, []), (144, .iload 4, 2, []), (146, .iadd, 1, []), (147, .invokestatic 210, 3, [0, 114, 2, 939, 940, 24, 941]), (150, .iconst 3, 1, []), (151, .invokestatic 215, 3, [0, 115, 2, 943, 944, 24, 945]), (154, .iconst 1, 1, []), (155, .if_icmp .ne 8, 3, []), (158, .ldc 232, 2, [0, 2147483647, 968]), (160, .goto 5, 3, []), (163, .bipush 25, 2, []), (165, .istore 8, 2, []), (167, .lload_n 2, 1, []), (168, .iload 8, 2, []), (170, .i2l, 1, []), (171, .lmul, 1, []), (172, .lstore 9, 2, []), (174, .lload 9, 2, []), (176, .ldc2_w 233, 3, [1, 2147483647, 969]), (179, .lcmp, 1, []), (180, .ifCond .le 9, 3, []), (183, .ldc2_w 233, 3, [1, 2147483647, 969]), (186, .goto 20, 3, []), (189, .lload 9, 2, []), (191, .ldc2_w 235, 3, [1, 18446744071562067968, 970]), (194, .lcmp, 1, []), (195, .ifCond .ge 9, 3, []), (198, .ldc2_w 235, 3, [1, 18446744071562067968, 970]), (201, .goto 5, 3, []), (204, .lload 9, 2, []), (206, .lstore 11, 2, []), (208, .aload_n 1, 1, []), (209, .iload 8, 2, []), (211, .invokevirtual 176, 3, [1, 12, 2, 6, 311, 312, 313, 25, 314]), (214, .i2l, 1, []), (215, .lload 11, 2, []), (217, .lcmp, 1, []), (218, .ifCond .eq 5, 3, []), (221, .iconst 0, 1, []), (222, .ireturn, 1, []), (223, .iinc 4 1, 3, []), (226, .goto (-213), 3, []), (229, .aload_n 1, 1, []), (230, .ldc 232, 2, [0, 2147483647, 968]), (232, .bipush 21, 2, []), (234, .invokevirtual 226, 3, [1, 118, 3, 6, 963, 964, 965, 25, 966])]
def am_i117_2 : List am_I := [(237, .ifCond .ne 18, 3, []), (240, .aload_n 1, 1, []), (241, .bipush 42, 2, []), (243, .ldc 231, 2, [0, 2147483648, 967]), (245, .invokevirtual 226, 3, [1, 118, 3, 6, 963, 964, 965, 25, 966]), (248, .ifCond .ne 7, 3, []), (251, .iconst 1, 1, []), (252, .goto 4, 3, []), (255, .iconst 0, 1, []), (256, .ireturn, 1, [])]
def am_m117 : am_M := (⟨"CombCylinderLaw", "coins", "([I)Z"⟩, method_10_code, 13, (some FieldType.boolean), [], am_i117_0 ++ (am_i117_1 ++ (am_i117_2)))
def am_i118_0 : List am_I := [(0, .iload_n 1, 1, []), (1, .bipush 40, 2, []), (3, .bipush 44, 2, []), (5, .invokestatic 127, 3, [0, 22, 3, 368, 369, 25, 370]), (8, .ifCond .eq 18, 3, []), (11, .iload_n 2, 1, []), (12, .bipush 20, 2, []), (14, .bipush 22, 2, []), (16, .invokestatic 127, 3, [0, 22, 3, 368, 369, 25, 370]), (19, .ifCond .eq 7, 3, []), (22, .iconst 1, 1, []), (23, .goto 4, 3, []), (26, .iconst 0, 1, []), (27, .istore_n 3, 1, []), (28, .iload_n 3, 1, []), (29, .ifCond .eq 13, 3, []), (32, .aload_n 0, 1, []), (33, .dup, 1, []), (34, .getfield 46, 3, [6, 6, 269]), (37, .iconst 1, 1, []), (38, .iadd, 1, []), (39, .putfield 46, 3, [6, 6, 269]), (42, .iload_n 3, 1, []), (43, .ireturn, 1, [])]
def am_m118 : am_M := (⟨"CombCylinder", "coin", "(II)Z"⟩, prog_1_method_48_code, 4, (some FieldType.boolean), [], am_i118_0)
def am_i119_0 : List am_I := [(0, .new 8, 3, [6, 47, 48, 25]), (3, .dup, 1, []), (4, .invokespecial 150, 3, [0, 0, 1, 49, 50, 25, 51]), (7, .astore_n 0, 1, []), (8, .iconst 0, 1, []), (9, .istore_n 1, 1, []), (10, .iload_n 1, 1, []), (11, .bipush 30, 2, []), (13, .if_icmp .ge 50, 3, []), (16, .aload_n 0, 1, []), (17, .bipush 119, 2, []), (19, .iconst 4, 1, []), (20, .newarray .int, 2, [189]), (22, .dup, 1, []), (23, .iconst 0, 1, []), (24, .iconst 3, 1, []), (25, .iastore, 1, []), (26, .dup, 1, []), (27, .iconst 1, 1, []), (28, .sipush 599, 3, []), (31, .iload_n 1, 1, []), (32, .isub, 1, []), (33, .iastore, 1, []), (34, .dup, 1, []), (35, .iconst 2, 1, []), (36, .iconst 1, 1, []), (37, .iload_n 1, 1, []), (38, .iadd, 1, []), (39, .iastore, 1, []), (40, .dup, 1, []), (41, .iconst 3, 1, []), (42, .iload_n 1, 1, []), (43, .iconst 4, 1, []), (44, .irem, 1, []), (45, .iastore, 1, []), (46, .invokestatic 195, 3, [0, 26, 3, 387, 388, 24, 389]), (49, .iload_n 1, 1, []), (50, .iconst 1, 1, []), (51, .iadd, 1, []), (52, .if_icmp .eq 5, 3, []), (55, .iconst 0, 1, []), (56, .ireturn, 1, []), (57, .iinc 1 1, 3, []), (60, .goto (-50), 3, []), (63, .aload_n 0, 1, []), (64, .bipush 119, 2, []), (66, .iconst 4, 1, []), (67, .newarray .int, 2, [189]), (69, .dup, 1, []), (70, .iconst 0, 1, []), (71, .iconst 3, 1, []), (72, .iastore, 1, []), (73, .dup, 1, []), (74, .iconst 1, 1, []), (75, .iconst 0, 1, []), (76, .iastore, 1, []), (77, .dup, 1, []), (78, .iconst 2, 1, []), (79, .iconst 1, 1, []), (80, .iastore, 1, [])]
def am_i119_1 : List am_I := [(81, .dup, 1, []), (82, .iconst 3, 1, []), (83, .iconst 0, 1, []), (84, .iastore, 1, []), (85, .invokestatic 195, 3, [0, 26, 3, 387, 388, 24, 389]), (88, .ldc 81, 2, [0, 2294967293, 908]), (90, .if_icmp .ne 72, 3, []), (93, .aload_n 0, 1, []), (94, .bipush 101, 2, []), (96, .iconst 1, 1, []), (97, .newarray .int, 2, [189]), (99, .dup, 1, []), (100, .iconst 0, 1, []), (101, .iconst 3, 1, []), (102, .iastore, 1, []), (103, .invokestatic 195, 3, [0, 26, 3, 387, 388, 24, 389]), (106, .bipush 30, 2, []), (108, .if_icmp .ne 54, 3, []), (111, .aload_n 0, 1, []), (112, .bipush 119, 2, []), (114, .iconst 4, 1, []), (115, .newarray .int, 2, [189]), (117, .dup, 1, []), (118, .iconst 0, 1, []), (119, .iconst 3, 1, []), (120, .iastore, 1, []), (121, .dup, 1, []), (122, .iconst 1, 1, []), (123, .iconst 0, 1, []), (124, .iastore, 1, []), (125, .dup, 1, []), (126, .iconst 2, 1, []), (127, .iconst 1, 1, []), (128, .iastore, 1, []), (129, .dup, 1, []), (130, .iconst 3, 1, []), (131, .iconst 0, 1, []), (132, .iastore, 1, []), (133, .invokestatic 195, 3, [0, 26, 3, 387, 388, 24, 389]), (136, .iconst 1, 1, []), (137, .if_icmp .ne 25, 3, []), (140, .aload_n 0, 1, []), (141, .bipush 67, 2, []), (143, .iconst 2, 1, []), (144, .newarray .int, 2, [189]), (146, .dup, 1, []), (147, .iconst 0, 1, []), (148, .sipush 600, 3, []), (151, .iastore, 1, []), (152, .dup, 1, []), (153, .iconst 1, 1, []), (154, .iconst 1, 1, []), (155, .iastore, 1, []), (156, .invokestatic 195, 3, [0, 26, 3, 387, 388, 24, 389]), (159, .ifCond .eq 5, 3, []), (162, .iconst 0, 1, []), (163, .ireturn, 1, []), (164, .iconst 0, 1, []), (165, .istore_n 1, 1, []), (166, .iload_n 1, 1, [])]
def am_i119_2 : List am_I := [(167, .bipush 60, 2, []), (169, .if_icmp .ge 49, 3, []), (172, .aload_n 0, 1, []), (173, .bipush 80, 2, []), (175, .iconst 4, 1, []), (176, .newarray .int, 2, [189]), (178, .dup, 1, []), (179, .iconst 0, 1, []), (180, .iconst 0, 1, []), (181, .iastore, 1, []), (182, .dup, 1, []), (183, .iconst 1, 1, []), (184, .iconst 2, 1, []), (185, .iload_n 1, 1, []), (186, .imul, 1, []), (187, .iastore, 1, []), (188, .dup, 1, []), (189, .iconst 2, 1, []), (190, .iload_n 1, 1, []), (191, .iconst 2, 1, []), (192, .irem, 1, []), (193, .bipush 24, 2, []), (195, .iadd, 1, []), (196, .iastore, 1, []), (197, .dup, 1, []), (198, .iconst 3, 1, []), (199, .iconst 0, 1, []), (200, .iastore, 1, []), (201, .invokestatic 195, 3, [0, 26, 3, 387, 388, 24, 389]), (204, .iload_n 1, 1, []), (205, .iconst 1, 1, []), (206, .iadd, 1, []), (207, .if_icmp .eq 5, 3, []), (210, .iconst 0, 1, []), (211, .ireturn, 1, []), (212, .iinc 1 1, 3, []), (215, .goto (-49), 3, []), (218, .aload_n 0, 1, []), (219, .bipush 80, 2, []), (221, .iconst 4, 1, []), (222, .newarray .int, 2, [189]), (224, .dup, 1, []), (225, .iconst 0, 1, []), (226, .iconst 0, 1, []), (227, .iastore, 1, []), (228, .dup, 1, []), (229, .iconst 1, 1, []), (230, .sipush 500, 3, []), (233, .iastore, 1, []), (234, .dup, 1, []), (235, .iconst 2, 1, []), (236, .iconst 0, 1, []), (237, .iastore, 1, []), (238, .dup, 1, []), (239, .iconst 3, 1, []), (240, .iconst 0, 1, []), (241, .iastore, 1, []), (242, .invokestatic 195, 3, [0, 26, 3, 387, 388, 24, 389]), (245, .ldc 84, 2, [0, 2294967292, 909]), (247, .if_icmp .ne 79, 3, [])]
def am_i119_3 : List am_I := [(250, .aload_n 0, 1, []), (251, .bipush 87, 2, []), (253, .iconst 1, 1, []), (254, .newarray .int, 2, [189]), (256, .dup, 1, []), (257, .iconst 0, 1, []), (258, .bipush 20, 2, []), (260, .iastore, 1, []), (261, .invokestatic 195, 3, [0, 26, 3, 387, 388, 24, 389]), (264, .bipush 80, 2, []), (266, .if_icmp .ne 60, 3, []), (269, .aload_n 0, 1, []), (270, .bipush 87, 2, []), (272, .iconst 1, 1, []), (273, .newarray .int, 2, [189]), (275, .dup, 1, []), (276, .iconst 0, 1, []), (277, .iconst 1, 1, []), (278, .iastore, 1, []), (279, .invokestatic 195, 3, [0, 26, 3, 387, 388, 24, 389]), (282, .bipush 80, 2, []), (284, .if_icmp .ne 42, 3, []), (287, .aload_n 0, 1, []), (288, .bipush 89, 2, []), (290, .iconst 1, 1, []), (291, .newarray .int, 2, [189]), (293, .dup, 1, []), (294, .iconst 0, 1, []), (295, .bipush 40, 2, []), (297, .iastore, 1, []), (298, .invokestatic 195, 3, [0, 26, 3, 387, 388, 24, 389]), (301, .ifCond .ne 25, 3, []), (304, .aload_n 0, 1, []), (305, .bipush 87, 2, []), (307, .iconst 1, 1, []), (308, .newarray .int, 2, [189]), (310, .dup, 1, []), (311, .iconst 0, 1, []), (312, .iconst 1, 1, []), (313, .iastore, 1, []), (314, .invokestatic 195, 3, [0, 26, 3, 387, 388, 24, 389]), (317, .bipush 44, 2, []), (319, .if_icmp .ne 7, 3, []), (322, .iconst 1, 1, []), (323, .goto 4, 3, []), (326, .iconst 0, 1, []), (327, .istore_n 1, 1, []), (328, .aload_n 0, 1, []), (329, .bipush 66, 2, []), (331, .iconst 2, 1, []), (332, .newarray .int, 2, [189]), (334, .dup, 1, []), (335, .iconst 0, 1, []), (336, .bipush 24, 2, []), (338, .iastore, 1, []), (339, .dup, 1, []), (340, .iconst 1, 1, []), (341, .bipush 60, 2, []), (343, .iastore, 1, []), (344, .invokestatic 195, 3, [0, 26, 3, 387, 388, 24, 389])]
def am_i119_4 : List am_I := [(347, .ifCond .ne 112, 3, []), (350, .aload_n 0, 1, []), (351, .bipush 89, 2, []), (353, .iconst 1, 1, []), (354, .newarray .int, 2, [189]), (356, .dup, 1, []), (357, .iconst 0, 1, []), (358, .iconst 2, 1, []), (359, .iastore, 1, []), (360, .invokestatic 195, 3, [0, 26, 3, 387, 388, 24, 389]), (363, .bipush 60, 2, []), (365, .if_icmp .ne 94, 3, []), (368, .aload_n 0, 1, []), (369, .bipush 82, 2, []), (371, .iconst 0, 1, []), (372, .newarray .int, 2, [189]), (374, .invokestatic 195, 3, [0, 26, 3, 387, 388, 24, 389]), (377, .ifCond .ne 82, 3, []), (380, .aload_n 0, 1, []), (381, .bipush 107, 2, []), (383, .iconst 1, 1, []), (384, .newarray .int, 2, [189]), (386, .dup, 1, []), (387, .iconst 0, 1, []), (388, .bipush 24, 2, []), (390, .iastore, 1, []), (391, .invokestatic 195, 3, [0, 26, 3, 387, 388, 24, 389]), (394, .sipush 150, 3, []), (397, .if_icmp .ne 62, 3, []), (400, .aload_n 0, 1, []), (401, .bipush 120, 2, []), (403, .iconst 1, 1, []), (404, .newarray .int, 2, [189]), (406, .dup, 1, []), (407, .iconst 0, 1, []), (408, .bipush 24, 2, []), (410, .iastore, 1, []), (411, .invokestatic 195, 3, [0, 26, 3, 387, 388, 24, 389]), (414, .ifCond .ne 45, 3, []), (417, .aload_n 0, 1, []), (418, .bipush 109, 2, []), (420, .iconst 1, 1, []), (421, .newarray .int, 2, [189]), (423, .dup, 1, []), (424, .iconst 0, 1, []), (425, .iconst 0, 1, []), (426, .iastore, 1, []), (427, .invokestatic 195, 3, [0, 26, 3, 387, 388, 24, 389]), (430, .bipush 30, 2, []), (432, .if_icmp .ne 27, 3, []), (435, .aload_n 0, 1, []), (436, .bipush 112, 2, []), (438, .iconst 1, 1, []), (439, .newarray .int, 2, [189]), (441, .dup, 1, []), (442, .iconst 0, 1, []), (443, .bipush 24, 2, []), (445, .iastore, 1, []), (446, .invokestatic 195, 3, [0, 26, 3, 387, 388, 24, 389]), (449, .sipush 6000, 3, [])]
def am_i119_5 : List am_I := [(452, .if_icmp .ne 7, 3, []), (455, .iconst 1, 1, []), (456, .goto 4, 3, []), (459, .iconst 0, 1, []), (460, .istore_n 2, 1, []), (461, .iload_n 1, 1, []), (462, .ifCond .eq 42, 3, []), (465, .iload_n 2, 1, []), (466, .ifCond .eq 38, 3, []), (469, .aload_n 0, 1, []), (470, .bipush 67, 2, []), (472, .iconst 2, 1, []), (473, .newarray .int, 2, [189]), (475, .dup, 1, []), (476, .iconst 0, 1, []), (477, .bipush 40, 2, []), (479, .iastore, 1, []), (480, .dup, 1, []), (481, .iconst 1, 1, []), (482, .bipush 6, 2, []), (484, .iastore, 1, []), (485, .invokestatic 195, 3, [0, 26, 3, 387, 388, 24, 389]), (488, .bipush 30, 2, []), (490, .if_icmp .ne 14, 3, []), (493, .aload_n 0, 1, []), (494, .invokevirtual 192, 3, [1, 20, 1, 6, 360, 361, 362, 25, 363]), (497, .ifCond .eq 7, 3, []), (500, .iconst 1, 1, []), (501, .goto 4, 3, []), (504, .iconst 0, 1, []), (505, .ireturn, 1, [])]
def am_m119 : am_M := (⟨"CombCylinderLaw", "full", "()Z"⟩, method_11_code, 3, (some FieldType.boolean), [], am_i119_0 ++ (am_i119_1 ++ (am_i119_2 ++ (am_i119_3 ++ (am_i119_4 ++ (am_i119_5))))))
def am_i120_0 : List am_I := [(0, .new 8, 3, [6, 47, 48, 25]), (3, .dup, 1, []), (4, .invokespecial 150, 3, [0, 0, 1, 49, 50, 25, 51]), (7, .astore_n 1, 1, []), (8, .aload_n 1, 1, []), (9, .invokestatic 151, 3, [0, 111, 1, 911, 912, 24, 913]), (12, .ifCond .eq 1234, 3, []), (15, .aload_n 1, 1, []), (16, .invokevirtual 155, 3, [1, 13, 1, 6, 323, 324, 325, 25, 326]), (19, .ldc2_w 161, 3, [3, 9221120237041090560, 984]), (22, .invokestatic 163, 3, [0, 123, 1, 950, 951, 39, 952]), (25, .lcmp, 1, []), (26, .ifCond .ne 1220, 3, []), (29, .aload_n 1, 1, []), (30, .invokevirtual 167, 3, [1, 11, 1, 6, 307, 308, 309, 25, 310]), (33, .dconst 0, 1, []), (34, .dcmp .l, 1, []), (35, .ifCond .ne 1211, 3, []), (38, .aload_n 1, 1, []), (39, .invokevirtual 171, 3, [1, 19, 1, 6, 353, 354, 355, 25, 356]), (42, .ldc2_w 174, 3, [1, 217, 985]), (45, .lcmp, 1, []), (46, .ifCond .ne 1200, 3, []), (49, .aload_n 1, 1, []), (50, .iconst 5, 1, []), (51, .invokevirtual 176, 3, [1, 12, 2, 6, 311, 312, 313, 25, 314]), (54, .ifCond .ne 1192, 3, []), (57, .aload_n 1, 1, []), (58, .iconst 0, 1, []), (59, .invokevirtual 179, 3, [1, 7, 2, 6, 291, 292, 293, 25, 294]), (62, .ifCond .ne 1184, 3, []), (65, .aload_n 1, 1, []), (66, .invokevirtual 183, 3, [1, 8, 1, 6, 295, 296, 297, 25, 298]), (69, .fconst 1, 1, []), (70, .invokestatic 186, 3, [0, 121, 1, 974, 975, 40, 976]), (73, .if_icmp .ne 1173, 3, []), (76, .aload_n 1, 1, []), (77, .invokevirtual 192, 3, [1, 20, 1, 6, 360, 361, 362, 25, 363]), (80, .ifCond .eq 1166, 3, []), (83, .aload_n 1, 1, []), (84, .bipush 67, 2, []), (86, .iconst 2, 1, []), (87, .newarray .int, 2, [189]), (89, .dup, 1, []), (90, .iconst 0, 1, []), (91, .bipush 39, 2, []), (93, .iastore, 1, []), (94, .dup, 1, []), (95, .iconst 1, 1, []), (96, .iconst 1, 1, []), (97, .iastore, 1, []), (98, .invokestatic 195, 3, [0, 26, 3, 387, 388, 24, 389]), (101, .ldc 78, 2, [0, 2294967294, 907]), (103, .if_icmp .ne 1143, 3, []), (106, .aload_n 1, 1, []), (107, .bipush 67, 2, []), (109, .iconst 2, 1, []), (110, .newarray .int, 2, [189]), (112, .dup, 1, []), (113, .iconst 0, 1, [])]
def am_i120_1 : List am_I := [(114, .bipush 40, 2, []), (116, .iastore, 1, []), (117, .dup, 1, []), (118, .iconst 1, 1, []), (119, .bipush 7, 2, []), (121, .iastore, 1, []), (122, .invokestatic 195, 3, [0, 26, 3, 387, 388, 24, 389]), (125, .ldc 78, 2, [0, 2294967294, 907]), (127, .if_icmp .ne 1119, 3, []), (130, .aload_n 1, 1, []), (131, .bipush 84, 2, []), (133, .iconst 3, 1, []), (134, .newarray .int, 2, [189]), (136, .dup, 1, []), (137, .iconst 0, 1, []), (138, .bipush 28, 2, []), (140, .iastore, 1, []), (141, .dup, 1, []), (142, .iconst 1, 1, []), (143, .bipush 100, 2, []), (145, .iastore, 1, []), (146, .dup, 1, []), (147, .iconst 2, 1, []), (148, .iconst 0, 1, []), (149, .iastore, 1, []), (150, .invokestatic 195, 3, [0, 26, 3, 387, 388, 24, 389]), (153, .ldc 75, 2, [0, 2294967295, 906]), (155, .if_icmp .ne 1091, 3, []), (158, .aload_n 1, 1, []), (159, .bipush 84, 2, []), (161, .iconst 3, 1, []), (162, .newarray .int, 2, [189]), (164, .dup, 1, []), (165, .iconst 0, 1, []), (166, .bipush 24, 2, []), (168, .iastore, 1, []), (169, .dup, 1, []), (170, .iconst 1, 1, []), (171, .bipush 99, 2, []), (173, .iastore, 1, []), (174, .dup, 1, []), (175, .iconst 2, 1, []), (176, .iconst 0, 1, []), (177, .iastore, 1, []), (178, .invokestatic 195, 3, [0, 26, 3, 387, 388, 24, 389]), (181, .ldc 78, 2, [0, 2294967294, 907]), (183, .if_icmp .ne 1063, 3, []), (186, .aload_n 1, 1, []), (187, .bipush 84, 2, []), (189, .iconst 3, 1, []), (190, .newarray .int, 2, [189]), (192, .dup, 1, []), (193, .iconst 0, 1, []), (194, .bipush 24, 2, []), (196, .iastore, 1, []), (197, .dup, 1, []), (198, .iconst 1, 1, []), (199, .bipush 100, 2, []), (201, .iastore, 1, []), (202, .dup, 1, [])]
def am_i120_2 : List am_I := [(203, .iconst 2, 1, []), (204, .iconst 0, 1, []), (205, .iastore, 1, []), (206, .invokestatic 195, 3, [0, 26, 3, 387, 388, 24, 389]), (209, .ldc 84, 2, [0, 2294967292, 909]), (211, .if_icmp .ne 1035, 3, []), (214, .aload_n 1, 1, []), (215, .bipush 84, 2, []), (217, .iconst 3, 1, []), (218, .newarray .int, 2, [189]), (220, .dup, 1, []), (221, .iconst 0, 1, []), (222, .iconst 0, 1, []), (223, .iastore, 1, []), (224, .dup, 1, []), (225, .iconst 1, 1, []), (226, .bipush 100, 2, []), (228, .iastore, 1, []), (229, .dup, 1, []), (230, .iconst 2, 1, []), (231, .iconst 3, 1, []), (232, .iastore, 1, []), (233, .invokestatic 195, 3, [0, 26, 3, 387, 388, 24, 389]), (236, .ldc 78, 2, [0, 2294967294, 907]), (238, .if_icmp .ne 1008, 3, []), (241, .aload_n 1, 1, []), (242, .bipush 66, 2, []), (244, .iconst 2, 1, []), (245, .newarray .int, 2, [189]), (247, .dup, 1, []), (248, .iconst 0, 1, []), (249, .iconst (-1), 1, []), (250, .iastore, 1, []), (251, .dup, 1, []), (252, .iconst 1, 1, []), (253, .iconst 1, 1, []), (254, .iastore, 1, []), (255, .invokestatic 195, 3, [0, 26, 3, 387, 388, 24, 389]), (258, .ldc 75, 2, [0, 2294967295, 906]), (260, .if_icmp .ne 986, 3, []), (263, .aload_n 1, 1, []), (264, .bipush 66, 2, []), (266, .iconst 2, 1, []), (267, .newarray .int, 2, [189]), (269, .dup, 1, []), (270, .iconst 0, 1, []), (271, .iconst 0, 1, []), (272, .iastore, 1, []), (273, .dup, 1, []), (274, .iconst 1, 1, []), (275, .bipush 121, 2, []), (277, .iastore, 1, []), (278, .invokestatic 195, 3, [0, 26, 3, 387, 388, 24, 389]), (281, .ldc 78, 2, [0, 2294967294, 907]), (283, .if_icmp .ne 963, 3, []), (286, .aload_n 1, 1, []), (287, .bipush 66, 2, []), (289, .iconst 2, 1, []), (290, .newarray .int, 2, [189]), (292, .dup, 1, [])]
def am_i120_3 : List am_I := [(293, .iconst 0, 1, []), (294, .bipush 23, 2, []), (296, .iastore, 1, []), (297, .dup, 1, []), (298, .iconst 1, 1, []), (299, .iconst 1, 1, []), (300, .iastore, 1, []), (301, .invokestatic 195, 3, [0, 26, 3, 387, 388, 24, 389]), (304, .ldc 84, 2, [0, 2294967292, 909]), (306, .if_icmp .ne 940, 3, []), (309, .aload_n 1, 1, []), (310, .bipush 112, 2, []), (312, .iconst 1, 1, []), (313, .newarray .int, 2, [189]), (315, .dup, 1, []), (316, .iconst 0, 1, []), (317, .bipush 28, 2, []), (319, .iastore, 1, []), (320, .invokestatic 195, 3, [0, 26, 3, 387, 388, 24, 389]), (323, .ldc 75, 2, [0, 2294967295, 906]), (325, .if_icmp .ne 921, 3, []), (328, .aload_n 1, 1, []), (329, .bipush 112, 2, []), (331, .iconst 1, 1, []), (332, .newarray .int, 2, [189]), (334, .dup, 1, []), (335, .iconst 0, 1, []), (336, .iconst 0, 1, []), (337, .iastore, 1, []), (338, .invokestatic 195, 3, [0, 26, 3, 387, 388, 24, 389]), (341, .ldc 87, 2, [0, 2294967291, 910]), (343, .if_icmp .ne 903, 3, []), (346, .aload_n 1, 1, []), (347, .bipush 110, 2, []), (349, .iconst 1, 1, []), (350, .newarray .int, 2, [189]), (352, .dup, 1, []), (353, .iconst 0, 1, []), (354, .iconst 0, 1, []), (355, .iastore, 1, []), (356, .invokestatic 195, 3, [0, 26, 3, 387, 388, 24, 389]), (359, .ldc 87, 2, [0, 2294967291, 910]), (361, .if_icmp .ne 885, 3, []), (364, .aload_n 1, 1, []), (365, .bipush 116, 2, []), (367, .iconst 1, 1, []), (368, .newarray .int, 2, [189]), (370, .dup, 1, []), (371, .iconst 0, 1, []), (372, .iconst 0, 1, []), (373, .iastore, 1, []), (374, .invokestatic 195, 3, [0, 26, 3, 387, 388, 24, 389]), (377, .ldc 87, 2, [0, 2294967291, 910]), (379, .if_icmp .ne 867, 3, []), (382, .aload_n 1, 1, []), (383, .bipush 70, 2, []), (385, .iconst 3, 1, []), (386, .newarray .int, 2, [189]), (388, .dup, 1, []), (389, .iconst 0, 1, [])]
def am_i120_4 : List am_I := [(390, .bipush 24, 2, []), (392, .iastore, 1, []), (393, .dup, 1, []), (394, .iconst 1, 1, []), (395, .bipush 116, 2, []), (397, .iastore, 1, []), (398, .dup, 1, []), (399, .iconst 2, 1, []), (400, .iconst 1, 1, []), (401, .iastore, 1, []), (402, .invokestatic 195, 3, [0, 26, 3, 387, 388, 24, 389]), (405, .ldc 75, 2, [0, 2294967295, 906]), (407, .if_icmp .ne 839, 3, []), (410, .aload_n 1, 1, []), (411, .bipush 70, 2, []), (413, .iconst 3, 1, []), (414, .newarray .int, 2, [189]), (416, .dup, 1, []), (417, .iconst 0, 1, []), (418, .iconst 0, 1, []), (419, .iastore, 1, []), (420, .dup, 1, []), (421, .iconst 1, 1, []), (422, .bipush 120, 2, []), (424, .iastore, 1, []), (425, .dup, 1, []), (426, .iconst 2, 1, []), (427, .iconst 1, 1, []), (428, .iastore, 1, []), (429, .invokestatic 195, 3, [0, 26, 3, 387, 388, 24, 389]), (432, .ldc 78, 2, [0, 2294967294, 907]), (434, .if_icmp .ne 812, 3, []), (437, .aload_n 1, 1, []), (438, .bipush 70, 2, []), (440, .iconst 3, 1, []), (441, .newarray .int, 2, [189]), (443, .dup, 1, []), (444, .iconst 0, 1, []), (445, .iconst 0, 1, []), (446, .iastore, 1, []), (447, .dup, 1, []), (448, .iconst 1, 1, []), (449, .bipush 116, 2, []), (451, .iastore, 1, []), (452, .dup, 1, []), (453, .iconst 2, 1, []), (454, .bipush 61, 2, []), (456, .iastore, 1, []), (457, .invokestatic 195, 3, [0, 26, 3, 387, 388, 24, 389]), (460, .ldc 78, 2, [0, 2294967294, 907]), (462, .if_icmp .ne 784, 3, []), (465, .aload_n 1, 1, []), (466, .bipush 70, 2, []), (468, .iconst 3, 1, []), (469, .newarray .int, 2, [189]), (471, .dup, 1, []), (472, .iconst 0, 1, []), (473, .iconst 0, 1, []), (474, .iastore, 1, []), (475, .dup, 1, [])]
def am_i120_5 : List am_I := [(476, .iconst 1, 1, []), (477, .bipush 116, 2, []), (479, .iastore, 1, []), (480, .dup, 1, []), (481, .iconst 2, 1, []), (482, .iconst 1, 1, []), (483, .iastore, 1, []), (484, .invokestatic 195, 3, [0, 26, 3, 387, 388, 24, 389]), (487, .ldc 87, 2, [0, 2294967291, 910]), (489, .if_icmp .ne 757, 3, []), (492, .aload_n 1, 1, []), (493, .bipush 76, 2, []), (495, .iconst 2, 1, []), (496, .newarray .int, 2, [189]), (498, .dup, 1, []), (499, .iconst 0, 1, []), (500, .bipush 24, 2, []), (502, .iastore, 1, []), (503, .dup, 1, []), (504, .iconst 1, 1, []), (505, .iconst 0, 1, []), (506, .iastore, 1, []), (507, .invokestatic 195, 3, [0, 26, 3, 387, 388, 24, 389]), (510, .ldc 75, 2, [0, 2294967295, 906]), (512, .if_icmp .ne 734, 3, []), (515, .aload_n 1, 1, []), (516, .bipush 76, 2, []), (518, .iconst 2, 1, []), (519, .newarray .int, 2, [189]), (521, .dup, 1, []), (522, .iconst 0, 1, []), (523, .iconst 0, 1, []), (524, .iastore, 1, []), (525, .dup, 1, []), (526, .iconst 1, 1, []), (527, .bipush 51, 2, []), (529, .iastore, 1, []), (530, .invokestatic 195, 3, [0, 26, 3, 387, 388, 24, 389]), (533, .ldc 78, 2, [0, 2294967294, 907]), (535, .if_icmp .ne 711, 3, []), (538, .aload_n 1, 1, []), (539, .bipush 76, 2, []), (541, .iconst 2, 1, []), (542, .newarray .int, 2, [189]), (544, .dup, 1, []), (545, .iconst 0, 1, []), (546, .iconst 0, 1, []), (547, .iastore, 1, []), (548, .dup, 1, []), (549, .iconst 1, 1, []), (550, .iconst 1, 1, []), (551, .iastore, 1, []), (552, .invokestatic 195, 3, [0, 26, 3, 387, 388, 24, 389]), (555, .ldc 87, 2, [0, 2294967291, 910]), (557, .if_icmp .ne 689, 3, []), (560, .aload_n 1, 1, []), (561, .bipush 115, 2, []), (563, .iconst 1, 1, []), (564, .newarray .int, 2, [189]), (566, .dup, 1, [])]
def am_i120_6 : List am_I := [(567, .iconst 0, 1, []), (568, .bipush 24, 2, []), (570, .iastore, 1, []), (571, .invokestatic 195, 3, [0, 26, 3, 387, 388, 24, 389]), (574, .ldc 75, 2, [0, 2294967295, 906]), (576, .if_icmp .ne 670, 3, []), (579, .aload_n 1, 1, []), (580, .bipush 115, 2, []), (582, .iconst 1, 1, []), (583, .newarray .int, 2, [189]), (585, .dup, 1, []), (586, .iconst 0, 1, []), (587, .iconst 0, 1, []), (588, .iastore, 1, []), (589, .invokestatic 195, 3, [0, 26, 3, 387, 388, 24, 389]), (592, .ldc 87, 2, [0, 2294967291, 910]), (594, .if_icmp .ne 652, 3, []), (597, .aload_n 1, 1, []), (598, .bipush 68, 2, []), (600, .iconst 2, 1, []), (601, .newarray .int, 2, [189]), (603, .dup, 1, []), (604, .iconst 0, 1, []), (605, .iconst 0, 1, []), (606, .iastore, 1, []), (607, .dup, 1, []), (608, .iconst 1, 1, []), (609, .bipush 120, 2, []), (611, .iastore, 1, []), (612, .invokestatic 195, 3, [0, 26, 3, 387, 388, 24, 389]), (615, .ldc 78, 2, [0, 2294967294, 907]), (617, .if_icmp .ne 629, 3, []), (620, .aload_n 1, 1, []), (621, .bipush 68, 2, []), (623, .iconst 2, 1, []), (624, .newarray .int, 2, [189]), (626, .dup, 1, []), (627, .iconst 0, 1, []), (628, .iconst 0, 1, []), (629, .iastore, 1, []), (630, .dup, 1, []), (631, .iconst 1, 1, []), (632, .bipush 119, 2, []), (634, .iastore, 1, []), (635, .invokestatic 195, 3, [0, 26, 3, 387, 388, 24, 389]), (638, .ldc 87, 2, [0, 2294967291, 910]), (640, .if_icmp .ne 606, 3, []), (643, .aload_n 1, 1, []), (644, .bipush 98, 2, []), (646, .iconst 2, 1, []), (647, .newarray .int, 2, [189]), (649, .dup, 1, []), (650, .iconst 0, 1, []), (651, .iconst 0, 1, []), (652, .iastore, 1, []), (653, .dup, 1, []), (654, .iconst 1, 1, []), (655, .iconst 1, 1, []), (656, .iastore, 1, []), (657, .invokestatic 195, 3, [0, 26, 3, 387, 388, 24, 389])]
def am_i120_7 : List am_I := [(660, .ldc 87, 2, [0, 2294967291, 910]), (662, .if_icmp .ne 584, 3, []), (665, .aload_n 1, 1, []), (666, .bipush 100, 2, []), (668, .iconst 1, 1, []), (669, .newarray .int, 2, [189]), (671, .dup, 1, []), (672, .iconst 0, 1, []), (673, .bipush 28, 2, []), (675, .iastore, 1, []), (676, .invokestatic 195, 3, [0, 26, 3, 387, 388, 24, 389]), (679, .ldc 75, 2, [0, 2294967295, 906]), (681, .if_icmp .ne 565, 3, []), (684, .aload_n 1, 1, []), (685, .bipush 119, 2, []), (687, .iconst 4, 1, []), (688, .newarray .int, 2, [189]), (690, .dup, 1, []), (691, .iconst 0, 1, []), (692, .bipush 6, 2, []), (694, .iastore, 1, []), (695, .dup, 1, []), (696, .iconst 1, 1, []), (697, .iconst 0, 1, []), (698, .iastore, 1, []), (699, .dup, 1, []), (700, .iconst 2, 1, []), (701, .iconst 1, 1, []), (702, .iastore, 1, []), (703, .dup, 1, []), (704, .iconst 3, 1, []), (705, .iconst 0, 1, []), (706, .iastore, 1, []), (707, .invokestatic 195, 3, [0, 26, 3, 387, 388, 24, 389]), (710, .ldc 75, 2, [0, 2294967295, 906]), (712, .if_icmp .ne 534, 3, []), (715, .aload_n 1, 1, []), (716, .bipush 119, 2, []), (718, .iconst 4, 1, []), (719, .newarray .int, 2, [189]), (721, .dup, 1, []), (722, .iconst 0, 1, []), (723, .iconst 0, 1, []), (724, .iastore, 1, []), (725, .dup, 1, []), (726, .iconst 1, 1, []), (727, .sipush 600, 3, []), (730, .iastore, 1, []), (731, .dup, 1, []), (732, .iconst 2, 1, []), (733, .iconst 1, 1, []), (734, .iastore, 1, []), (735, .dup, 1, []), (736, .iconst 3, 1, []), (737, .iconst 0, 1, []), (738, .iastore, 1, []), (739, .invokestatic 195, 3, [0, 26, 3, 387, 388, 24, 389]), (742, .ldc 78, 2, [0, 2294967294, 907]), (744, .if_icmp .ne 502, 3, []), (747, .aload_n 1, 1, [])]
def am_i120_8 : List am_I := [(748, .bipush 119, 2, []), (750, .iconst 4, 1, []), (751, .newarray .int, 2, [189]), (753, .dup, 1, []), (754, .iconst 0, 1, []), (755, .iconst 0, 1, []), (756, .iastore, 1, []), (757, .dup, 1, []), (758, .iconst 1, 1, []), (759, .iconst 0, 1, []), (760, .iastore, 1, []), (761, .dup, 1, []), (762, .iconst 2, 1, []), (763, .bipush 121, 2, []), (765, .iastore, 1, []), (766, .dup, 1, []), (767, .iconst 3, 1, []), (768, .iconst 0, 1, []), (769, .iastore, 1, []), (770, .invokestatic 195, 3, [0, 26, 3, 387, 388, 24, 389]), (773, .ldc 78, 2, [0, 2294967294, 907]), (775, .if_icmp .ne 471, 3, []), (778, .aload_n 1, 1, []), (779, .bipush 119, 2, []), (781, .iconst 4, 1, []), (782, .newarray .int, 2, [189]), (784, .dup, 1, []), (785, .iconst 0, 1, []), (786, .iconst 0, 1, []), (787, .iastore, 1, []), (788, .dup, 1, []), (789, .iconst 1, 1, []), (790, .iconst 0, 1, []), (791, .iastore, 1, []), (792, .dup, 1, []), (793, .iconst 2, 1, []), (794, .iconst 1, 1, []), (795, .iastore, 1, []), (796, .dup, 1, []), (797, .iconst 3, 1, []), (798, .iconst 4, 1, []), (799, .iastore, 1, []), (800, .invokestatic 195, 3, [0, 26, 3, 387, 388, 24, 389]), (803, .ldc 78, 2, [0, 2294967294, 907]), (805, .if_icmp .ne 441, 3, []), (808, .aload_n 1, 1, []), (809, .bipush 101, 2, []), (811, .iconst 1, 1, []), (812, .newarray .int, 2, [189]), (814, .dup, 1, []), (815, .iconst 0, 1, []), (816, .bipush 6, 2, []), (818, .iastore, 1, []), (819, .invokestatic 195, 3, [0, 26, 3, 387, 388, 24, 389]), (822, .ldc 75, 2, [0, 2294967295, 906]), (824, .if_icmp .ne 422, 3, []), (827, .aload_n 1, 1, []), (828, .bipush 101, 2, []), (830, .iconst 1, 1, []), (831, .newarray .int, 2, [189])]
def am_i120_9 : List am_I := [(833, .dup, 1, []), (834, .iconst 0, 1, []), (835, .iconst 0, 1, []), (836, .iastore, 1, []), (837, .invokestatic 195, 3, [0, 26, 3, 387, 388, 24, 389]), (840, .ifCond .ne 406, 3, []), (843, .aload_n 1, 1, []), (844, .bipush 80, 2, []), (846, .iconst 4, 1, []), (847, .newarray .int, 2, [189]), (849, .dup, 1, []), (850, .iconst 0, 1, []), (851, .bipush 9, 2, []), (853, .iastore, 1, []), (854, .dup, 1, []), (855, .iconst 1, 1, []), (856, .iconst 0, 1, []), (857, .iastore, 1, []), (858, .dup, 1, []), (859, .iconst 2, 1, []), (860, .iconst 0, 1, []), (861, .iastore, 1, []), (862, .dup, 1, []), (863, .iconst 3, 1, []), (864, .bipush 9, 2, []), (866, .iastore, 1, []), (867, .invokestatic 195, 3, [0, 26, 3, 387, 388, 24, 389]), (870, .ldc 81, 2, [0, 2294967293, 908]), (872, .if_icmp .ne 374, 3, []), (875, .aload_n 1, 1, []), (876, .bipush 85, 2, []), (878, .iconst 3, 1, []), (879, .newarray .int, 2, [189]), (881, .dup, 1, []), (882, .iconst 0, 1, []), (883, .iconst 0, 1, []), (884, .iastore, 1, []), (885, .dup, 1, []), (886, .iconst 1, 1, []), (887, .iconst 0, 1, []), (888, .iastore, 1, []), (889, .dup, 1, []), (890, .iconst 2, 1, []), (891, .iconst 0, 1, []), (892, .iastore, 1, []), (893, .invokestatic 195, 3, [0, 26, 3, 387, 388, 24, 389]), (896, .ldc 81, 2, [0, 2294967293, 908]), (898, .if_icmp .ne 348, 3, []), (901, .aload_n 1, 1, []), (902, .bipush 109, 2, []), (904, .iconst 1, 1, []), (905, .newarray .int, 2, [189]), (907, .dup, 1, []), (908, .iconst 0, 1, []), (909, .bipush 6, 2, []), (911, .iastore, 1, []), (912, .invokestatic 195, 3, [0, 26, 3, 387, 388, 24, 389]), (915, .ldc 75, 2, [0, 2294967295, 906]), (917, .if_icmp .ne 329, 3, []), (920, .aload_n 1, 1, [])]
def am_i120_10 : List am_I := [(921, .bipush 109, 2, []), (923, .iconst 1, 1, []), (924, .newarray .int, 2, [189]), (926, .dup, 1, []), (927, .iconst 0, 1, []), (928, .iconst 5, 1, []), (929, .iastore, 1, []), (930, .invokestatic 195, 3, [0, 26, 3, 387, 388, 24, 389]), (933, .ifCond .ne 313, 3, []), (936, .aload_n 1, 1, []), (937, .bipush 114, 2, []), (939, .iconst 0, 1, []), (940, .newarray .int, 2, [189]), (942, .invokestatic 195, 3, [0, 26, 3, 387, 388, 24, 389]), (945, .ldc 81, 2, [0, 2294967293, 908]), (947, .if_icmp .ne 299, 3, []), (950, .aload_n 1, 1, []), (951, .bipush 99, 2, []), (953, .iconst 0, 1, []), (954, .newarray .int, 2, [189]), (956, .invokestatic 195, 3, [0, 26, 3, 387, 388, 24, 389]), (959, .ldc 81, 2, [0, 2294967293, 908]), (961, .if_icmp .ne 285, 3, []), (964, .aload_n 1, 1, []), (965, .bipush 65, 2, []), (967, .iconst 1, 1, []), (968, .newarray .int, 2, [189]), (970, .dup, 1, []), (971, .iconst 0, 1, []), (972, .iconst 0, 1, []), (973, .iastore, 1, []), (974, .invokestatic 195, 3, [0, 26, 3, 387, 388, 24, 389]), (977, .ldc 81, 2, [0, 2294967293, 908]), (979, .if_icmp .ne 267, 3, []), (982, .aload_n 1, 1, []), (983, .bipush 83, 2, []), (985, .iconst 1, 1, []), (986, .newarray .int, 2, [189]), (988, .dup, 1, []), (989, .iconst 0, 1, []), (990, .iconst 0, 1, []), (991, .iastore, 1, []), (992, .invokestatic 195, 3, [0, 26, 3, 387, 388, 24, 389]), (995, .ldc 81, 2, [0, 2294967293, 908]), (997, .if_icmp .ne 249, 3, []), (1000, .aload_n 1, 1, []), (1001, .bipush 104, 2, []), (1003, .iconst 0, 1, []), (1004, .newarray .int, 2, [189]), (1006, .invokestatic 195, 3, [0, 26, 3, 387, 388, 24, 389]), (1009, .ldc 81, 2, [0, 2294967293, 908]), (1011, .if_icmp .ne 235, 3, []), (1014, .aload_n 1, 1, []), (1015, .bipush 87, 2, []), (1017, .iconst 1, 1, []), (1018, .newarray .int, 2, [189]), (1020, .dup, 1, []), (1021, .iconst 0, 1, []), (1022, .bipush 21, 2, []), (1024, .iastore, 1, [])]
def am_i120_11 : List am_I := [(1025, .invokestatic 195, 3, [0, 26, 3, 387, 388, 24, 389]), (1028, .ldc 78, 2, [0, 2294967294, 907]), (1030, .if_icmp .ne 216, 3, []), (1033, .aload_n 1, 1, []), (1034, .bipush 102, 2, []), (1036, .iconst 1, 1, []), (1037, .newarray .int, 2, [189]), (1039, .dup, 1, []), (1040, .iconst 0, 1, []), (1041, .bipush 51, 2, []), (1043, .iastore, 1, []), (1044, .invokestatic 195, 3, [0, 26, 3, 387, 388, 24, 389]), (1047, .ldc 78, 2, [0, 2294967294, 907]), (1049, .if_icmp .ne 197, 3, []), (1052, .aload_n 1, 1, []), (1053, .bipush 102, 2, []), (1055, .iconst 1, 1, []), (1056, .newarray .int, 2, [189]), (1058, .dup, 1, []), (1059, .iconst 0, 1, []), (1060, .iconst 0, 1, []), (1061, .iastore, 1, []), (1062, .invokestatic 195, 3, [0, 26, 3, 387, 388, 24, 389]), (1065, .ldc 78, 2, [0, 2294967294, 907]), (1067, .if_icmp .ne 179, 3, []), (1070, .aload_n 1, 1, []), (1071, .bipush 89, 2, []), (1073, .iconst 1, 1, []), (1074, .newarray .int, 2, [189]), (1076, .dup, 1, []), (1077, .iconst 0, 1, []), (1078, .iconst 0, 1, []), (1079, .iastore, 1, []), (1080, .invokestatic 195, 3, [0, 26, 3, 387, 388, 24, 389]), (1083, .ldc 81, 2, [0, 2294967293, 908]), (1085, .if_icmp .ne 161, 3, []), (1088, .aload_n 1, 1, []), (1089, .bipush 107, 2, []), (1091, .iconst 1, 1, []), (1092, .newarray .int, 2, [189]), (1094, .dup, 1, []), (1095, .iconst 0, 1, []), (1096, .iconst 0, 1, []), (1097, .iastore, 1, []), (1098, .invokestatic 195, 3, [0, 26, 3, 387, 388, 24, 389]), (1101, .ldc 87, 2, [0, 2294967291, 910]), (1103, .if_icmp .ne 143, 3, []), (1106, .aload_n 1, 1, []), (1107, .bipush 122, 2, []), (1109, .iconst 1, 1, []), (1110, .newarray .int, 2, [189]), (1112, .dup, 1, []), (1113, .iconst 0, 1, []), (1114, .iconst 0, 1, []), (1115, .iastore, 1, []), (1116, .invokestatic 195, 3, [0, 26, 3, 387, 388, 24, 389]), (1119, .ldc 81, 2, [0, 2294967293, 908]), (1121, .if_icmp .ne 125, 3, []), (1124, .aload_n 1, 1, []), (1125, .bipush 111, 2, [])]
def am_i120_12 : List am_I := [(1127, .iconst 1, 1, []), (1128, .newarray .int, 2, [189]), (1130, .dup, 1, []), (1131, .iconst 0, 1, []), (1132, .iconst 0, 1, []), (1133, .iastore, 1, []), (1134, .invokestatic 195, 3, [0, 26, 3, 387, 388, 24, 389]), (1137, .ldc 81, 2, [0, 2294967293, 908]), (1139, .if_icmp .ne 107, 3, []), (1142, .aload_n 1, 1, []), (1143, .bipush 72, 2, []), (1145, .iconst 2, 1, []), (1146, .newarray .int, 2, [189]), (1148, .dup, 1, []), (1149, .iconst 0, 1, []), (1150, .iconst 0, 1, []), (1151, .iastore, 1, []), (1152, .dup, 1, []), (1153, .iconst 1, 1, []), (1154, .iconst 0, 1, []), (1155, .iastore, 1, []), (1156, .invokestatic 195, 3, [0, 26, 3, 387, 388, 24, 389]), (1159, .ldc 81, 2, [0, 2294967293, 908]), (1161, .if_icmp .ne 85, 3, []), (1164, .aload_n 1, 1, []), (1165, .bipush 82, 2, []), (1167, .iconst 0, 1, []), (1168, .newarray .int, 2, [189]), (1170, .invokestatic 195, 3, [0, 26, 3, 387, 388, 24, 389]), (1173, .ldc 81, 2, [0, 2294967293, 908]), (1175, .if_icmp .ne 71, 3, []), (1178, .aload_n 1, 1, []), (1179, .bipush 120, 2, []), (1181, .iconst 1, 1, []), (1182, .newarray .int, 2, [189]), (1184, .dup, 1, []), (1185, .iconst 0, 1, []), (1186, .iconst 0, 1, []), (1187, .iastore, 1, []), (1188, .invokestatic 195, 3, [0, 26, 3, 387, 388, 24, 389]), (1191, .ldc 87, 2, [0, 2294967291, 910]), (1193, .if_icmp .ne 53, 3, []), (1196, .aload_n 1, 1, []), (1197, .bipush 78, 2, []), (1199, .iconst 0, 1, []), (1200, .newarray .int, 2, [189]), (1202, .invokestatic 195, 3, [0, 26, 3, 387, 388, 24, 389]), (1205, .ldc 81, 2, [0, 2294967293, 908]), (1207, .if_icmp .ne 39, 3, []), (1210, .aload_n 1, 1, []), (1211, .bipush 108, 2, []), (1213, .iconst 1, 1, []), (1214, .newarray .int, 2, [189]), (1216, .dup, 1, []), (1217, .iconst 0, 1, []), (1218, .iconst 0, 1, []), (1219, .iastore, 1, []), (1220, .invokestatic 195, 3, [0, 26, 3, 387, 388, 24, 389]), (1223, .ldc 81, 2, [0, 2294967293, 908]), (1225, .if_icmp .ne 21, 3, [])]
def am_i120_13 : List am_I := [(1228, .aload_n 1, 1, []), (1229, .bipush 75, 2, []), (1231, .iconst 1, 1, []), (1232, .newarray .int, 2, [189]), (1234, .dup, 1, []), (1235, .iconst 0, 1, []), (1236, .iconst 0, 1, []), (1237, .iastore, 1, []), (1238, .invokestatic 195, 3, [0, 26, 3, 387, 388, 24, 389]), (1241, .ldc 81, 2, [0, 2294967293, 908]), (1243, .if_icmp .eq 5, 3, []), (1246, .iconst 0, 1, []), (1247, .ireturn, 1, []), (1248, .aload_n 1, 1, []), (1249, .bipush 67, 2, []), (1251, .iconst 2, 1, []), (1252, .newarray .int, 2, [189]), (1254, .dup, 1, []), (1255, .iconst 0, 1, []), (1256, .bipush 40, 2, []), (1258, .iastore, 1, []), (1259, .dup, 1, []), (1260, .iconst 1, 1, []), (1261, .iconst 2, 1, []), (1262, .iastore, 1, []), (1263, .invokestatic 195, 3, [0, 26, 3, 387, 388, 24, 389]), (1266, .ifCond .ne 494, 3, []), (1269, .aload_n 1, 1, []), (1270, .bipush 80, 2, []), (1272, .iconst 4, 1, []), (1273, .newarray .int, 2, [189]), (1275, .dup, 1, []), (1276, .iconst 0, 1, []), (1277, .iconst 2, 1, []), (1278, .iastore, 1, []), (1279, .dup, 1, []), (1280, .iconst 1, 1, []), (1281, .iconst 0, 1, []), (1282, .iastore, 1, []), (1283, .dup, 1, []), (1284, .iconst 2, 1, []), (1285, .iconst 0, 1, []), (1286, .iastore, 1, []), (1287, .dup, 1, []), (1288, .iconst 3, 1, []), (1289, .iconst 0, 1, []), (1290, .iastore, 1, []), (1291, .invokestatic 195, 3, [0, 26, 3, 387, 388, 24, 389]), (1294, .ldc 75, 2, [0, 2294967295, 906]), (1296, .if_icmp .ne 464, 3, []), (1299, .aload_n 1, 1, []), (1300, .bipush 80, 2, []), (1302, .iconst 4, 1, []), (1303, .newarray .int, 2, [189]), (1305, .dup, 1, []), (1306, .iconst 0, 1, []), (1307, .iconst 0, 1, []), (1308, .iastore, 1, []), (1309, .dup, 1, []), (1310, .iconst 1, 1, [])]
def am_i120_14 : List am_I := [(1311, .bipush 40, 2, []), (1313, .iastore, 1, []), (1314, .dup, 1, []), (1315, .iconst 2, 1, []), (1316, .iconst 0, 1, []), (1317, .iastore, 1, []), (1318, .dup, 1, []), (1319, .iconst 3, 1, []), (1320, .iconst 0, 1, []), (1321, .iastore, 1, []), (1322, .invokestatic 195, 3, [0, 26, 3, 387, 388, 24, 389]), (1325, .ldc 75, 2, [0, 2294967295, 906]), (1327, .if_icmp .ne 433, 3, []), (1330, .aload_n 1, 1, []), (1331, .bipush 80, 2, []), (1333, .iconst 4, 1, []), (1334, .newarray .int, 2, [189]), (1336, .dup, 1, []), (1337, .iconst 0, 1, []), (1338, .iconst 0, 1, []), (1339, .iastore, 1, []), (1340, .dup, 1, []), (1341, .iconst 1, 1, []), (1342, .iconst 0, 1, []), (1343, .iastore, 1, []), (1344, .dup, 1, []), (1345, .iconst 2, 1, []), (1346, .bipush 28, 2, []), (1348, .iastore, 1, []), (1349, .dup, 1, []), (1350, .iconst 3, 1, []), (1351, .iconst 0, 1, []), (1352, .iastore, 1, []), (1353, .invokestatic 195, 3, [0, 26, 3, 387, 388, 24, 389]), (1356, .ldc 75, 2, [0, 2294967295, 906]), (1358, .if_icmp .ne 402, 3, []), (1361, .aload_n 1, 1, []), (1362, .bipush 80, 2, []), (1364, .iconst 4, 1, []), (1365, .newarray .int, 2, [189]), (1367, .dup, 1, []), (1368, .iconst 0, 1, []), (1369, .iconst 0, 1, []), (1370, .iastore, 1, []), (1371, .dup, 1, []), (1372, .iconst 1, 1, []), (1373, .iconst 0, 1, []), (1374, .iastore, 1, []), (1375, .dup, 1, []), (1376, .iconst 2, 1, []), (1377, .iconst 0, 1, []), (1378, .iastore, 1, []), (1379, .dup, 1, []), (1380, .iconst 3, 1, []), (1381, .iconst 3, 1, []), (1382, .iastore, 1, []), (1383, .invokestatic 195, 3, [0, 26, 3, 387, 388, 24, 389]), (1386, .ldc 78, 2, [0, 2294967294, 907]), (1388, .if_icmp .ne 372, 3, []), (1391, .aload_n 1, 1, [])]
def am_i120_15 : List am_I := [(1392, .bipush 85, 2, []), (1394, .iconst 3, 1, []), (1395, .newarray .int, 2, [189]), (1397, .dup, 1, []), (1398, .iconst 0, 1, []), (1399, .iconst 0, 1, []), (1400, .iastore, 1, []), (1401, .dup, 1, []), (1402, .iconst 1, 1, []), (1403, .iconst 0, 1, []), (1404, .iastore, 1, []), (1405, .dup, 1, []), (1406, .iconst 2, 1, []), (1407, .iconst 0, 1, []), (1408, .iastore, 1, []), (1409, .invokestatic 195, 3, [0, 26, 3, 387, 388, 24, 389]), (1412, .ldc 87, 2, [0, 2294967291, 910]), (1414, .if_icmp .ne 346, 3, []), (1417, .aload_n 1, 1, []), (1418, .bipush 65, 2, []), (1420, .iconst 1, 1, []), (1421, .newarray .int, 2, [189]), (1423, .dup, 1, []), (1424, .iconst 0, 1, []), (1425, .iconst 2, 1, []), (1426, .iastore, 1, []), (1427, .invokestatic 195, 3, [0, 26, 3, 387, 388, 24, 389]), (1430, .ldc 75, 2, [0, 2294967295, 906]), (1432, .if_icmp .ne 328, 3, []), (1435, .aload_n 1, 1, []), (1436, .bipush 89, 2, []), (1438, .iconst 1, 1, []), (1439, .newarray .int, 2, [189]), (1441, .dup, 1, []), (1442, .iconst 0, 1, []), (1443, .bipush 41, 2, []), (1445, .iastore, 1, []), (1446, .invokestatic 195, 3, [0, 26, 3, 387, 388, 24, 389]), (1449, .ldc 78, 2, [0, 2294967294, 907]), (1451, .if_icmp .ne 309, 3, []), (1454, .aload_n 1, 1, []), (1455, .bipush 89, 2, []), (1457, .iconst 1, 1, []), (1458, .newarray .int, 2, [189]), (1460, .dup, 1, []), (1461, .iconst 0, 1, []), (1462, .bipush 40, 2, []), (1464, .iastore, 1, []), (1465, .invokestatic 195, 3, [0, 26, 3, 387, 388, 24, 389]), (1468, .ifCond .ne 292, 3, []), (1471, .aload_n 1, 1, []), (1472, .bipush 78, 2, []), (1474, .iconst 0, 1, []), (1475, .newarray .int, 2, [189]), (1477, .invokestatic 195, 3, [0, 26, 3, 387, 388, 24, 389]), (1480, .iconst 1, 1, []), (1481, .if_icmp .ne 279, 3, []), (1484, .aload_n 1, 1, []), (1485, .bipush 108, 2, []), (1487, .iconst 1, 1, [])]
def am_i120_16 : List am_I := [(1488, .newarray .int, 2, [189]), (1490, .dup, 1, []), (1491, .iconst 0, 1, []), (1492, .bipush 24, 2, []), (1494, .iastore, 1, []), (1495, .invokestatic 195, 3, [0, 26, 3, 387, 388, 24, 389]), (1498, .ldc 75, 2, [0, 2294967295, 906]), (1500, .if_icmp .ne 260, 3, []), (1503, .aload_n 1, 1, []), (1504, .bipush 108, 2, []), (1506, .iconst 1, 1, []), (1507, .newarray .int, 2, [189]), (1509, .dup, 1, []), (1510, .iconst 0, 1, []), (1511, .iconst 0, 1, []), (1512, .iastore, 1, []), (1513, .invokestatic 195, 3, [0, 26, 3, 387, 388, 24, 389]), (1516, .ldc 87, 2, [0, 2294967291, 910]), (1518, .if_icmp .ne 242, 3, []), (1521, .aload_n 1, 1, []), (1522, .bipush 75, 2, []), (1524, .iconst 1, 1, []), (1525, .newarray .int, 2, [189]), (1527, .dup, 1, []), (1528, .iconst 0, 1, []), (1529, .iconst 0, 1, []), (1530, .iastore, 1, []), (1531, .invokestatic 195, 3, [0, 26, 3, 387, 388, 24, 389]), (1534, .ldc 87, 2, [0, 2294967291, 910]), (1536, .if_icmp .ne 224, 3, []), (1539, .aload_n 1, 1, []), (1540, .bipush 72, 2, []), (1542, .iconst 2, 1, []), (1543, .newarray .int, 2, [189]), (1545, .dup, 1, []), (1546, .iconst 0, 1, []), (1547, .iconst 0, 1, []), (1548, .iastore, 1, []), (1549, .dup, 1, []), (1550, .iconst 1, 1, []), (1551, .bipush 40, 2, []), (1553, .iastore, 1, []), (1554, .invokestatic 195, 3, [0, 26, 3, 387, 388, 24, 389]), (1557, .ldc 75, 2, [0, 2294967295, 906]), (1559, .if_icmp .ne 201, 3, []), (1562, .aload_n 1, 1, []), (1563, .bipush 99, 2, []), (1565, .iconst 0, 1, []), (1566, .newarray .int, 2, [189]), (1568, .invokestatic 195, 3, [0, 26, 3, 387, 388, 24, 389]), (1571, .ifCond .ne 189, 3, []), (1574, .aload_n 1, 1, []), (1575, .bipush 99, 2, []), (1577, .iconst 0, 1, []), (1578, .newarray .int, 2, [189]), (1580, .invokestatic 195, 3, [0, 26, 3, 387, 388, 24, 389]), (1583, .iconst 1, 1, []), (1584, .if_icmp .ne 176, 3, []), (1587, .aload_n 1, 1, []), (1588, .bipush 65, 2, [])]
def am_i120_17 : List am_I := [(1590, .iconst 1, 1, []), (1591, .newarray .int, 2, [189]), (1593, .dup, 1, []), (1594, .iconst 0, 1, []), (1595, .iconst 0, 1, []), (1596, .iastore, 1, []), (1597, .invokestatic 195, 3, [0, 26, 3, 387, 388, 24, 389]), (1600, .ldc 84, 2, [0, 2294967292, 909]), (1602, .if_icmp .ne 158, 3, []), (1605, .aload_n 1, 1, []), (1606, .bipush 114, 2, []), (1608, .iconst 0, 1, []), (1609, .newarray .int, 2, [189]), (1611, .invokestatic 195, 3, [0, 26, 3, 387, 388, 24, 389]), (1614, .ldc 84, 2, [0, 2294967292, 909]), (1616, .if_icmp .ne 144, 3, []), (1619, .aload_n 1, 1, []), (1620, .bipush 80, 2, []), (1622, .iconst 4, 1, []), (1623, .newarray .int, 2, [189]), (1625, .dup, 1, []), (1626, .iconst 0, 1, []), (1627, .iconst 0, 1, []), (1628, .iastore, 1, []), (1629, .dup, 1, []), (1630, .iconst 1, 1, []), (1631, .iconst 0, 1, []), (1632, .iastore, 1, []), (1633, .dup, 1, []), (1634, .iconst 2, 1, []), (1635, .iconst 0, 1, []), (1636, .iastore, 1, []), (1637, .dup, 1, []), (1638, .iconst 3, 1, []), (1639, .iconst 0, 1, []), (1640, .iastore, 1, []), (1641, .invokestatic 195, 3, [0, 26, 3, 387, 388, 24, 389]), (1644, .ldc 84, 2, [0, 2294967292, 909]), (1646, .if_icmp .ne 114, 3, []), (1649, .aload_n 1, 1, []), (1650, .bipush 67, 2, []), (1652, .iconst 2, 1, []), (1653, .newarray .int, 2, [189]), (1655, .dup, 1, []), (1656, .iconst 0, 1, []), (1657, .bipush 40, 2, []), (1659, .iastore, 1, []), (1660, .dup, 1, []), (1661, .iconst 1, 1, []), (1662, .iconst 1, 1, []), (1663, .iastore, 1, []), (1664, .invokestatic 195, 3, [0, 26, 3, 387, 388, 24, 389]), (1667, .ifCond .ne 93, 3, []), (1670, .aload_n 1, 1, []), (1671, .bipush 80, 2, []), (1673, .iconst 4, 1, []), (1674, .newarray .int, 2, [189]), (1676, .dup, 1, []), (1677, .iconst 0, 1, []), (1678, .iconst 0, 1, [])]
def am_i120_18 : List am_I := [(1679, .iastore, 1, []), (1680, .dup, 1, []), (1681, .iconst 1, 1, []), (1682, .iconst 0, 1, []), (1683, .iastore, 1, []), (1684, .dup, 1, []), (1685, .iconst 2, 1, []), (1686, .iconst 0, 1, []), (1687, .iastore, 1, []), (1688, .dup, 1, []), (1689, .iconst 3, 1, []), (1690, .iconst 0, 1, []), (1691, .iastore, 1, []), (1692, .invokestatic 195, 3, [0, 26, 3, 387, 388, 24, 389]), (1695, .iconst 1, 1, []), (1696, .if_icmp .ne 64, 3, []), (1699, .aload_n 1, 1, []), (1700, .bipush 80, 2, []), (1702, .iconst 4, 1, []), (1703, .newarray .int, 2, [189]), (1705, .dup, 1, []), (1706, .iconst 0, 1, []), (1707, .iconst 0, 1, []), (1708, .iastore, 1, []), (1709, .dup, 1, []), (1710, .iconst 1, 1, []), (1711, .bipush 39, 2, []), (1713, .iastore, 1, []), (1714, .dup, 1, []), (1715, .iconst 2, 1, []), (1716, .iconst 0, 1, []), (1717, .iastore, 1, []), (1718, .dup, 1, []), (1719, .iconst 3, 1, []), (1720, .iconst 0, 1, []), (1721, .iastore, 1, []), (1722, .invokestatic 195, 3, [0, 26, 3, 387, 388, 24, 389]), (1725, .ldc 84, 2, [0, 2294967292, 909]), (1727, .if_icmp .ne 33, 3, []), (1730, .aload_n 1, 1, []), (1731, .bipush 80, 2, []), (1733, .iconst 4, 1, []), (1734, .newarray .int, 2, [189]), (1736, .dup, 1, []), (1737, .iconst 0, 1, []), (1738, .iconst 0, 1, []), (1739, .iastore, 1, []), (1740, .dup, 1, []), (1741, .iconst 1, 1, []), (1742, .bipush 38, 2, []), (1744, .iastore, 1, []), (1745, .dup, 1, []), (1746, .iconst 2, 1, []), (1747, .iconst 0, 1, []), (1748, .iastore, 1, []), (1749, .dup, 1, []), (1750, .iconst 3, 1, []), (1751, .iconst 0, 1, []), (1752, .iastore, 1, []), (1753, .invokestatic 195, 3, [0, 26, 3, 387, 388, 24, 389])]
def am_i120_19 : List am_I := [(1756, .iconst 2, 1, []), (1757, .if_icmp .eq 5, 3, []), (1760, .iconst 0, 1, []), (1761, .ireturn, 1, []), (1762, .aload_n 0, 1, []), (1763, .invokestatic 198, 3, [0, 113, 1, 935, 936, 24, 937]), (1766, .ifCond .eq 20, 3, []), (1769, .aload_n 0, 1, []), (1770, .invokestatic 202, 3, [0, 117, 1, 960, 961, 24, 962]), (1773, .ifCond .eq 13, 3, []), (1776, .invokestatic 205, 3, [0, 119, 0, 971, 972, 24, 973]), (1779, .ifCond .eq 7, 3, []), (1782, .iconst 1, 1, []), (1783, .goto 4, 3, []), (1786, .iconst 0, 1, []), (1787, .ireturn, 1, [])]
def am_m120 : am_M := (⟨"CombCylinderLaw", "law", "([I)Z"⟩, code, 2, (some FieldType.boolean), [], am_i120_0 ++ (am_i120_1 ++ (am_i120_2 ++ (am_i120_3 ++ (am_i120_4 ++ (am_i120_5 ++ (am_i120_6 ++ (am_i120_7 ++ (am_i120_8 ++ (am_i120_9 ++ (am_i120_10 ++ (am_i120_11 ++ (am_i120_12 ++ (am_i120_13 ++ (am_i120_14 ++ (am_i120_15 ++ (am_i120_16 ++ (am_i120_17 ++ (am_i120_18 ++ (am_i120_19))))))))))))))))))))
def am_i121_0 : List am_I := [(0, .fload_n 0, 1, []), (1, .invokestatic 59, 3, [0, 122, 1, 977, 978, 40, 979]), (4, .ifCond .ne 8, 3, []), (7, .fload_n 0, 1, []), (8, .invokestatic 74, 3, [7, 980, 981, 40, 982]), (11, .ireturn, 1, []), (12, .ldc 77, 2, [0, 2143289344, 983]), (14, .ireturn, 1, [])]
def am_m121 : am_M := (⟨"java/lang/Float", "floatToIntBits", "(F)I"⟩, prog_20_method_24_code, 1, (some FieldType.int), [], am_i121_0)
def am_i122_0 : List am_I := [(0, .fload_n 0, 1, []), (1, .fload_n 0, 1, []), (2, .fcmp .l, 1, []), (3, .ifCond .eq 7, 3, []), (6, .iconst 1, 1, []), (7, .goto 4, 3, []), (10, .iconst 0, 1, []), (11, .ireturn, 1, [])]
def am_m122 : am_M := (⟨"java/lang/Float", "isNaN", "(F)Z"⟩, prog_20_method_6_code, 1, (some FieldType.boolean), [], am_i122_0)
def am_i123_0 : List am_I := [(0, .dload_n 0, 1, []), (1, .invokestatic 122, 3, [0, 124, 1, 953, 954, 39, 955]), (4, .ifCond .ne 8, 3, []), (7, .dload_n 0, 1, []), (8, .invokestatic 134, 3, [8, 956, 957, 39, 958]), (11, .lreturn, 1, []), (12, .ldc2_w 137, 3, [1, 9221120237041090560, 959]), (15, .lreturn, 1, [])]
def am_m123 : am_M := (⟨"java/lang/Double", "doubleToLongBits", "(D)J"⟩, prog_18_method_23_code, 2, (some FieldType.long), [], am_i123_0)
def am_i124_0 : List am_I := [(0, .dload_n 0, 1, []), (1, .dload_n 0, 1, []), (2, .dcmp .l, 1, []), (3, .ifCond .eq 7, 3, []), (6, .iconst 1, 1, []), (7, .goto 4, 3, []), (10, .iconst 0, 1, []), (11, .ireturn, 1, [])]
def am_m124 : am_M := (⟨"java/lang/Double", "isNaN", "(D)Z"⟩, prog_18_method_6_code, 2, (some FieldType.boolean), [], am_i124_0)
def am_db : List am_M := [am_m0, am_m1, am_m2, am_m3, am_m4, am_m5, am_m6, am_m7, am_m8, am_m9, am_m10, am_m11, am_m12, am_m13, am_m14, am_m15, am_m16, am_m17, am_m18, am_m19, am_m20, am_m21, am_m22, am_m23, am_m24, am_m25, am_m26, am_m27, am_m28, am_m29, am_m30, am_m31, am_m32, am_m33, am_m34, am_m35, am_m36, am_m37, am_m38, am_m39, am_m40, am_m41, am_m42, am_m43, am_m44, am_m45, am_m46, am_m47, am_m48, am_m49, am_m50, am_m51, am_m52, am_m53, am_m54, am_m55, am_m56, am_m57, am_m58, am_m59, am_m60, am_m61, am_m62, am_m63, am_m64, am_m65, am_m66, am_m67, am_m68, am_m69, am_m70, am_m71, am_m72, am_m73, am_m74, am_m75, am_m76, am_m77, am_m78, am_m79, am_m80, am_m81, am_m82, am_m83, am_m84, am_m85, am_m86, am_m87, am_m88, am_m89, am_m90, am_m91, am_m92, am_m93, am_m94, am_m95, am_m96, am_m97, am_m98, am_m99, am_m100, am_m101, am_m102, am_m103, am_m104, am_m105, am_m106, am_m107, am_m108, am_m109, am_m110, am_m111, am_m112, am_m113, am_m114, am_m115, am_m116, am_m117, am_m118, am_m119, am_m120, am_m121, am_m122, am_m123, am_m124]
def am_hc : List (Nat × Nat) := [(73, 0), (76, 1), (79, 2), (82, 3), (85, 4), (148, 5)]
def am_bl : List (List am_V) := [[(0, 0, []), (0, 0, []), (0, 0, []), (0, 0, []), (0, 0, []), (4, 0, []), (4, 0, [])], [(0, 0, []), (0, 0, []), (0, 0, []), (0, 0, []), (0, 0, []), (0, 0, [])], [(4, 0, []), (4, 0, []), (4, 0, []), (0, 0, [])], [(0, 0, []), (0, 0, []), (3, 0, [])], [(0, 0, []), (4, 0, []), (4, 0, []), (4, 0, []), (4, 0, []), (4, 0, []), (0, 0, [])], [(0, 0, []), (0, 0, []), (0, 0, []), (0, 0, []), (0, 0, []), (0, 0, []), (0, 0, []), (0, 0, []), (0, 0, []), (0, 0, []), (0, 0, []), (0, 0, [])], [(4, 0, []), (4, 0, []), (4, 0, []), (4, 0, []), (4, 0, []), (0, 0, []), (0, 0, []), (0, 0, []), (0, 0, [])]]
end
section
/-! ===== the same program for the run: its operations (laid by wip/p46/gen06.py) ===== -/
noncomputable def am_p0_0 : am_P := [(0, am_oLoad am_tA 0), (1, am_oObj), (4, am_oLoad am_tA 0), (5, am_oPush (0, 28, [])), (7, am_oNewa 101 (4, 0, [])), (10, am_oPut 6 0 (.array (.object "CombCylinder$Voice"))), (13, am_oLoad am_tA 0), (14, am_oPush (0, 6, [])), (16, am_oNewa 102 (4, 0, [])), (19, am_oPut 6 1 (.array (.object "CombCylinder$Sheet"))), (22, am_oLoad am_tA 0), (23, am_oNew 0 [(0, 0, []), (0, 0, []), (0, 0, []), (0, 0, []), (0, 0, []), (4, 0, []), (4, 0, [])]), (26, am_oDup), (27, am_oCallI [] 27 1 1 3 true), (30, am_oPut 6 2 (.object "CombCylinder$Drum")), (33, am_oLoad am_tA 0), (34, am_oNew 3 [(0, 0, []), (0, 0, []), (3, 0, [])]), (37, am_oDup), (38, am_oCallI [] 38 3 1 1 true), (41, am_oPut 6 3 (.object "CombCylinder$Spring")), (44, am_oLoad am_tA 0), (45, am_oNew 4 [(0, 0, []), (4, 0, []), (4, 0, []), (4, 0, []), (4, 0, []), (4, 0, []), (0, 0, [])]), (48, am_oDup), (49, am_oCallI [] 49 4 1 1 true), (52, am_oPut 6 4 (.object "CombCylinder$Tuner")), (55, am_oLoad am_tA 0), (56, am_oPush (0, 0, [])), (57, am_oPut 6 5 .boolean), (60, am_oLoad am_tA 0), (61, am_oPush (0, 0, [])), (62, am_oPut 6 6 .int), (65, am_oLoad am_tA 0), (66, am_oPush (0, 0, [])), (67, am_oPut 6 7 .int), (70, am_oLoad am_tA 0), (71, am_oPush (0, 0, [])), (72, am_oPut 6 8 .int), (75, am_oPush (0, 0, [])), (76, am_oStore am_tI 1), (77, am_oLoad am_tI 1), (78, am_oPush (0, 28, [])), (80, am_oIf2n am_lt 51), (83, am_oLoad am_tA 0), (84, am_oGet 6 0), (87, am_oLoad am_tI 1), (88, am_oNew 5 [(0, 0, []), (0, 0, []), (0, 0, []), (0, 0, []), (0, 0, []), (0, 0, []), (0, 0, []), (0, 0, []), (0, 0, []), (0, 0, []), (0, 0, []), (0, 0, [])]), (91, am_oDup), (92, am_oCallI [] 92 5 1 1 true), (95, am_oAast), (96, am_oIinc 1 1), (99, am_oGoto 39), (102, am_oPush (0, 0, [])), (103, am_oStore am_tI 1), (104, am_oLoad am_tI 1), (105, am_oPush (0, 6, [])), (107, am_oIf2n am_lt 65), (110, am_oLoad am_tA 0), (111, am_oGet 6 1), (114, am_oLoad am_tI 1), (115, am_oNew 2 [(4, 0, []), (4, 0, []), (4, 0, []), (0, 0, [])])]
noncomputable def am_p0_1 : am_P := [(118, am_oDup), (119, am_oCallI [] 119 6 1 1 true), (122, am_oAast), (123, am_oIinc 1 1), (126, am_oGoto 53), (129, am_oRet0 129)]
noncomputable def am_p0 : am_P := am_p0_0 ++ (am_p0_1)
noncomputable def am_p1_0 : am_P := [(0, am_oLoad am_tA 0), (1, am_oObj), (4, am_oLoad am_tA 0), (5, am_oPush (0, 0, [])), (6, am_oPut 0 0 .int), (9, am_oLoad am_tA 0), (10, am_oPush (0, 0, [])), (11, am_oPut 0 1 .int), (14, am_oLoad am_tA 0), (15, am_oPush (0, 0, [])), (16, am_oPut 0 2 .int), (19, am_oLoad am_tA 0), (20, am_oPush (0, 0, [])), (21, am_oPut 0 3 .boolean), (24, am_oLoad am_tA 0), (25, am_oPush (0, 0, [])), (26, am_oPut 0 4 .int), (29, am_oLoad am_tA 0), (30, am_oPush (0, 60, [])), (32, am_oNewa 103 (4, 0, [])), (35, am_oPut 0 5 (.array (.object "CombCylinder$Pin"))), (38, am_oLoad am_tA 0), (39, am_oPush (0, 60, [])), (41, am_oNewa 103 (4, 0, [])), (44, am_oPut 0 6 (.array (.object "CombCylinder$Pin"))), (47, am_oPush (0, 0, [])), (48, am_oStore am_tI 1), (49, am_oLoad am_tI 1), (50, am_oPush (0, 60, [])), (52, am_oIf2n am_lt 46), (55, am_oNew 1 [(0, 0, []), (0, 0, []), (0, 0, []), (0, 0, []), (0, 0, []), (0, 0, [])]), (58, am_oDup), (59, am_oCallI [] 59 2 1 1 true), (62, am_oStore am_tA 2), (63, am_oLoad am_tA 0), (64, am_oGet 0 5), (67, am_oLoad am_tI 1), (68, am_oLoad am_tA 2), (69, am_oAast), (70, am_oLoad am_tA 0), (71, am_oGet 0 6), (74, am_oLoad am_tI 1), (75, am_oLoad am_tA 2), (76, am_oAast), (77, am_oIinc 1 1), (80, am_oGoto 27), (83, am_oRet0 83)]
noncomputable def am_p1 : am_P := am_p1_0
noncomputable def am_p2_0 : am_P := [(0, am_oLoad am_tA 0), (1, am_oObj), (4, am_oLoad am_tA 0), (5, am_oPush (0, 0, [])), (6, am_oPut 1 0 .int), (9, am_oLoad am_tA 0), (10, am_oPush (0, 0, [])), (11, am_oPut 1 1 .int), (14, am_oLoad am_tA 0), (15, am_oPush (0, 0, [])), (16, am_oPut 1 2 .int), (19, am_oLoad am_tA 0), (20, am_oPush (0, 0, [])), (21, am_oPut 1 3 .int), (24, am_oLoad am_tA 0), (25, am_oPush (0, 0, [])), (26, am_oPut 1 4 .int), (29, am_oLoad am_tA 0), (30, am_oPush (0, 0, [])), (31, am_oPut 1 5 .int), (34, am_oRet0 34)]
noncomputable def am_p2 : am_P := am_p2_0
noncomputable def am_p3_0 : am_P := [(0, am_oLoad am_tA 0), (1, am_oObj), (4, am_oLoad am_tA 0), (5, am_oPush (0, 0, [])), (6, am_oPut 3 0 .int), (9, am_oLoad am_tA 0), (10, am_oPush (0, 10, [])), (12, am_oPut 3 1 .int), (15, am_oLoad am_tA 0), (16, am_oPush (3, 0, [])), (17, am_oPut 3 2 .double), (20, am_oRet0 20)]
noncomputable def am_p3 : am_P := am_p3_0
noncomputable def am_p4_0 : am_P := [(0, am_oLoad am_tA 0), (1, am_oObj), (4, am_oLoad am_tA 0), (5, am_oPush (0, 0, [])), (6, am_oPut 4 0 .int), (9, am_oLoad am_tA 0), (10, am_oPush (0, 3, [])), (11, am_oNewa 100 (0, 0, [])), (13, am_oPut 4 1 (.array .int)), (16, am_oLoad am_tA 0), (17, am_oPush (0, 28, [])), (19, am_oNewa 100 (0, 0, [])), (21, am_oPut 4 2 (.array .int)), (24, am_oLoad am_tA 0), (25, am_oPush (0, 3, [])), (26, am_oPush (0, 30, [])), (28, am_oMulti), (32, am_oPut 4 3 (.array (.array .int))), (35, am_oLoad am_tA 0), (36, am_oPush (0, 3, [])), (37, am_oNewa 100 (0, 0, [])), (39, am_oPut 4 4 (.array .int)), (42, am_oLoad am_tA 0), (43, am_oPush (0, 3, [])), (44, am_oNewa 100 (0, 0, [])), (46, am_oPut 4 5 (.array .int)), (49, am_oLoad am_tA 0), (50, am_oPush (0, 0, [])), (51, am_oPut 4 6 .int), (54, am_oRet0 54)]
noncomputable def am_p4 : am_P := am_p4_0
noncomputable def am_p5_0 : am_P := [(0, am_oLoad am_tA 0), (1, am_oObj), (4, am_oLoad am_tA 0), (5, am_oPush (0, 0, [])), (6, am_oPut 5 0 .boolean), (9, am_oLoad am_tA 0), (10, am_oPush (0, 0, [])), (11, am_oPut 5 1 .boolean), (14, am_oLoad am_tA 0), (15, am_oPush (0, 0, [])), (16, am_oPut 5 2 .int), (19, am_oLoad am_tA 0), (20, am_oPush (0, 0, [])), (21, am_oPut 5 3 .int), (24, am_oLoad am_tA 0), (25, am_oPush (0, 0, [])), (26, am_oPut 5 4 .int), (29, am_oLoad am_tA 0), (30, am_oPush (0, 0, [])), (31, am_oPut 5 5 .int), (34, am_oLoad am_tA 0), (35, am_oPush (0, 0, [])), (36, am_oPut 5 6 .int), (39, am_oLoad am_tA 0), (40, am_oPush (0, 45, [])), (42, am_oPut 5 7 .char), (45, am_oLoad am_tA 0), (46, am_oPush (0, 0, [])), (47, am_oPut 5 8 .boolean), (50, am_oLoad am_tA 0), (51, am_oPush (0, 0, [])), (52, am_oPut 5 9 .boolean), (55, am_oLoad am_tA 0), (56, am_oPush (0, 0, [])), (57, am_oPut 5 10 .int), (60, am_oLoad am_tA 0), (61, am_oPush (0, 0, [])), (62, am_oPut 5 11 .int), (65, am_oRet0 65)]
noncomputable def am_p5 : am_P := am_p5_0
noncomputable def am_p6_0 : am_P := [(0, am_oLoad am_tA 0), (1, am_oObj), (4, am_oLoad am_tA 0), (5, am_oPush (0, 30, [])), (7, am_oNewa 100 (0, 0, [])), (9, am_oPut 2 0 (.array .int)), (12, am_oLoad am_tA 0), (13, am_oPush (0, 30, [])), (15, am_oNewa 100 (0, 0, [])), (17, am_oPut 2 1 (.array .int)), (20, am_oLoad am_tA 0), (21, am_oPush (0, 30, [])), (23, am_oNewa 100 (0, 0, [])), (25, am_oPut 2 2 (.array .int)), (28, am_oLoad am_tA 0), (29, am_oPush (0, 0, [])), (30, am_oPut 2 3 .int), (33, am_oRet0 33)]
noncomputable def am_p6 : am_P := am_p6_0
noncomputable def am_p7_0 : am_P := [(0, am_oLoad am_tA 0), (1, am_oGet 6 5), (4, am_oStore am_tI 2), (5, am_oLoad am_tA 0), (6, am_oLoad am_tI 1), (7, am_oPut 6 5 .boolean), (10, am_oLoad am_tI 2), (11, am_oRet 11 am_tI FieldType.boolean)]
noncomputable def am_p7 : am_P := am_p7_0
noncomputable def am_p8_0 : am_P := [(0, am_oLoad am_tA 0), (1, am_oGet 6 3), (4, am_oCallV [] 4 9 1 1 false 3), (7, am_oCall [] 7 10 1 4 false), (10, am_oRet 10 am_tI FieldType.int)]
noncomputable def am_p8 : am_P := am_p8_0
noncomputable def am_p9_0 : am_P := [(0, am_oPush (0, 10, [])), (2, am_oLoad am_tA 0), (3, am_oGet 3 0), (6, am_oBinA am_iadd), (7, am_op am_db am_hc am_bl am_m9 7 (.i2f) []), (8, am_oLoad am_tA 0), (9, am_oGet 3 1), (12, am_op am_db am_hc am_bl am_m9 12 (.i2f) []), (13, am_op am_db am_hc am_bl am_m9 13 (.fdiv) []), (14, am_oRet 14 am_tF FieldType.float)]
noncomputable def am_p9 : am_P := am_p9_0
noncomputable def am_p10_0 : am_P := [(0, am_oLoad am_tF 0), (1, am_oPush (2, 0, [])), (2, am_op am_db am_hc am_bl am_m10 2 (.fcmp .l) []), (3, am_oIf1 am_gt 6), (6, am_oPush (0, 0, [])), (7, am_oRet 7 am_tI FieldType.int), (8, am_oLoad am_tF 0), (9, am_oStore am_tF 1), (10, am_oPush (0, 127, [])), (12, am_oStore am_tI 2), (13, am_oPush (0, 0, [])), (14, am_oStore am_tI 3), (15, am_oLoad am_tI 3), (16, am_oPush (0, 127, [])), (18, am_oIf2n am_lt 26), (21, am_oLoad am_tF 1), (22, am_oPush (2, 1073741824, [])), (23, am_op am_db am_hc am_bl am_m10 23 (.fcmp .l) []), (24, am_oIf1 am_lt 26), (27, am_oLoad am_tF 1), (28, am_oPush (2, 1073741824, [])), (29, am_op am_db am_hc am_bl am_m10 29 (.fdiv) []), (30, am_oStore am_tF 1), (31, am_oIinc 2 1), (34, am_oIinc 3 1), (37, am_oGoto 12), (40, am_oPush (0, 0, [])), (41, am_oStore am_tI 3), (42, am_oLoad am_tI 3), (43, am_oPush (0, 126, [])), (45, am_oIf2n am_lt 42), (48, am_oLoad am_tF 1), (49, am_oPush (2, 1065353216, [])), (50, am_op am_db am_hc am_bl am_m10 50 (.fcmp .g) []), (51, am_oIf1n am_lt 42), (54, am_oLoad am_tF 1), (55, am_oPush (2, 1073741824, [])), (56, am_op am_db am_hc am_bl am_m10 56 (.fmul) []), (57, am_oStore am_tF 1), (58, am_oIinc 2 (-1)), (61, am_oIinc 3 1), (64, am_oGoto 28), (67, am_oLoad am_tI 2), (68, am_oPush (0, 23, [])), (70, am_op am_db am_hc am_bl am_m10 70 (.ishl) []), (71, am_oLoad am_tF 1), (72, am_oPush (2, 1065353216, [])), (73, am_op am_db am_hc am_bl am_m10 73 (.fsub) []), (74, am_oPush (2, 1258291200, [])), (77, am_op am_db am_hc am_bl am_m10 77 (.fmul) []), (78, am_op am_db am_hc am_bl am_m10 78 (.f2i) []), (79, am_op am_db am_hc am_bl am_m10 79 (.ior) []), (80, am_oRet 80 am_tI FieldType.int)]
noncomputable def am_p10 : am_P := am_p10_0
noncomputable def am_p11_0 : am_P := [(0, am_oLoad am_tA 0), (1, am_oGet 6 3), (4, am_oGet 3 2), (7, am_oRet 7 am_tD FieldType.double)]
noncomputable def am_p11 : am_P := am_p11_0
noncomputable def am_p12_0 : am_P := [(0, am_oLoad am_tA 0), (1, am_oGet 6 6), (4, am_op am_db am_hc am_bl am_m12 4 (.i2l) []), (5, am_oLoad am_tI 1), (6, am_op am_db am_hc am_bl am_m12 6 (.i2l) []), (7, am_op am_db am_hc am_bl am_m12 7 (.lmul) []), (8, am_oStore2 am_tL 2), (9, am_oPush (1, 18446744071562067968, [])), (12, am_oPush (1, 2147483647, [])), (15, am_oLoad am_tL 2), (16, am_oBinS (am_l22 (fun x y => am_ofL (if y < x then y else x)))), (19, am_oBinS (am_l22 (fun x y => am_ofL (if y < x then x else y)))), (22, am_op am_db am_hc am_bl am_m12 22 (.l2i) []), (23, am_oRet 23 am_tI FieldType.int)]
noncomputable def am_p12 : am_P := am_p12_0
noncomputable def am_p13_0 : am_P := [(0, am_oPush (0, 0, [])), (1, am_oStore am_tI 1), (2, am_oPush (0, 0, [])), (3, am_oStore am_tI 2), (4, am_oPush (0, 0, [])), (5, am_oStore am_tI 3), (6, am_oLoad am_tI 3), (7, am_oPush (0, 28, [])), (9, am_oIf2n am_lt 26), (12, am_oLoad am_tA 0), (13, am_oGet 6 0), (16, am_oLoad am_tI 3), (17, am_oAld true), (18, am_oCallV [] 18 14 1 1 false 5), (21, am_oIf1 am_eq 24), (24, am_oIinc 2 1), (27, am_oLoad am_tI 1), (28, am_oLoad am_tA 0), (29, am_oGet 6 0), (32, am_oLoad am_tI 3), (33, am_oAld true), (34, am_oCallV [] 34 15 1 1 false 5), (37, am_oBinA am_iadd), (38, am_oStore am_tI 1), (39, am_oIinc 3 1), (42, am_oGoto 6), (45, am_oLoad am_tI 2), (46, am_oIf1n am_eq 30), (49, am_oPush (1, 9221120237041090560, [])), (52, am_oGoto 36), (55, am_oLoad am_tI 1), (56, am_op am_db am_hc am_bl am_m13 56 (.i2d) []), (57, am_oLoad am_tI 2), (58, am_op am_db am_hc am_bl am_m13 58 (.i2d) []), (59, am_op am_db am_hc am_bl am_m13 59 (.ddiv) []), (60, am_oBod [] 60 18 7), (63, am_oRet 63 am_tL FieldType.long)]
noncomputable def am_p13 : am_P := am_p13_0
noncomputable def am_p14_0 : am_P := [(0, am_oLoad am_tA 0), (1, am_oGet 5 0), (4, am_oIf1 am_eq 8), (7, am_oLoad am_tA 0), (8, am_oGet 5 9), (11, am_oIf1n am_eq 8), (14, am_oPush (0, 1, [])), (15, am_oGoto 9), (18, am_oPush (0, 0, [])), (19, am_oRet 19 am_tI FieldType.boolean)]
noncomputable def am_p14 : am_P := am_p14_0
noncomputable def am_p15_0 : am_P := [(0, am_oLoad am_tA 0), (1, am_oCallV [] 1 16 1 1 false 5), (4, am_oPush (0, 100, [])), (6, am_oLoad am_tA 0), (7, am_oCallV [] 7 17 1 1 false 5), (10, am_oBinA am_imul), (11, am_oBinA am_isub), (12, am_oAbs), (15, am_oRet 15 am_tI FieldType.int)]
noncomputable def am_p15 : am_P := am_p15_0
noncomputable def am_p16_0 : am_P := [(0, am_oLoad am_tA 0), (1, am_oGet 5 1), (4, am_oIf1n am_eq 8), (7, am_oPush (0, 100, [])), (9, am_oLoad am_tA 0), (10, am_oGet 5 2), (13, am_oBinA am_imul), (14, am_oRet 14 am_tI FieldType.int), (15, am_oPush (0, 10000, [])), (18, am_oPush (0, 20, [])), (20, am_oLoad am_tA 0), (21, am_oGet 5 2), (24, am_oBinA am_imul), (25, am_oBinA am_isub), (26, am_oPush (0, 4, [])), (27, am_oLoad am_tA 0), (28, am_oGet 5 4), (31, am_oBinA am_imul), (32, am_oBinA am_iadd), (33, am_oPush (0, 6, [])), (35, am_oLoad am_tA 0), (36, am_oGet 5 5), (39, am_oBinA am_imul), (40, am_oBinA am_isub), (41, am_oPush (0, 3, [])), (42, am_oLoad am_tA 0), (43, am_oGet 5 6), (46, am_oBinA am_imul), (47, am_oBinA am_isub), (48, am_oLoad am_tA 0), (49, am_oGet 5 10), (52, am_oPush (0, 50, [])), (54, am_oBinA am_idiv), (55, am_oBinA am_isub), (56, am_oRet 56 am_tI FieldType.int)]
noncomputable def am_p16 : am_P := am_p16_0
noncomputable def am_p17_0 : am_P := [(0, am_oLoad am_tA 0), (1, am_oCallV [] 1 16 1 1 false 5), (4, am_oPush (0, 50, [])), (6, am_oBinA am_iadd), (7, am_oPush (0, 100, [])), (9, am_oBinA am_idiv), (10, am_oRet 10 am_tI FieldType.int)]
noncomputable def am_p17 : am_P := am_p17_0
noncomputable def am_p18_0 : am_P := [(0, am_oLoad am_tD 0), (1, am_oPush (3, 0, [])), (2, am_op am_db am_hc am_bl am_m18 2 (.dcmp .l) []), (3, am_oIf1 am_gt 6), (6, am_oPush (1, 0, [])), (7, am_oRet 7 am_tL FieldType.long), (8, am_oLoad am_tD 0), (9, am_oStore2 am_tD 2), (10, am_oPush (1, 1023, [])), (13, am_oStore2 am_tL 4), (15, am_oPush (0, 0, [])), (16, am_oStore am_tI 6), (18, am_oLoad am_tI 6), (20, am_oPush (0, 1023, [])), (23, am_oIf2n am_lt 29), (26, am_oLoad am_tD 2), (27, am_oPush (3, 4611686018427387904, [])), (30, am_op am_db am_hc am_bl am_m18 30 (.dcmp .l) []), (31, am_oIf1 am_lt 29), (34, am_oLoad am_tD 2), (35, am_oPush (3, 4611686018427387904, [])), (38, am_op am_db am_hc am_bl am_m18 38 (.ddiv) []), (39, am_oStore2 am_tD 2), (40, am_oLoad am_tL 4), (42, am_oPush (1, 1, [])), (43, am_op am_db am_hc am_bl am_m18 43 (.ladd) []), (44, am_oStore2 am_tL 4), (46, am_oIinc 6 1), (49, am_oGoto 12), (52, am_oPush (0, 0, [])), (53, am_oStore am_tI 6), (55, am_oLoad am_tI 6), (57, am_oPush (0, 1022, [])), (60, am_oIf2n am_lt 48), (63, am_oLoad am_tD 2), (64, am_oPush (3, 4607182418800017408, [])), (65, am_op am_db am_hc am_bl am_m18 65 (.dcmp .g) []), (66, am_oIf1n am_lt 48), (69, am_oLoad am_tD 2), (70, am_oPush (3, 4611686018427387904, [])), (73, am_op am_db am_hc am_bl am_m18 73 (.dmul) []), (74, am_oStore2 am_tD 2), (75, am_oLoad am_tL 4), (77, am_oPush (1, 1, [])), (78, am_op am_db am_hc am_bl am_m18 78 (.lsub) []), (79, am_oStore2 am_tL 4), (81, am_oIinc 6 1), (84, am_oGoto 31), (87, am_oLoad am_tL 4), (89, am_oPush (0, 52, [])), (91, am_op am_db am_hc am_bl am_m18 91 (.lshl) []), (92, am_oLoad am_tD 2), (93, am_oPush (3, 4607182418800017408, [])), (94, am_op am_db am_hc am_bl am_m18 94 (.dsub) []), (95, am_oPush (3, 4841369599423283200, [])), (98, am_op am_db am_hc am_bl am_m18 98 (.dmul) []), (99, am_op am_db am_hc am_bl am_m18 99 (.d2l) []), (100, am_op am_db am_hc am_bl am_m18 100 (.lor) []), (101, am_oRet 101 am_tL FieldType.long)]
noncomputable def am_p18 : am_P := am_p18_0
noncomputable def am_p19_0 : am_P := [(0, am_oPush (1, 7, [])), (3, am_oStore2 am_tL 1), (4, am_oPush (0, 0, [])), (5, am_oStore am_tI 3), (6, am_oLoad am_tI 3), (7, am_oPush (0, 28, [])), (9, am_oIf2n am_lt 33), (12, am_oLoad am_tA 0), (13, am_oGet 6 0), (16, am_oLoad am_tI 3), (17, am_oAld true), (18, am_oStore am_tA 4), (20, am_oLoad am_tA 4), (22, am_oGet 5 0), (25, am_oIf1 am_eq 31), (28, am_oPush (1, 31, [])), (31, am_oLoad am_tL 1), (32, am_op am_db am_hc am_bl am_m19 32 (.lmul) []), (33, am_oLoad am_tA 4), (35, am_oCallV [] 35 16 1 1 false 5), (38, am_op am_db am_hc am_bl am_m19 38 (.i2l) []), (39, am_op am_db am_hc am_bl am_m19 39 (.ladd) []), (40, am_oStore2 am_tL 1), (41, am_oPush (1, 31, [])), (44, am_oLoad am_tL 1), (45, am_op am_db am_hc am_bl am_m19 45 (.lmul) []), (46, am_oLoad am_tA 4), (48, am_oGet 5 10), (51, am_op am_db am_hc am_bl am_m19 51 (.i2l) []), (52, am_op am_db am_hc am_bl am_m19 52 (.ladd) []), (53, am_oStore2 am_tL 1), (54, am_oIinc 3 1), (57, am_oGoto 4), (60, am_oPush (0, 0, [])), (61, am_oStore am_tI 3), (62, am_oLoad am_tI 3), (63, am_oLoad am_tA 0), (64, am_oGet 6 2), (67, am_oGet 0 4), (70, am_oIf2n am_lt 72), (73, am_oLoad am_tA 0), (74, am_oGet 6 2), (77, am_oGet 0 5), (80, am_oLoad am_tI 3), (81, am_oAld true), (82, am_oStore am_tA 4), (84, am_oPush (1, 31, [])), (87, am_oLoad am_tL 1), (88, am_op am_db am_hc am_bl am_m19 88 (.lmul) []), (89, am_oLoad am_tA 4), (91, am_oGet 1 1), (94, am_op am_db am_hc am_bl am_m19 94 (.i2l) []), (95, am_op am_db am_hc am_bl am_m19 95 (.ladd) []), (96, am_oStore2 am_tL 1), (97, am_oPush (1, 31, [])), (100, am_oLoad am_tL 1), (101, am_op am_db am_hc am_bl am_m19 101 (.lmul) []), (102, am_oLoad am_tA 4), (104, am_oGet 1 2), (107, am_op am_db am_hc am_bl am_m19 107 (.i2l) [])]
noncomputable def am_p19_1 : am_P := [(108, am_op am_db am_hc am_bl am_m19 108 (.ladd) []), (109, am_oStore2 am_tL 1), (110, am_oPush (1, 31, [])), (113, am_oLoad am_tL 1), (114, am_op am_db am_hc am_bl am_m19 114 (.lmul) []), (115, am_oLoad am_tA 4), (117, am_oGet 1 3), (120, am_op am_db am_hc am_bl am_m19 120 (.i2l) []), (121, am_op am_db am_hc am_bl am_m19 121 (.ladd) []), (122, am_oStore2 am_tL 1), (123, am_oIinc 3 1), (126, am_oGoto 35), (129, am_oPush (1, 31, [])), (132, am_oLoad am_tL 1), (133, am_op am_db am_hc am_bl am_m19 133 (.lmul) []), (134, am_oLoad am_tA 0), (135, am_oGet 6 3), (138, am_oGet 3 0), (141, am_op am_db am_hc am_bl am_m19 141 (.i2l) []), (142, am_op am_db am_hc am_bl am_m19 142 (.ladd) []), (143, am_oRet 143 am_tL FieldType.long)]
noncomputable def am_p19 : am_P := am_p19_0 ++ (am_p19_1)
noncomputable def am_p20_0 : am_P := [(0, am_oLoad am_tA 0), (1, am_oGet 6 8), (4, am_oStore am_tI 1), (5, am_oPush (0, 0, [])), (6, am_oStore am_tI 2), (7, am_oLoad am_tI 2), (8, am_oPush (0, 28, [])), (10, am_oIf2n am_lt 34), (13, am_oLoad am_tA 0), (14, am_oGet 6 0), (17, am_oLoad am_tI 2), (18, am_oAld true), (19, am_oStore am_tA 3), (20, am_oLoad am_tI 1), (21, am_oLoad am_tA 3), (22, am_oGet 5 10), (25, am_oBinA am_iadd), (26, am_oStore am_tI 1), (27, am_oLoad am_tA 3), (28, am_oCallV [] 28 21 1 1 false 5), (31, am_oPush (0, 40, [])), (33, am_oPush (0, 100, [])), (35, am_oCall [] 35 22 3 3 false), (38, am_oIf1 am_eq 30), (41, am_oLoad am_tA 3), (42, am_oGet 5 6), (45, am_oPush (0, 0, [])), (46, am_oPush (0, 100, [])), (48, am_oCall [] 48 22 3 3 false), (51, am_oIf1n am_eq 32), (54, am_oPush (0, 0, [])), (55, am_oRet 55 am_tI FieldType.boolean), (56, am_oIinc 2 1), (59, am_oGoto 5), (62, am_oLoad am_tI 1), (63, am_oLoad am_tA 0), (64, am_oGet 6 7), (67, am_oIf2n am_eq 44), (70, am_oLoad am_tA 0), (71, am_oGet 6 2), (74, am_oCallV [] 74 23 1 3 false 0), (77, am_oIf1n am_eq 44), (80, am_oPush (0, 1, [])), (81, am_oGoto 45), (84, am_oPush (0, 0, [])), (85, am_oRet 85 am_tI FieldType.boolean)]
noncomputable def am_p20 : am_P := am_p20_0
noncomputable def am_p21_0 : am_P := [(0, am_oPush (0, 100, [])), (2, am_oLoad am_tA 0), (3, am_oGet 5 4), (6, am_oBinA am_isub), (7, am_oLoad am_tA 0), (8, am_oGet 5 5), (11, am_oBinA am_isub), (12, am_oRet 12 am_tI FieldType.int)]
noncomputable def am_p21 : am_P := am_p21_0
noncomputable def am_p22_0 : am_P := [(0, am_oLoad am_tI 0), (1, am_oLoad am_tI 1), (2, am_oIf2 am_lt 8), (5, am_oLoad am_tI 0), (6, am_oLoad am_tI 2), (7, am_oIf2 am_gt 8), (10, am_oPush (0, 1, [])), (11, am_oGoto 9), (14, am_oPush (0, 0, [])), (15, am_oRet 15 am_tI FieldType.boolean)]
noncomputable def am_p22 : am_P := am_p22_0
noncomputable def am_p23_0 : am_P := [(0, am_oPush (0, 0, [])), (1, am_oStore am_tI 1), (2, am_oLoad am_tI 1), (3, am_oLoad am_tA 0), (4, am_oGet 0 4), (7, am_oIf2n am_lt 39), (10, am_oPush (0, 0, [])), (11, am_oStore am_tI 2), (12, am_oLoad am_tI 2), (13, am_oLoad am_tI 1), (14, am_oIf2n am_lt 37), (17, am_oLoad am_tA 0), (18, am_oLoad am_tA 0), (19, am_oGet 0 5), (22, am_oLoad am_tI 2), (23, am_oAld true), (24, am_oLoad am_tA 0), (25, am_oGet 0 5), (28, am_oLoad am_tI 1), (29, am_oAld true), (30, am_oGet 1 0), (33, am_oLoad am_tA 0), (34, am_oGet 0 5), (37, am_oLoad am_tI 1), (38, am_oAld true), (39, am_oGet 1 1), (42, am_oLoad am_tA 0), (43, am_oGet 0 5), (46, am_oLoad am_tI 1), (47, am_oAld true), (48, am_oGet 1 2), (51, am_oCallV [] 51 24 5 5 false 0), (54, am_oIf1 am_eq 35), (57, am_oPush (0, 1, [])), (58, am_oRet 58 am_tI FieldType.boolean), (59, am_oIinc 2 1), (62, am_oGoto 8), (65, am_oIinc 1 1), (68, am_oGoto 2), (71, am_oPush (0, 0, [])), (72, am_oRet 72 am_tI FieldType.boolean)]
noncomputable def am_p23 : am_P := am_p23_0
noncomputable def am_p24_0 : am_P := [(0, am_oLoad am_tA 1), (1, am_oGet 1 2), (4, am_oLoad am_tI 4), (6, am_oIf2n am_eq 20), (9, am_oLoad am_tA 1), (10, am_oGet 1 0), (13, am_oLoad am_tI 2), (14, am_oBinA am_isub), (15, am_oAbs), (18, am_oPush (0, 1, [])), (19, am_oIf2 am_gt 20), (22, am_oLoad am_tA 0), (23, am_oLoad am_tA 1), (24, am_oGet 1 1), (27, am_oLoad am_tI 3), (28, am_oCallV [] 28 25 3 4 false 0), (31, am_oPush (0, 1, [])), (32, am_oIf2 am_gt 20), (35, am_oPush (0, 1, [])), (36, am_oGoto 21), (39, am_oPush (0, 0, [])), (40, am_oRet 40 am_tI FieldType.boolean)]
noncomputable def am_p24 : am_P := am_p24_0
noncomputable def am_p25_0 : am_P := [(0, am_oLoad am_tI 1), (1, am_oLoad am_tI 2), (2, am_oBinA am_isub), (3, am_oAbs), (6, am_oStore am_tI 3), (7, am_oLoad am_tI 3), (8, am_oLoad am_tA 0), (9, am_oGet 0 0), (12, am_oLoad am_tI 3), (13, am_oBinA am_isub), (14, am_oBinS (am_i22 (fun x y => am_ofI (if y < x then y else x)))), (17, am_oRet 17 am_tI FieldType.int)]
noncomputable def am_p25 : am_P := am_p25_0
noncomputable def am_p26_0 : am_P := [(0, am_oLoad am_tI 1), (1, am_oSwitch 172 66 119 [27, 2, 90, 172, 62, 172, 172, 172, 172, 172, 75, 172, 172, 172, 145, 172, 172, 172, 11, 160, 172, 172, 172, 172, 172, 172, 172, 172, 172, 172, 172, 172, 100, 172, 118, 139, 172, 172, 172, 172, 172, 172, 172, 172, 46, 172, 40, 172, 172, 84, 52, 172, 172, 124]), (232, am_oLoad am_tA 0), (233, am_oLoad am_tA 2), (234, am_oPush (0, 0, [])), (235, am_oAld false), (236, am_oLoad am_tA 2), (237, am_oPush (0, 1, [])), (238, am_oAld false), (239, am_oCallV [some 177, some 180, some 183, some 186, some 189, none] 239 27 3 4 false 6), (242, am_oRet 242 am_tI FieldType.int), (243, am_oLoad am_tA 0), (244, am_oLoad am_tA 2), (245, am_oPush (0, 0, [])), (246, am_oAld false), (247, am_oLoad am_tA 2), (248, am_oPush (0, 1, [])), (249, am_oAld false), (250, am_oLoad am_tA 2), (251, am_oPush (0, 2, [])), (252, am_oAld false), (253, am_oCallV [some 177, some 180, some 183, some 186, some 189, none] 253 30 4 4 false 6), (256, am_oIf1 am_eq 25), (259, am_oPush (0, 1, [])), (260, am_oGoto 26), (263, am_oPush (0, 0, [])), (264, am_oRet 264 am_tI FieldType.int), (265, am_oLoad am_tA 0), (266, am_oLoad am_tA 2), (267, am_oPush (0, 0, [])), (268, am_oAld false), (269, am_oLoad am_tA 2), (270, am_oPush (0, 1, [])), (271, am_oAld false), (272, am_oCallV [some 177, some 180, some 183, some 186, some 189, none] 272 34 3 3 false 6), (275, am_oIf1 am_eq 38), (278, am_oPush (0, 1, [])), (279, am_oGoto 39), (282, am_oPush (0, 0, [])), (283, am_oRet 283 am_tI FieldType.int), (284, am_oLoad am_tA 0), (285, am_oLoad am_tA 2), (286, am_oPush (0, 0, [])), (287, am_oAld false), (288, am_oCallV [some 177, some 180, some 183, some 186, some 189, none] 288 35 2 2 false 6), (291, am_oRet 291 am_tI FieldType.int), (292, am_oLoad am_tA 0), (293, am_oLoad am_tA 2), (294, am_oPush (0, 0, [])), (295, am_oAld false), (296, am_oCallV [some 177, some 180, some 183, some 186, some 189, none] 296 37 2 2 false 6), (299, am_oRet 299 am_tI FieldType.int), (300, am_oLoad am_tA 0), (301, am_oLoad am_tA 2), (302, am_oPush (0, 0, [])), (303, am_oAld false), (304, am_oCallV [some 177, some 180, some 183, some 186, some 189, none] 304 38 2 2 false 6), (307, am_oIf1 am_eq 60), (310, am_oPush (0, 1, [])), (311, am_oGoto 61)]
noncomputable def am_p26_1 : am_P := [(314, am_oPush (0, 0, [])), (315, am_oRet 315 am_tI FieldType.int), (316, am_oLoad am_tA 0), (317, am_oLoad am_tA 2), (318, am_oPush (0, 0, [])), (319, am_oAld false), (320, am_oLoad am_tA 2), (321, am_oPush (0, 1, [])), (322, am_oAld false), (323, am_op am_db am_hc am_bl am_m26 323 (.i2c) []), (324, am_oLoad am_tA 2), (325, am_oPush (0, 2, [])), (326, am_oAld false), (327, am_oCallV [some 177, some 180, some 183, some 186, some 189, none] 327 40 4 5 false 6), (330, am_oRet 330 am_tI FieldType.int), (331, am_oLoad am_tA 0), (332, am_oLoad am_tA 2), (333, am_oPush (0, 0, [])), (334, am_oAld false), (335, am_oLoad am_tA 2), (336, am_oPush (0, 1, [])), (337, am_oAld false), (338, am_oCallV [some 177, some 180, some 183, some 186, some 189, none] 338 42 3 4 false 6), (341, am_oRet 341 am_tI FieldType.int), (342, am_oLoad am_tA 0), (343, am_oLoad am_tA 2), (344, am_oPush (0, 0, [])), (345, am_oAld false), (346, am_oCallV [some 177, some 180, some 183, some 186, some 189, none] 346 43 2 2 false 6), (349, am_oRet 349 am_tI FieldType.int), (350, am_oLoad am_tA 0), (351, am_oLoad am_tA 2), (352, am_oPush (0, 0, [])), (353, am_oAld false), (354, am_oLoad am_tA 2), (355, am_oPush (0, 1, [])), (356, am_oAld false), (357, am_op am_db am_hc am_bl am_m26 357 (.i2c) []), (358, am_oCallV [some 177, some 180, some 183, some 186, some 189, none] 358 44 3 5 false 6), (361, am_oRet 361 am_tI FieldType.int), (362, am_oLoad am_tA 0), (363, am_oLoad am_tA 2), (364, am_oPush (0, 0, [])), (365, am_oAld false), (366, am_oLoad am_tA 2), (367, am_oPush (0, 1, [])), (368, am_oAld false), (369, am_oPush (0, 1, [])), (370, am_oIf2n am_eq 111), (373, am_oPush (0, 1, [])), (374, am_oGoto 112), (377, am_oPush (0, 0, [])), (378, am_oCallV [some 177, some 180, some 183, some 186, some 189, none] 378 45 3 5 false 6), (381, am_oIf1 am_eq 116), (384, am_oPush (0, 1, [])), (385, am_oGoto 117), (388, am_oPush (0, 0, [])), (389, am_oRet 389 am_tI FieldType.int), (390, am_oLoad am_tA 0), (391, am_oLoad am_tA 2)]
noncomputable def am_p26_2 : am_P := [(392, am_oPush (0, 0, [])), (393, am_oAld false), (394, am_oCallV [some 177, some 180, some 183, some 186, some 189, none] 394 46 2 2 false 6), (397, am_oRet 397 am_tI FieldType.int), (398, am_oLoad am_tA 0), (399, am_oLoad am_tA 2), (400, am_oPush (0, 0, [])), (401, am_oAld false), (402, am_oLoad am_tA 2), (403, am_oPush (0, 1, [])), (404, am_oAld false), (405, am_oLoad am_tA 2), (406, am_oPush (0, 2, [])), (407, am_oAld false), (408, am_oLoad am_tA 2), (409, am_oPush (0, 3, [])), (410, am_oAld false), (411, am_oCallV [some 177, some 180, some 183, some 186, some 189, none] 411 48 5 6 false 6), (414, am_oRet 414 am_tI FieldType.int), (415, am_oLoad am_tA 0), (416, am_oLoad am_tA 2), (417, am_oPush (0, 0, [])), (418, am_oAld false), (419, am_oCallV [some 177, some 180, some 183, some 186, some 189, none] 419 51 2 3 false 6), (422, am_oRet 422 am_tI FieldType.int), (423, am_oLoad am_tA 0), (424, am_oLoad am_tA 2), (425, am_oPush (0, 0, [])), (426, am_oAld false), (427, am_oLoad am_tA 2), (428, am_oPush (0, 1, [])), (429, am_oAld false), (430, am_oLoad am_tA 2), (431, am_oPush (0, 2, [])), (432, am_oAld false), (433, am_oLoad am_tA 2), (434, am_oPush (0, 3, [])), (435, am_oAld false), (436, am_oCallV [some 177, some 180, some 183, some 186, some 189, none] 436 52 5 5 false 6), (439, am_oRet 439 am_tI FieldType.int), (440, am_oLoad am_tA 0), (441, am_oLoad am_tA 2), (442, am_oPush (0, 0, [])), (443, am_oAld false), (444, am_oLoad am_tA 2), (445, am_oPush (0, 1, [])), (446, am_oAld false), (447, am_oLoad am_tA 2), (448, am_oPush (0, 2, [])), (449, am_oAld false), (450, am_oCallV [some 177, some 180, some 183, some 186, some 189, none] 450 59 4 6 false 6), (453, am_oRet 453 am_tI FieldType.int), (454, am_oLoad am_tA 0), (455, am_oLoad am_tI 1), (456, am_oLoad am_tA 2), (457, am_oCall [some 177, some 180, some 183, some 186, some 189, none] 457 62 3 3 false), (460, am_oRet 460 am_tI FieldType.int), (461, am_oStore am_tA 3), (462, am_oPush (0, 2294967295, [])), (464, am_oRet 464 am_tI FieldType.int)]
noncomputable def am_p26_3 : am_P := [(465, am_oStore am_tA 3), (466, am_oPush (0, 2294967294, [])), (468, am_oRet 468 am_tI FieldType.int), (469, am_oStore am_tA 3), (470, am_oPush (0, 2294967293, [])), (472, am_oRet 472 am_tI FieldType.int), (473, am_oStore am_tA 3), (474, am_oPush (0, 2294967292, [])), (476, am_oRet 476 am_tI FieldType.int), (477, am_oStore am_tA 3), (478, am_oPush (0, 2294967291, [])), (480, am_oRet 480 am_tI FieldType.int)]
noncomputable def am_p26 : am_P := am_p26_0 ++ (am_p26_1 ++ (am_p26_2 ++ (am_p26_3)))
noncomputable def am_p27_0 : am_P := [(0, am_oLoad am_tI 1), (1, am_oPush (0, 40, [])), (3, am_oPush (0, 600, [])), (6, am_oCall [] 6 28 3 3 true), (9, am_oLoad am_tI 2), (10, am_oPush (0, 1, [])), (11, am_oPush (0, 6, [])), (13, am_oCall [] 13 28 3 3 true), (16, am_oLoad am_tA 0), (17, am_oGet 6 2), (20, am_oGet 0 4), (23, am_oStore am_tI 3), (24, am_oLoad am_tA 0), (25, am_oGet 6 2), (28, am_oLoad am_tI 1), (29, am_oLoad am_tI 2), (30, am_oCallV [] 30 29 3 3 true 0), (33, am_oLoad am_tI 3), (34, am_oRet 34 am_tI FieldType.int)]
noncomputable def am_p27 : am_P := am_p27_0
noncomputable def am_p28_0 : am_P := [(0, am_oLoad am_tI 0), (1, am_oLoad am_tI 1), (2, am_oLoad am_tI 2), (3, am_oCall [] 3 22 3 3 false), (6, am_oIf1n am_eq 10), (9, am_oThrow 9 1), (12, am_oDup), (13, am_oBad), (16, am_oBad), (19, am_oBad), (20, am_oRet0 20)]
noncomputable def am_p28 : am_P := am_p28_0
noncomputable def am_p29_0 : am_P := [(0, am_oLoad am_tA 0), (1, am_oLoad am_tI 1), (2, am_oPut 0 0 .int), (5, am_oLoad am_tA 0), (6, am_oLoad am_tI 2), (7, am_oPut 0 1 .int), (10, am_oLoad am_tA 0), (11, am_oPush (0, 0, [])), (12, am_oPut 0 2 .int), (15, am_oLoad am_tA 0), (16, am_oPush (0, 0, [])), (17, am_oPut 0 3 .boolean), (20, am_oLoad am_tA 0), (21, am_oPush (0, 0, [])), (22, am_oPut 0 4 .int), (25, am_oRet0 25)]
noncomputable def am_p29 : am_P := am_p29_0
noncomputable def am_p30_0 : am_P := [(0, am_oLoad am_tI 1), (1, am_oPush (0, 28, [])), (3, am_oCall [] 3 31 2 2 true), (6, am_oLoad am_tI 2), (7, am_oPush (0, 100, [])), (9, am_oPush (0, 400, [])), (12, am_oCall [] 12 28 3 3 true), (15, am_oLoad am_tI 3), (16, am_oPush (0, 0, [])), (17, am_oPush (0, 2, [])), (18, am_oCall [] 18 28 3 3 true), (21, am_oLoad am_tI 1), (22, am_oPush (0, 24, [])), (24, am_oIf2 am_lt 19), (27, am_oThrow 27 3), (30, am_oDup), (31, am_oBad), (33, am_oBad), (36, am_oBad), (37, am_oLoad am_tA 0), (38, am_oLoad am_tI 1), (39, am_oPush (0, 1, [])), (40, am_oLoad am_tI 2), (41, am_oLoad am_tI 3), (42, am_oCallV [] 42 32 5 7 false 6), (45, am_oRet 45 am_tI FieldType.boolean)]
noncomputable def am_p30 : am_P := am_p30_0
noncomputable def am_p31_0 : am_P := [(0, am_oLoad am_tI 0), (1, am_oIf1 am_lt 5), (4, am_oLoad am_tI 0), (5, am_oLoad am_tI 1), (6, am_oIf2 am_lt 10), (9, am_oThrow 9 0), (12, am_oDup), (13, am_oBad), (16, am_oBad), (19, am_oBad), (20, am_oRet0 20)]
noncomputable def am_p31 : am_P := am_p31_0
noncomputable def am_p32_0 : am_P := [(0, am_oLoad am_tA 0), (1, am_oGet 6 0), (4, am_oLoad am_tI 1), (5, am_oAld true), (6, am_oStore am_tA 5), (8, am_oLoad am_tA 5), (10, am_oGet 5 0), (13, am_oStore am_tI 6), (15, am_oLoad am_tA 0), (16, am_oDup), (17, am_oGet 6 8), (20, am_oLoad am_tA 5), (22, am_oGet 5 10), (25, am_oBinA am_iadd), (26, am_oPut 6 8 .int), (29, am_oLoad am_tA 5), (31, am_oLoad am_tI 2), (32, am_oLoad am_tI 3), (33, am_oLoad am_tI 4), (35, am_oCallV [] 35 33 4 4 true 5), (38, am_oLoad am_tI 6), (40, am_oRet 40 am_tI FieldType.boolean)]
noncomputable def am_p32 : am_P := am_p32_0
noncomputable def am_p33_0 : am_P := [(0, am_oLoad am_tA 0), (1, am_oPush (0, 1, [])), (2, am_oPut 5 0 .boolean), (5, am_oLoad am_tA 0), (6, am_oLoad am_tI 1), (7, am_oPut 5 1 .boolean), (10, am_oLoad am_tA 0), (11, am_oLoad am_tI 2), (12, am_oPut 5 2 .int), (15, am_oLoad am_tA 0), (16, am_oLoad am_tI 3), (17, am_oPut 5 3 .int), (20, am_oLoad am_tA 0), (21, am_oPush (0, 0, [])), (22, am_oPut 5 4 .int), (25, am_oLoad am_tA 0), (26, am_oPush (0, 0, [])), (27, am_oPut 5 5 .int), (30, am_oLoad am_tA 0), (31, am_oPush (0, 0, [])), (32, am_oPut 5 6 .int), (35, am_oLoad am_tA 0), (36, am_oPush (0, 45, [])), (38, am_oPut 5 7 .char), (41, am_oLoad am_tA 0), (42, am_oPush (0, 0, [])), (43, am_oPut 5 8 .boolean), (46, am_oLoad am_tA 0), (47, am_oPush (0, 0, [])), (48, am_oPut 5 9 .boolean), (51, am_oLoad am_tA 0), (52, am_oPush (0, 0, [])), (53, am_oPut 5 10 .int), (56, am_oLoad am_tA 0), (57, am_oPush (0, 0, [])), (58, am_oPut 5 11 .int), (61, am_oRet0 61)]
noncomputable def am_p33 : am_P := am_p33_0
noncomputable def am_p34_0 : am_P := [(0, am_oLoad am_tI 1), (1, am_oPush (0, 28, [])), (3, am_oCall [] 3 31 2 2 true), (6, am_oLoad am_tI 2), (7, am_oPush (0, 1, [])), (8, am_oPush (0, 120, [])), (10, am_oCall [] 10 28 3 3 true), (13, am_oLoad am_tI 1), (14, am_oPush (0, 24, [])), (16, am_oIf2n am_lt 15), (19, am_oThrow 19 3), (22, am_oDup), (23, am_oBad), (25, am_oBad), (28, am_oBad), (29, am_oLoad am_tA 0), (30, am_oLoad am_tI 1), (31, am_oPush (0, 0, [])), (32, am_oLoad am_tI 2), (33, am_oPush (0, 0, [])), (34, am_oCallV [] 34 32 5 7 false 6), (37, am_oRet 37 am_tI FieldType.boolean)]
noncomputable def am_p34 : am_P := am_p34_0
noncomputable def am_p35_0 : am_P := [(0, am_oLoad am_tA 0), (1, am_oLoad am_tI 1), (2, am_oCallV [] 2 36 2 3 false 6), (5, am_oCallV [] 5 16 1 1 false 5), (8, am_oRet 8 am_tI FieldType.int)]
noncomputable def am_p35 : am_P := am_p35_0
noncomputable def am_p36_0 : am_P := [(0, am_oLoad am_tI 1), (1, am_oPush (0, 28, [])), (3, am_oCall [] 3 31 2 2 true), (6, am_oLoad am_tA 0), (7, am_oGet 6 0), (10, am_oLoad am_tI 1), (11, am_oAld true), (12, am_oStore am_tA 2), (13, am_oLoad am_tA 2), (14, am_oGet 5 0), (17, am_oIf1n am_eq 16), (20, am_oThrow 20 4), (23, am_oDup), (24, am_oBad), (27, am_oBad), (30, am_oBad), (31, am_oLoad am_tA 2), (32, am_oRet 32 am_tR (FieldType.object "CombCylinder$Voice"))]
noncomputable def am_p36 : am_P := am_p36_0
noncomputable def am_p37_0 : am_P := [(0, am_oLoad am_tA 0), (1, am_oLoad am_tI 1), (2, am_oCallV [] 2 36 2 3 false 6), (5, am_oCallV [] 5 17 1 1 false 5), (8, am_oRet 8 am_tI FieldType.int)]
noncomputable def am_p37 : am_P := am_p37_0
noncomputable def am_p38_0 : am_P := [(0, am_oLoad am_tA 0), (1, am_oLoad am_tI 1), (2, am_oCallV [] 2 36 2 3 false 6), (5, am_oCallV [] 5 39 1 1 false 5), (8, am_oRet 8 am_tI FieldType.boolean)]
noncomputable def am_p38 : am_P := am_p38_0
noncomputable def am_p39_0 : am_P := [(0, am_oLoad am_tA 0), (1, am_oCallV [] 1 15 1 1 false 5), (4, am_oPush (0, 5, [])), (5, am_oIf2 am_gt 6), (8, am_oPush (0, 1, [])), (9, am_oGoto 7), (12, am_oPush (0, 0, [])), (13, am_oRet 13 am_tI FieldType.boolean)]
noncomputable def am_p39 : am_P := am_p39_0
noncomputable def am_p40_0 : am_P := [(0, am_oLoad am_tI 1), (1, am_oPush (0, 24, [])), (3, am_oCall [] 3 31 2 2 true), (6, am_oLoad am_tI 2), (7, am_oPush (0, 116, [])), (9, am_oIf2 am_eq 14), (12, am_oLoad am_tI 2), (13, am_oPush (0, 114, [])), (15, am_oIf2 am_eq 14), (18, am_oThrow 18 1), (21, am_oDup), (22, am_oBad), (24, am_oBad), (27, am_oBad), (28, am_oLoad am_tI 3), (29, am_oPush (0, 1, [])), (30, am_oPush (0, 60, [])), (32, am_oCall [] 32 28 3 3 true), (35, am_oLoad am_tA 0), (36, am_oLoad am_tI 1), (37, am_oCallV [] 37 36 2 3 false 6), (40, am_oStore am_tA 4), (42, am_oLoad am_tA 4), (44, am_oCall [] 44 41 1 1 true), (47, am_oLoad am_tA 4), (49, am_oCallV [] 49 21 1 1 false 5), (52, am_oLoad am_tI 3), (53, am_oBinA am_isub), (54, am_oPush (0, 40, [])), (56, am_oIf2n am_lt 35), (59, am_oThrow 59 3), (62, am_oDup), (63, am_oBad), (65, am_oBad), (68, am_oBad), (69, am_oLoad am_tI 2), (70, am_oPush (0, 116, [])), (72, am_oIf2n am_eq 45), (75, am_oLoad am_tA 4), (77, am_oDup), (78, am_oGet 5 4), (81, am_oLoad am_tI 3), (82, am_oBinA am_iadd), (83, am_oPut 5 4 .int), (86, am_oGoto 51), (89, am_oLoad am_tA 4), (91, am_oDup), (92, am_oGet 5 5), (95, am_oLoad am_tI 3), (96, am_oBinA am_iadd), (97, am_oPut 5 5 .int), (100, am_oLoad am_tA 4), (102, am_oCallV [] 102 16 1 1 false 5), (105, am_oRet 105 am_tI FieldType.int)]
noncomputable def am_p40 : am_P := am_p40_0
noncomputable def am_p41_0 : am_P := [(0, am_oLoad am_tA 0), (1, am_oGet 5 9), (4, am_oIf1 am_eq 8), (7, am_oThrow 7 3), (10, am_oDup), (11, am_oBad), (14, am_oBad), (17, am_oBad), (18, am_oRet0 18)]
noncomputable def am_p41 : am_P := am_p41_0
noncomputable def am_p42_0 : am_P := [(0, am_oLoad am_tI 1), (1, am_oPush (0, 24, [])), (3, am_oCall [] 3 31 2 2 true), (6, am_oLoad am_tI 2), (7, am_oPush (0, 4294967246, [])), (9, am_oPush (0, 50, [])), (11, am_oCall [] 11 28 3 3 true), (14, am_oLoad am_tA 0), (15, am_oLoad am_tI 1), (16, am_oCallV [] 16 36 2 3 false 6), (19, am_oStore am_tA 3), (20, am_oLoad am_tA 3), (21, am_oCall [] 21 41 1 1 true), (24, am_oLoad am_tA 3), (25, am_oGet 5 6), (28, am_oLoad am_tI 2), (29, am_oBinA am_iadd), (30, am_oPush (0, 0, [])), (31, am_oPush (0, 100, [])), (33, am_oCall [] 33 22 3 3 false), (36, am_oIf1n am_eq 26), (39, am_oThrow 39 3), (42, am_oDup), (43, am_oBad), (45, am_oBad), (48, am_oBad), (49, am_oLoad am_tA 3), (50, am_oDup), (51, am_oGet 5 6), (54, am_oLoad am_tI 2), (55, am_oBinA am_iadd), (56, am_oPut 5 6 .int), (59, am_oLoad am_tA 3), (60, am_oCallV [] 60 16 1 1 false 5), (63, am_oRet 63 am_tI FieldType.int)]
noncomputable def am_p42 : am_P := am_p42_0
noncomputable def am_p43_0 : am_P := [(0, am_oLoad am_tI 1), (1, am_oPush (0, 24, [])), (3, am_oCall [] 3 31 2 2 true), (6, am_oLoad am_tA 0), (7, am_oLoad am_tI 1), (8, am_oCallV [] 8 36 2 3 false 6), (11, am_oCallV [] 11 21 1 1 false 5), (14, am_oRet 14 am_tI FieldType.int)]
noncomputable def am_p43 : am_P := am_p43_0
noncomputable def am_p44_0 : am_P := [(0, am_oLoad am_tI 1), (1, am_oPush (0, 28, [])), (3, am_oCall [] 3 31 2 2 true), (6, am_oLoad am_tI 2), (7, am_oPush (0, 45, [])), (9, am_oIf2 am_eq 17), (12, am_oLoad am_tI 2), (13, am_oPush (0, 119, [])), (15, am_oIf2 am_eq 17), (18, am_oLoad am_tI 2), (19, am_oPush (0, 102, [])), (21, am_oIf2 am_eq 17), (24, am_oThrow 24 1), (27, am_oDup), (28, am_oBad), (30, am_oBad), (33, am_oBad), (34, am_oLoad am_tA 0), (35, am_oLoad am_tI 1), (36, am_oCallV [] 36 36 2 3 false 6), (39, am_oStore am_tA 3), (40, am_oLoad am_tA 3), (41, am_oGet 5 7), (44, am_oStore am_tI 4), (46, am_oLoad am_tA 3), (47, am_oLoad am_tI 2), (48, am_oPut 5 7 .char), (51, am_oLoad am_tA 3), (52, am_oPush (0, 0, [])), (53, am_oPut 5 8 .boolean), (56, am_oLoad am_tI 4), (58, am_oRet 58 am_tI FieldType.char)]
noncomputable def am_p44 : am_P := am_p44_0
noncomputable def am_p45_0 : am_P := [(0, am_oLoad am_tA 0), (1, am_oLoad am_tI 1), (2, am_oCallV [] 2 36 2 3 false 6), (5, am_oStore am_tA 3), (6, am_oLoad am_tA 3), (7, am_oGet 5 7), (10, am_oPush (0, 45, [])), (12, am_oIf2n am_eq 13), (15, am_oThrow 15 3), (18, am_oDup), (19, am_oBad), (21, am_oBad), (24, am_oBad), (25, am_oLoad am_tA 3), (26, am_oGet 5 8), (29, am_oStore am_tI 4), (31, am_oLoad am_tA 3), (32, am_oLoad am_tI 2), (33, am_oPut 5 8 .boolean), (36, am_oLoad am_tI 4), (38, am_oRet 38 am_tI FieldType.boolean)]
noncomputable def am_p45 : am_P := am_p45_0
noncomputable def am_p46_0 : am_P := [(0, am_oLoad am_tA 0), (1, am_oLoad am_tI 1), (2, am_oCallV [] 2 36 2 3 false 6), (5, am_op am_db am_hc am_bl am_m46 5 (.invokevirtual 144) []), (8, am_oRet 8 am_tI FieldType.int)]
noncomputable def am_p46 : am_P := am_p46_0
noncomputable def am_p47_0 : am_P := [(0, am_oPush (0, 8, [])), (2, am_oStore am_tI 1), (3, am_oLoad am_tA 0), (4, am_oGet 5 1), (7, am_oIf1n am_eq 8), (10, am_oPush (0, 1, [])), (11, am_oStore am_tI 1), (12, am_oGoto 21), (15, am_oLoad am_tA 0), (16, am_oGet 5 7), (19, am_oPush (0, 119, [])), (21, am_oIf2n am_eq 15), (24, am_oPush (0, 4, [])), (25, am_oStore am_tI 1), (26, am_oGoto 21), (29, am_oLoad am_tA 0), (30, am_oGet 5 7), (33, am_oPush (0, 102, [])), (35, am_oIf2n am_eq 21), (38, am_oPush (0, 2, [])), (39, am_oStore am_tI 1), (40, am_oLoad am_tA 0), (41, am_oGet 5 8), (44, am_oIf1 am_eq 28), (47, am_oPush (0, 2, [])), (48, am_oLoad am_tI 1), (49, am_oBinA am_imul), (50, am_oGoto 29), (53, am_oLoad am_tI 1), (54, am_oRet 54 am_tI FieldType.int)]
noncomputable def am_p47 : am_P := am_p47_0
noncomputable def am_p48_0 : am_P := [(0, am_oLoad am_tI 1), (1, am_oPush (0, 6, [])), (3, am_oCall [] 3 31 2 2 true), (6, am_oLoad am_tI 2), (7, am_oPush (0, 0, [])), (8, am_oPush (0, 599, [])), (11, am_oCall [] 11 28 3 3 true), (14, am_oLoad am_tI 3), (15, am_oPush (0, 1, [])), (16, am_oPush (0, 120, [])), (18, am_oCall [] 18 28 3 3 true), (21, am_oLoad am_tI 4), (23, am_oPush (0, 0, [])), (24, am_oPush (0, 3, [])), (25, am_oCall [] 25 28 3 3 true), (28, am_oLoad am_tA 0), (29, am_oGet 6 1), (32, am_oLoad am_tI 1), (33, am_oAld true), (34, am_oStore am_tA 5), (36, am_oLoad am_tA 5), (38, am_oGet 2 3), (41, am_oPush (0, 30, [])), (43, am_oIf2 am_lt 29), (46, am_oThrow 46 2), (49, am_oDup), (50, am_oBad), (52, am_oBad), (55, am_oBad), (56, am_oLoad am_tA 5), (58, am_oLoad am_tI 2), (59, am_oLoad am_tI 3), (60, am_oLoad am_tI 4), (62, am_oCallV [] 62 49 4 5 true 2), (65, am_oLoad am_tA 5), (67, am_oGet 2 3), (70, am_oRet 70 am_tI FieldType.int)]
noncomputable def am_p48 : am_P := am_p48_0
noncomputable def am_p49_0 : am_P := [(0, am_oLoad am_tA 0), (1, am_oGet 2 3), (4, am_oPush (0, 30, [])), (6, am_oIf2 am_lt 5), (9, am_oRet0 9), (10, am_oLoad am_tA 0), (11, am_oGet 2 3), (14, am_oStore am_tI 4), (16, am_oLoad am_tI 4), (18, am_oIf1n am_gt 51), (21, am_oLoad am_tA 0), (22, am_oLoad am_tI 1), (23, am_oLoad am_tI 3), (24, am_oLoad am_tI 2), (25, am_oLoad am_tI 4), (27, am_oPush (0, 1, [])), (28, am_oBinA am_isub), (29, am_oCallV [] 29 50 5 5 false 2), (32, am_oIf1 am_eq 51), (35, am_oLoad am_tA 0), (36, am_oGet 2 0), (39, am_oLoad am_tI 4), (41, am_oLoad am_tA 0), (42, am_oGet 2 0), (45, am_oLoad am_tI 4), (47, am_oPush (0, 1, [])), (48, am_oBinA am_isub), (49, am_oAld false), (50, am_oIast), (51, am_oLoad am_tA 0), (52, am_oGet 2 1), (55, am_oLoad am_tI 4), (57, am_oLoad am_tA 0), (58, am_oGet 2 1), (61, am_oLoad am_tI 4), (63, am_oPush (0, 1, [])), (64, am_oBinA am_isub), (65, am_oAld false), (66, am_oIast), (67, am_oLoad am_tA 0), (68, am_oGet 2 2), (71, am_oLoad am_tI 4), (73, am_oLoad am_tA 0), (74, am_oGet 2 2), (77, am_oLoad am_tI 4), (79, am_oPush (0, 1, [])), (80, am_oBinA am_isub), (81, am_oAld false), (82, am_oIast), (83, am_oIinc 4 (-1)), (86, am_oGoto 8), (89, am_oLoad am_tA 0), (90, am_oGet 2 0), (93, am_oLoad am_tI 4), (95, am_oLoad am_tI 1), (96, am_oIast), (97, am_oLoad am_tA 0), (98, am_oGet 2 1), (101, am_oLoad am_tI 4), (103, am_oLoad am_tI 3)]
noncomputable def am_p49_1 : am_P := [(104, am_oIast), (105, am_oLoad am_tA 0), (106, am_oGet 2 2), (109, am_oLoad am_tI 4), (111, am_oLoad am_tI 2), (112, am_oIast), (113, am_oLoad am_tA 0), (114, am_oDup), (115, am_oGet 2 3), (118, am_oPush (0, 1, [])), (119, am_oBinA am_iadd), (120, am_oPut 2 3 .int), (123, am_oRet0 123)]
noncomputable def am_p49 : am_P := am_p49_0 ++ (am_p49_1)
noncomputable def am_p50_0 : am_P := [(0, am_oLoad am_tI 1), (1, am_oLoad am_tA 0), (2, am_oGet 2 0), (5, am_oLoad am_tI 4), (7, am_oAld false), (8, am_oIf2 am_eq 16), (11, am_oLoad am_tI 1), (12, am_oLoad am_tA 0), (13, am_oGet 2 0), (16, am_oLoad am_tI 4), (18, am_oAld false), (19, am_oIf2n am_lt 14), (22, am_oPush (0, 1, [])), (23, am_oGoto 15), (26, am_oPush (0, 0, [])), (27, am_oRet 27 am_tI FieldType.boolean), (28, am_oLoad am_tI 2), (29, am_oLoad am_tA 0), (30, am_oGet 2 1), (33, am_oLoad am_tI 4), (35, am_oAld false), (36, am_oIf2 am_eq 32), (39, am_oLoad am_tI 2), (40, am_oLoad am_tA 0), (41, am_oGet 2 1), (44, am_oLoad am_tI 4), (46, am_oAld false), (47, am_oIf2n am_lt 30), (50, am_oPush (0, 1, [])), (51, am_oGoto 31), (54, am_oPush (0, 0, [])), (55, am_oRet 55 am_tI FieldType.boolean), (56, am_oLoad am_tI 3), (57, am_oLoad am_tA 0), (58, am_oGet 2 2), (61, am_oLoad am_tI 4), (63, am_oAld false), (64, am_oIf2n am_lt 40), (67, am_oPush (0, 1, [])), (68, am_oGoto 41), (71, am_oPush (0, 0, [])), (72, am_oRet 72 am_tI FieldType.boolean)]
noncomputable def am_p50 : am_P := am_p50_0
noncomputable def am_p51_0 : am_P := [(0, am_oLoad am_tI 1), (1, am_oPush (0, 6, [])), (3, am_oCall [] 3 31 2 2 true), (6, am_oLoad am_tA 0), (7, am_oGet 6 1), (10, am_oLoad am_tI 1), (11, am_oAld true), (12, am_oGet 2 3), (15, am_oStore am_tI 2), (16, am_oLoad am_tA 0), (17, am_oGet 6 1), (20, am_oLoad am_tI 1), (21, am_oAld true), (22, am_oPush (0, 0, [])), (23, am_oPut 2 3 .int), (26, am_oLoad am_tI 2), (27, am_oRet 27 am_tI FieldType.int)]
noncomputable def am_p51 : am_P := am_p51_0
noncomputable def am_p52_0 : am_P := [(0, am_oLoad am_tA 0), (1, am_oLoad am_tI 1), (2, am_oLoad am_tI 2), (3, am_oLoad am_tI 3), (4, am_oCallV [] 4 53 4 4 true 6), (7, am_oLoad am_tI 4), (9, am_oPush (0, 4294967294, [])), (11, am_oPush (0, 2, [])), (12, am_oCall [] 12 28 3 3 true), (15, am_oLoad am_tA 0), (16, am_oCallV [] 16 56 1 1 true 6), (19, am_oLoad am_tA 0), (20, am_oGet 6 2), (23, am_oGet 0 4), (26, am_oPush (0, 60, [])), (28, am_oIf2 am_lt 21), (31, am_oThrow 31 3), (34, am_oDup), (35, am_oBad), (37, am_oBad), (40, am_oBad), (41, am_oLoad am_tA 0), (42, am_oGet 6 2), (45, am_oLoad am_tI 1), (46, am_oLoad am_tI 2), (47, am_oLoad am_tI 3), (48, am_oCallV [] 48 57 4 5 false 0), (51, am_oIf1 am_eq 33), (54, am_oThrow 54 3), (57, am_oDup), (58, am_oBad), (60, am_oBad), (63, am_oBad), (64, am_oLoad am_tA 0), (65, am_oGet 6 2), (68, am_oLoad am_tI 1), (69, am_oLoad am_tI 2), (70, am_oLoad am_tI 3), (71, am_oLoad am_tI 4), (73, am_oCallV [] 73 58 5 7 true 0), (76, am_oLoad am_tA 0), (77, am_oGet 6 2), (80, am_oGet 0 4), (83, am_oRet 83 am_tI FieldType.int)]
noncomputable def am_p52 : am_P := am_p52_0
noncomputable def am_p53_0 : am_P := [(0, am_oLoad am_tA 0), (1, am_oLoad am_tI 1), (2, am_oCallV [] 2 54 2 2 true 6), (5, am_oLoad am_tI 2), (6, am_oLoad am_tA 0), (7, am_oGet 6 2), (10, am_oGet 0 0), (13, am_oCall [] 13 31 2 2 true), (16, am_oLoad am_tI 3), (17, am_oPush (0, 28, [])), (19, am_oCall [] 19 31 2 2 true), (22, am_oRet0 22)]
noncomputable def am_p53 : am_P := am_p53_0
noncomputable def am_p54_0 : am_P := [(0, am_oLoad am_tA 0), (1, am_oCallV [] 1 55 1 1 true 6), (4, am_oLoad am_tI 1), (5, am_oLoad am_tA 0), (6, am_oGet 6 2), (9, am_oGet 0 1), (12, am_oCall [] 12 31 2 2 true), (15, am_oRet0 15)]
noncomputable def am_p54 : am_P := am_p54_0
noncomputable def am_p55_0 : am_P := [(0, am_oLoad am_tA 0), (1, am_oGet 6 2), (4, am_oGet 0 0), (7, am_oIf1n am_eq 9), (10, am_oThrow 10 2), (13, am_oDup), (14, am_oBad), (17, am_oBad), (20, am_oBad), (21, am_oRet0 21)]
noncomputable def am_p55 : am_P := am_p55_0
noncomputable def am_p56_0 : am_P := [(0, am_oLoad am_tA 0), (1, am_oGet 6 2), (4, am_oGet 0 3), (7, am_oIf1 am_eq 9), (10, am_oThrow 10 3), (13, am_oDup), (14, am_oBad), (17, am_oBad), (20, am_oBad), (21, am_oRet0 21)]
noncomputable def am_p56 : am_P := am_p56_0
noncomputable def am_p57_0 : am_P := [(0, am_oPush (0, 0, [])), (1, am_oStore am_tI 4), (3, am_oLoad am_tI 4), (5, am_oLoad am_tA 0), (6, am_oGet 0 4), (9, am_oIf2n am_lt 20), (12, am_oLoad am_tA 0), (13, am_oLoad am_tA 0), (14, am_oGet 0 5), (17, am_oLoad am_tI 4), (19, am_oAld true), (20, am_oLoad am_tI 1), (21, am_oLoad am_tI 2), (22, am_oLoad am_tI 3), (23, am_oCallV [] 23 24 5 5 false 0), (26, am_oIf1 am_eq 18), (29, am_oPush (0, 1, [])), (30, am_oRet 30 am_tI FieldType.boolean), (31, am_oIinc 4 1), (34, am_oGoto 2), (37, am_oPush (0, 0, [])), (38, am_oRet 38 am_tI FieldType.boolean)]
noncomputable def am_p57 : am_P := am_p57_0
noncomputable def am_p58_0 : am_P := [(0, am_oLoad am_tA 0), (1, am_oGet 0 4), (4, am_oPush (0, 60, [])), (6, am_oIf2 am_lt 5), (9, am_oRet0 9), (10, am_oLoad am_tA 0), (11, am_oGet 0 5), (14, am_oLoad am_tA 0), (15, am_oGet 0 4), (18, am_oAld true), (19, am_oStore am_tA 5), (21, am_oLoad am_tA 5), (23, am_oLoad am_tI 1), (24, am_oPut 1 0 .int), (27, am_oLoad am_tA 5), (29, am_oLoad am_tI 2), (30, am_oPut 1 1 .int), (33, am_oLoad am_tA 5), (35, am_oLoad am_tI 3), (36, am_oPut 1 2 .int), (39, am_oLoad am_tA 5), (41, am_oLoad am_tI 4), (43, am_oPut 1 3 .int), (46, am_oLoad am_tA 5), (48, am_oLoad am_tI 1), (49, am_oPush (0, 600, [])), (52, am_oBinA am_imul), (53, am_oLoad am_tI 2), (54, am_oBinA am_iadd), (55, am_oPush (0, 28, [])), (57, am_oBinA am_imul), (58, am_oLoad am_tI 3), (59, am_oBinA am_iadd), (60, am_oPut 1 4 .int), (63, am_oLoad am_tA 0), (64, am_oGet 0 4), (67, am_oStore am_tI 6), (69, am_oLoad am_tI 6), (71, am_oIf1n am_gt 61), (74, am_oLoad am_tA 0), (75, am_oGet 0 5), (78, am_oLoad am_tI 6), (80, am_oPush (0, 1, [])), (81, am_oBinA am_isub), (82, am_oAld true), (83, am_oGet 1 4), (86, am_oLoad am_tA 5), (88, am_oGet 1 4), (91, am_oIf2n am_gt 61), (94, am_oLoad am_tA 0), (95, am_oGet 0 5), (98, am_oLoad am_tI 6), (100, am_oLoad am_tA 0), (101, am_oGet 0 5), (104, am_oLoad am_tI 6), (106, am_oPush (0, 1, [])), (107, am_oBinA am_isub), (108, am_oAld true), (109, am_oAast), (110, am_oIinc 6 (-1))]
noncomputable def am_p58_1 : am_P := [(113, am_oGoto 37), (116, am_oLoad am_tA 0), (117, am_oGet 0 5), (120, am_oLoad am_tI 6), (122, am_oLoad am_tA 5), (124, am_oAast), (125, am_oLoad am_tA 0), (126, am_oDup), (127, am_oGet 0 4), (130, am_oPush (0, 1, [])), (131, am_oBinA am_iadd), (132, am_oPut 0 4 .int), (135, am_oRet0 135)]
noncomputable def am_p58 : am_P := am_p58_0 ++ (am_p58_1)
noncomputable def am_p59_0 : am_P := [(0, am_oLoad am_tA 0), (1, am_oLoad am_tI 1), (2, am_oLoad am_tI 2), (3, am_oLoad am_tI 3), (4, am_oCallV [] 4 53 4 4 true 6), (7, am_oLoad am_tA 0), (8, am_oGet 6 2), (11, am_oLoad am_tI 1), (12, am_oLoad am_tI 2), (13, am_oLoad am_tI 3), (14, am_oCallV [] 14 60 4 5 false 0), (17, am_oStore am_tI 4), (19, am_oLoad am_tI 4), (21, am_oIf1n am_lt 19), (24, am_oThrow 24 4), (27, am_oDup), (28, am_oBad), (30, am_oBad), (33, am_oBad), (34, am_oLoad am_tA 0), (35, am_oCallV [] 35 56 1 1 true 6), (38, am_oLoad am_tA 0), (39, am_oGet 6 2), (42, am_oGet 0 5), (45, am_oLoad am_tI 4), (47, am_oAld true), (48, am_oGet 1 3), (51, am_oStore am_tI 5), (53, am_oLoad am_tA 0), (54, am_oGet 6 2), (57, am_oLoad am_tI 4), (59, am_oCallV [] 59 61 2 4 true 0), (62, am_oLoad am_tI 5), (64, am_oRet 64 am_tI FieldType.int)]
noncomputable def am_p59 : am_P := am_p59_0
noncomputable def am_p60_0 : am_P := [(0, am_oPush (0, 0, [])), (1, am_oStore am_tI 4), (3, am_oLoad am_tI 4), (5, am_oLoad am_tA 0), (6, am_oGet 0 4), (9, am_oIf2n am_lt 31), (12, am_oLoad am_tA 0), (13, am_oGet 0 5), (16, am_oLoad am_tI 4), (18, am_oAld true), (19, am_oGet 1 0), (22, am_oLoad am_tI 1), (23, am_oIf2n am_eq 29), (26, am_oLoad am_tA 0), (27, am_oGet 0 5), (30, am_oLoad am_tI 4), (32, am_oAld true), (33, am_oGet 1 1), (36, am_oLoad am_tI 2), (37, am_oIf2n am_eq 29), (40, am_oLoad am_tA 0), (41, am_oGet 0 5), (44, am_oLoad am_tI 4), (46, am_oAld true), (47, am_oGet 1 2), (50, am_oLoad am_tI 3), (51, am_oIf2n am_eq 29), (54, am_oLoad am_tI 4), (56, am_oRet 56 am_tI FieldType.int), (57, am_oIinc 4 1), (60, am_oGoto 2), (63, am_oPush (0, 4294967295, [])), (64, am_oRet 64 am_tI FieldType.int)]
noncomputable def am_p60 : am_P := am_p60_0
noncomputable def am_p61_0 : am_P := [(0, am_oLoad am_tI 1), (1, am_oIf1 am_lt 6), (4, am_oLoad am_tI 1), (5, am_oLoad am_tA 0), (6, am_oGet 0 4), (9, am_oIf2 am_lt 7), (12, am_oRet0 12), (13, am_oLoad am_tA 0), (14, am_oGet 0 5), (17, am_oLoad am_tI 1), (18, am_oAld true), (19, am_oStore am_tA 2), (20, am_oLoad am_tI 1), (21, am_oPush (0, 1, [])), (22, am_oBinA am_iadd), (23, am_oStore am_tI 3), (24, am_oLoad am_tI 3), (25, am_oLoad am_tA 0), (26, am_oGet 0 4), (29, am_oIf2n am_lt 32), (32, am_oLoad am_tA 0), (33, am_oGet 0 5), (36, am_oLoad am_tI 3), (37, am_oPush (0, 1, [])), (38, am_oBinA am_isub), (39, am_oLoad am_tA 0), (40, am_oGet 0 5), (43, am_oLoad am_tI 3), (44, am_oAld true), (45, am_oAast), (46, am_oIinc 3 1), (49, am_oGoto 16), (52, am_oLoad am_tA 0), (53, am_oDup), (54, am_oGet 0 4), (57, am_oPush (0, 1, [])), (58, am_oBinA am_isub), (59, am_oPut 0 4 .int), (62, am_oLoad am_tA 0), (63, am_oGet 0 5), (66, am_oLoad am_tA 0), (67, am_oGet 0 4), (70, am_oLoad am_tA 2), (71, am_oAast), (72, am_oRet0 72)]
noncomputable def am_p61 : am_P := am_p61_0
noncomputable def am_p62_0 : am_P := [(0, am_oLoad am_tI 1), (1, am_oSwitch 100 65 122 [18, 100, 100, 100, 100, 100, 100, 69, 100, 100, 100, 100, 100, 91, 100, 100, 100, 78, 24, 100, 100, 100, 33, 100, 45, 100, 100, 100, 100, 100, 100, 100, 100, 100, 11, 100, 100, 39, 100, 30, 100, 100, 51, 94, 2, 100, 63, 100, 100, 8, 100, 100, 100, 100, 100, 81, 100, 57]), (248, am_oLoad am_tA 0), (249, am_oLoad am_tA 2), (250, am_oPush (0, 0, [])), (251, am_oAld false), (252, am_oCallV [] 252 63 2 4 false 6), (255, am_oRet 255 am_tI FieldType.int), (256, am_oLoad am_tA 0), (257, am_oCallV [] 257 64 1 4 false 6), (260, am_oRet 260 am_tI FieldType.int), (261, am_oLoad am_tA 0), (262, am_oCallV [] 262 65 1 2 false 6), (265, am_oIf1 am_eq 16), (268, am_oPush (0, 1, [])), (269, am_oGoto 17), (272, am_oPush (0, 0, [])), (273, am_oRet 273 am_tI FieldType.int), (274, am_oLoad am_tA 0), (275, am_oLoad am_tA 2), (276, am_oPush (0, 0, [])), (277, am_oAld false), (278, am_oCallV [] 278 66 2 5 false 6), (281, am_oRet 281 am_tI FieldType.int), (282, am_oLoad am_tA 0), (283, am_oLoad am_tA 2), (284, am_oPush (0, 0, [])), (285, am_oAld false), (286, am_oCallV [] 286 70 2 3 false 6), (289, am_oRet 289 am_tI FieldType.int), (290, am_oLoad am_tA 0), (291, am_oCallV [] 291 71 1 1 false 6), (294, am_oRet 294 am_tI FieldType.int), (295, am_oLoad am_tA 0), (296, am_oLoad am_tA 2), (297, am_oPush (0, 0, [])), (298, am_oAld false), (299, am_oCallV [] 299 72 2 2 false 6), (302, am_oRet 302 am_tI FieldType.int), (303, am_oLoad am_tA 0), (304, am_oLoad am_tA 2), (305, am_oPush (0, 0, [])), (306, am_oAld false), (307, am_oCallV [] 307 73 2 3 false 6), (310, am_oRet 310 am_tI FieldType.int), (311, am_oLoad am_tA 0), (312, am_oLoad am_tA 2), (313, am_oPush (0, 0, [])), (314, am_oAld false), (315, am_oCallV [] 315 74 2 4 false 6), (318, am_oRet 318 am_tI FieldType.int), (319, am_oLoad am_tA 0), (320, am_oLoad am_tA 2), (321, am_oPush (0, 0, [])), (322, am_oAld false), (323, am_oCallV [] 323 79 2 2 false 6), (326, am_oRet 326 am_tI FieldType.int), (327, am_oLoad am_tA 0), (328, am_oLoad am_tA 2), (329, am_oPush (0, 0, []))]
noncomputable def am_p62_1 : am_P := [(330, am_oAld false), (331, am_oCallV [] 331 80 2 4 false 6), (334, am_oRet 334 am_tI FieldType.int), (335, am_oLoad am_tA 0), (336, am_oLoad am_tA 2), (337, am_oPush (0, 0, [])), (338, am_oAld false), (339, am_oCallV [] 339 85 2 5 false 6), (342, am_oRet 342 am_tI FieldType.int), (343, am_oLoad am_tA 0), (344, am_oLoad am_tA 2), (345, am_oPush (0, 0, [])), (346, am_oAld false), (347, am_oLoad am_tA 2), (348, am_oPush (0, 1, [])), (349, am_oAld false), (350, am_oCallV [] 350 86 3 6 false 6), (353, am_oRet 353 am_tI FieldType.int), (354, am_oLoad am_tA 0), (355, am_oCallV [] 355 87 1 3 false 6), (358, am_oRet 358 am_tI FieldType.int), (359, am_oLoad am_tA 0), (360, am_oLoad am_tA 2), (361, am_oPush (0, 0, [])), (362, am_oAld false), (363, am_oCallV [] 363 93 2 2 false 6), (366, am_oIf1 am_eq 89), (369, am_oPush (0, 1, [])), (370, am_oGoto 90), (373, am_oPush (0, 0, [])), (374, am_oRet 374 am_tI FieldType.int), (375, am_oLoad am_tA 0), (376, am_oCallV [] 376 94 1 1 false 6), (379, am_oRet 379 am_tI FieldType.int), (380, am_oLoad am_tA 0), (381, am_oLoad am_tA 2), (382, am_oPush (0, 0, [])), (383, am_oAld false), (384, am_oCallV [] 384 107 2 3 false 6), (387, am_oRet 387 am_tI FieldType.int), (388, am_oLoad am_tA 0), (389, am_oLoad am_tA 2), (390, am_oPush (0, 0, [])), (391, am_oAld false), (392, am_oCallV [] 392 109 2 6 false 6), (395, am_oRet 395 am_tI FieldType.int)]
noncomputable def am_p62 : am_P := am_p62_0 ++ (am_p62_1)
noncomputable def am_p63_0 : am_P := [(0, am_oLoad am_tI 1), (1, am_oPush (0, 6, [])), (3, am_oCall [] 3 31 2 2 true), (6, am_oPush (0, 0, [])), (7, am_oStore am_tI 2), (8, am_oPush (0, 0, [])), (9, am_oStore am_tI 3), (10, am_oLoad am_tI 3), (11, am_oLoad am_tA 0), (12, am_oGet 6 2), (15, am_oGet 0 4), (18, am_oIf2n am_lt 23), (21, am_oLoad am_tA 0), (22, am_oGet 6 2), (25, am_oGet 0 5), (28, am_oLoad am_tI 3), (29, am_oAld true), (30, am_oGet 1 0), (33, am_oLoad am_tI 1), (34, am_oIf2n am_eq 21), (37, am_oIinc 2 1), (40, am_oIinc 3 1), (43, am_oGoto 7), (46, am_oLoad am_tI 2), (47, am_oRet 47 am_tI FieldType.int)]
noncomputable def am_p63 : am_P := am_p63_0
noncomputable def am_p64_0 : am_P := [(0, am_oLoad am_tA 0), (1, am_oCallV [] 1 55 1 1 true 6), (4, am_oLoad am_tA 0), (5, am_oCallV [] 5 56 1 1 true 6), (8, am_oPush (0, 0, [])), (9, am_oStore am_tI 1), (10, am_oPush (0, 0, [])), (11, am_oStore am_tI 2), (12, am_oLoad am_tI 2), (13, am_oLoad am_tA 0), (14, am_oGet 6 2), (17, am_oGet 0 4), (20, am_oIf2n am_lt 28), (23, am_oLoad am_tA 0), (24, am_oGet 6 2), (27, am_oGet 0 5), (30, am_oLoad am_tI 2), (31, am_oAld true), (32, am_oStore am_tA 3), (33, am_oLoad am_tA 3), (34, am_oGet 1 3), (37, am_oIf1 am_eq 26), (40, am_oIinc 1 1), (43, am_oLoad am_tA 3), (44, am_oPush (0, 0, [])), (45, am_oPut 1 3 .int), (48, am_oIinc 2 1), (51, am_oGoto 8), (54, am_oLoad am_tI 1), (55, am_oRet 55 am_tI FieldType.int)]
noncomputable def am_p64 : am_P := am_p64_0
noncomputable def am_p65_0 : am_P := [(0, am_oLoad am_tA 0), (1, am_oCallV [] 1 55 1 1 true 6), (4, am_oLoad am_tA 0), (5, am_oGet 6 2), (8, am_oGet 0 3), (11, am_oStore am_tI 1), (12, am_oLoad am_tA 0), (13, am_oGet 6 2), (16, am_oPush (0, 1, [])), (17, am_oPut 0 3 .boolean), (20, am_oLoad am_tI 1), (21, am_oRet 21 am_tI FieldType.boolean)]
noncomputable def am_p65 : am_P := am_p65_0
noncomputable def am_p66_0 : am_P := [(0, am_oLoad am_tA 0), (1, am_oLoad am_tI 1), (2, am_oCallV [] 2 54 2 2 true 6), (5, am_oLoad am_tA 0), (6, am_oCallV [] 6 56 1 1 true 6), (9, am_oLoad am_tA 0), (10, am_oGet 6 2), (13, am_oLoad am_tI 1), (14, am_op am_db am_hc am_bl am_m66 14 (.invokevirtual 215) []), (17, am_oLoad am_tA 0), (18, am_oGet 6 1), (21, am_oLoad am_tI 1), (22, am_oAld true), (23, am_oStore am_tA 2), (24, am_oPush (0, 0, [])), (25, am_oStore am_tI 3), (26, am_oPush (0, 0, [])), (27, am_oStore am_tI 4), (29, am_oLoad am_tI 4), (31, am_oLoad am_tA 2), (32, am_oGet 2 3), (35, am_oIf2n am_lt 37), (38, am_oLoad am_tA 0), (39, am_oLoad am_tI 1), (40, am_oLoad am_tA 2), (41, am_oGet 2 0), (44, am_oLoad am_tI 4), (46, am_oAld false), (47, am_oLoad am_tA 2), (48, am_oGet 2 2), (51, am_oLoad am_tI 4), (53, am_oAld false), (54, am_op am_db am_hc am_bl am_m66 54 (.invokevirtual 225) []), (57, am_oIf1n am_eq 35), (60, am_oIinc 3 1), (63, am_oIinc 4 1), (66, am_oGoto 18), (69, am_oLoad am_tI 3), (70, am_oRet 70 am_tI FieldType.int)]
noncomputable def am_p66 : am_P := am_p66_0
noncomputable def am_p67_0 : am_P := [(0, am_oLoad am_tA 0), (1, am_oGet 0 4), (4, am_oPush (0, 1, [])), (5, am_oBinA am_isub), (6, am_oStore am_tI 2), (7, am_oLoad am_tI 2), (8, am_oIf1 am_lt 19), (11, am_oLoad am_tA 0), (12, am_oGet 0 5), (15, am_oLoad am_tI 2), (16, am_oAld true), (17, am_oGet 1 0), (20, am_oLoad am_tI 1), (21, am_oIf2n am_eq 17), (24, am_oLoad am_tA 0), (25, am_oLoad am_tI 2), (26, am_oCallV [] 26 61 2 4 true 0), (29, am_oIinc 2 (-1)), (32, am_oGoto 5), (35, am_oRet0 35)]
noncomputable def am_p67 : am_P := am_p67_0
noncomputable def am_p68_0 : am_P := [(0, am_oLoad am_tI 2), (1, am_oLoad am_tA 0), (2, am_oGet 6 2), (5, am_oGet 0 0), (8, am_oIf2n am_lt 10), (11, am_oLoad am_tA 0), (12, am_oGet 6 2), (15, am_oGet 0 4), (18, am_oPush (0, 60, [])), (20, am_oIf2 am_lt 12), (23, am_oPush (0, 0, [])), (24, am_oRet 24 am_tI FieldType.boolean), (25, am_oPush (0, 0, [])), (26, am_oStore am_tI 4), (28, am_oLoad am_tI 4), (30, am_oPush (0, 28, [])), (32, am_oIf2n am_lt 59), (35, am_oLoad am_tA 0), (36, am_oGet 6 0), (39, am_oLoad am_tI 4), (41, am_oAld true), (42, am_oStore am_tA 5), (44, am_oLoad am_tA 5), (46, am_oCallV [] 46 14 1 1 false 5), (49, am_oIf1 am_eq 57), (52, am_oLoad am_tA 5), (54, am_oCallV [] 54 39 1 1 false 5), (57, am_oIf1 am_eq 57), (60, am_oLoad am_tA 5), (62, am_oCallV [] 62 17 1 1 false 5), (65, am_oLoad am_tI 3), (66, am_oIf2n am_eq 57), (69, am_oLoad am_tA 0), (70, am_oGet 6 2), (73, am_oLoad am_tI 1), (74, am_oLoad am_tI 2), (75, am_oLoad am_tI 4), (77, am_oLoad am_tA 5), (79, am_op am_db am_hc am_bl am_m68 79 (.invokevirtual 144) []), (82, am_op am_db am_hc am_bl am_m68 82 (.invokevirtual 233) []), (85, am_oIf1 am_eq 57), (88, am_oLoad am_tA 0), (89, am_oGet 6 2), (92, am_oLoad am_tI 1), (93, am_oLoad am_tI 2), (94, am_oLoad am_tI 4), (96, am_oCallV [] 96 57 4 5 false 0), (99, am_oIf1n am_eq 57), (102, am_oLoad am_tA 0), (103, am_oGet 6 2), (106, am_oLoad am_tI 1), (107, am_oLoad am_tI 2), (108, am_oLoad am_tI 4), (110, am_oPush (0, 0, [])), (111, am_oCallV [] 111 58 5 7 true 0), (114, am_oPush (0, 1, [])), (115, am_oRet 115 am_tI FieldType.boolean), (116, am_oIinc 4 1), (119, am_oGoto 14), (122, am_oPush (0, 0, []))]
noncomputable def am_p68_1 : am_P := [(123, am_oRet 123 am_tI FieldType.boolean)]
noncomputable def am_p68 : am_P := am_p68_0 ++ (am_p68_1)
noncomputable def am_p69_0 : am_P := [(0, am_oPush (0, 0, [])), (1, am_oStore am_tI 5), (3, am_oLoad am_tI 5), (5, am_oLoad am_tA 0), (6, am_oGet 0 4), (9, am_oIf2n am_lt 30), (12, am_oLoad am_tA 0), (13, am_oGet 0 5), (16, am_oLoad am_tI 5), (18, am_oAld true), (19, am_oStore am_tA 6), (21, am_oLoad am_tA 6), (23, am_oGet 1 0), (26, am_oLoad am_tI 1), (27, am_oIf2n am_eq 28), (30, am_oLoad am_tA 6), (32, am_oGet 1 2), (35, am_oLoad am_tI 3), (36, am_oIf2n am_eq 28), (39, am_oLoad am_tA 0), (40, am_oLoad am_tA 6), (42, am_oGet 1 1), (45, am_oLoad am_tI 2), (46, am_oCallV [] 46 25 3 4 false 0), (49, am_oLoad am_tI 4), (51, am_oIf2n am_lt 28), (54, am_oPush (0, 0, [])), (55, am_oRet 55 am_tI FieldType.boolean), (56, am_oIinc 5 1), (59, am_oGoto 2), (62, am_oPush (0, 1, [])), (63, am_oRet 63 am_tI FieldType.boolean)]
noncomputable def am_p69 : am_P := am_p69_0
noncomputable def am_p70_0 : am_P := [(0, am_oLoad am_tA 0), (1, am_oLoad am_tI 1), (2, am_oCallV [] 2 54 2 2 true 6), (5, am_oLoad am_tA 0), (6, am_oGet 6 2), (9, am_oGet 0 2), (12, am_oStore am_tI 2), (13, am_oLoad am_tA 0), (14, am_oGet 6 2), (17, am_oLoad am_tI 1), (18, am_oPut 0 2 .int), (21, am_oLoad am_tI 2), (22, am_oRet 22 am_tI FieldType.int)]
noncomputable def am_p70 : am_P := am_p70_0
noncomputable def am_p71_0 : am_P := [(0, am_oLoad am_tA 0), (1, am_oCallV [] 1 55 1 1 true 6), (4, am_oLoad am_tA 0), (5, am_oGet 6 2), (8, am_oGet 0 2), (11, am_oRet 11 am_tI FieldType.int)]
noncomputable def am_p71 : am_P := am_p71_0
noncomputable def am_p72_0 : am_P := [(0, am_oLoad am_tI 1), (1, am_oPush (0, 1, [])), (2, am_oPush (0, 20, [])), (4, am_oCall [] 4 28 3 3 true), (7, am_oLoad am_tA 0), (8, am_oGet 6 3), (11, am_oPush (0, 80, [])), (13, am_oLoad am_tA 0), (14, am_oGet 6 3), (17, am_oGet 3 0), (20, am_oPush (0, 4, [])), (21, am_oLoad am_tI 1), (22, am_oBinA am_imul), (23, am_oBinA am_iadd), (24, am_oBinS (am_i22 (fun x y => am_ofI (if y < x then y else x)))), (27, am_oPut 3 0 .int), (30, am_oLoad am_tA 0), (31, am_oGet 6 3), (34, am_oGet 3 0), (37, am_oRet 37 am_tI FieldType.int)]
noncomputable def am_p72 : am_P := am_p72_0
noncomputable def am_p73_0 : am_P := [(0, am_oLoad am_tI 1), (1, am_oPush (0, 1, [])), (2, am_oPush (0, 50, [])), (4, am_oCall [] 4 28 3 3 true), (7, am_oLoad am_tA 0), (8, am_oGet 6 3), (11, am_oGet 3 1), (14, am_oStore am_tI 2), (15, am_oLoad am_tA 0), (16, am_oGet 6 3), (19, am_oLoad am_tI 1), (20, am_oPut 3 1 .int), (23, am_oLoad am_tI 2), (24, am_oRet 24 am_tI FieldType.int)]
noncomputable def am_p73 : am_P := am_p73_0
noncomputable def am_p74_0 : am_P := [(0, am_oLoad am_tA 0), (1, am_oCallV [] 1 55 1 1 true 6), (4, am_oLoad am_tI 1), (5, am_oPush (0, 1, [])), (6, am_oPush (0, 40, [])), (8, am_oCall [] 8 28 3 3 true), (11, am_oPush (0, 0, [])), (12, am_oStore am_tI 2), (13, am_oPush (0, 0, [])), (14, am_oStore am_tI 3), (15, am_oLoad am_tI 3), (16, am_oLoad am_tI 1), (17, am_oIf2n am_lt 36), (20, am_oLoad am_tA 0), (21, am_oGet 6 3), (24, am_oGet 3 0), (27, am_oIf1n am_gt 36), (30, am_oLoad am_tI 2), (31, am_oLoad am_tA 0), (32, am_oCallV [] 32 75 1 4 false 6), (35, am_oBinA am_iadd), (36, am_oStore am_tI 2), (37, am_oLoad am_tA 0), (38, am_oGet 6 3), (41, am_oLoad am_tA 0), (42, am_oGet 6 2), (45, am_oGet 0 0), (48, am_oCallV [] 48 77 2 2 true 3), (51, am_oLoad am_tA 0), (52, am_oGet 6 5), (55, am_oIf1 am_eq 34), (58, am_oLoad am_tA 0), (59, am_oGet 6 2), (62, am_op am_db am_hc am_bl am_m74 62 (.invokevirtual 266) []), (65, am_oIinc 3 1), (68, am_oGoto 10), (71, am_oLoad am_tA 0), (72, am_oDup), (73, am_oGet 6 7), (76, am_oLoad am_tI 2), (77, am_oBinA am_iadd), (78, am_oPut 6 7 .int), (81, am_oLoad am_tI 2), (82, am_oRet 82 am_tI FieldType.int)]
noncomputable def am_p74 : am_P := am_p74_0
noncomputable def am_p75_0 : am_P := [(0, am_oPush (0, 0, [])), (1, am_oStore am_tI 1), (2, am_oPush (0, 0, [])), (3, am_oStore am_tI 2), (4, am_oLoad am_tI 2), (5, am_oLoad am_tA 0), (6, am_oGet 6 2), (9, am_oGet 0 4), (12, am_oIf2n am_lt 35), (15, am_oLoad am_tA 0), (16, am_oGet 6 2), (19, am_oGet 0 5), (22, am_oLoad am_tI 2), (23, am_oAld true), (24, am_oStore am_tA 3), (25, am_oLoad am_tA 0), (26, am_oLoad am_tA 3), (27, am_oLoad am_tA 0), (28, am_oGet 6 2), (31, am_oGet 0 2), (34, am_oCallV [] 34 76 3 4 false 6), (37, am_oIf1 am_eq 33), (40, am_oLoad am_tA 0), (41, am_oGet 6 0), (44, am_oLoad am_tA 3), (45, am_oGet 1 2), (48, am_oAld true), (49, am_oDup), (50, am_oGet 5 10), (53, am_oPush (0, 1, [])), (54, am_oBinA am_iadd), (55, am_oPut 5 10 .int), (58, am_oIinc 1 1), (61, am_oIinc 2 1), (64, am_oGoto 4), (67, am_oLoad am_tI 1), (68, am_oRet 68 am_tI FieldType.int)]
noncomputable def am_p75 : am_P := am_p75_0
noncomputable def am_p76_0 : am_P := [(0, am_oLoad am_tA 0), (1, am_oGet 6 0), (4, am_oLoad am_tA 1), (5, am_oGet 1 2), (8, am_oAld true), (9, am_oStore am_tA 3), (10, am_oLoad am_tA 3), (11, am_oCallV [] 11 14 1 1 false 5), (14, am_oIf1 am_eq 19), (17, am_oLoad am_tA 1), (18, am_oGet 1 0), (21, am_oLoad am_tI 2), (22, am_oBinA am_isub), (23, am_oAbs), (26, am_oLoad am_tA 3), (27, am_oGet 5 3), (30, am_oIf2 am_gt 19), (33, am_oPush (0, 1, [])), (34, am_oGoto 20), (37, am_oPush (0, 0, [])), (38, am_oRet 38 am_tI FieldType.boolean)]
noncomputable def am_p76 : am_P := am_p76_0
noncomputable def am_p77_0 : am_P := [(0, am_oLoad am_tA 0), (1, am_oLoad am_tA 0), (2, am_oGet 3 2), (5, am_oLoad am_tI 1), (6, am_op am_db am_hc am_bl am_m77 6 (.i2f) []), (7, am_oLoad am_tA 0), (8, am_oCallV [] 8 9 1 1 false 3), (11, am_op am_db am_hc am_bl am_m77 11 (.fdiv) []), (12, am_op am_db am_hc am_bl am_m77 12 (.f2d) []), (13, am_op am_db am_hc am_bl am_m77 13 (.dadd) []), (14, am_oPut 3 2 .double), (17, am_oLoad am_tA 0), (18, am_oDup), (19, am_oGet 3 0), (22, am_oPush (0, 1, [])), (23, am_oBinA am_isub), (24, am_oPut 3 0 .int), (27, am_oRet0 27)]
noncomputable def am_p77 : am_P := am_p77_0
noncomputable def am_p78_0 : am_P := [(0, am_oLoad am_tA 0), (1, am_oLoad am_tA 0), (2, am_oGet 0 2), (5, am_oPush (0, 1, [])), (6, am_oBinA am_iadd), (7, am_oLoad am_tA 0), (8, am_oGet 0 1), (11, am_oIf2n am_lt 13), (14, am_oLoad am_tA 0), (15, am_oGet 0 2), (18, am_oPush (0, 1, [])), (19, am_oBinA am_iadd), (20, am_oGoto 14), (23, am_oPush (0, 0, [])), (24, am_oPut 0 2 .int), (27, am_oRet0 27)]
noncomputable def am_p78 : am_P := am_p78_0
noncomputable def am_p79_0 : am_P := [(0, am_oLoad am_tA 0), (1, am_oLoad am_tI 1), (2, am_oCallV [] 2 36 2 3 false 6), (5, am_oGet 5 10), (8, am_oRet 8 am_tI FieldType.int)]
noncomputable def am_p79 : am_P := am_p79_0
noncomputable def am_p80_0 : am_P := [(0, am_oLoad am_tA 0), (1, am_oLoad am_tI 1), (2, am_oCallV [] 2 54 2 2 true 6), (5, am_oPush (0, 0, [])), (6, am_oStore am_tI 2), (7, am_oPush (0, 0, [])), (8, am_oStore am_tI 3), (9, am_oLoad am_tI 3), (10, am_oLoad am_tA 0), (11, am_oGet 6 2), (14, am_oGet 0 4), (17, am_oIf2n am_lt 29), (20, am_oLoad am_tA 0), (21, am_oLoad am_tA 0), (22, am_oGet 6 2), (25, am_oGet 0 5), (28, am_oLoad am_tI 3), (29, am_oAld true), (30, am_oLoad am_tI 1), (31, am_oCallV [] 31 76 3 4 false 6), (34, am_oIf1 am_eq 27), (37, am_oLoad am_tA 0), (38, am_oLoad am_tI 3), (39, am_oLoad am_tI 1), (40, am_op am_db am_hc am_bl am_m80 40 (.invokevirtual 287) []), (43, am_oIf1 am_eq 27), (46, am_oIinc 2 1), (49, am_oIinc 3 1), (52, am_oGoto 7), (55, am_oLoad am_tI 2), (56, am_oRet 56 am_tI FieldType.int)]
noncomputable def am_p80 : am_P := am_p80_0
noncomputable def am_p81_0 : am_P := [(0, am_oLoad am_tA 0), (1, am_oGet 6 2), (4, am_oGet 0 5), (7, am_oLoad am_tI 1), (8, am_oAld true), (9, am_oStore am_tA 3), (10, am_oLoad am_tA 0), (11, am_oGet 6 0), (14, am_oLoad am_tA 3), (15, am_oGet 1 2), (18, am_oAld true), (19, am_op am_db am_hc am_bl am_m81 19 (.invokevirtual 144) []), (22, am_oStore am_tI 4), (24, am_oPush (0, 0, [])), (25, am_oStore am_tI 5), (27, am_oLoad am_tI 5), (29, am_oLoad am_tA 0), (30, am_oGet 6 2), (33, am_oGet 0 4), (36, am_oIf2n am_lt 50), (39, am_oLoad am_tA 0), (40, am_oGet 6 2), (43, am_oGet 0 5), (46, am_oLoad am_tI 5), (48, am_oAld true), (49, am_oStore am_tA 6), (51, am_oLoad am_tI 5), (53, am_oLoad am_tI 1), (54, am_oIf2 am_eq 48), (57, am_oLoad am_tA 6), (59, am_oGet 1 2), (62, am_oLoad am_tA 3), (63, am_oGet 1 2), (66, am_oIf2n am_eq 48), (69, am_oLoad am_tA 0), (70, am_oLoad am_tA 6), (72, am_oLoad am_tI 2), (73, am_oCallV [] 73 76 3 4 false 6), (76, am_oIf1 am_eq 48), (79, am_oLoad am_tA 0), (80, am_oGet 6 2), (83, am_oLoad am_tA 6), (85, am_oLoad am_tA 3), (86, am_op am_db am_hc am_bl am_m81 86 (.invokevirtual 291) []), (89, am_oLoad am_tI 4), (91, am_oIf2n am_lt 48), (94, am_oPush (0, 1, [])), (95, am_oRet 95 am_tI FieldType.boolean), (96, am_oIinc 5 1), (99, am_oGoto 15), (102, am_oPush (0, 0, [])), (103, am_oRet 103 am_tI FieldType.boolean)]
noncomputable def am_p81 : am_P := am_p81_0
noncomputable def am_p82_0 : am_P := [(0, am_oLoad am_tA 0), (1, am_oLoad am_tA 0), (2, am_oLoad am_tA 2), (3, am_oCallV [] 3 83 2 2 false 0), (6, am_oLoad am_tA 0), (7, am_oLoad am_tA 1), (8, am_oCallV [] 8 83 2 2 false 0), (11, am_oBinA am_isub), (12, am_oCallV [] 12 84 2 2 false 0), (15, am_oRet 15 am_tI FieldType.int)]
noncomputable def am_p82 : am_P := am_p82_0
noncomputable def am_p83_0 : am_P := [(0, am_oLoad am_tA 0), (1, am_oLoad am_tA 1), (2, am_oGet 1 1), (5, am_oLoad am_tA 1), (6, am_oGet 1 3), (9, am_oBinA am_iadd), (10, am_oCallV [] 10 84 2 2 false 0), (13, am_oRet 13 am_tI FieldType.int)]
noncomputable def am_p83 : am_P := am_p83_0
noncomputable def am_p84_0 : am_P := [(0, am_oLoad am_tI 1), (1, am_oIf1n am_lt 7), (4, am_oLoad am_tI 1), (5, am_oLoad am_tA 0), (6, am_oGet 0 0), (9, am_oBinA am_iadd), (10, am_oRet 10 am_tI FieldType.int), (11, am_oLoad am_tI 1), (12, am_oLoad am_tA 0), (13, am_oGet 0 0), (16, am_oIf2 am_lt 16), (19, am_oLoad am_tI 1), (20, am_oLoad am_tA 0), (21, am_oGet 0 0), (24, am_oBinA am_isub), (25, am_oGoto 17), (28, am_oLoad am_tI 1), (29, am_oRet 29 am_tI FieldType.int)]
noncomputable def am_p84 : am_P := am_p84_0
noncomputable def am_p85_0 : am_P := [(0, am_oLoad am_tA 0), (1, am_oLoad am_tI 1), (2, am_oCallV [] 2 54 2 2 true 6), (5, am_oPush (0, 0, [])), (6, am_oStore am_tI 2), (7, am_oPush (0, 0, [])), (8, am_oStore am_tI 3), (9, am_oLoad am_tI 3), (10, am_oLoad am_tA 0), (11, am_oGet 6 2), (14, am_oGet 0 4), (17, am_oIf2n am_lt 30), (20, am_oLoad am_tA 0), (21, am_oGet 6 2), (24, am_oGet 0 5), (27, am_oLoad am_tI 3), (28, am_oAld true), (29, am_oStore am_tA 4), (31, am_oLoad am_tA 4), (33, am_oGet 1 0), (36, am_oLoad am_tI 1), (37, am_oIf2 am_eq 28), (40, am_oLoad am_tA 0), (41, am_oLoad am_tA 4), (43, am_oLoad am_tI 1), (44, am_oCallV [] 44 76 3 4 false 6), (47, am_oIf1 am_eq 28), (50, am_oIinc 2 1), (53, am_oIinc 3 1), (56, am_oGoto 7), (59, am_oLoad am_tI 2), (60, am_oRet 60 am_tI FieldType.int)]
noncomputable def am_p85 : am_P := am_p85_0
noncomputable def am_p86_0 : am_P := [(0, am_oLoad am_tA 0), (1, am_oLoad am_tI 1), (2, am_oCallV [] 2 54 2 2 true 6), (5, am_oLoad am_tI 2), (6, am_oLoad am_tA 0), (7, am_oGet 6 2), (10, am_oGet 0 0), (13, am_oCall [] 13 31 2 2 true), (16, am_oPush (0, 0, [])), (17, am_oStore am_tI 3), (18, am_oPush (0, 0, [])), (19, am_oStore am_tI 4), (21, am_oLoad am_tI 4), (23, am_oLoad am_tA 0), (24, am_oGet 6 2), (27, am_oGet 0 4), (30, am_oIf2n am_lt 37), (33, am_oLoad am_tA 0), (34, am_oGet 6 2), (37, am_oGet 0 5), (40, am_oLoad am_tI 4), (42, am_oAld true), (43, am_oStore am_tA 5), (45, am_oLoad am_tA 0), (46, am_oGet 6 2), (49, am_oLoad am_tA 5), (51, am_oCallV [] 51 83 2 2 false 0), (54, am_oLoad am_tI 2), (55, am_oIf2n am_eq 35), (58, am_oLoad am_tA 0), (59, am_oLoad am_tA 5), (61, am_oLoad am_tI 1), (62, am_oCallV [] 62 76 3 4 false 6), (65, am_oIf1 am_eq 35), (68, am_oIinc 3 1), (71, am_oIinc 4 1), (74, am_oGoto 12), (77, am_oLoad am_tI 3), (78, am_oRet 78 am_tI FieldType.int)]
noncomputable def am_p86 : am_P := am_p86_0
noncomputable def am_p87_0 : am_P := [(0, am_oLoad am_tA 0), (1, am_oCallV [] 1 55 1 1 true 6), (4, am_oPush (0, 0, [])), (5, am_oStore am_tI 1), (6, am_oLoad am_tI 1), (7, am_oPush (0, 28, [])), (9, am_oIf2n am_lt 15), (12, am_oLoad am_tA 0), (13, am_oGet 6 0), (16, am_oLoad am_tI 1), (17, am_oAld true), (18, am_oPush (0, 0, [])), (19, am_oPut 5 11 .int), (22, am_oIinc 1 1), (25, am_oGoto 4), (28, am_oPush (0, 0, [])), (29, am_oStore am_tI 1), (30, am_oPush (0, 0, [])), (31, am_oStore am_tI 2), (32, am_oLoad am_tI 2), (33, am_oPush (0, 3, [])), (34, am_oIf2n am_lt 29), (37, am_oLoad am_tI 1), (38, am_oLoad am_tA 0), (39, am_oCallV [] 39 88 1 4 false 6), (42, am_oBinA am_iadd), (43, am_oStore am_tI 1), (44, am_oIinc 2 1), (47, am_oGoto 19), (50, am_oLoad am_tI 1), (51, am_oRet 51 am_tI FieldType.int)]
noncomputable def am_p87 : am_P := am_p87_0
noncomputable def am_p88_0 : am_P := [(0, am_oLoad am_tA 0), (1, am_oGet 6 2), (4, am_oCallV [] 4 89 1 4 true 0), (7, am_oPush (0, 0, [])), (8, am_oStore am_tI 1), (9, am_oPush (0, 0, [])), (10, am_oStore am_tI 2), (11, am_oLoad am_tI 2), (12, am_oLoad am_tA 0), (13, am_oGet 6 2), (16, am_oGet 0 4), (19, am_oIf2n am_lt 47), (22, am_oLoad am_tA 0), (23, am_oGet 6 2), (26, am_oGet 0 6), (29, am_oLoad am_tI 2), (30, am_oAld true), (31, am_oStore am_tA 3), (32, am_oLoad am_tA 0), (33, am_oLoad am_tA 3), (34, am_oLoad am_tA 0), (35, am_oGet 6 2), (38, am_oGet 0 2), (41, am_oCallV [] 41 76 3 4 false 6), (44, am_oIf1 am_eq 45), (47, am_oLoad am_tA 3), (48, am_oDup), (49, am_oGet 1 3), (52, am_oPush (0, 1, [])), (53, am_oBinA am_iadd), (54, am_oPut 1 3 .int), (57, am_oLoad am_tA 0), (58, am_oDup), (59, am_oGet 6 7), (62, am_oPush (0, 1, [])), (63, am_oBinA am_iadd), (64, am_oPut 6 7 .int), (67, am_oLoad am_tA 0), (68, am_oGet 6 0), (71, am_oLoad am_tA 3), (72, am_oGet 1 2), (75, am_oAld true), (76, am_oCallV [] 76 91 1 2 false 5), (79, am_oIf1 am_eq 45), (82, am_oIinc 1 1), (85, am_oIinc 2 1), (88, am_oGoto 7), (91, am_oLoad am_tA 0), (92, am_oGet 6 2), (95, am_oCallV [] 95 92 1 2 true 0), (98, am_oLoad am_tI 1), (99, am_oRet 99 am_tI FieldType.int)]
noncomputable def am_p88 : am_P := am_p88_0
noncomputable def am_p89_0 : am_P := [(0, am_oPush (0, 0, [])), (1, am_oStore am_tI 1), (2, am_oLoad am_tI 1), (3, am_oLoad am_tA 0), (4, am_oGet 0 4), (7, am_oIf2n am_lt 49), (10, am_oLoad am_tA 0), (11, am_oGet 0 5), (14, am_oLoad am_tI 1), (15, am_oAld true), (16, am_oStore am_tA 2), (17, am_oLoad am_tA 2), (18, am_oLoad am_tA 0), (19, am_oLoad am_tA 2), (20, am_oCallV [] 20 90 2 2 false 0), (23, am_oPut 1 5 .int), (26, am_oLoad am_tI 1), (27, am_oStore am_tI 3), (28, am_oLoad am_tI 3), (29, am_oIf1n am_gt 42), (32, am_oLoad am_tA 0), (33, am_oGet 0 6), (36, am_oLoad am_tI 3), (37, am_oPush (0, 1, [])), (38, am_oBinA am_isub), (39, am_oAld true), (40, am_oGet 1 5), (43, am_oLoad am_tA 2), (44, am_oGet 1 5), (47, am_oIf2n am_gt 42), (50, am_oLoad am_tA 0), (51, am_oGet 0 6), (54, am_oLoad am_tI 3), (55, am_oLoad am_tA 0), (56, am_oGet 0 6), (59, am_oLoad am_tI 3), (60, am_oPush (0, 1, [])), (61, am_oBinA am_isub), (62, am_oAld true), (63, am_oAast), (64, am_oIinc 3 (-1)), (67, am_oGoto 18), (70, am_oLoad am_tA 0), (71, am_oGet 0 6), (74, am_oLoad am_tI 3), (75, am_oLoad am_tA 2), (76, am_oAast), (77, am_oIinc 1 1), (80, am_oGoto 2), (83, am_oRet0 83)]
noncomputable def am_p89 : am_P := am_p89_0
noncomputable def am_p90_0 : am_P := [(0, am_oLoad am_tA 0), (1, am_oLoad am_tA 1), (2, am_oCallV [] 2 83 2 2 false 0), (5, am_oPush (0, 28, [])), (7, am_oBinA am_imul), (8, am_oLoad am_tA 1), (9, am_oGet 1 2), (12, am_oBinA am_iadd), (13, am_oPush (0, 6, [])), (15, am_oBinA am_imul), (16, am_oLoad am_tA 1), (17, am_oGet 1 0), (20, am_oBinA am_iadd), (21, am_oPush (0, 600, [])), (24, am_oBinA am_imul), (25, am_oLoad am_tA 1), (26, am_oGet 1 1), (29, am_oBinA am_iadd), (30, am_oRet 30 am_tI FieldType.int)]
noncomputable def am_p90 : am_P := am_p90_0
noncomputable def am_p91_0 : am_P := [(0, am_oLoad am_tA 0), (1, am_oDup), (2, am_oGet 5 10), (5, am_oPush (0, 1, [])), (6, am_oBinA am_iadd), (7, am_oPut 5 10 .int), (10, am_oLoad am_tA 0), (11, am_oDup), (12, am_oGet 5 11), (15, am_oPush (0, 1, [])), (16, am_oBinA am_iadd), (17, am_oPut 5 11 .int), (20, am_oLoad am_tA 0), (21, am_oCallV [] 21 21 1 1 false 5), (24, am_oPush (0, 60, [])), (26, am_oIf2n am_lt 18), (29, am_oPush (0, 1, [])), (30, am_oGoto 19), (33, am_oPush (0, 3, [])), (34, am_oStore am_tI 1), (35, am_oLoad am_tA 0), (36, am_oLoad am_tA 0), (37, am_oGet 5 1), (40, am_oIf1 am_eq 30), (43, am_oLoad am_tA 0), (44, am_oGet 5 11), (47, am_oLoad am_tI 1), (48, am_oIf2 am_lt 30), (51, am_oPush (0, 1, [])), (52, am_oGoto 31), (55, am_oPush (0, 0, [])), (56, am_oPut 5 9 .boolean), (59, am_oLoad am_tA 0), (60, am_oGet 5 9), (63, am_oRet 63 am_tI FieldType.boolean)]
noncomputable def am_p91 : am_P := am_p91_0
noncomputable def am_p92_0 : am_P := [(0, am_oLoad am_tA 0), (1, am_oGet 0 4), (4, am_oPush (0, 1, [])), (5, am_oBinA am_isub), (6, am_oStore am_tI 1), (7, am_oLoad am_tI 1), (8, am_oIf1 am_lt 19), (11, am_oLoad am_tA 0), (12, am_oGet 0 5), (15, am_oLoad am_tI 1), (16, am_oAld true), (17, am_oGet 1 3), (20, am_oPush (0, 2, [])), (21, am_oIf2n am_gt 17), (24, am_oLoad am_tA 0), (25, am_oLoad am_tI 1), (26, am_oCallV [] 26 61 2 4 true 0), (29, am_oIinc 1 (-1)), (32, am_oGoto 5), (35, am_oRet0 35)]
noncomputable def am_p92 : am_P := am_p92_0
noncomputable def am_p93_0 : am_P := [(0, am_oLoad am_tA 0), (1, am_oLoad am_tI 1), (2, am_oCallV [] 2 36 2 3 false 6), (5, am_oGet 5 9), (8, am_oRet 8 am_tI FieldType.boolean)]
noncomputable def am_p93 : am_P := am_p93_0
noncomputable def am_p94_0 : am_P := [(0, am_oLoad am_tA 0), (1, am_oCallV [] 1 55 1 1 true 6), (4, am_oLoad am_tA 0), (5, am_oCallV [] 5 95 1 2 true 6), (8, am_oLoad am_tA 0), (9, am_oGet 6 4), (12, am_oGet 4 6), (15, am_oRet 15 am_tI FieldType.int)]
noncomputable def am_p94 : am_P := am_p94_0
noncomputable def am_p95_0 : am_P := [(0, am_oLoad am_tA 0), (1, am_oGet 6 4), (4, am_oPush (0, 0, [])), (5, am_oPut 4 0 .int), (8, am_oPush (0, 0, [])), (9, am_oStore am_tI 1), (10, am_oLoad am_tI 1), (11, am_oPush (0, 24, [])), (13, am_oIf2n am_lt 53), (16, am_oLoad am_tA 0), (17, am_oGet 6 0), (20, am_oLoad am_tI 1), (21, am_oAld true), (22, am_oGet 5 0), (25, am_oIf1 am_eq 51), (28, am_oLoad am_tA 0), (29, am_oGet 6 0), (32, am_oLoad am_tI 1), (33, am_oAld true), (34, am_oGet 5 9), (37, am_oIf1 am_eq 51), (40, am_oLoad am_tA 0), (41, am_oGet 6 2), (44, am_oLoad am_tI 1), (45, am_op am_db am_hc am_bl am_m95 45 (.invokevirtual 334) []), (48, am_oIf1 am_lt 51), (51, am_oLoad am_tA 0), (52, am_oGet 6 4), (55, am_oGet 4 0), (58, am_oPush (0, 3, [])), (59, am_oIf2 am_lt 36), (62, am_oThrow 62 3), (65, am_oDup), (66, am_oBad), (69, am_oBad), (72, am_oBad), (73, am_oLoad am_tA 0), (74, am_oGet 6 4), (77, am_oGet 4 1), (80, am_oLoad am_tA 0), (81, am_oGet 6 4), (84, am_oGet 4 0), (87, am_oLoad am_tI 1), (88, am_oIast), (89, am_oLoad am_tA 0), (90, am_oGet 6 4), (93, am_oDup), (94, am_oGet 4 0), (97, am_oPush (0, 1, [])), (98, am_oBinA am_iadd), (99, am_oPut 4 0 .int), (102, am_oIinc 1 1), (105, am_oGoto 6), (108, am_oPush (0, 0, [])), (109, am_oStore am_tI 1), (110, am_oLoad am_tI 1), (111, am_oPush (0, 28, [])), (113, am_oIf2n am_lt 70), (116, am_oLoad am_tA 0), (117, am_oGet 6 4)]
noncomputable def am_p95_1 : am_P := [(120, am_oGet 4 2), (123, am_oLoad am_tI 1), (124, am_oLoad am_tA 0), (125, am_oGet 6 0), (128, am_oLoad am_tI 1), (129, am_oAld true), (130, am_oCall [] 130 97 1 1 false), (133, am_oIast), (134, am_oIinc 1 1), (137, am_oGoto 55), (140, am_oLoad am_tA 0), (141, am_oGet 6 4), (144, am_oLoad am_tA 0), (145, am_oGet 6 2), (148, am_oLoad am_tA 0), (149, am_oGet 6 1), (152, am_oCallV [] 152 98 3 4 true 4), (155, am_oRet0 155)]
noncomputable def am_p95 : am_P := am_p95_0 ++ (am_p95_1)
noncomputable def am_p96_0 : am_P := [(0, am_oPush (0, 0, [])), (1, am_oStore am_tI 2), (2, am_oLoad am_tI 2), (3, am_oLoad am_tA 0), (4, am_oGet 0 4), (7, am_oIf2n am_lt 17), (10, am_oLoad am_tA 0), (11, am_oGet 0 5), (14, am_oLoad am_tI 2), (15, am_oAld true), (16, am_oGet 1 2), (19, am_oLoad am_tI 1), (20, am_oIf2n am_eq 15), (23, am_oLoad am_tI 2), (24, am_oRet 24 am_tI FieldType.int), (25, am_oIinc 2 1), (28, am_oGoto 2), (31, am_oPush (0, 4294967295, [])), (32, am_oRet 32 am_tI FieldType.int)]
noncomputable def am_p96 : am_P := am_p96_0
noncomputable def am_p97_0 : am_P := [(0, am_oLoad am_tA 0), (1, am_oCallV [] 1 14 1 1 false 5), (4, am_oIf1 am_eq 9), (7, am_oLoad am_tA 0), (8, am_oCallV [] 8 39 1 1 false 5), (11, am_oIf1 am_eq 9), (14, am_oLoad am_tA 0), (15, am_oCallV [] 15 17 1 1 false 5), (18, am_oGoto 10), (21, am_oPush (0, 4294967295, [])), (22, am_oRet 22 am_tI FieldType.int)]
noncomputable def am_p97 : am_P := am_p97_0
noncomputable def am_p98_0 : am_P := [(0, am_oLoad am_tA 0), (1, am_oPush (0, 0, [])), (2, am_oPut 4 6 .int), (5, am_oPush (0, 0, [])), (6, am_oStore am_tI 3), (7, am_oLoad am_tI 3), (8, am_oPush (0, 28, [])), (10, am_oIf2n am_lt 17), (13, am_oLoad am_tA 0), (14, am_oLoad am_tI 3), (15, am_oLoad am_tA 1), (16, am_oLoad am_tA 2), (17, am_oCallV [] 17 99 4 7 false 4), (20, am_oIf1n am_eq 15), (23, am_oRet0 23), (24, am_oIinc 3 1), (27, am_oGoto 5), (30, am_oPush (0, 0, [])), (31, am_oStore am_tI 3), (32, am_oLoad am_tI 3), (33, am_oLoad am_tA 0), (34, am_oGet 4 0), (37, am_oIf2n am_lt 30), (40, am_oLoad am_tA 0), (41, am_oLoad am_tI 3), (42, am_oLoad am_tA 1), (43, am_oLoad am_tA 2), (44, am_op am_db am_hc am_bl am_m98 44 (.invokevirtual 40) []), (47, am_oIinc 3 1), (50, am_oGoto 19), (53, am_oPush (0, 0, [])), (54, am_oLoad am_tA 0), (55, am_oLoad am_tA 1), (56, am_oLoad am_tA 2), (57, am_oCall [] 57 104 4 6 true), (60, am_oRet0 60)]
noncomputable def am_p98 : am_P := am_p98_0
noncomputable def am_p99_0 : am_P := [(0, am_oLoad am_tA 0), (1, am_oGet 4 2), (4, am_oLoad am_tI 1), (5, am_oAld false), (6, am_oStore am_tI 4), (8, am_oLoad am_tI 4), (10, am_oPush (0, 4294967295, [])), (11, am_oIf2n am_eq 10), (14, am_oPush (0, 1, [])), (15, am_oRet 15 am_tI FieldType.boolean), (16, am_oPush (0, 0, [])), (17, am_oStore am_tI 5), (19, am_oLoad am_tI 5), (21, am_oLoad am_tA 2), (22, am_oGet 0 4), (25, am_oIf2n am_lt 42), (28, am_oLoad am_tA 2), (29, am_oGet 0 5), (32, am_oLoad am_tI 5), (34, am_oAld true), (35, am_oStore am_tA 6), (37, am_oLoad am_tA 6), (39, am_oGet 1 2), (42, am_oLoad am_tI 1), (43, am_oIf2n am_eq 40), (46, am_oLoad am_tA 3), (47, am_oLoad am_tA 6), (49, am_oGet 1 0), (52, am_oAld true), (53, am_oLoad am_tA 6), (55, am_oGet 1 1), (58, am_oLoad am_tI 4), (60, am_op am_db am_hc am_bl am_m99 60 (.invokevirtual 68) []), (63, am_oLoad am_tA 0), (64, am_oLoad am_tA 6), (66, am_oLoad am_tA 2), (67, am_op am_db am_hc am_bl am_m99 67 (.invokevirtual 74) []), (70, am_oIf2n am_lt 40), (73, am_oPush (0, 0, [])), (74, am_oRet 74 am_tI FieldType.boolean), (75, am_oIinc 5 1), (78, am_oGoto 12), (81, am_oPush (0, 1, [])), (82, am_oRet 82 am_tI FieldType.boolean)]
noncomputable def am_p99 : am_P := am_p99_0
noncomputable def am_p100_0 : am_P := [(0, am_oPush (0, 0, [])), (1, am_oStore am_tI 3), (2, am_oPush (0, 0, [])), (3, am_oStore am_tI 4), (5, am_oLoad am_tI 4), (7, am_oLoad am_tA 0), (8, am_oGet 2 3), (11, am_oIf2n am_lt 23), (14, am_oLoad am_tA 0), (15, am_oGet 2 0), (18, am_oLoad am_tI 4), (20, am_oAld false), (21, am_oLoad am_tI 1), (22, am_oIf2n am_eq 21), (25, am_oLoad am_tA 0), (26, am_oGet 2 2), (29, am_oLoad am_tI 4), (31, am_oAld false), (32, am_oLoad am_tI 2), (33, am_oIf2n am_eq 21), (36, am_oIinc 3 1), (39, am_oIinc 4 1), (42, am_oGoto 4), (45, am_oLoad am_tI 3), (46, am_oRet 46 am_tI FieldType.int)]
noncomputable def am_p100 : am_P := am_p100_0
noncomputable def am_p101_0 : am_P := [(0, am_oPush (0, 0, [])), (1, am_oStore am_tI 3), (2, am_oPush (0, 0, [])), (3, am_oStore am_tI 4), (5, am_oLoad am_tI 4), (7, am_oLoad am_tA 2), (8, am_oGet 0 4), (11, am_oIf2n am_lt 37), (14, am_oLoad am_tA 2), (15, am_oGet 0 5), (18, am_oLoad am_tI 4), (20, am_oAld true), (21, am_oStore am_tA 5), (23, am_oLoad am_tA 5), (25, am_oGet 1 0), (28, am_oLoad am_tA 1), (29, am_oGet 1 0), (32, am_oIf2n am_eq 35), (35, am_oLoad am_tA 5), (37, am_oGet 1 1), (40, am_oLoad am_tA 1), (41, am_oGet 1 1), (44, am_oIf2n am_eq 35), (47, am_oLoad am_tA 0), (48, am_oGet 4 2), (51, am_oLoad am_tA 5), (53, am_oGet 1 2), (56, am_oAld false), (57, am_oLoad am_tA 0), (58, am_oGet 4 2), (61, am_oLoad am_tA 1), (62, am_oGet 1 2), (65, am_oAld false), (66, am_oIf2n am_eq 35), (69, am_oIinc 3 1), (72, am_oIinc 4 1), (75, am_oGoto 4), (78, am_oLoad am_tI 3), (79, am_oRet 79 am_tI FieldType.int)]
noncomputable def am_p101 : am_P := am_p101_0
noncomputable def am_p102_0 : am_P := [(0, am_oLoad am_tA 0), (1, am_oGet 4 4), (4, am_oLoad am_tI 1), (5, am_oPush (0, 0, [])), (6, am_oIast), (7, am_oLoad am_tA 0), (8, am_oGet 4 1), (11, am_oLoad am_tI 1), (12, am_oAld false), (13, am_oStore am_tI 4), (15, am_oLoad am_tA 2), (16, am_oLoad am_tI 4), (18, am_op am_db am_hc am_bl am_m102 18 (.invokevirtual 77) []), (21, am_oStore am_tI 5), (23, am_oLoad am_tI 5), (25, am_oIf1n am_lt 17), (28, am_oRet0 28), (29, am_oLoad am_tA 2), (30, am_oGet 0 5), (33, am_oLoad am_tI 5), (35, am_oAld true), (36, am_oStore am_tA 6), (38, am_oLoad am_tA 3), (39, am_oLoad am_tA 6), (41, am_oGet 1 0), (44, am_oAld true), (45, am_oStore am_tA 7), (47, am_oLoad am_tA 7), (49, am_oLoad am_tA 6), (51, am_oGet 1 1), (54, am_oPush (0, 0, [])), (55, am_op am_db am_hc am_bl am_m102 55 (.invokevirtual 81) []), (58, am_oStore am_tI 8), (60, am_oPush (0, 0, [])), (61, am_oStore am_tI 9), (63, am_oLoad am_tI 9), (65, am_oPush (0, 30, [])), (67, am_oIf2n am_lt 78), (70, am_oLoad am_tI 8), (72, am_oPush (0, 4294967295, [])), (73, am_oIf2 am_eq 78), (76, am_oLoad am_tA 0), (77, am_oGet 4 2), (80, am_oLoad am_tI 4), (82, am_oLoad am_tI 8), (84, am_oIast), (85, am_oLoad am_tA 0), (86, am_oLoad am_tI 4), (88, am_oLoad am_tA 2), (89, am_oLoad am_tA 3), (90, am_oCallV [] 90 99 4 7 false 4), (93, am_oIf1 am_eq 70), (96, am_oLoad am_tA 0), (97, am_oGet 4 3), (100, am_oLoad am_tI 1), (101, am_oAld true), (102, am_oLoad am_tA 0), (103, am_oGet 4 4), (106, am_oLoad am_tI 1), (107, am_oAld false)]
noncomputable def am_p102_1 : am_P := [(108, am_oLoad am_tI 8), (110, am_oIast), (111, am_oLoad am_tA 0), (112, am_oGet 4 4), (115, am_oLoad am_tI 1), (116, am_oDup2), (117, am_oAld false), (118, am_oPush (0, 1, [])), (119, am_oBinA am_iadd), (120, am_oIast), (121, am_oLoad am_tA 7), (123, am_oLoad am_tA 6), (125, am_oGet 1 1), (128, am_oLoad am_tI 8), (130, am_op am_db am_hc am_bl am_m102 130 (.invokevirtual 81) []), (133, am_oStore am_tI 8), (135, am_oIinc 9 1), (138, am_oGoto 35), (141, am_oLoad am_tA 0), (142, am_oGet 4 2), (145, am_oLoad am_tI 4), (147, am_oPush (0, 4294967295, [])), (148, am_oIast), (149, am_oRet0 149)]
noncomputable def am_p102 : am_P := am_p102_0 ++ (am_p102_1)
noncomputable def am_p103_0 : am_P := [(0, am_oPush (0, 4294967295, [])), (1, am_oStore am_tI 3), (2, am_oPush (0, 0, [])), (3, am_oStore am_tI 4), (5, am_oLoad am_tI 4), (7, am_oLoad am_tA 0), (8, am_oGet 2 3), (11, am_oIf2n am_lt 36), (14, am_oLoad am_tA 0), (15, am_oGet 2 0), (18, am_oLoad am_tI 4), (20, am_oAld false), (21, am_oLoad am_tI 1), (22, am_oIf2n am_eq 34), (25, am_oLoad am_tA 0), (26, am_oGet 2 2), (29, am_oLoad am_tI 4), (31, am_oAld false), (32, am_oLoad am_tI 2), (33, am_oIf2n am_gt 34), (36, am_oLoad am_tI 3), (37, am_oPush (0, 4294967295, [])), (38, am_oIf2 am_eq 29), (41, am_oLoad am_tA 0), (42, am_oGet 2 2), (45, am_oLoad am_tI 4), (47, am_oAld false), (48, am_oLoad am_tI 3), (49, am_oIf2n am_lt 34), (52, am_oLoad am_tA 0), (53, am_oGet 2 2), (56, am_oLoad am_tI 4), (58, am_oAld false), (59, am_oStore am_tI 3), (60, am_oIinc 4 1), (63, am_oGoto 4), (66, am_oLoad am_tI 3), (67, am_oRet 67 am_tI FieldType.int)]
noncomputable def am_p103 : am_P := am_p103_0
noncomputable def am_p104_0 : am_P := [(0, am_oLoad am_tI 0), (1, am_oLoad am_tA 1), (2, am_oGet 4 0), (5, am_oIf2n am_lt 7), (8, am_oLoad am_tI 0), (9, am_oPush (0, 3, [])), (10, am_oIf2 am_lt 10), (13, am_oLoad am_tA 1), (14, am_oCallV [] 14 105 1 2 true 4), (17, am_oRet0 17), (18, am_oLoad am_tA 1), (19, am_oGet 4 1), (22, am_oLoad am_tI 0), (23, am_oAld false), (24, am_oStore am_tI 4), (26, am_oPush (0, 0, [])), (27, am_oStore am_tI 5), (29, am_oLoad am_tI 5), (31, am_oLoad am_tA 1), (32, am_oGet 4 4), (35, am_oLoad am_tI 0), (36, am_oAld false), (37, am_oIf2n am_lt 52), (40, am_oLoad am_tA 1), (41, am_oGet 4 2), (44, am_oLoad am_tI 4), (46, am_oLoad am_tA 1), (47, am_oGet 4 3), (50, am_oLoad am_tI 0), (51, am_oAld true), (52, am_oLoad am_tI 5), (54, am_oAld false), (55, am_oIast), (56, am_oLoad am_tA 1), (57, am_oLoad am_tI 0), (58, am_op am_db am_hc am_bl am_m104 58 (.invokevirtual 87) []), (61, am_oIf1 am_eq 43), (64, am_oLoad am_tA 1), (65, am_oLoad am_tI 4), (67, am_oLoad am_tA 2), (68, am_oLoad am_tA 3), (69, am_oCallV [] 69 99 4 7 false 4), (72, am_oIf1 am_eq 50), (75, am_oLoad am_tI 0), (76, am_oPush (0, 1, [])), (77, am_oBinA am_iadd), (78, am_oLoad am_tA 1), (79, am_oLoad am_tA 2), (80, am_oLoad am_tA 3), (81, am_oCall [] 81 104 4 6 true), (84, am_oIinc 5 1), (87, am_oGoto 17), (90, am_oLoad am_tA 1), (91, am_oGet 4 2), (94, am_oLoad am_tI 4), (96, am_oPush (0, 4294967295, [])), (97, am_oIast), (98, am_oRet0 98)]
noncomputable def am_p104 : am_P := am_p104_0
noncomputable def am_p105_0 : am_P := [(0, am_oLoad am_tA 0), (1, am_oGet 4 6), (4, am_oIf1n am_eq 22), (7, am_oPush (0, 0, [])), (8, am_oStore am_tI 1), (9, am_oLoad am_tI 1), (10, am_oLoad am_tA 0), (11, am_oGet 4 0), (14, am_oIf2n am_lt 22), (17, am_oLoad am_tA 0), (18, am_oGet 4 5), (21, am_oLoad am_tI 1), (22, am_oLoad am_tA 0), (23, am_oGet 4 2), (26, am_oLoad am_tA 0), (27, am_oGet 4 1), (30, am_oLoad am_tI 1), (31, am_oAld false), (32, am_oAld false), (33, am_oIast), (34, am_oIinc 1 1), (37, am_oGoto 5), (40, am_oLoad am_tA 0), (41, am_oDup), (42, am_oGet 4 6), (45, am_oPush (0, 1, [])), (46, am_oBinA am_iadd), (47, am_oPut 4 6 .int), (50, am_oRet0 50)]
noncomputable def am_p105 : am_P := am_p105_0
noncomputable def am_p106_0 : am_P := [(0, am_oPush (0, 0, [])), (1, am_oStore am_tI 2), (2, am_oLoad am_tI 2), (3, am_oLoad am_tI 1), (4, am_oIf2n am_lt 24), (7, am_oLoad am_tA 0), (8, am_oGet 4 2), (11, am_oLoad am_tA 0), (12, am_oGet 4 1), (15, am_oLoad am_tI 2), (16, am_oAld false), (17, am_oAld false), (18, am_oLoad am_tA 0), (19, am_oGet 4 2), (22, am_oLoad am_tA 0), (23, am_oGet 4 1), (26, am_oLoad am_tI 1), (27, am_oAld false), (28, am_oAld false), (29, am_oIf2n am_eq 22), (32, am_oPush (0, 1, [])), (33, am_oRet 33 am_tI FieldType.boolean), (34, am_oIinc 2 1), (37, am_oGoto 2), (40, am_oPush (0, 0, [])), (41, am_oRet 41 am_tI FieldType.boolean)]
noncomputable def am_p106 : am_P := am_p106_0
noncomputable def am_p107_0 : am_P := [(0, am_oLoad am_tA 0), (1, am_oCallV [] 1 55 1 1 true 6), (4, am_oLoad am_tI 1), (5, am_oPush (0, 24, [])), (7, am_oCall [] 7 31 2 2 true), (10, am_oLoad am_tA 0), (11, am_oCallV [] 11 95 1 2 true 6), (14, am_oLoad am_tA 0), (15, am_oGet 6 4), (18, am_oLoad am_tI 1), (19, am_oCallV [] 19 108 2 3 false 4), (22, am_oStore am_tI 2), (23, am_oLoad am_tI 2), (24, am_oIf1 am_lt 18), (27, am_oLoad am_tA 0), (28, am_oGet 6 4), (31, am_oGet 4 6), (34, am_oIf1n am_eq 23), (37, am_oThrow 37 4), (40, am_oDup), (41, am_oBad), (44, am_oBad), (47, am_oBad), (48, am_oLoad am_tA 0), (49, am_oGet 6 4), (52, am_oGet 4 5), (55, am_oLoad am_tI 2), (56, am_oAld false), (57, am_oRet 57 am_tI FieldType.int)]
noncomputable def am_p107 : am_P := am_p107_0
noncomputable def am_p108_0 : am_P := [(0, am_oPush (0, 0, [])), (1, am_oStore am_tI 2), (2, am_oLoad am_tI 2), (3, am_oLoad am_tA 0), (4, am_oGet 4 0), (7, am_oIf2n am_lt 16), (10, am_oLoad am_tA 0), (11, am_oGet 4 1), (14, am_oLoad am_tI 2), (15, am_oAld false), (16, am_oLoad am_tI 1), (17, am_oIf2n am_eq 14), (20, am_oLoad am_tI 2), (21, am_oRet 21 am_tI FieldType.int), (22, am_oIinc 2 1), (25, am_oGoto 2), (28, am_oPush (0, 4294967295, [])), (29, am_oRet 29 am_tI FieldType.int)]
noncomputable def am_p108 : am_P := am_p108_0
noncomputable def am_p109_0 : am_P := [(0, am_oLoad am_tA 0), (1, am_oLoad am_tI 1), (2, am_oCallV [] 2 54 2 2 true 6), (5, am_oPush (0, 4294967295, [])), (6, am_oStore am_tI 2), (7, am_oPush (0, 0, [])), (8, am_oStore am_tI 3), (9, am_oPush (0, 0, [])), (10, am_oStore am_tI 4), (12, am_oLoad am_tI 4), (14, am_oPush (0, 6, [])), (16, am_oIf2n am_lt 29), (19, am_oLoad am_tA 0), (20, am_oLoad am_tI 1), (21, am_oLoad am_tA 0), (22, am_oGet 6 1), (25, am_oLoad am_tI 4), (27, am_oAld true), (28, am_oCallV [] 28 110 3 6 false 6), (31, am_oStore am_tI 5), (33, am_oLoad am_tI 5), (35, am_oLoad am_tI 3), (36, am_oIf2n am_gt 27), (39, am_oLoad am_tI 5), (41, am_oStore am_tI 3), (42, am_oLoad am_tI 4), (44, am_oStore am_tI 2), (45, am_oIinc 4 1), (48, am_oGoto 9), (51, am_oLoad am_tI 2), (52, am_oIf1n am_lt 36), (55, am_oThrow 55 4), (58, am_oDup), (59, am_oBad), (62, am_oBad), (65, am_oBad), (66, am_oLoad am_tI 2), (67, am_oRet 67 am_tI FieldType.int)]
noncomputable def am_p109 : am_P := am_p109_0
noncomputable def am_p110_0 : am_P := [(0, am_oPush (0, 0, [])), (1, am_oStore am_tI 3), (2, am_oPush (0, 0, [])), (3, am_oStore am_tI 4), (5, am_oLoad am_tI 4), (7, am_oLoad am_tA 0), (8, am_oGet 6 2), (11, am_oGet 0 4), (14, am_oIf2n am_lt 33), (17, am_oLoad am_tA 0), (18, am_oGet 6 2), (21, am_oGet 0 5), (24, am_oLoad am_tI 4), (26, am_oAld true), (27, am_oStore am_tA 5), (29, am_oLoad am_tA 5), (31, am_oGet 1 0), (34, am_oLoad am_tI 1), (35, am_oIf2n am_eq 31), (38, am_oLoad am_tA 2), (39, am_oLoad am_tA 5), (41, am_oGet 1 1), (44, am_oLoad am_tA 0), (45, am_oGet 6 0), (48, am_oLoad am_tA 5), (50, am_oGet 1 2), (53, am_oAld true), (54, am_oCall [] 54 97 1 1 false), (57, am_op am_db am_hc am_bl am_m110 57 (.invokevirtual 362) []), (60, am_oIf1n am_gt 31), (63, am_oIinc 3 1), (66, am_oIinc 4 1), (69, am_oGoto 4), (72, am_oLoad am_tI 3), (73, am_oRet 73 am_tI FieldType.int)]
noncomputable def am_p110 : am_P := am_p110_0
noncomputable def am_p111_0 : am_P := [(0, am_oLoad am_tA 0), (1, am_oCallV [none, none, none, none, none, some 5] 1 112 1 4 false 6), (4, am_oStore am_tF 1), (5, am_oPush (0, 0, [])), (6, am_oRet 6 am_tI FieldType.boolean), (7, am_oStore am_tA 1), (8, am_oPush (0, 1, [])), (9, am_oRet 9 am_tI FieldType.boolean)]
noncomputable def am_p111 : am_P := am_p111_0
noncomputable def am_p112_0 : am_P := [(0, am_oPush (0, 0, [])), (1, am_oStore am_tI 1), (2, am_oPush (0, 0, [])), (3, am_oStore am_tI 2), (4, am_oPush (0, 0, [])), (5, am_oStore am_tI 3), (6, am_oLoad am_tI 3), (7, am_oPush (0, 28, [])), (9, am_oIf2n am_lt 25), (12, am_oLoad am_tA 0), (13, am_oGet 6 0), (16, am_oLoad am_tI 3), (17, am_oAld true), (18, am_oCallV [] 18 14 1 1 false 5), (21, am_oIf1 am_eq 23), (24, am_oIinc 2 1), (27, am_oLoad am_tA 0), (28, am_oGet 6 0), (31, am_oLoad am_tI 3), (32, am_oAld true), (33, am_oCallV [] 33 39 1 1 false 5), (36, am_oIf1 am_eq 23), (39, am_oIinc 1 1), (42, am_oIinc 3 1), (45, am_oGoto 6), (48, am_oLoad am_tI 2), (49, am_oIf1n am_eq 32), (52, am_oThrow 52 5), (55, am_oDup), (56, am_oBad), (59, am_oBad), (62, am_oBad), (63, am_oLoad am_tI 1), (64, am_op am_db am_hc am_bl am_m112 64 (.i2f) []), (65, am_oLoad am_tI 2), (66, am_op am_db am_hc am_bl am_m112 66 (.i2f) []), (67, am_op am_db am_hc am_bl am_m112 67 (.fdiv) []), (68, am_oRet 68 am_tF FieldType.float)]
noncomputable def am_p112 : am_P := am_p112_0
noncomputable def am_p113_0 : am_P := [(0, am_oNew 6 [(4, 0, []), (4, 0, []), (4, 0, []), (4, 0, []), (4, 0, []), (0, 0, []), (0, 0, []), (0, 0, []), (0, 0, [])]), (3, am_oDup), (4, am_oCallI [] 4 0 1 2 true), (7, am_oStore am_tA 1), (8, am_oPush (0, 4, [])), (9, am_oNewa 104 (4, 0, [])), (12, am_oStore am_tA 2), (13, am_oPush (0, 0, [])), (14, am_oStore am_tI 3), (15, am_oLoad am_tI 3), (16, am_oPush (0, 40, [])), (18, am_oIf2n am_lt 376), (21, am_oLoad am_tA 0), (22, am_oLoad am_tI 3), (23, am_oCall [] 23 114 2 2 false), (26, am_oPush (0, 100000000, [])), (28, am_oCall [] 28 115 2 3 false), (31, am_oStore am_tI 4), (33, am_oLoad am_tI 4), (35, am_oPush (0, 4, [])), (36, am_oBinA am_idiv), (37, am_oPush (0, 4, [])), (38, am_oBinA am_irem), (39, am_oStore am_tI 5), (41, am_oLoad am_tA 2), (42, am_oLoad am_tI 5), (44, am_oAld true), (45, am_oStore am_tA 6), (47, am_oLoad am_tI 4), (49, am_oPush (0, 4, [])), (50, am_oBinA am_irem), (51, am_oSwitch 180 0 2 [32, 99, 99]), (76, am_oLoad am_tA 6), (78, am_oNull false 41), (81, am_oLoad am_tI 4), (83, am_oPush (0, 16, [])), (85, am_oBinA am_idiv), (86, am_oPush (0, 3, [])), (87, am_oBinA am_irem), (88, am_oIf1n am_gt 41), (91, am_oGoto 238), (94, am_oPush (0, 100, [])), (96, am_oLoad am_tI 4), (98, am_oPush (0, 48, [])), (100, am_oBinA am_idiv), (101, am_oPush (0, 301, [])), (104, am_oBinA am_irem), (105, am_oBinA am_iadd), (106, am_oStore am_tI 7), (108, am_oLoad am_tA 2), (109, am_oLoad am_tI 5), (111, am_oPush (0, 5, [])), (112, am_oNewa 100 (0, 0, [])), (114, am_oDup), (115, am_oPush (0, 0, [])), (116, am_oLoad am_tI 7), (118, am_oIast), (119, am_oDup), (120, am_oPush (0, 1, [])), (121, am_oPush (0, 100, []))]
noncomputable def am_p113_1 : am_P := [(123, am_oIast), (124, am_oDup), (125, am_oPush (0, 2, [])), (126, am_oPush (0, 0, [])), (127, am_oIast), (128, am_oDup), (129, am_oPush (0, 3, [])), (130, am_oPush (0, 0, [])), (131, am_oIast), (132, am_oDup), (133, am_oPush (0, 4, [])), (134, am_oPush (0, 0, [])), (135, am_oIast), (136, am_oAast), (137, am_oLoad am_tA 1), (138, am_oPush (0, 84, [])), (140, am_oPush (0, 3, [])), (141, am_oNewa 100 (0, 0, [])), (143, am_oDup), (144, am_oPush (0, 0, [])), (145, am_oLoad am_tI 5), (147, am_oIast), (148, am_oDup), (149, am_oPush (0, 1, [])), (150, am_oLoad am_tI 7), (152, am_oIast), (153, am_oDup), (154, am_oPush (0, 2, [])), (155, am_oPush (0, 0, [])), (156, am_oIast), (157, am_oCall [] 157 26 3 4 false), (160, am_oLoad am_tA 6), (162, am_oNull true 95), (165, am_oPush (0, 0, [])), (166, am_oGoto 96), (169, am_oPush (0, 1, [])), (170, am_oIf2 am_eq 238), (173, am_oPush (0, 0, [])), (174, am_oRet 174 am_tI FieldType.boolean), (175, am_oPush (0, 1, [])), (176, am_oLoad am_tI 4), (178, am_oPush (0, 16, [])), (180, am_oBinA am_idiv), (181, am_oPush (0, 30, [])), (183, am_oBinA am_irem), (184, am_oBinA am_iadd), (185, am_oStore am_tI 8), (187, am_oLoad am_tI 4), (189, am_oPush (0, 480, [])), (192, am_oBinA am_idiv), (193, am_oPush (0, 2, [])), (194, am_oBinA am_irem), (195, am_oIf1n am_eq 115), (198, am_oPush (0, 1, [])), (199, am_oGoto 116), (202, am_oPush (0, 0, [])), (203, am_oStore am_tI 9), (205, am_oLoad am_tA 6), (207, am_oNull true 121), (210, am_oPush (0, 2294967291, []))]
noncomputable def am_p113_2 : am_P := [(212, am_oGoto 131), (215, am_oLoad am_tA 6), (217, am_oPush (0, 1, [])), (218, am_oAld false), (219, am_oLoad am_tI 8), (221, am_oBinA am_isub), (222, am_oPush (0, 40, [])), (224, am_oIf2n am_lt 130), (227, am_oPush (0, 2294967292, [])), (229, am_oGoto 131), (232, am_oPush (0, 0, [])), (233, am_oStore am_tI 10), (235, am_oLoad am_tI 10), (237, am_oIf1n am_eq 155), (240, am_oLoad am_tA 6), (242, am_oPush (0, 1, [])), (243, am_oDup2), (244, am_oAld false), (245, am_oLoad am_tI 8), (247, am_oBinA am_isub), (248, am_oIast), (249, am_oLoad am_tA 6), (251, am_oLoad am_tI 9), (253, am_oIf1 am_eq 146), (256, am_oPush (0, 2, [])), (257, am_oGoto 147), (260, am_oPush (0, 3, [])), (261, am_oDup2), (262, am_oAld false), (263, am_oLoad am_tI 8), (265, am_oBinA am_iadd), (266, am_oIast), (267, am_oLoad am_tA 6), (269, am_oCall [] 269 116 1 1 false), (272, am_oStore am_tI 10), (274, am_oLoad am_tA 1), (275, am_oPush (0, 70, [])), (277, am_oPush (0, 3, [])), (278, am_oNewa 100 (0, 0, [])), (280, am_oDup), (281, am_oPush (0, 0, [])), (282, am_oLoad am_tI 5), (284, am_oIast), (285, am_oDup), (286, am_oPush (0, 1, [])), (287, am_oLoad am_tI 9), (289, am_oIf1 am_eq 169), (292, am_oPush (0, 116, [])), (294, am_oGoto 170), (297, am_oPush (0, 114, [])), (299, am_oIast), (300, am_oDup), (301, am_oPush (0, 2, [])), (302, am_oLoad am_tI 8), (304, am_oIast), (305, am_oCall [] 305 26 3 4 false), (308, am_oLoad am_tI 10), (310, am_oIf2 am_eq 238), (313, am_oPush (0, 0, [])), (314, am_oRet 314 am_tI FieldType.boolean)]
noncomputable def am_p113_3 : am_P := [(315, am_oLoad am_tI 4), (317, am_oPush (0, 16, [])), (319, am_oBinA am_idiv), (320, am_oPush (0, 101, [])), (322, am_oBinA am_irem), (323, am_oPush (0, 50, [])), (325, am_oBinA am_isub), (326, am_oStore am_tI 11), (328, am_oLoad am_tA 6), (330, am_oNull true 192), (333, am_oPush (0, 2294967291, [])), (335, am_oGoto 208), (338, am_oLoad am_tA 6), (340, am_oPush (0, 4, [])), (341, am_oAld false), (342, am_oLoad am_tI 11), (344, am_oBinA am_iadd), (345, am_oIf1 am_lt 205), (348, am_oLoad am_tA 6), (350, am_oPush (0, 4, [])), (351, am_oAld false), (352, am_oLoad am_tI 11), (354, am_oBinA am_iadd), (355, am_oPush (0, 100, [])), (357, am_oIf2n am_gt 207), (360, am_oPush (0, 2294967292, [])), (362, am_oGoto 208), (365, am_oPush (0, 0, [])), (366, am_oStore am_tI 12), (368, am_oLoad am_tI 12), (370, am_oIf1n am_eq 221), (373, am_oLoad am_tA 6), (375, am_oPush (0, 4, [])), (376, am_oDup2), (377, am_oAld false), (378, am_oLoad am_tI 11), (380, am_oBinA am_iadd), (381, am_oIast), (382, am_oLoad am_tA 6), (384, am_oCall [] 384 116 1 1 false), (387, am_oStore am_tI 12), (389, am_oLoad am_tA 1), (390, am_oPush (0, 76, [])), (392, am_oPush (0, 2, [])), (393, am_oNewa 100 (0, 0, [])), (395, am_oDup), (396, am_oPush (0, 0, [])), (397, am_oLoad am_tI 5), (399, am_oIast), (400, am_oDup), (401, am_oPush (0, 1, [])), (402, am_oLoad am_tI 11), (404, am_oIast), (405, am_oCall [] 405 26 3 4 false), (408, am_oLoad am_tI 12), (410, am_oIf2 am_eq 238), (413, am_oPush (0, 0, [])), (414, am_oRet 414 am_tI FieldType.boolean), (415, am_oPush (0, 0, [])), (416, am_oStore am_tI 7)]
noncomputable def am_p113_4 : am_P := [(418, am_oPush (0, 0, [])), (419, am_oStore am_tI 8), (421, am_oPush (0, 0, [])), (422, am_oStore am_tI 9), (424, am_oPush (0, 0, [])), (425, am_oStore am_tI 10), (427, am_oLoad am_tI 10), (429, am_oPush (0, 4, [])), (430, am_oIf2n am_lt 351), (433, am_oLoad am_tA 2), (434, am_oLoad am_tI 10), (436, am_oAld true), (437, am_oNull false 349), (440, am_oLoad am_tA 2), (441, am_oLoad am_tI 10), (443, am_oAld true), (444, am_oCall [] 444 116 1 1 false), (447, am_oStore am_tI 11), (449, am_oLoad am_tI 11), (451, am_oPush (0, 100, [])), (453, am_oBinA am_irem), (454, am_oPush (0, 50, [])), (456, am_oIf2 am_lt 269), (459, am_oLoad am_tI 11), (461, am_oPush (0, 100, [])), (463, am_oBinA am_idiv), (464, am_oPush (0, 1, [])), (465, am_oBinA am_iadd), (466, am_oGoto 272), (469, am_oLoad am_tI 11), (471, am_oPush (0, 100, [])), (473, am_oBinA am_idiv), (474, am_oStore am_tI 12), (476, am_oLoad am_tI 11), (478, am_oPush (0, 100, [])), (480, am_oLoad am_tI 12), (482, am_oBinA am_imul), (483, am_oBinA am_isub), (484, am_oAbs), (487, am_oStore am_tI 13), (489, am_oLoad am_tA 1), (490, am_oPush (0, 112, [])), (492, am_oPush (0, 1, [])), (493, am_oNewa 100 (0, 0, [])), (495, am_oDup), (496, am_oPush (0, 0, [])), (497, am_oLoad am_tI 10), (499, am_oIast), (500, am_oCall [] 500 26 3 4 false), (503, am_oLoad am_tI 11), (505, am_oIf2n am_eq 333), (508, am_oLoad am_tA 1), (509, am_oPush (0, 110, [])), (511, am_oPush (0, 1, [])), (512, am_oNewa 100 (0, 0, [])), (514, am_oDup), (515, am_oPush (0, 0, [])), (516, am_oLoad am_tI 10), (518, am_oIast), (519, am_oCall [] 519 26 3 4 false)]
noncomputable def am_p113_5 : am_P := [(522, am_oLoad am_tI 12), (524, am_oIf2n am_eq 333), (527, am_oLoad am_tA 1), (528, am_oPush (0, 116, [])), (530, am_oPush (0, 1, [])), (531, am_oNewa 100 (0, 0, [])), (533, am_oDup), (534, am_oPush (0, 0, [])), (535, am_oLoad am_tI 10), (537, am_oIast), (538, am_oCall [] 538 26 3 4 false), (541, am_oLoad am_tI 13), (543, am_oPush (0, 5, [])), (544, am_oIf2 am_gt 316), (547, am_oPush (0, 1, [])), (548, am_oGoto 317), (551, am_oPush (0, 0, [])), (552, am_oIf2n am_eq 333), (555, am_oLoad am_tA 1), (556, am_oPush (0, 115, [])), (558, am_oPush (0, 1, [])), (559, am_oNewa 100 (0, 0, [])), (561, am_oDup), (562, am_oPush (0, 0, [])), (563, am_oLoad am_tI 10), (565, am_oIast), (566, am_oCall [] 566 26 3 4 false), (569, am_oLoad am_tA 2), (570, am_oLoad am_tI 10), (572, am_oAld true), (573, am_oPush (0, 1, [])), (574, am_oAld false), (575, am_oIf2 am_eq 335), (578, am_oPush (0, 0, [])), (579, am_oRet 579 am_tI FieldType.boolean), (580, am_oIinc 8 1), (583, am_oLoad am_tI 7), (585, am_oLoad am_tI 13), (587, am_oPush (0, 5, [])), (588, am_oIf2 am_gt 342), (591, am_oPush (0, 1, [])), (592, am_oGoto 343), (595, am_oPush (0, 0, [])), (596, am_oBinA am_iadd), (597, am_oStore am_tI 7), (599, am_oLoad am_tI 9), (601, am_oLoad am_tI 13), (603, am_oBinA am_iadd), (604, am_oStore am_tI 9), (606, am_oIinc 10 1), (609, am_oGoto 246), (612, am_oLoad am_tI 8), (614, am_oIf1n am_gt 374), (617, am_oLoad am_tA 1), (618, am_oCallV [] 618 112 1 4 false 6), (621, am_oLoad am_tI 7), (623, am_op am_db am_hc am_bl am_m113 623 (.i2f) []), (624, am_oLoad am_tI 8), (626, am_op am_db am_hc am_bl am_m113 626 (.i2f) []), (627, am_op am_db am_hc am_bl am_m113 627 (.fdiv) [])]
noncomputable def am_p113_6 : am_P := [(628, am_op am_db am_hc am_bl am_m113 628 (.fcmp .l) []), (629, am_oIf1n am_eq 372), (632, am_oLoad am_tA 1), (633, am_oCallV [] 633 13 1 4 false 6), (636, am_oLoad am_tI 9), (638, am_op am_db am_hc am_bl am_m113 638 (.i2d) []), (639, am_oLoad am_tI 8), (641, am_op am_db am_hc am_bl am_m113 641 (.i2d) []), (642, am_op am_db am_hc am_bl am_m113 642 (.ddiv) []), (643, am_oCall [] 643 123 1 2 false), (646, am_op am_db am_hc am_bl am_m113 646 (.lcmp) []), (647, am_oIf1 am_eq 374), (650, am_oPush (0, 0, [])), (651, am_oRet 651 am_tI FieldType.boolean), (652, am_oIinc 3 1), (655, am_oGoto 9), (658, am_oLoad am_tA 1), (659, am_oCallV [] 659 20 1 4 false 6), (662, am_oRet 662 am_tI FieldType.boolean)]
noncomputable def am_p113 : am_P := am_p113_0 ++ (am_p113_1 ++ (am_p113_2 ++ (am_p113_3 ++ (am_p113_4 ++ (am_p113_5 ++ (am_p113_6))))))
noncomputable def am_p114_0 : am_P := [(0, am_oLoad am_tI 1), (1, am_oLoad am_tA 0), (2, am_op am_db am_hc am_bl am_m114 2 (.arraylength) []), (3, am_oIf2n am_lt 8), (6, am_oLoad am_tA 0), (7, am_oLoad am_tI 1), (8, am_oAld false), (9, am_oGoto 9), (12, am_oPush (0, 0, [])), (13, am_oRet 13 am_tI FieldType.int)]
noncomputable def am_p114 : am_P := am_p114_0
noncomputable def am_p115_0 : am_P := [(0, am_oLoad am_tI 0), (1, am_oLoad am_tI 1), (2, am_oBinA am_irem), (3, am_oStore am_tI 2), (4, am_oLoad am_tI 2), (5, am_oIf1n am_lt 10), (8, am_oLoad am_tI 2), (9, am_oLoad am_tI 1), (10, am_oBinA am_iadd), (11, am_oGoto 11), (14, am_oLoad am_tI 2), (15, am_oRet 15 am_tI FieldType.int)]
noncomputable def am_p115 : am_P := am_p115_0
noncomputable def am_p116_0 : am_P := [(0, am_oPush (0, 10000, [])), (3, am_oPush (0, 20, [])), (5, am_oLoad am_tA 0), (6, am_oPush (0, 0, [])), (7, am_oAld false), (8, am_oBinA am_imul), (9, am_oBinA am_isub), (10, am_oPush (0, 4, [])), (11, am_oLoad am_tA 0), (12, am_oPush (0, 2, [])), (13, am_oAld false), (14, am_oBinA am_imul), (15, am_oBinA am_iadd), (16, am_oPush (0, 6, [])), (18, am_oLoad am_tA 0), (19, am_oPush (0, 3, [])), (20, am_oAld false), (21, am_oBinA am_imul), (22, am_oBinA am_isub), (23, am_oPush (0, 3, [])), (24, am_oLoad am_tA 0), (25, am_oPush (0, 4, [])), (26, am_oAld false), (27, am_oBinA am_imul), (28, am_oBinA am_isub), (29, am_oRet 29 am_tI FieldType.int)]
noncomputable def am_p116 : am_P := am_p116_0
noncomputable def am_p117_0 : am_P := [(0, am_oNew 6 [(4, 0, []), (4, 0, []), (4, 0, []), (4, 0, []), (4, 0, []), (0, 0, []), (0, 0, []), (0, 0, []), (0, 0, [])]), (3, am_oDup), (4, am_oCallI [] 4 0 1 2 true), (7, am_oStore am_tA 1), (8, am_oPush (1, 0, [])), (9, am_oStore2 am_tL 2), (10, am_oPush (0, 0, [])), (11, am_oStore am_tI 4), (13, am_oLoad am_tI 4), (15, am_oPush (0, 20, [])), (17, am_oIf2n am_lt 116), (20, am_oPush (0, 38, [])), (22, am_oLoad am_tA 0), (23, am_oPush (0, 40, [])), (25, am_oLoad am_tI 4), (27, am_oBinA am_iadd), (28, am_oCall [] 28 114 2 2 false), (31, am_oPush (0, 9, [])), (33, am_oCall [] 33 115 2 3 false), (36, am_oBinA am_iadd), (37, am_oStore am_tI 5), (39, am_oPush (0, 19, [])), (41, am_oLoad am_tA 0), (42, am_oPush (0, 60, [])), (44, am_oLoad am_tI 4), (46, am_oBinA am_iadd), (47, am_oCall [] 47 114 2 2 false), (50, am_oPush (0, 5, [])), (51, am_oCall [] 51 115 2 3 false), (54, am_oBinA am_iadd), (55, am_oStore am_tI 6), (57, am_oLoad am_tI 5), (59, am_oPush (0, 39, [])), (61, am_oIf2n am_gt 45), (64, am_oLoad am_tI 5), (66, am_oPush (0, 45, [])), (68, am_oIf2n am_lt 45), (71, am_oLoad am_tI 6), (73, am_oPush (0, 19, [])), (75, am_oIf2n am_gt 45), (78, am_oLoad am_tI 6), (80, am_oPush (0, 23, [])), (82, am_oIf2n am_lt 45), (85, am_oPush (0, 1, [])), (86, am_oGoto 46), (89, am_oPush (0, 0, [])), (90, am_oStore am_tI 7), (92, am_oLoad am_tA 1), (93, am_oLoad am_tI 5), (95, am_oLoad am_tI 6), (97, am_oCallV [] 97 118 3 4 false 6), (100, am_oLoad am_tI 7), (102, am_oIf2 am_eq 55), (105, am_oPush (0, 0, [])), (106, am_oRet 106 am_tI FieldType.boolean), (107, am_oLoad am_tL 2), (108, am_oLoad am_tI 7), (110, am_oIf1 am_eq 60), (113, am_oPush (1, 1, [])), (114, am_oGoto 61)]
noncomputable def am_p117_1 : am_P := [(117, am_oPush (1, 0, [])), (118, am_op am_db am_hc am_bl am_m117 118 (.ladd) []), (119, am_oStore2 am_tL 2), (120, am_oLoad am_tA 0), (121, am_oPush (0, 80, [])), (123, am_oLoad am_tI 4), (125, am_oBinA am_iadd), (126, am_oCall [] 126 114 2 2 false), (129, am_oPush (0, 3, [])), (130, am_oCall [] 130 115 2 3 false), (133, am_oIf1n am_eq 73), (136, am_oPush (0, 2147483648, [])), (138, am_oGoto 85), (141, am_oLoad am_tA 0), (142, am_oPush (0, 80, [])), (144, am_oLoad am_tI 4), (146, am_oBinA am_iadd), (147, am_oCall [] 147 114 2 2 false), (150, am_oPush (0, 3, [])), (151, am_oCall [] 151 115 2 3 false), (154, am_oPush (0, 1, [])), (155, am_oIf2n am_eq 84), (158, am_oPush (0, 2147483647, [])), (160, am_oGoto 85), (163, am_oPush (0, 25, [])), (165, am_oStore am_tI 8), (167, am_oLoad am_tL 2), (168, am_oLoad am_tI 8), (170, am_op am_db am_hc am_bl am_m117 170 (.i2l) []), (171, am_op am_db am_hc am_bl am_m117 171 (.lmul) []), (172, am_oStore2 am_tL 9), (174, am_oLoad am_tL 9), (176, am_oPush (1, 2147483647, [])), (179, am_op am_db am_hc am_bl am_m117 179 (.lcmp) []), (180, am_oIf1n am_gt 97), (183, am_oPush (1, 2147483647, [])), (186, am_oGoto 104), (189, am_oLoad am_tL 9), (191, am_oPush (1, 18446744071562067968, [])), (194, am_op am_db am_hc am_bl am_m117 194 (.lcmp) []), (195, am_oIf1n am_lt 103), (198, am_oPush (1, 18446744071562067968, [])), (201, am_oGoto 104), (204, am_oLoad am_tL 9), (206, am_oStore2 am_tL 11), (208, am_oLoad am_tA 1), (209, am_oLoad am_tI 8), (211, am_oCallV [] 211 12 2 4 false 6), (214, am_op am_db am_hc am_bl am_m117 214 (.i2l) []), (215, am_oLoad am_tL 11), (217, am_op am_db am_hc am_bl am_m117 217 (.lcmp) []), (218, am_oIf1 am_eq 114), (221, am_oPush (0, 0, [])), (222, am_oRet 222 am_tI FieldType.boolean), (223, am_oIinc 4 1), (226, am_oGoto 8), (229, am_oLoad am_tA 1), (230, am_oPush (0, 2147483647, [])), (232, am_oPush (0, 21, [])), (234, am_oCallV [] 234 118 3 4 false 6)]
noncomputable def am_p117_2 : am_P := [(237, am_oIf1n am_eq 128), (240, am_oLoad am_tA 1), (241, am_oPush (0, 42, [])), (243, am_oPush (0, 2147483648, [])), (245, am_oCallV [] 245 118 3 4 false 6), (248, am_oIf1n am_eq 128), (251, am_oPush (0, 1, [])), (252, am_oGoto 129), (255, am_oPush (0, 0, [])), (256, am_oRet 256 am_tI FieldType.boolean)]
noncomputable def am_p117 : am_P := am_p117_0 ++ (am_p117_1 ++ (am_p117_2))
noncomputable def am_p118_0 : am_P := [(0, am_oLoad am_tI 1), (1, am_oPush (0, 40, [])), (3, am_oPush (0, 44, [])), (5, am_oCall [] 5 22 3 3 false), (8, am_oIf1 am_eq 12), (11, am_oLoad am_tI 2), (12, am_oPush (0, 20, [])), (14, am_oPush (0, 22, [])), (16, am_oCall [] 16 22 3 3 false), (19, am_oIf1 am_eq 12), (22, am_oPush (0, 1, [])), (23, am_oGoto 13), (26, am_oPush (0, 0, [])), (27, am_oStore am_tI 3), (28, am_oLoad am_tI 3), (29, am_oIf1 am_eq 22), (32, am_oLoad am_tA 0), (33, am_oDup), (34, am_oGet 6 6), (37, am_oPush (0, 1, [])), (38, am_oBinA am_iadd), (39, am_oPut 6 6 .int), (42, am_oLoad am_tI 3), (43, am_oRet 43 am_tI FieldType.boolean)]
noncomputable def am_p118 : am_P := am_p118_0
noncomputable def am_p119_0 : am_P := [(0, am_oNew 6 [(4, 0, []), (4, 0, []), (4, 0, []), (4, 0, []), (4, 0, []), (0, 0, []), (0, 0, []), (0, 0, []), (0, 0, [])]), (3, am_oDup), (4, am_oCallI [] 4 0 1 2 true), (7, am_oStore am_tA 0), (8, am_oPush (0, 0, [])), (9, am_oStore am_tI 1), (10, am_oLoad am_tI 1), (11, am_oPush (0, 30, [])), (13, am_oIf2n am_lt 44), (16, am_oLoad am_tA 0), (17, am_oPush (0, 119, [])), (19, am_oPush (0, 4, [])), (20, am_oNewa 100 (0, 0, [])), (22, am_oDup), (23, am_oPush (0, 0, [])), (24, am_oPush (0, 3, [])), (25, am_oIast), (26, am_oDup), (27, am_oPush (0, 1, [])), (28, am_oPush (0, 599, [])), (31, am_oLoad am_tI 1), (32, am_oBinA am_isub), (33, am_oIast), (34, am_oDup), (35, am_oPush (0, 2, [])), (36, am_oPush (0, 1, [])), (37, am_oLoad am_tI 1), (38, am_oBinA am_iadd), (39, am_oIast), (40, am_oDup), (41, am_oPush (0, 3, [])), (42, am_oLoad am_tI 1), (43, am_oPush (0, 4, [])), (44, am_oBinA am_irem), (45, am_oIast), (46, am_oCall [] 46 26 3 4 false), (49, am_oLoad am_tI 1), (50, am_oPush (0, 1, [])), (51, am_oBinA am_iadd), (52, am_oIf2 am_eq 42), (55, am_oPush (0, 0, [])), (56, am_oRet 56 am_tI FieldType.boolean), (57, am_oIinc 1 1), (60, am_oGoto 6), (63, am_oLoad am_tA 0), (64, am_oPush (0, 119, [])), (66, am_oPush (0, 4, [])), (67, am_oNewa 100 (0, 0, [])), (69, am_oDup), (70, am_oPush (0, 0, [])), (71, am_oPush (0, 3, [])), (72, am_oIast), (73, am_oDup), (74, am_oPush (0, 1, [])), (75, am_oPush (0, 0, [])), (76, am_oIast), (77, am_oDup), (78, am_oPush (0, 2, [])), (79, am_oPush (0, 1, [])), (80, am_oIast)]
noncomputable def am_p119_1 : am_P := [(81, am_oDup), (82, am_oPush (0, 3, [])), (83, am_oPush (0, 0, [])), (84, am_oIast), (85, am_oCall [] 85 26 3 4 false), (88, am_oPush (0, 2294967293, [])), (90, am_oIf2n am_eq 115), (93, am_oLoad am_tA 0), (94, am_oPush (0, 101, [])), (96, am_oPush (0, 1, [])), (97, am_oNewa 100 (0, 0, [])), (99, am_oDup), (100, am_oPush (0, 0, [])), (101, am_oPush (0, 3, [])), (102, am_oIast), (103, am_oCall [] 103 26 3 4 false), (106, am_oPush (0, 30, [])), (108, am_oIf2n am_eq 115), (111, am_oLoad am_tA 0), (112, am_oPush (0, 119, [])), (114, am_oPush (0, 4, [])), (115, am_oNewa 100 (0, 0, [])), (117, am_oDup), (118, am_oPush (0, 0, [])), (119, am_oPush (0, 3, [])), (120, am_oIast), (121, am_oDup), (122, am_oPush (0, 1, [])), (123, am_oPush (0, 0, [])), (124, am_oIast), (125, am_oDup), (126, am_oPush (0, 2, [])), (127, am_oPush (0, 1, [])), (128, am_oIast), (129, am_oDup), (130, am_oPush (0, 3, [])), (131, am_oPush (0, 0, [])), (132, am_oIast), (133, am_oCall [] 133 26 3 4 false), (136, am_oPush (0, 1, [])), (137, am_oIf2n am_eq 115), (140, am_oLoad am_tA 0), (141, am_oPush (0, 67, [])), (143, am_oPush (0, 2, [])), (144, am_oNewa 100 (0, 0, [])), (146, am_oDup), (147, am_oPush (0, 0, [])), (148, am_oPush (0, 600, [])), (151, am_oIast), (152, am_oDup), (153, am_oPush (0, 1, [])), (154, am_oPush (0, 1, [])), (155, am_oIast), (156, am_oCall [] 156 26 3 4 false), (159, am_oIf1 am_eq 117), (162, am_oPush (0, 0, [])), (163, am_oRet 163 am_tI FieldType.boolean), (164, am_oPush (0, 0, [])), (165, am_oStore am_tI 1), (166, am_oLoad am_tI 1)]
noncomputable def am_p119_2 : am_P := [(167, am_oPush (0, 60, [])), (169, am_oIf2n am_lt 157), (172, am_oLoad am_tA 0), (173, am_oPush (0, 80, [])), (175, am_oPush (0, 4, [])), (176, am_oNewa 100 (0, 0, [])), (178, am_oDup), (179, am_oPush (0, 0, [])), (180, am_oPush (0, 0, [])), (181, am_oIast), (182, am_oDup), (183, am_oPush (0, 1, [])), (184, am_oPush (0, 2, [])), (185, am_oLoad am_tI 1), (186, am_oBinA am_imul), (187, am_oIast), (188, am_oDup), (189, am_oPush (0, 2, [])), (190, am_oLoad am_tI 1), (191, am_oPush (0, 2, [])), (192, am_oBinA am_irem), (193, am_oPush (0, 24, [])), (195, am_oBinA am_iadd), (196, am_oIast), (197, am_oDup), (198, am_oPush (0, 3, [])), (199, am_oPush (0, 0, [])), (200, am_oIast), (201, am_oCall [] 201 26 3 4 false), (204, am_oLoad am_tI 1), (205, am_oPush (0, 1, [])), (206, am_oBinA am_iadd), (207, am_oIf2 am_eq 155), (210, am_oPush (0, 0, [])), (211, am_oRet 211 am_tI FieldType.boolean), (212, am_oIinc 1 1), (215, am_oGoto 119), (218, am_oLoad am_tA 0), (219, am_oPush (0, 80, [])), (221, am_oPush (0, 4, [])), (222, am_oNewa 100 (0, 0, [])), (224, am_oDup), (225, am_oPush (0, 0, [])), (226, am_oPush (0, 0, [])), (227, am_oIast), (228, am_oDup), (229, am_oPush (0, 1, [])), (230, am_oPush (0, 500, [])), (233, am_oIast), (234, am_oDup), (235, am_oPush (0, 2, [])), (236, am_oPush (0, 0, [])), (237, am_oIast), (238, am_oDup), (239, am_oPush (0, 3, [])), (240, am_oPush (0, 0, [])), (241, am_oIast), (242, am_oCall [] 242 26 3 4 false), (245, am_oPush (0, 2294967292, [])), (247, am_oIf2n am_eq 225)]
noncomputable def am_p119_3 : am_P := [(250, am_oLoad am_tA 0), (251, am_oPush (0, 87, [])), (253, am_oPush (0, 1, [])), (254, am_oNewa 100 (0, 0, [])), (256, am_oDup), (257, am_oPush (0, 0, [])), (258, am_oPush (0, 20, [])), (260, am_oIast), (261, am_oCall [] 261 26 3 4 false), (264, am_oPush (0, 80, [])), (266, am_oIf2n am_eq 225), (269, am_oLoad am_tA 0), (270, am_oPush (0, 87, [])), (272, am_oPush (0, 1, [])), (273, am_oNewa 100 (0, 0, [])), (275, am_oDup), (276, am_oPush (0, 0, [])), (277, am_oPush (0, 1, [])), (278, am_oIast), (279, am_oCall [] 279 26 3 4 false), (282, am_oPush (0, 80, [])), (284, am_oIf2n am_eq 225), (287, am_oLoad am_tA 0), (288, am_oPush (0, 89, [])), (290, am_oPush (0, 1, [])), (291, am_oNewa 100 (0, 0, [])), (293, am_oDup), (294, am_oPush (0, 0, [])), (295, am_oPush (0, 40, [])), (297, am_oIast), (298, am_oCall [] 298 26 3 4 false), (301, am_oIf1n am_eq 225), (304, am_oLoad am_tA 0), (305, am_oPush (0, 87, [])), (307, am_oPush (0, 1, [])), (308, am_oNewa 100 (0, 0, [])), (310, am_oDup), (311, am_oPush (0, 0, [])), (312, am_oPush (0, 1, [])), (313, am_oIast), (314, am_oCall [] 314 26 3 4 false), (317, am_oPush (0, 44, [])), (319, am_oIf2n am_eq 225), (322, am_oPush (0, 1, [])), (323, am_oGoto 226), (326, am_oPush (0, 0, [])), (327, am_oStore am_tI 1), (328, am_oLoad am_tA 0), (329, am_oPush (0, 66, [])), (331, am_oPush (0, 2, [])), (332, am_oNewa 100 (0, 0, [])), (334, am_oDup), (335, am_oPush (0, 0, [])), (336, am_oPush (0, 24, [])), (338, am_oIast), (339, am_oDup), (340, am_oPush (0, 1, [])), (341, am_oPush (0, 60, [])), (343, am_oIast), (344, am_oCall [] 344 26 3 4 false)]
noncomputable def am_p119_4 : am_P := [(347, am_oIf1n am_eq 303), (350, am_oLoad am_tA 0), (351, am_oPush (0, 89, [])), (353, am_oPush (0, 1, [])), (354, am_oNewa 100 (0, 0, [])), (356, am_oDup), (357, am_oPush (0, 0, [])), (358, am_oPush (0, 2, [])), (359, am_oIast), (360, am_oCall [] 360 26 3 4 false), (363, am_oPush (0, 60, [])), (365, am_oIf2n am_eq 303), (368, am_oLoad am_tA 0), (369, am_oPush (0, 82, [])), (371, am_oPush (0, 0, [])), (372, am_oNewa 100 (0, 0, [])), (374, am_oCall [] 374 26 3 4 false), (377, am_oIf1n am_eq 303), (380, am_oLoad am_tA 0), (381, am_oPush (0, 107, [])), (383, am_oPush (0, 1, [])), (384, am_oNewa 100 (0, 0, [])), (386, am_oDup), (387, am_oPush (0, 0, [])), (388, am_oPush (0, 24, [])), (390, am_oIast), (391, am_oCall [] 391 26 3 4 false), (394, am_oPush (0, 150, [])), (397, am_oIf2n am_eq 303), (400, am_oLoad am_tA 0), (401, am_oPush (0, 120, [])), (403, am_oPush (0, 1, [])), (404, am_oNewa 100 (0, 0, [])), (406, am_oDup), (407, am_oPush (0, 0, [])), (408, am_oPush (0, 24, [])), (410, am_oIast), (411, am_oCall [] 411 26 3 4 false), (414, am_oIf1n am_eq 303), (417, am_oLoad am_tA 0), (418, am_oPush (0, 109, [])), (420, am_oPush (0, 1, [])), (421, am_oNewa 100 (0, 0, [])), (423, am_oDup), (424, am_oPush (0, 0, [])), (425, am_oPush (0, 0, [])), (426, am_oIast), (427, am_oCall [] 427 26 3 4 false), (430, am_oPush (0, 30, [])), (432, am_oIf2n am_eq 303), (435, am_oLoad am_tA 0), (436, am_oPush (0, 112, [])), (438, am_oPush (0, 1, [])), (439, am_oNewa 100 (0, 0, [])), (441, am_oDup), (442, am_oPush (0, 0, [])), (443, am_oPush (0, 24, [])), (445, am_oIast), (446, am_oCall [] 446 26 3 4 false), (449, am_oPush (0, 6000, []))]
noncomputable def am_p119_5 : am_P := [(452, am_oIf2n am_eq 303), (455, am_oPush (0, 1, [])), (456, am_oGoto 304), (459, am_oPush (0, 0, [])), (460, am_oStore am_tI 2), (461, am_oLoad am_tI 1), (462, am_oIf1 am_eq 329), (465, am_oLoad am_tI 2), (466, am_oIf1 am_eq 329), (469, am_oLoad am_tA 0), (470, am_oPush (0, 67, [])), (472, am_oPush (0, 2, [])), (473, am_oNewa 100 (0, 0, [])), (475, am_oDup), (476, am_oPush (0, 0, [])), (477, am_oPush (0, 40, [])), (479, am_oIast), (480, am_oDup), (481, am_oPush (0, 1, [])), (482, am_oPush (0, 6, [])), (484, am_oIast), (485, am_oCall [] 485 26 3 4 false), (488, am_oPush (0, 30, [])), (490, am_oIf2n am_eq 329), (493, am_oLoad am_tA 0), (494, am_oCallV [] 494 20 1 4 false 6), (497, am_oIf1 am_eq 329), (500, am_oPush (0, 1, [])), (501, am_oGoto 330), (504, am_oPush (0, 0, [])), (505, am_oRet 505 am_tI FieldType.boolean)]
noncomputable def am_p119 : am_P := am_p119_0 ++ (am_p119_1 ++ (am_p119_2 ++ (am_p119_3 ++ (am_p119_4 ++ (am_p119_5)))))
noncomputable def am_p120_0 : am_P := [(0, am_oNew 6 [(4, 0, []), (4, 0, []), (4, 0, []), (4, 0, []), (4, 0, []), (0, 0, []), (0, 0, []), (0, 0, []), (0, 0, [])]), (3, am_oDup), (4, am_oCallI [] 4 0 1 2 true), (7, am_oStore am_tA 1), (8, am_oLoad am_tA 1), (9, am_oCall [] 9 111 1 2 false), (12, am_oIf1 am_eq 791), (15, am_oLoad am_tA 1), (16, am_oCallV [] 16 13 1 4 false 6), (19, am_oPush (3, 9221120237041090560, [])), (22, am_oCall [] 22 123 1 2 false), (25, am_op am_db am_hc am_bl am_m120 25 (.lcmp) []), (26, am_oIf1n am_eq 791), (29, am_oLoad am_tA 1), (30, am_oCallV [] 30 11 1 1 false 6), (33, am_oPush (3, 0, [])), (34, am_op am_db am_hc am_bl am_m120 34 (.dcmp .l) []), (35, am_oIf1n am_eq 791), (38, am_oLoad am_tA 1), (39, am_oCallV [] 39 19 1 5 false 6), (42, am_oPush (1, 217, [])), (45, am_op am_db am_hc am_bl am_m120 45 (.lcmp) []), (46, am_oIf1n am_eq 791), (49, am_oLoad am_tA 1), (50, am_oPush (0, 5, [])), (51, am_oCallV [] 51 12 2 4 false 6), (54, am_oIf1n am_eq 791), (57, am_oLoad am_tA 1), (58, am_oPush (0, 0, [])), (59, am_oCallV [] 59 7 2 3 false 6), (62, am_oIf1n am_eq 791), (65, am_oLoad am_tA 1), (66, am_oCallV [] 66 8 1 1 false 6), (69, am_oPush (2, 1065353216, [])), (70, am_oCall [] 70 121 1 1 false), (73, am_oIf2n am_eq 791), (76, am_oLoad am_tA 1), (77, am_oCallV [] 77 20 1 4 false 6), (80, am_oIf1 am_eq 791), (83, am_oLoad am_tA 1), (84, am_oPush (0, 67, [])), (86, am_oPush (0, 2, [])), (87, am_oNewa 100 (0, 0, [])), (89, am_oDup), (90, am_oPush (0, 0, [])), (91, am_oPush (0, 39, [])), (93, am_oIast), (94, am_oDup), (95, am_oPush (0, 1, [])), (96, am_oPush (0, 1, [])), (97, am_oIast), (98, am_oCall [] 98 26 3 4 false), (101, am_oPush (0, 2294967294, [])), (103, am_oIf2n am_eq 791), (106, am_oLoad am_tA 1), (107, am_oPush (0, 67, [])), (109, am_oPush (0, 2, [])), (110, am_oNewa 100 (0, 0, [])), (112, am_oDup), (113, am_oPush (0, 0, []))]
noncomputable def am_p120_1 : am_P := [(114, am_oPush (0, 40, [])), (116, am_oIast), (117, am_oDup), (118, am_oPush (0, 1, [])), (119, am_oPush (0, 7, [])), (121, am_oIast), (122, am_oCall [] 122 26 3 4 false), (125, am_oPush (0, 2294967294, [])), (127, am_oIf2n am_eq 791), (130, am_oLoad am_tA 1), (131, am_oPush (0, 84, [])), (133, am_oPush (0, 3, [])), (134, am_oNewa 100 (0, 0, [])), (136, am_oDup), (137, am_oPush (0, 0, [])), (138, am_oPush (0, 28, [])), (140, am_oIast), (141, am_oDup), (142, am_oPush (0, 1, [])), (143, am_oPush (0, 100, [])), (145, am_oIast), (146, am_oDup), (147, am_oPush (0, 2, [])), (148, am_oPush (0, 0, [])), (149, am_oIast), (150, am_oCall [] 150 26 3 4 false), (153, am_oPush (0, 2294967295, [])), (155, am_oIf2n am_eq 791), (158, am_oLoad am_tA 1), (159, am_oPush (0, 84, [])), (161, am_oPush (0, 3, [])), (162, am_oNewa 100 (0, 0, [])), (164, am_oDup), (165, am_oPush (0, 0, [])), (166, am_oPush (0, 24, [])), (168, am_oIast), (169, am_oDup), (170, am_oPush (0, 1, [])), (171, am_oPush (0, 99, [])), (173, am_oIast), (174, am_oDup), (175, am_oPush (0, 2, [])), (176, am_oPush (0, 0, [])), (177, am_oIast), (178, am_oCall [] 178 26 3 4 false), (181, am_oPush (0, 2294967294, [])), (183, am_oIf2n am_eq 791), (186, am_oLoad am_tA 1), (187, am_oPush (0, 84, [])), (189, am_oPush (0, 3, [])), (190, am_oNewa 100 (0, 0, [])), (192, am_oDup), (193, am_oPush (0, 0, [])), (194, am_oPush (0, 24, [])), (196, am_oIast), (197, am_oDup), (198, am_oPush (0, 1, [])), (199, am_oPush (0, 100, [])), (201, am_oIast), (202, am_oDup)]
noncomputable def am_p120_2 : am_P := [(203, am_oPush (0, 2, [])), (204, am_oPush (0, 0, [])), (205, am_oIast), (206, am_oCall [] 206 26 3 4 false), (209, am_oPush (0, 2294967292, [])), (211, am_oIf2n am_eq 791), (214, am_oLoad am_tA 1), (215, am_oPush (0, 84, [])), (217, am_oPush (0, 3, [])), (218, am_oNewa 100 (0, 0, [])), (220, am_oDup), (221, am_oPush (0, 0, [])), (222, am_oPush (0, 0, [])), (223, am_oIast), (224, am_oDup), (225, am_oPush (0, 1, [])), (226, am_oPush (0, 100, [])), (228, am_oIast), (229, am_oDup), (230, am_oPush (0, 2, [])), (231, am_oPush (0, 3, [])), (232, am_oIast), (233, am_oCall [] 233 26 3 4 false), (236, am_oPush (0, 2294967294, [])), (238, am_oIf2n am_eq 791), (241, am_oLoad am_tA 1), (242, am_oPush (0, 66, [])), (244, am_oPush (0, 2, [])), (245, am_oNewa 100 (0, 0, [])), (247, am_oDup), (248, am_oPush (0, 0, [])), (249, am_oPush (0, 4294967295, [])), (250, am_oIast), (251, am_oDup), (252, am_oPush (0, 1, [])), (253, am_oPush (0, 1, [])), (254, am_oIast), (255, am_oCall [] 255 26 3 4 false), (258, am_oPush (0, 2294967295, [])), (260, am_oIf2n am_eq 791), (263, am_oLoad am_tA 1), (264, am_oPush (0, 66, [])), (266, am_oPush (0, 2, [])), (267, am_oNewa 100 (0, 0, [])), (269, am_oDup), (270, am_oPush (0, 0, [])), (271, am_oPush (0, 0, [])), (272, am_oIast), (273, am_oDup), (274, am_oPush (0, 1, [])), (275, am_oPush (0, 121, [])), (277, am_oIast), (278, am_oCall [] 278 26 3 4 false), (281, am_oPush (0, 2294967294, [])), (283, am_oIf2n am_eq 791), (286, am_oLoad am_tA 1), (287, am_oPush (0, 66, [])), (289, am_oPush (0, 2, [])), (290, am_oNewa 100 (0, 0, [])), (292, am_oDup)]
noncomputable def am_p120_3 : am_P := [(293, am_oPush (0, 0, [])), (294, am_oPush (0, 23, [])), (296, am_oIast), (297, am_oDup), (298, am_oPush (0, 1, [])), (299, am_oPush (0, 1, [])), (300, am_oIast), (301, am_oCall [] 301 26 3 4 false), (304, am_oPush (0, 2294967292, [])), (306, am_oIf2n am_eq 791), (309, am_oLoad am_tA 1), (310, am_oPush (0, 112, [])), (312, am_oPush (0, 1, [])), (313, am_oNewa 100 (0, 0, [])), (315, am_oDup), (316, am_oPush (0, 0, [])), (317, am_oPush (0, 28, [])), (319, am_oIast), (320, am_oCall [] 320 26 3 4 false), (323, am_oPush (0, 2294967295, [])), (325, am_oIf2n am_eq 791), (328, am_oLoad am_tA 1), (329, am_oPush (0, 112, [])), (331, am_oPush (0, 1, [])), (332, am_oNewa 100 (0, 0, [])), (334, am_oDup), (335, am_oPush (0, 0, [])), (336, am_oPush (0, 0, [])), (337, am_oIast), (338, am_oCall [] 338 26 3 4 false), (341, am_oPush (0, 2294967291, [])), (343, am_oIf2n am_eq 791), (346, am_oLoad am_tA 1), (347, am_oPush (0, 110, [])), (349, am_oPush (0, 1, [])), (350, am_oNewa 100 (0, 0, [])), (352, am_oDup), (353, am_oPush (0, 0, [])), (354, am_oPush (0, 0, [])), (355, am_oIast), (356, am_oCall [] 356 26 3 4 false), (359, am_oPush (0, 2294967291, [])), (361, am_oIf2n am_eq 791), (364, am_oLoad am_tA 1), (365, am_oPush (0, 116, [])), (367, am_oPush (0, 1, [])), (368, am_oNewa 100 (0, 0, [])), (370, am_oDup), (371, am_oPush (0, 0, [])), (372, am_oPush (0, 0, [])), (373, am_oIast), (374, am_oCall [] 374 26 3 4 false), (377, am_oPush (0, 2294967291, [])), (379, am_oIf2n am_eq 791), (382, am_oLoad am_tA 1), (383, am_oPush (0, 70, [])), (385, am_oPush (0, 3, [])), (386, am_oNewa 100 (0, 0, [])), (388, am_oDup), (389, am_oPush (0, 0, []))]
noncomputable def am_p120_4 : am_P := [(390, am_oPush (0, 24, [])), (392, am_oIast), (393, am_oDup), (394, am_oPush (0, 1, [])), (395, am_oPush (0, 116, [])), (397, am_oIast), (398, am_oDup), (399, am_oPush (0, 2, [])), (400, am_oPush (0, 1, [])), (401, am_oIast), (402, am_oCall [] 402 26 3 4 false), (405, am_oPush (0, 2294967295, [])), (407, am_oIf2n am_eq 791), (410, am_oLoad am_tA 1), (411, am_oPush (0, 70, [])), (413, am_oPush (0, 3, [])), (414, am_oNewa 100 (0, 0, [])), (416, am_oDup), (417, am_oPush (0, 0, [])), (418, am_oPush (0, 0, [])), (419, am_oIast), (420, am_oDup), (421, am_oPush (0, 1, [])), (422, am_oPush (0, 120, [])), (424, am_oIast), (425, am_oDup), (426, am_oPush (0, 2, [])), (427, am_oPush (0, 1, [])), (428, am_oIast), (429, am_oCall [] 429 26 3 4 false), (432, am_oPush (0, 2294967294, [])), (434, am_oIf2n am_eq 791), (437, am_oLoad am_tA 1), (438, am_oPush (0, 70, [])), (440, am_oPush (0, 3, [])), (441, am_oNewa 100 (0, 0, [])), (443, am_oDup), (444, am_oPush (0, 0, [])), (445, am_oPush (0, 0, [])), (446, am_oIast), (447, am_oDup), (448, am_oPush (0, 1, [])), (449, am_oPush (0, 116, [])), (451, am_oIast), (452, am_oDup), (453, am_oPush (0, 2, [])), (454, am_oPush (0, 61, [])), (456, am_oIast), (457, am_oCall [] 457 26 3 4 false), (460, am_oPush (0, 2294967294, [])), (462, am_oIf2n am_eq 791), (465, am_oLoad am_tA 1), (466, am_oPush (0, 70, [])), (468, am_oPush (0, 3, [])), (469, am_oNewa 100 (0, 0, [])), (471, am_oDup), (472, am_oPush (0, 0, [])), (473, am_oPush (0, 0, [])), (474, am_oIast), (475, am_oDup)]
noncomputable def am_p120_5 : am_P := [(476, am_oPush (0, 1, [])), (477, am_oPush (0, 116, [])), (479, am_oIast), (480, am_oDup), (481, am_oPush (0, 2, [])), (482, am_oPush (0, 1, [])), (483, am_oIast), (484, am_oCall [] 484 26 3 4 false), (487, am_oPush (0, 2294967291, [])), (489, am_oIf2n am_eq 791), (492, am_oLoad am_tA 1), (493, am_oPush (0, 76, [])), (495, am_oPush (0, 2, [])), (496, am_oNewa 100 (0, 0, [])), (498, am_oDup), (499, am_oPush (0, 0, [])), (500, am_oPush (0, 24, [])), (502, am_oIast), (503, am_oDup), (504, am_oPush (0, 1, [])), (505, am_oPush (0, 0, [])), (506, am_oIast), (507, am_oCall [] 507 26 3 4 false), (510, am_oPush (0, 2294967295, [])), (512, am_oIf2n am_eq 791), (515, am_oLoad am_tA 1), (516, am_oPush (0, 76, [])), (518, am_oPush (0, 2, [])), (519, am_oNewa 100 (0, 0, [])), (521, am_oDup), (522, am_oPush (0, 0, [])), (523, am_oPush (0, 0, [])), (524, am_oIast), (525, am_oDup), (526, am_oPush (0, 1, [])), (527, am_oPush (0, 51, [])), (529, am_oIast), (530, am_oCall [] 530 26 3 4 false), (533, am_oPush (0, 2294967294, [])), (535, am_oIf2n am_eq 791), (538, am_oLoad am_tA 1), (539, am_oPush (0, 76, [])), (541, am_oPush (0, 2, [])), (542, am_oNewa 100 (0, 0, [])), (544, am_oDup), (545, am_oPush (0, 0, [])), (546, am_oPush (0, 0, [])), (547, am_oIast), (548, am_oDup), (549, am_oPush (0, 1, [])), (550, am_oPush (0, 1, [])), (551, am_oIast), (552, am_oCall [] 552 26 3 4 false), (555, am_oPush (0, 2294967291, [])), (557, am_oIf2n am_eq 791), (560, am_oLoad am_tA 1), (561, am_oPush (0, 115, [])), (563, am_oPush (0, 1, [])), (564, am_oNewa 100 (0, 0, [])), (566, am_oDup)]
noncomputable def am_p120_6 : am_P := [(567, am_oPush (0, 0, [])), (568, am_oPush (0, 24, [])), (570, am_oIast), (571, am_oCall [] 571 26 3 4 false), (574, am_oPush (0, 2294967295, [])), (576, am_oIf2n am_eq 791), (579, am_oLoad am_tA 1), (580, am_oPush (0, 115, [])), (582, am_oPush (0, 1, [])), (583, am_oNewa 100 (0, 0, [])), (585, am_oDup), (586, am_oPush (0, 0, [])), (587, am_oPush (0, 0, [])), (588, am_oIast), (589, am_oCall [] 589 26 3 4 false), (592, am_oPush (0, 2294967291, [])), (594, am_oIf2n am_eq 791), (597, am_oLoad am_tA 1), (598, am_oPush (0, 68, [])), (600, am_oPush (0, 2, [])), (601, am_oNewa 100 (0, 0, [])), (603, am_oDup), (604, am_oPush (0, 0, [])), (605, am_oPush (0, 0, [])), (606, am_oIast), (607, am_oDup), (608, am_oPush (0, 1, [])), (609, am_oPush (0, 120, [])), (611, am_oIast), (612, am_oCall [] 612 26 3 4 false), (615, am_oPush (0, 2294967294, [])), (617, am_oIf2n am_eq 791), (620, am_oLoad am_tA 1), (621, am_oPush (0, 68, [])), (623, am_oPush (0, 2, [])), (624, am_oNewa 100 (0, 0, [])), (626, am_oDup), (627, am_oPush (0, 0, [])), (628, am_oPush (0, 0, [])), (629, am_oIast), (630, am_oDup), (631, am_oPush (0, 1, [])), (632, am_oPush (0, 119, [])), (634, am_oIast), (635, am_oCall [] 635 26 3 4 false), (638, am_oPush (0, 2294967291, [])), (640, am_oIf2n am_eq 791), (643, am_oLoad am_tA 1), (644, am_oPush (0, 98, [])), (646, am_oPush (0, 2, [])), (647, am_oNewa 100 (0, 0, [])), (649, am_oDup), (650, am_oPush (0, 0, [])), (651, am_oPush (0, 0, [])), (652, am_oIast), (653, am_oDup), (654, am_oPush (0, 1, [])), (655, am_oPush (0, 1, [])), (656, am_oIast), (657, am_oCall [] 657 26 3 4 false)]
noncomputable def am_p120_7 : am_P := [(660, am_oPush (0, 2294967291, [])), (662, am_oIf2n am_eq 791), (665, am_oLoad am_tA 1), (666, am_oPush (0, 100, [])), (668, am_oPush (0, 1, [])), (669, am_oNewa 100 (0, 0, [])), (671, am_oDup), (672, am_oPush (0, 0, [])), (673, am_oPush (0, 28, [])), (675, am_oIast), (676, am_oCall [] 676 26 3 4 false), (679, am_oPush (0, 2294967295, [])), (681, am_oIf2n am_eq 791), (684, am_oLoad am_tA 1), (685, am_oPush (0, 119, [])), (687, am_oPush (0, 4, [])), (688, am_oNewa 100 (0, 0, [])), (690, am_oDup), (691, am_oPush (0, 0, [])), (692, am_oPush (0, 6, [])), (694, am_oIast), (695, am_oDup), (696, am_oPush (0, 1, [])), (697, am_oPush (0, 0, [])), (698, am_oIast), (699, am_oDup), (700, am_oPush (0, 2, [])), (701, am_oPush (0, 1, [])), (702, am_oIast), (703, am_oDup), (704, am_oPush (0, 3, [])), (705, am_oPush (0, 0, [])), (706, am_oIast), (707, am_oCall [] 707 26 3 4 false), (710, am_oPush (0, 2294967295, [])), (712, am_oIf2n am_eq 791), (715, am_oLoad am_tA 1), (716, am_oPush (0, 119, [])), (718, am_oPush (0, 4, [])), (719, am_oNewa 100 (0, 0, [])), (721, am_oDup), (722, am_oPush (0, 0, [])), (723, am_oPush (0, 0, [])), (724, am_oIast), (725, am_oDup), (726, am_oPush (0, 1, [])), (727, am_oPush (0, 600, [])), (730, am_oIast), (731, am_oDup), (732, am_oPush (0, 2, [])), (733, am_oPush (0, 1, [])), (734, am_oIast), (735, am_oDup), (736, am_oPush (0, 3, [])), (737, am_oPush (0, 0, [])), (738, am_oIast), (739, am_oCall [] 739 26 3 4 false), (742, am_oPush (0, 2294967294, [])), (744, am_oIf2n am_eq 791), (747, am_oLoad am_tA 1)]
noncomputable def am_p120_8 : am_P := [(748, am_oPush (0, 119, [])), (750, am_oPush (0, 4, [])), (751, am_oNewa 100 (0, 0, [])), (753, am_oDup), (754, am_oPush (0, 0, [])), (755, am_oPush (0, 0, [])), (756, am_oIast), (757, am_oDup), (758, am_oPush (0, 1, [])), (759, am_oPush (0, 0, [])), (760, am_oIast), (761, am_oDup), (762, am_oPush (0, 2, [])), (763, am_oPush (0, 121, [])), (765, am_oIast), (766, am_oDup), (767, am_oPush (0, 3, [])), (768, am_oPush (0, 0, [])), (769, am_oIast), (770, am_oCall [] 770 26 3 4 false), (773, am_oPush (0, 2294967294, [])), (775, am_oIf2n am_eq 791), (778, am_oLoad am_tA 1), (779, am_oPush (0, 119, [])), (781, am_oPush (0, 4, [])), (782, am_oNewa 100 (0, 0, [])), (784, am_oDup), (785, am_oPush (0, 0, [])), (786, am_oPush (0, 0, [])), (787, am_oIast), (788, am_oDup), (789, am_oPush (0, 1, [])), (790, am_oPush (0, 0, [])), (791, am_oIast), (792, am_oDup), (793, am_oPush (0, 2, [])), (794, am_oPush (0, 1, [])), (795, am_oIast), (796, am_oDup), (797, am_oPush (0, 3, [])), (798, am_oPush (0, 4, [])), (799, am_oIast), (800, am_oCall [] 800 26 3 4 false), (803, am_oPush (0, 2294967294, [])), (805, am_oIf2n am_eq 791), (808, am_oLoad am_tA 1), (809, am_oPush (0, 101, [])), (811, am_oPush (0, 1, [])), (812, am_oNewa 100 (0, 0, [])), (814, am_oDup), (815, am_oPush (0, 0, [])), (816, am_oPush (0, 6, [])), (818, am_oIast), (819, am_oCall [] 819 26 3 4 false), (822, am_oPush (0, 2294967295, [])), (824, am_oIf2n am_eq 791), (827, am_oLoad am_tA 1), (828, am_oPush (0, 101, [])), (830, am_oPush (0, 1, [])), (831, am_oNewa 100 (0, 0, []))]
noncomputable def am_p120_9 : am_P := [(833, am_oDup), (834, am_oPush (0, 0, [])), (835, am_oPush (0, 0, [])), (836, am_oIast), (837, am_oCall [] 837 26 3 4 false), (840, am_oIf1n am_eq 791), (843, am_oLoad am_tA 1), (844, am_oPush (0, 80, [])), (846, am_oPush (0, 4, [])), (847, am_oNewa 100 (0, 0, [])), (849, am_oDup), (850, am_oPush (0, 0, [])), (851, am_oPush (0, 9, [])), (853, am_oIast), (854, am_oDup), (855, am_oPush (0, 1, [])), (856, am_oPush (0, 0, [])), (857, am_oIast), (858, am_oDup), (859, am_oPush (0, 2, [])), (860, am_oPush (0, 0, [])), (861, am_oIast), (862, am_oDup), (863, am_oPush (0, 3, [])), (864, am_oPush (0, 9, [])), (866, am_oIast), (867, am_oCall [] 867 26 3 4 false), (870, am_oPush (0, 2294967293, [])), (872, am_oIf2n am_eq 791), (875, am_oLoad am_tA 1), (876, am_oPush (0, 85, [])), (878, am_oPush (0, 3, [])), (879, am_oNewa 100 (0, 0, [])), (881, am_oDup), (882, am_oPush (0, 0, [])), (883, am_oPush (0, 0, [])), (884, am_oIast), (885, am_oDup), (886, am_oPush (0, 1, [])), (887, am_oPush (0, 0, [])), (888, am_oIast), (889, am_oDup), (890, am_oPush (0, 2, [])), (891, am_oPush (0, 0, [])), (892, am_oIast), (893, am_oCall [] 893 26 3 4 false), (896, am_oPush (0, 2294967293, [])), (898, am_oIf2n am_eq 791), (901, am_oLoad am_tA 1), (902, am_oPush (0, 109, [])), (904, am_oPush (0, 1, [])), (905, am_oNewa 100 (0, 0, [])), (907, am_oDup), (908, am_oPush (0, 0, [])), (909, am_oPush (0, 6, [])), (911, am_oIast), (912, am_oCall [] 912 26 3 4 false), (915, am_oPush (0, 2294967295, [])), (917, am_oIf2n am_eq 791), (920, am_oLoad am_tA 1)]
noncomputable def am_p120_10 : am_P := [(921, am_oPush (0, 109, [])), (923, am_oPush (0, 1, [])), (924, am_oNewa 100 (0, 0, [])), (926, am_oDup), (927, am_oPush (0, 0, [])), (928, am_oPush (0, 5, [])), (929, am_oIast), (930, am_oCall [] 930 26 3 4 false), (933, am_oIf1n am_eq 791), (936, am_oLoad am_tA 1), (937, am_oPush (0, 114, [])), (939, am_oPush (0, 0, [])), (940, am_oNewa 100 (0, 0, [])), (942, am_oCall [] 942 26 3 4 false), (945, am_oPush (0, 2294967293, [])), (947, am_oIf2n am_eq 791), (950, am_oLoad am_tA 1), (951, am_oPush (0, 99, [])), (953, am_oPush (0, 0, [])), (954, am_oNewa 100 (0, 0, [])), (956, am_oCall [] 956 26 3 4 false), (959, am_oPush (0, 2294967293, [])), (961, am_oIf2n am_eq 791), (964, am_oLoad am_tA 1), (965, am_oPush (0, 65, [])), (967, am_oPush (0, 1, [])), (968, am_oNewa 100 (0, 0, [])), (970, am_oDup), (971, am_oPush (0, 0, [])), (972, am_oPush (0, 0, [])), (973, am_oIast), (974, am_oCall [] 974 26 3 4 false), (977, am_oPush (0, 2294967293, [])), (979, am_oIf2n am_eq 791), (982, am_oLoad am_tA 1), (983, am_oPush (0, 83, [])), (985, am_oPush (0, 1, [])), (986, am_oNewa 100 (0, 0, [])), (988, am_oDup), (989, am_oPush (0, 0, [])), (990, am_oPush (0, 0, [])), (991, am_oIast), (992, am_oCall [] 992 26 3 4 false), (995, am_oPush (0, 2294967293, [])), (997, am_oIf2n am_eq 791), (1000, am_oLoad am_tA 1), (1001, am_oPush (0, 104, [])), (1003, am_oPush (0, 0, [])), (1004, am_oNewa 100 (0, 0, [])), (1006, am_oCall [] 1006 26 3 4 false), (1009, am_oPush (0, 2294967293, [])), (1011, am_oIf2n am_eq 791), (1014, am_oLoad am_tA 1), (1015, am_oPush (0, 87, [])), (1017, am_oPush (0, 1, [])), (1018, am_oNewa 100 (0, 0, [])), (1020, am_oDup), (1021, am_oPush (0, 0, [])), (1022, am_oPush (0, 21, [])), (1024, am_oIast)]
noncomputable def am_p120_11 : am_P := [(1025, am_oCall [] 1025 26 3 4 false), (1028, am_oPush (0, 2294967294, [])), (1030, am_oIf2n am_eq 791), (1033, am_oLoad am_tA 1), (1034, am_oPush (0, 102, [])), (1036, am_oPush (0, 1, [])), (1037, am_oNewa 100 (0, 0, [])), (1039, am_oDup), (1040, am_oPush (0, 0, [])), (1041, am_oPush (0, 51, [])), (1043, am_oIast), (1044, am_oCall [] 1044 26 3 4 false), (1047, am_oPush (0, 2294967294, [])), (1049, am_oIf2n am_eq 791), (1052, am_oLoad am_tA 1), (1053, am_oPush (0, 102, [])), (1055, am_oPush (0, 1, [])), (1056, am_oNewa 100 (0, 0, [])), (1058, am_oDup), (1059, am_oPush (0, 0, [])), (1060, am_oPush (0, 0, [])), (1061, am_oIast), (1062, am_oCall [] 1062 26 3 4 false), (1065, am_oPush (0, 2294967294, [])), (1067, am_oIf2n am_eq 791), (1070, am_oLoad am_tA 1), (1071, am_oPush (0, 89, [])), (1073, am_oPush (0, 1, [])), (1074, am_oNewa 100 (0, 0, [])), (1076, am_oDup), (1077, am_oPush (0, 0, [])), (1078, am_oPush (0, 0, [])), (1079, am_oIast), (1080, am_oCall [] 1080 26 3 4 false), (1083, am_oPush (0, 2294967293, [])), (1085, am_oIf2n am_eq 791), (1088, am_oLoad am_tA 1), (1089, am_oPush (0, 107, [])), (1091, am_oPush (0, 1, [])), (1092, am_oNewa 100 (0, 0, [])), (1094, am_oDup), (1095, am_oPush (0, 0, [])), (1096, am_oPush (0, 0, [])), (1097, am_oIast), (1098, am_oCall [] 1098 26 3 4 false), (1101, am_oPush (0, 2294967291, [])), (1103, am_oIf2n am_eq 791), (1106, am_oLoad am_tA 1), (1107, am_oPush (0, 122, [])), (1109, am_oPush (0, 1, [])), (1110, am_oNewa 100 (0, 0, [])), (1112, am_oDup), (1113, am_oPush (0, 0, [])), (1114, am_oPush (0, 0, [])), (1115, am_oIast), (1116, am_oCall [] 1116 26 3 4 false), (1119, am_oPush (0, 2294967293, [])), (1121, am_oIf2n am_eq 791), (1124, am_oLoad am_tA 1), (1125, am_oPush (0, 111, []))]
noncomputable def am_p120_12 : am_P := [(1127, am_oPush (0, 1, [])), (1128, am_oNewa 100 (0, 0, [])), (1130, am_oDup), (1131, am_oPush (0, 0, [])), (1132, am_oPush (0, 0, [])), (1133, am_oIast), (1134, am_oCall [] 1134 26 3 4 false), (1137, am_oPush (0, 2294967293, [])), (1139, am_oIf2n am_eq 791), (1142, am_oLoad am_tA 1), (1143, am_oPush (0, 72, [])), (1145, am_oPush (0, 2, [])), (1146, am_oNewa 100 (0, 0, [])), (1148, am_oDup), (1149, am_oPush (0, 0, [])), (1150, am_oPush (0, 0, [])), (1151, am_oIast), (1152, am_oDup), (1153, am_oPush (0, 1, [])), (1154, am_oPush (0, 0, [])), (1155, am_oIast), (1156, am_oCall [] 1156 26 3 4 false), (1159, am_oPush (0, 2294967293, [])), (1161, am_oIf2n am_eq 791), (1164, am_oLoad am_tA 1), (1165, am_oPush (0, 82, [])), (1167, am_oPush (0, 0, [])), (1168, am_oNewa 100 (0, 0, [])), (1170, am_oCall [] 1170 26 3 4 false), (1173, am_oPush (0, 2294967293, [])), (1175, am_oIf2n am_eq 791), (1178, am_oLoad am_tA 1), (1179, am_oPush (0, 120, [])), (1181, am_oPush (0, 1, [])), (1182, am_oNewa 100 (0, 0, [])), (1184, am_oDup), (1185, am_oPush (0, 0, [])), (1186, am_oPush (0, 0, [])), (1187, am_oIast), (1188, am_oCall [] 1188 26 3 4 false), (1191, am_oPush (0, 2294967291, [])), (1193, am_oIf2n am_eq 791), (1196, am_oLoad am_tA 1), (1197, am_oPush (0, 78, [])), (1199, am_oPush (0, 0, [])), (1200, am_oNewa 100 (0, 0, [])), (1202, am_oCall [] 1202 26 3 4 false), (1205, am_oPush (0, 2294967293, [])), (1207, am_oIf2n am_eq 791), (1210, am_oLoad am_tA 1), (1211, am_oPush (0, 108, [])), (1213, am_oPush (0, 1, [])), (1214, am_oNewa 100 (0, 0, [])), (1216, am_oDup), (1217, am_oPush (0, 0, [])), (1218, am_oPush (0, 0, [])), (1219, am_oIast), (1220, am_oCall [] 1220 26 3 4 false), (1223, am_oPush (0, 2294967293, [])), (1225, am_oIf2n am_eq 791)]
noncomputable def am_p120_13 : am_P := [(1228, am_oLoad am_tA 1), (1229, am_oPush (0, 75, [])), (1231, am_oPush (0, 1, [])), (1232, am_oNewa 100 (0, 0, [])), (1234, am_oDup), (1235, am_oPush (0, 0, [])), (1236, am_oPush (0, 0, [])), (1237, am_oIast), (1238, am_oCall [] 1238 26 3 4 false), (1241, am_oPush (0, 2294967293, [])), (1243, am_oIf2 am_eq 793), (1246, am_oPush (0, 0, [])), (1247, am_oRet 1247 am_tI FieldType.boolean), (1248, am_oLoad am_tA 1), (1249, am_oPush (0, 67, [])), (1251, am_oPush (0, 2, [])), (1252, am_oNewa 100 (0, 0, [])), (1254, am_oDup), (1255, am_oPush (0, 0, [])), (1256, am_oPush (0, 40, [])), (1258, am_oIast), (1259, am_oDup), (1260, am_oPush (0, 1, [])), (1261, am_oPush (0, 2, [])), (1262, am_oIast), (1263, am_oCall [] 1263 26 3 4 false), (1266, am_oIf1n am_eq 1142), (1269, am_oLoad am_tA 1), (1270, am_oPush (0, 80, [])), (1272, am_oPush (0, 4, [])), (1273, am_oNewa 100 (0, 0, [])), (1275, am_oDup), (1276, am_oPush (0, 0, [])), (1277, am_oPush (0, 2, [])), (1278, am_oIast), (1279, am_oDup), (1280, am_oPush (0, 1, [])), (1281, am_oPush (0, 0, [])), (1282, am_oIast), (1283, am_oDup), (1284, am_oPush (0, 2, [])), (1285, am_oPush (0, 0, [])), (1286, am_oIast), (1287, am_oDup), (1288, am_oPush (0, 3, [])), (1289, am_oPush (0, 0, [])), (1290, am_oIast), (1291, am_oCall [] 1291 26 3 4 false), (1294, am_oPush (0, 2294967295, [])), (1296, am_oIf2n am_eq 1142), (1299, am_oLoad am_tA 1), (1300, am_oPush (0, 80, [])), (1302, am_oPush (0, 4, [])), (1303, am_oNewa 100 (0, 0, [])), (1305, am_oDup), (1306, am_oPush (0, 0, [])), (1307, am_oPush (0, 0, [])), (1308, am_oIast), (1309, am_oDup), (1310, am_oPush (0, 1, []))]
noncomputable def am_p120_14 : am_P := [(1311, am_oPush (0, 40, [])), (1313, am_oIast), (1314, am_oDup), (1315, am_oPush (0, 2, [])), (1316, am_oPush (0, 0, [])), (1317, am_oIast), (1318, am_oDup), (1319, am_oPush (0, 3, [])), (1320, am_oPush (0, 0, [])), (1321, am_oIast), (1322, am_oCall [] 1322 26 3 4 false), (1325, am_oPush (0, 2294967295, [])), (1327, am_oIf2n am_eq 1142), (1330, am_oLoad am_tA 1), (1331, am_oPush (0, 80, [])), (1333, am_oPush (0, 4, [])), (1334, am_oNewa 100 (0, 0, [])), (1336, am_oDup), (1337, am_oPush (0, 0, [])), (1338, am_oPush (0, 0, [])), (1339, am_oIast), (1340, am_oDup), (1341, am_oPush (0, 1, [])), (1342, am_oPush (0, 0, [])), (1343, am_oIast), (1344, am_oDup), (1345, am_oPush (0, 2, [])), (1346, am_oPush (0, 28, [])), (1348, am_oIast), (1349, am_oDup), (1350, am_oPush (0, 3, [])), (1351, am_oPush (0, 0, [])), (1352, am_oIast), (1353, am_oCall [] 1353 26 3 4 false), (1356, am_oPush (0, 2294967295, [])), (1358, am_oIf2n am_eq 1142), (1361, am_oLoad am_tA 1), (1362, am_oPush (0, 80, [])), (1364, am_oPush (0, 4, [])), (1365, am_oNewa 100 (0, 0, [])), (1367, am_oDup), (1368, am_oPush (0, 0, [])), (1369, am_oPush (0, 0, [])), (1370, am_oIast), (1371, am_oDup), (1372, am_oPush (0, 1, [])), (1373, am_oPush (0, 0, [])), (1374, am_oIast), (1375, am_oDup), (1376, am_oPush (0, 2, [])), (1377, am_oPush (0, 0, [])), (1378, am_oIast), (1379, am_oDup), (1380, am_oPush (0, 3, [])), (1381, am_oPush (0, 3, [])), (1382, am_oIast), (1383, am_oCall [] 1383 26 3 4 false), (1386, am_oPush (0, 2294967294, [])), (1388, am_oIf2n am_eq 1142), (1391, am_oLoad am_tA 1)]
noncomputable def am_p120_15 : am_P := [(1392, am_oPush (0, 85, [])), (1394, am_oPush (0, 3, [])), (1395, am_oNewa 100 (0, 0, [])), (1397, am_oDup), (1398, am_oPush (0, 0, [])), (1399, am_oPush (0, 0, [])), (1400, am_oIast), (1401, am_oDup), (1402, am_oPush (0, 1, [])), (1403, am_oPush (0, 0, [])), (1404, am_oIast), (1405, am_oDup), (1406, am_oPush (0, 2, [])), (1407, am_oPush (0, 0, [])), (1408, am_oIast), (1409, am_oCall [] 1409 26 3 4 false), (1412, am_oPush (0, 2294967291, [])), (1414, am_oIf2n am_eq 1142), (1417, am_oLoad am_tA 1), (1418, am_oPush (0, 65, [])), (1420, am_oPush (0, 1, [])), (1421, am_oNewa 100 (0, 0, [])), (1423, am_oDup), (1424, am_oPush (0, 0, [])), (1425, am_oPush (0, 2, [])), (1426, am_oIast), (1427, am_oCall [] 1427 26 3 4 false), (1430, am_oPush (0, 2294967295, [])), (1432, am_oIf2n am_eq 1142), (1435, am_oLoad am_tA 1), (1436, am_oPush (0, 89, [])), (1438, am_oPush (0, 1, [])), (1439, am_oNewa 100 (0, 0, [])), (1441, am_oDup), (1442, am_oPush (0, 0, [])), (1443, am_oPush (0, 41, [])), (1445, am_oIast), (1446, am_oCall [] 1446 26 3 4 false), (1449, am_oPush (0, 2294967294, [])), (1451, am_oIf2n am_eq 1142), (1454, am_oLoad am_tA 1), (1455, am_oPush (0, 89, [])), (1457, am_oPush (0, 1, [])), (1458, am_oNewa 100 (0, 0, [])), (1460, am_oDup), (1461, am_oPush (0, 0, [])), (1462, am_oPush (0, 40, [])), (1464, am_oIast), (1465, am_oCall [] 1465 26 3 4 false), (1468, am_oIf1n am_eq 1142), (1471, am_oLoad am_tA 1), (1472, am_oPush (0, 78, [])), (1474, am_oPush (0, 0, [])), (1475, am_oNewa 100 (0, 0, [])), (1477, am_oCall [] 1477 26 3 4 false), (1480, am_oPush (0, 1, [])), (1481, am_oIf2n am_eq 1142), (1484, am_oLoad am_tA 1), (1485, am_oPush (0, 108, [])), (1487, am_oPush (0, 1, []))]
noncomputable def am_p120_16 : am_P := [(1488, am_oNewa 100 (0, 0, [])), (1490, am_oDup), (1491, am_oPush (0, 0, [])), (1492, am_oPush (0, 24, [])), (1494, am_oIast), (1495, am_oCall [] 1495 26 3 4 false), (1498, am_oPush (0, 2294967295, [])), (1500, am_oIf2n am_eq 1142), (1503, am_oLoad am_tA 1), (1504, am_oPush (0, 108, [])), (1506, am_oPush (0, 1, [])), (1507, am_oNewa 100 (0, 0, [])), (1509, am_oDup), (1510, am_oPush (0, 0, [])), (1511, am_oPush (0, 0, [])), (1512, am_oIast), (1513, am_oCall [] 1513 26 3 4 false), (1516, am_oPush (0, 2294967291, [])), (1518, am_oIf2n am_eq 1142), (1521, am_oLoad am_tA 1), (1522, am_oPush (0, 75, [])), (1524, am_oPush (0, 1, [])), (1525, am_oNewa 100 (0, 0, [])), (1527, am_oDup), (1528, am_oPush (0, 0, [])), (1529, am_oPush (0, 0, [])), (1530, am_oIast), (1531, am_oCall [] 1531 26 3 4 false), (1534, am_oPush (0, 2294967291, [])), (1536, am_oIf2n am_eq 1142), (1539, am_oLoad am_tA 1), (1540, am_oPush (0, 72, [])), (1542, am_oPush (0, 2, [])), (1543, am_oNewa 100 (0, 0, [])), (1545, am_oDup), (1546, am_oPush (0, 0, [])), (1547, am_oPush (0, 0, [])), (1548, am_oIast), (1549, am_oDup), (1550, am_oPush (0, 1, [])), (1551, am_oPush (0, 40, [])), (1553, am_oIast), (1554, am_oCall [] 1554 26 3 4 false), (1557, am_oPush (0, 2294967295, [])), (1559, am_oIf2n am_eq 1142), (1562, am_oLoad am_tA 1), (1563, am_oPush (0, 99, [])), (1565, am_oPush (0, 0, [])), (1566, am_oNewa 100 (0, 0, [])), (1568, am_oCall [] 1568 26 3 4 false), (1571, am_oIf1n am_eq 1142), (1574, am_oLoad am_tA 1), (1575, am_oPush (0, 99, [])), (1577, am_oPush (0, 0, [])), (1578, am_oNewa 100 (0, 0, [])), (1580, am_oCall [] 1580 26 3 4 false), (1583, am_oPush (0, 1, [])), (1584, am_oIf2n am_eq 1142), (1587, am_oLoad am_tA 1), (1588, am_oPush (0, 65, []))]
noncomputable def am_p120_17 : am_P := [(1590, am_oPush (0, 1, [])), (1591, am_oNewa 100 (0, 0, [])), (1593, am_oDup), (1594, am_oPush (0, 0, [])), (1595, am_oPush (0, 0, [])), (1596, am_oIast), (1597, am_oCall [] 1597 26 3 4 false), (1600, am_oPush (0, 2294967292, [])), (1602, am_oIf2n am_eq 1142), (1605, am_oLoad am_tA 1), (1606, am_oPush (0, 114, [])), (1608, am_oPush (0, 0, [])), (1609, am_oNewa 100 (0, 0, [])), (1611, am_oCall [] 1611 26 3 4 false), (1614, am_oPush (0, 2294967292, [])), (1616, am_oIf2n am_eq 1142), (1619, am_oLoad am_tA 1), (1620, am_oPush (0, 80, [])), (1622, am_oPush (0, 4, [])), (1623, am_oNewa 100 (0, 0, [])), (1625, am_oDup), (1626, am_oPush (0, 0, [])), (1627, am_oPush (0, 0, [])), (1628, am_oIast), (1629, am_oDup), (1630, am_oPush (0, 1, [])), (1631, am_oPush (0, 0, [])), (1632, am_oIast), (1633, am_oDup), (1634, am_oPush (0, 2, [])), (1635, am_oPush (0, 0, [])), (1636, am_oIast), (1637, am_oDup), (1638, am_oPush (0, 3, [])), (1639, am_oPush (0, 0, [])), (1640, am_oIast), (1641, am_oCall [] 1641 26 3 4 false), (1644, am_oPush (0, 2294967292, [])), (1646, am_oIf2n am_eq 1142), (1649, am_oLoad am_tA 1), (1650, am_oPush (0, 67, [])), (1652, am_oPush (0, 2, [])), (1653, am_oNewa 100 (0, 0, [])), (1655, am_oDup), (1656, am_oPush (0, 0, [])), (1657, am_oPush (0, 40, [])), (1659, am_oIast), (1660, am_oDup), (1661, am_oPush (0, 1, [])), (1662, am_oPush (0, 1, [])), (1663, am_oIast), (1664, am_oCall [] 1664 26 3 4 false), (1667, am_oIf1n am_eq 1142), (1670, am_oLoad am_tA 1), (1671, am_oPush (0, 80, [])), (1673, am_oPush (0, 4, [])), (1674, am_oNewa 100 (0, 0, [])), (1676, am_oDup), (1677, am_oPush (0, 0, [])), (1678, am_oPush (0, 0, []))]
noncomputable def am_p120_18 : am_P := [(1679, am_oIast), (1680, am_oDup), (1681, am_oPush (0, 1, [])), (1682, am_oPush (0, 0, [])), (1683, am_oIast), (1684, am_oDup), (1685, am_oPush (0, 2, [])), (1686, am_oPush (0, 0, [])), (1687, am_oIast), (1688, am_oDup), (1689, am_oPush (0, 3, [])), (1690, am_oPush (0, 0, [])), (1691, am_oIast), (1692, am_oCall [] 1692 26 3 4 false), (1695, am_oPush (0, 1, [])), (1696, am_oIf2n am_eq 1142), (1699, am_oLoad am_tA 1), (1700, am_oPush (0, 80, [])), (1702, am_oPush (0, 4, [])), (1703, am_oNewa 100 (0, 0, [])), (1705, am_oDup), (1706, am_oPush (0, 0, [])), (1707, am_oPush (0, 0, [])), (1708, am_oIast), (1709, am_oDup), (1710, am_oPush (0, 1, [])), (1711, am_oPush (0, 39, [])), (1713, am_oIast), (1714, am_oDup), (1715, am_oPush (0, 2, [])), (1716, am_oPush (0, 0, [])), (1717, am_oIast), (1718, am_oDup), (1719, am_oPush (0, 3, [])), (1720, am_oPush (0, 0, [])), (1721, am_oIast), (1722, am_oCall [] 1722 26 3 4 false), (1725, am_oPush (0, 2294967292, [])), (1727, am_oIf2n am_eq 1142), (1730, am_oLoad am_tA 1), (1731, am_oPush (0, 80, [])), (1733, am_oPush (0, 4, [])), (1734, am_oNewa 100 (0, 0, [])), (1736, am_oDup), (1737, am_oPush (0, 0, [])), (1738, am_oPush (0, 0, [])), (1739, am_oIast), (1740, am_oDup), (1741, am_oPush (0, 1, [])), (1742, am_oPush (0, 38, [])), (1744, am_oIast), (1745, am_oDup), (1746, am_oPush (0, 2, [])), (1747, am_oPush (0, 0, [])), (1748, am_oIast), (1749, am_oDup), (1750, am_oPush (0, 3, [])), (1751, am_oPush (0, 0, [])), (1752, am_oIast), (1753, am_oCall [] 1753 26 3 4 false)]
noncomputable def am_p120_19 : am_P := [(1756, am_oPush (0, 2, [])), (1757, am_oIf2 am_eq 1144), (1760, am_oPush (0, 0, [])), (1761, am_oRet 1761 am_tI FieldType.boolean), (1762, am_oLoad am_tA 0), (1763, am_oCall [] 1763 113 1 14 false), (1766, am_oIf1 am_eq 1154), (1769, am_oLoad am_tA 0), (1770, am_oCall [] 1770 117 1 13 false), (1773, am_oIf1 am_eq 1154), (1776, am_oCall [] 1776 119 0 3 false), (1779, am_oIf1 am_eq 1154), (1782, am_oPush (0, 1, [])), (1783, am_oGoto 1155), (1786, am_oPush (0, 0, [])), (1787, am_oRet 1787 am_tI FieldType.boolean)]
noncomputable def am_p120 : am_P := am_p120_0 ++ (am_p120_1 ++ (am_p120_2 ++ (am_p120_3 ++ (am_p120_4 ++ (am_p120_5 ++ (am_p120_6 ++ (am_p120_7 ++ (am_p120_8 ++ (am_p120_9 ++ (am_p120_10 ++ (am_p120_11 ++ (am_p120_12 ++ (am_p120_13 ++ (am_p120_14 ++ (am_p120_15 ++ (am_p120_16 ++ (am_p120_17 ++ (am_p120_18 ++ (am_p120_19)))))))))))))))))))
noncomputable def am_p121_0 : am_P := [(0, am_oLoad am_tF 0), (1, am_oCall [] 1 122 1 1 false), (4, am_oIf1n am_eq 6), (7, am_oLoad am_tF 0), (8, am_oF2I), (11, am_oRet 11 am_tI FieldType.int), (12, am_oPush (0, 2143289344, [])), (14, am_oRet 14 am_tI FieldType.int)]
noncomputable def am_p121 : am_P := am_p121_0
noncomputable def am_p122_0 : am_P := [(0, am_oLoad am_tF 0), (1, am_oLoad am_tF 0), (2, am_op am_db am_hc am_bl am_m122 2 (.fcmp .l) []), (3, am_oIf1 am_eq 6), (6, am_oPush (0, 1, [])), (7, am_oGoto 7), (10, am_oPush (0, 0, [])), (11, am_oRet 11 am_tI FieldType.boolean)]
noncomputable def am_p122 : am_P := am_p122_0
noncomputable def am_p123_0 : am_P := [(0, am_oLoad am_tD 0), (1, am_oCall [] 1 124 1 2 false), (4, am_oIf1n am_eq 6), (7, am_oLoad am_tD 0), (8, am_oD2L), (11, am_oRet 11 am_tL FieldType.long), (12, am_oPush (1, 9221120237041090560, [])), (15, am_oRet 15 am_tL FieldType.long)]
noncomputable def am_p123 : am_P := am_p123_0
noncomputable def am_p124_0 : am_P := [(0, am_oLoad am_tD 0), (1, am_oLoad am_tD 0), (2, am_op am_db am_hc am_bl am_m124 2 (.dcmp .l) []), (3, am_oIf1 am_eq 6), (6, am_oPush (0, 1, [])), (7, am_oGoto 7), (10, am_oPush (0, 0, [])), (11, am_oRet 11 am_tI FieldType.boolean)]
noncomputable def am_p124 : am_P := am_p124_0
noncomputable def am_codes : List am_P := [am_p0, am_p1, am_p2, am_p3, am_p4, am_p5, am_p6, am_p7, am_p8, am_p9, am_p10, am_p11, am_p12, am_p13, am_p14, am_p15, am_p16, am_p17, am_p18, am_p19, am_p20, am_p21, am_p22, am_p23, am_p24, am_p25, am_p26, am_p27, am_p28, am_p29, am_p30, am_p31, am_p32, am_p33, am_p34, am_p35, am_p36, am_p37, am_p38, am_p39, am_p40, am_p41, am_p42, am_p43, am_p44, am_p45, am_p46, [], am_p48, am_p49, am_p50, am_p51, am_p52, am_p53, am_p54, am_p55, am_p56, am_p57, am_p58, am_p59, am_p60, am_p61, am_p62, am_p63, am_p64, am_p65, am_p66, [], [], [], am_p70, am_p71, am_p72, am_p73, am_p74, am_p75, am_p76, am_p77, [], am_p79, am_p80, [], [], am_p83, am_p84, am_p85, am_p86, am_p87, am_p88, am_p89, am_p90, am_p91, am_p92, am_p93, am_p94, am_p95, [], am_p97, am_p98, am_p99, [], [], [], [], am_p104, am_p105, [], am_p107, am_p108, am_p109, am_p110, am_p111, am_p112, am_p113, am_p114, am_p115, am_p116, am_p117, am_p118, am_p119, am_p120, am_p121, am_p122, am_p123, am_p124]
end
section
/-! ===== the abstract machine's state and the machine's: s0 the state at the law's entry (its cells are old), D the classes' numbers and slots, X the unknowns, b the script's cell ===== -/
/-- s0, D, X, b -/
abbrev am_Y : Type := State × va_G × List Int × Nat
def am_V1 (Y : am_Y) (ad : List Nat) (v : am_V) (V : Value) : Prop := am_R Y.2.2.1 Y.2.2.2 ad v V
def am_St (Y : am_Y) (ad : List Nat) : List am_V → List Value → Prop
  | [], [] => True
  | v :: vs, V :: Vs => am_V1 Y ad v V ∧ am_St Y ad vs Vs
  | _, _ => False
/-- what the tables say of an array's class -/
def am_ak (s0 : State) (cA : ClassId) (kind : Nat) : Prop := match kind with
  | 100 => s0.vm.findClass "[I" = some cA
  | 101 => va_RA s0 cA (.object RX5)
  | 102 => va_RA s0 cA (.object RX2)
  | 103 => va_RA s0 cA (.object RX1)
  | 104 => ∃ (kA : Class) (comp : ClassId) (kI : Class), s0.vm.classes[cA]? = some kA ∧ kA.kind = .array comp (.array .int) ∧ s0.vm.findClass "[I" = some comp ∧ s0.vm.classes[comp]? = some kI
  | _ => False
/-- a cell holds a list of values at the slots f -/
def am_hold (Y : am_Y) (ad : List Nat) (C : Cell) (f : Nat → Nat) (vs : List am_V) : Prop := ∀ (j : Nat) (v : am_V), vs[j]? = some v → ∃ V, C.slots[f j]? = some V ∧ am_V1 Y ad v V
def am_cell (Y : am_Y) (ad : List Nat) (C : Cell) (k : am_C) : Prop := C.vm = .none ∧
  ((∃ r : vw_C, am_cl[k.1]? = some r ∧ C.cls = Y.2.1.1 k.1 ∧ k.2.length = r.2.2 ∧ am_hold Y ad C (Y.2.1.2 k.1) k.2) ∨
   (∃ ty : FieldType, 100 ≤ k.1 ∧ am_at k.1 = some ty ∧ ArrOfT Y.1 C.cls ty ∧ am_ak Y.1 C.cls k.1 ∧ C.slots.size = k.2.length ∧ am_hold Y ad C (fun j => j) k.2))
def am_Rep (Y : am_Y) (ad : List Nat) (h : am_H) (H : Heap) : Prop := ad.length = h.1 ∧ ad.Nodup ∧ (∀ a ∈ ad, Y.1.heap.size ≤ a ∧ a < H.size) ∧
  ∀ (k : Nat) (c : am_C), am_get h k = some c → c.1 ≠ 999 → ∃ (a : Nat) (C : Cell), ad[k]? = some a ∧ H[a]? = some C ∧ am_cell Y ad C c
/-- .. and what isn't in the world stays as it was at s -/
def am_HP (Y : am_Y) (s : State) (ad0 ad : List Nat) (h : am_H) (H : Heap) (locs : List Loc) : Prop :=
  am_Rep Y ad h H ∧ s.heap.size ≤ H.size ∧ (∀ q : Nat, q < s.heap.size → q ∉ ad0 → H[q]? = s.heap[q]?) ∧ (∀ z ∈ locs, Y.1.heap.size ≤ z.base) ∧ (∀ a ∈ ad, a ∈ ad0 ∨ s.heap.size ≤ a) ∧ ∀ a ∈ ad0, a ∈ ad
def am_Lo (Y : am_Y) (ad : List Nat) (nL : Nat) (lo : List am_V) (ls : Array Slot) : Prop := lo.length = nL ∧ ∃ lv : List (Nat × Value), lv_has ls nL lv ∧ ∀ (i : Nat) (v : am_V), lo[i]? = some v → v.1 ≠ 98 → ∃ V, am_V1 Y ad v V ∧ (i, V) ∈ lv
def am_le (ad ad' : List Nat) : Prop := ∀ (k a : Nat), ad[k]? = some a → ad'[k]? = some a
theorem am_le_rf (ad : List Nat) : am_le ad ad := fun _ _ h => h
theorem am_le_tr {a b c : List Nat} (h1 : am_le a b) (h2 : am_le b c) : am_le a c := fun k x h => h2 k x (h1 k x h)
theorem am_V1_le {Y : am_Y} {ad ad' : List Nat} {v : am_V} {V : Value} (h : am_V1 Y ad v V) (hl : am_le ad ad') : am_V1 Y ad' v V := am_R_grow h hl
theorem am_St_le {Y : am_Y} {ad ad' : List Nat} (hl : am_le ad ad') : ∀ {vs : List am_V} {Vs : List Value}, am_St Y ad vs Vs → am_St Y ad' vs Vs
  | [], [], _ => trivial
  | _ :: _, _ :: _, h => ⟨am_V1_le h.1 hl, am_St_le hl h.2⟩
  | [], _ :: _, h => h.elim
  | _ :: _, [], h => h.elim
theorem am_Lo_le {Y : am_Y} {ad ad' : List Nat} {nL : Nat} {lo : List am_V} {ls : Array Slot} (hl : am_le ad ad') (h : am_Lo Y ad nL lo ls) : am_Lo Y ad' nL lo ls := by
  obtain ⟨h1, lv, h2, h3⟩ := h
  exact ⟨h1, lv, h2, fun i v hv hn => by
    obtain ⟨V, k1, k2⟩ := h3 i v hv hn
    exact ⟨V, am_V1_le k1 hl, k2⟩⟩
theorem am_hold_le {Y : am_Y} {ad ad' : List Nat} {C : Cell} {f : Nat → Nat} {vs : List am_V} (hl : am_le ad ad') (h : am_hold Y ad C f vs) : am_hold Y ad' C f vs := fun j v hv => by
  obtain ⟨V, k1, k2⟩ := h j v hv
  exact ⟨V, k1, am_V1_le k2 hl⟩
theorem am_cell_le {Y : am_Y} {ad ad' : List Nat} {C : Cell} {k : am_C} (hl : am_le ad ad') (h : am_cell Y ad C k) : am_cell Y ad' C k := by
  obtain ⟨h1, h2⟩ := h
  refine ⟨h1, ?_⟩
  rcases h2 with ⟨r, a1, a2, a3, a4⟩ | ⟨ty, a0, a1, a2, a3, a4, a5⟩
  · exact Or.inl ⟨r, a1, a2, a3, am_hold_le hl a4⟩
  · exact Or.inr ⟨ty, a0, a1, a2, a3, a4, am_hold_le hl a5⟩
theorem am_St_nil {Y : am_Y} {ad : List Nat} {Vs : List Value} (h : am_St Y ad [] Vs) : Vs = [] := by
  cases Vs with
  | nil => rfl
  | cons _ _ => exact h.elim
theorem am_St_cons {Y : am_Y} {ad : List Nat} {v : am_V} {vs : List am_V} {Vs : List Value} (h : am_St Y ad (v :: vs) Vs) : ∃ V Vs', Vs = V :: Vs' ∧ am_V1 Y ad v V ∧ am_St Y ad vs Vs' := by
  cases Vs with
  | nil => exact h.elim
  | cons V Vs' => exact ⟨V, Vs', rfl, h.1, h.2⟩
theorem am_St_len {Y : am_Y} {ad : List Nat} : ∀ {vs : List am_V} {Vs : List Value}, am_St Y ad vs Vs → vs.length = Vs.length
  | [], [], _ => rfl
  | _ :: _, _ :: _, h => congrArg (· + 1) (am_St_len h.2)
  | [], _ :: _, h => h.elim
  | _ :: _, [], h => h.elim
-- tags
theorem am_tag {n k : Nat} (h : Nat.beq n k = true) : n = k := Nat.eq_of_beq_eq_true h
theorem am_tI_ok {Y : am_Y} {ad : List Nat} {v : am_V} {V : Value} (h : am_V1 Y ad v V) (ht : am_tI v = true) : ∃ x : Int32, V = .int x := by
  obtain ⟨t, n, f⟩ := v
  rcases am_or_t.mp ht with h1 | h1 <;> (have e := am_tag h1; dsimp only at e; subst e; exact ⟨_, h⟩)
theorem am_tL_ok {Y : am_Y} {ad : List Nat} {v : am_V} {V : Value} (h : am_V1 Y ad v V) (ht : am_tL v = true) : ∃ x : Int64, V = .long x := by
  obtain ⟨t, n, f⟩ := v
  rcases am_or_t.mp ht with h1 | h1 <;> (have e := am_tag h1; dsimp only at e; subst e; exact ⟨_, h⟩)
theorem am_tF_ok {Y : am_Y} {ad : List Nat} {v : am_V} {V : Value} (h : am_V1 Y ad v V) (ht : am_tF v = true) : ∃ x : UInt32, V = .float x := by
  obtain ⟨t, n, f⟩ := v
  have e := am_tag ht
  dsimp only at e
  subst e
  exact ⟨_, h⟩
theorem am_tD_ok {Y : am_Y} {ad : List Nat} {v : am_V} {V : Value} (h : am_V1 Y ad v V) (ht : am_tD v = true) : ∃ x : UInt64, V = .double x := by
  obtain ⟨t, n, f⟩ := v
  rcases am_or_t.mp ht with h1 | h1
  · have e := am_tag h1; dsimp only at e; subst e; exact ⟨_, h⟩
  · rcases am_or_t.mp h1 with h2 | h2 <;> (have e := am_tag h2; dsimp only at e; subst e; exact ⟨_, h⟩)
theorem am_tR_ok {Y : am_Y} {ad : List Nat} {v : am_V} {V : Value} (h : am_V1 Y ad v V) (ht : am_tR v = true) : ∃ x : Nat, V = .ref x := by
  obtain ⟨t, n, f⟩ := v
  rcases am_or_t.mp ht with h1 | h1
  · have e := am_tag h1
    dsimp only at e
    subst e
    obtain ⟨a, -, h2⟩ := h
    exact ⟨a, h2⟩
  · rcases am_or_t.mp h1 with h2 | h2
    · have e := am_tag h2; dsimp only at e; subst e; exact h
    · have e := am_tag h2; dsimp only at e; subst e; exact ⟨_, h⟩
theorem am_tA_ok {Y : am_Y} {ad : List Nat} {v : am_V} {V : Value} (h : am_V1 Y ad v V) (ht : am_tA v = true) : V = .null ∨ ∃ x : Nat, V = .ref x := by
  rcases am_or_t.mp ht with h1 | h1
  · exact Or.inr (am_tR_ok h h1)
  · obtain ⟨t, n, f⟩ := v
    have e := am_tag h1
    dsimp only at e
    subst e
    exact Or.inl h
theorem am_cat {Y : am_Y} {ad : List Nat} {v : am_V} {V : Value} (h : am_V1 Y ad v V) : V.category = if am_c2 v = true then 2 else 1 := by
  obtain ⟨t, n, f⟩ := v
  unfold am_V1 am_R at h
  dsimp only at h
  split at h
  all_goals first
    | (subst h; simp [am_c2, Value.category]; done)
    | (obtain ⟨a, h⟩ := h; subst h; simp [am_c2, Value.category]; done)
    | (obtain ⟨a, -, h⟩ := h; subst h; simp [am_c2, Value.category]; done)
    | exact h.elim
end
section
/-! ===== loads and stores of the abstract machine ===== -/
theorem am_nt {v : am_V} (h : am_tI v = true ∨ am_tL v = true ∨ am_tF v = true ∨ am_tD v = true ∨ am_tA v = true) : v.1 ≠ 98 := by
  obtain ⟨t, n, f⟩ := v
  intro e
  dsimp only at e
  subst e
  simp [am_tI, am_tL, am_tF, am_tD, am_tA, am_tR, am_or] at h
theorem am_Lo_get {Y : am_Y} {ad : List Nat} {nL k : Nat} {lo : List am_V} {ls : Array Slot} {v : am_V} (h : am_Lo Y ad nL lo ls) (hk : am_nth lo k = some v) (hn : v.1 ≠ 98) : ∃ V, am_V1 Y ad v V ∧ ls[k]? = some (.val V) := by
  obtain ⟨-, lv, h2, h3⟩ := h
  rw [am_nth_eq] at hk
  obtain ⟨V, k1, k2⟩ := h3 k v hk hn
  exact ⟨V, k1, h2.2.2 (k, V) k2⟩
theorem am_has_ok {α : Type} {l : List α} {k : Nat} (h : am_has l k = true) : k < l.length := by
  unfold am_has at h
  rw [am_nth_eq] at h
  by_cases hk : k < l.length
  · exact hk
  · rw [List.getElem?_eq_none (by omega)] at h
    cases h
theorem am_sh_ok {α : Type} {l : List α} (h : am_sh l = true) : l.length ≤ 4 := by
  unfold am_sh at h
  rw [am_nth_eq] at h
  by_cases hk : 4 < l.length
  · rw [List.getElem?_eq_getElem hk] at h
    cases h
  · omega
theorem am_st1_len (lo : List am_V) (k : Nat) (v : am_V) : (am_st1 lo k v).length = lo.length := by
  cases k with
  | zero => exact (congrArg List.length (am_set_eq lo v 0)).trans (List.length_set)
  | succ j =>
    show (Option.rec (motive := fun _ => List am_V) (am_set lo (j + 1) v) (fun w => am_if (am_c2 w) (am_set (am_set lo j am_un0) (j + 1) v) (am_set lo (j + 1) v)) (am_nth lo j)).length = _
    cases am_nth lo j with
    | none => exact (congrArg List.length (am_set_eq lo v (j + 1))).trans (List.length_set)
    | some w =>
      show (am_if (am_c2 w) (am_set (am_set lo j am_un0) (j + 1) v) (am_set lo (j + 1) v)).length = _
      cases am_c2 w with
      | false => exact (congrArg List.length (am_set_eq lo v (j + 1))).trans (List.length_set)
      | true =>
        show (am_set (am_set lo j am_un0) (j + 1) v).length = _
        rw [am_set_eq, am_set_eq, List.length_set, List.length_set]
/-- what stands behind a store: the value, or what stood there before, unless it took two words that are broken now -/
theorem am_st1_get {lo : List am_V} {k i : Nat} {v w : am_V} (hk : k < lo.length) (h : (am_st1 lo k v)[i]? = some w) (hn : w.1 ≠ 98) : (i = k ∧ w = v) ∨ (i ≠ k ∧ lo[i]? = some w ∧ (i + 1 = k → am_c2 w = false)) := by
  have base : ∀ l : List am_V, k < l.length → (l.set k v)[i]? = some w → (i = k ∧ w = v) ∨ (i ≠ k ∧ l[i]? = some w) := by
    intro l hl hq
    by_cases e : i = k
    · subst e
      rw [List.getElem?_set_self hl] at hq
      exact Or.inl ⟨rfl, (Option.some.inj hq).symm⟩
    · rw [List.getElem?_set_ne (Ne.symm e)] at hq
      exact Or.inr ⟨e, hq⟩
  cases k with
  | zero =>
    have h1 : (lo.set 0 v)[i]? = some w := by rw [← am_set_eq]; exact h
    rcases base lo hk h1 with q | ⟨q1, q2⟩
    · exact Or.inl q
    · exact Or.inr ⟨q1, q2, fun e => by omega⟩
  | succ j =>
    have hj : j < lo.length := by omega
    have h1 : (Option.rec (motive := fun _ => List am_V) (am_set lo (j + 1) v) (fun w => am_if (am_c2 w) (am_set (am_set lo j am_un0) (j + 1) v) (am_set lo (j + 1) v)) (am_nth lo j))[i]? = some w := h
    rw [am_nth_eq, List.getElem?_eq_getElem hj] at h1
    have h2 : (am_if (am_c2 lo[j]) (am_set (am_set lo j am_un0) (j + 1) v) (am_set lo (j + 1) v))[i]? = some w := h1
    cases hc : am_c2 lo[j] with
    | false =>
      rw [hc] at h2
      have h3 : (lo.set (j + 1) v)[i]? = some w := by rw [← am_set_eq]; exact h2
      rcases base lo hk h3 with q | ⟨q1, q2⟩
      · exact Or.inl q
      · refine Or.inr ⟨q1, q2, fun e => ?_⟩
        have e2 : i = j := by omega
        subst e2
        rw [List.getElem?_eq_getElem hj] at q2
        cases q2
        exact hc
    | true =>
      rw [hc] at h2
      have h3 : ((lo.set j am_un0).set (j + 1) v)[i]? = some w := by rw [← am_set_eq, ← am_set_eq]; exact h2
      rcases base (lo.set j am_un0) (by rw [List.length_set]; exact hk) h3 with q | ⟨q1, q2⟩
      · exact Or.inl q
      · by_cases e : i = j
        · subst e
          rw [List.getElem?_set_self hj] at q2
          cases q2
          exact absurd rfl hn
        · rw [List.getElem?_set_ne (Ne.symm e)] at q2
          exact Or.inr ⟨q1, q2, fun e2 => by omega⟩
theorem am_Lo_st1 {Y : am_Y} {ad : List Nat} {nL k : Nat} {lo : List am_V} {ls : Array Slot} {v : am_V} {V : Value} (h : am_Lo Y ad nL lo ls) (hk : am_has lo k = true) (hv : am_V1 Y ad v V) : k < nL ∧ ∃ lv, lv_has ls nL lv ∧ ∀ ls', lv_has ls' nL ((k, V) :: lv.filter (fun q => !(q.1 == k) && !(q.1 + 1 == k && q.2.category == 2))) → am_Lo Y ad nL (am_st1 lo k v) ls' := by
  obtain ⟨h1, lv, h2, h3⟩ := h
  have hk2 := am_has_ok hk
  refine ⟨by omega, lv, h2, fun ls' h4 => ⟨by rw [am_st1_len]; exact h1, _, h4, fun i w hw hn => ?_⟩⟩
  rcases am_st1_get hk2 hw hn with ⟨e1, e2⟩ | ⟨e1, e2, e3⟩
  · subst e1
    subst e2
    exact ⟨V, hv, List.mem_cons_self⟩
  · obtain ⟨W, k1, k2⟩ := h3 i w e2 hn
    refine ⟨W, k1, List.mem_cons_of_mem _ (List.mem_filter.mpr ⟨k2, ?_⟩)⟩
    have hc := am_cat k1
    have q1 : (i == k) = false := by simpa using e1
    by_cases e : i + 1 = k
    · have e4 := e3 e
      rw [e4] at hc
      simp only [Bool.false_eq_true, if_false] at hc
      simp [q1, hc]
    · simp [q1, e]
theorem am_Lo_st2 {Y : am_Y} {ad : List Nat} {nL k : Nat} {lo : List am_V} {ls : Array Slot} {v : am_V} {V : Value} (h : am_Lo Y ad nL lo ls) (hk : am_has lo (k + 1) = true) (hv : am_V1 Y ad v V) : k + 1 < nL ∧ ∃ lv, lv_has ls nL lv ∧ ∀ ls', lv_has ls' nL ((k, V) :: lv.filter (fun q => !(q.1 == k) && (!(q.1 == k + 1) && !(q.1 + 1 == k && q.2.category == 2)))) → am_Lo Y ad nL (am_st2 lo k v) ls' := by
  obtain ⟨h1, lv, h2, h3⟩ := h
  have hk2 := am_has_ok hk
  have hlen : (am_st2 lo k v).length = lo.length := by
    unfold am_st2
    rw [am_set_eq, List.length_set, am_st1_len]
  refine ⟨by omega, lv, h2, fun ls' h4 => ⟨by rw [hlen]; exact h1, _, h4, fun i w hw hn => ?_⟩⟩
  unfold am_st2 at hw
  rw [am_set_eq] at hw
  by_cases e0 : i = k + 1
  · subst e0
    rw [List.getElem?_set_self (by rw [am_st1_len]; exact hk2)] at hw
    cases hw
    exact absurd rfl hn
  · rw [List.getElem?_set_ne (Ne.symm e0)] at hw
    rcases am_st1_get (by omega) hw hn with ⟨e1, e2⟩ | ⟨e1, e2, e3⟩
    · subst e1
      subst e2
      exact ⟨V, hv, List.mem_cons_self⟩
    · obtain ⟨W, k1, k2⟩ := h3 i w e2 hn
      refine ⟨W, k1, List.mem_cons_of_mem _ (List.mem_filter.mpr ⟨k2, ?_⟩)⟩
      have hc := am_cat k1
      have q1 : (i == k) = false := by simpa using e1
      have q2 : (i == k + 1) = false := by simpa using e0
      by_cases e : i + 1 = k
      · have e4 := e3 e
        rw [e4] at hc
        simp only [Bool.false_eq_true, if_false] at hc
        simp [q1, q2, hc]
      · simp [q1, q2, e]
-- the heap
theorem am_put_1 (h : am_H) (a : Nat) (c : am_C) : (am_put h a c).1 = h.1 := rfl
theorem am_get_put {h : am_H} {a k : Nat} {c c0 : am_C} (h0 : am_get h a = some c0) : am_get (am_put h a c) k = if k = a then some c else am_get h k := by
  unfold am_get at h0 ⊢
  obtain ⟨blk, hb, hc⟩ := am_ob_some h0
  have e1 : (am_put h a c).2 = am_set h.2 (Nat.div a 16) (am_set blk (Nat.mod a 16) c) := by
    unfold am_put
    rw [hb]
  rw [e1, am_nth_eq, am_set_eq, am_set_eq]
  rw [am_nth_eq] at hb hc
  have hl1 := (List.getElem?_eq_some_iff.mp hb).1
  have hl2 := (List.getElem?_eq_some_iff.mp hc).1
  by_cases ek : k = a
  · subst ek
    rw [if_pos rfl, List.getElem?_set_self hl1, am_ob_s, am_nth_eq, List.getElem?_set_self hl2]
  · rw [if_neg ek]
    by_cases ed : Nat.div k 16 = Nat.div a 16
    · rw [ed, List.getElem?_set_self hl1, am_nth_eq, hb, am_ob_s, am_ob_s, am_nth_eq, am_nth_eq]
      have em : Nat.mod k 16 ≠ Nat.mod a 16 := by
        intro em
        apply ek
        have q1 := Nat.div_add_mod k 16
        have q2 := Nat.div_add_mod a 16
        have e3 : k / 16 = a / 16 := ed
        have e4 : k % 16 = a % 16 := em
        omega
      rw [List.getElem?_set_ne (Ne.symm em)]
    · rw [List.getElem?_set_ne (Ne.symm ed), am_nth_eq]
theorem am_free_ok {h : am_H} (hf : am_free h = true) : ∃ c0, am_get h h.1 = some c0 ∧ c0.1 = 999 := by
  unfold am_free at hf
  cases hg : am_get h h.1 with
  | none => rw [hg] at hf; cases hf
  | some c => rw [hg] at hf; exact ⟨c, rfl, am_tag hf⟩
theorem am_get_new {h : am_H} {k : Nat} {c : am_C} (hf : am_free h = true) : am_get (am_new h c) k = if k = h.1 then some c else am_get h k := by
  obtain ⟨c0, h0, -⟩ := am_free_ok hf
  exact am_get_put h0
section AMHP
variable {Y : am_Y} {s : State} {ad0 ad : List Nat} {h : am_H} {H : Heap} {locs : List Loc}
theorem am_HP_cell (hp : am_HP Y s ad0 ad h H locs) {k : Nat} {c : am_C} (hg : am_get h k = some c) (hn : c.1 ≠ 999) : ∃ (a : Nat) (C : Cell), ad[k]? = some a ∧ H[a]? = some C ∧ am_cell Y ad C c := hp.1.2.2.2 k c hg hn
theorem am_HP_set (hp : am_HP Y s ad0 ad h H locs) {k a i : Nat} {c0 c : am_C} {C : Cell} {H' : Heap} (hg : am_get h k = some c0) (hn : c0.1 ≠ 999) (ha : ad[k]? = some a) (hC : am_cell Y ad C c) (e1 : H'[a]? = some C) (e2 : H'.size = H.size) (e3 : ∀ q : Nat, q ≠ a → H'[q]? = H[q]?) : am_HP Y s ad0 ad (am_put h k c) H' (locs ++ [⟨a, i⟩]) := by
  obtain ⟨⟨r1, r2, r3, r4⟩, f1, f2, f3, f4, f5⟩ := hp
  have ham : a ∈ ad := List.mem_of_getElem? ha
  refine ⟨⟨by rw [am_put_1]; exact r1, r2, fun x hx => ⟨(r3 x hx).1, by rw [e2]; exact (r3 x hx).2⟩, fun k' c' hk' hn' => ?_⟩, by rw [e2]; exact f1, fun q hq hq2 => ?_, fun z hz => ?_, f4, f5⟩
  · rw [am_get_put hg] at hk'
    by_cases ek : k' = k
    · subst ek
      rw [if_pos rfl] at hk'
      cases hk'
      exact ⟨a, C, ha, e1, hC⟩
    · rw [if_neg ek] at hk'
      obtain ⟨a', C', g1, g2, g3⟩ := r4 k' c' hk' hn'
      refine ⟨a', C', g1, ?_, g3⟩
      rw [e3 a' (fun e => ek ?_)]
      · exact g2
      · subst e
        obtain ⟨p1, p2⟩ := List.getElem?_eq_some_iff.mp g1
        obtain ⟨p3, p4⟩ := List.getElem?_eq_some_iff.mp ha
        exact (List.getElem_inj r2).mp (p2.trans p4.symm)
  · rw [e3 q (fun e => ?_)]
    · exact f2 q hq hq2
    · subst e
      rcases f4 q ham with h1 | h1
      · exact hq2 h1
      · omega
  · rcases List.mem_append.mp hz with h1 | h1
    · exact f3 z h1
    · have e : z = ⟨a, i⟩ := by simpa using h1
      subst e
      exact (r3 a ham).1
theorem am_HP_new (hs : Y.1.heap.size ≤ s.heap.size) (hp : am_HP Y s ad0 ad h H locs) {c : am_C} {C : Cell} {H' : Heap} (hf : am_free h = true) (hC : am_cell Y (ad ++ [H.size]) C c) (e1 : H'[H.size]? = some C) (e2 : H'.size = H.size + 1) (e3 : ∀ q : Nat, q < H.size → H'[q]? = H[q]?) : am_HP Y s ad0 (ad ++ [H.size]) (am_new h c) H' locs ∧ am_le ad (ad ++ [H.size]) ∧ (ad ++ [H.size])[h.1]? = some H.size := by
  obtain ⟨⟨r1, r2, r3, r4⟩, f1, f2, f3, f4, f5⟩ := hp
  have hle : am_le ad (ad ++ [H.size]) := fun k a hk => by
    rw [List.getElem?_append_left (List.getElem?_eq_some_iff.mp hk).1]
    exact hk
  have hlast : (ad ++ [H.size])[h.1]? = some H.size := by
    rw [← r1, List.getElem?_append_right (Nat.le_refl _), Nat.sub_self]
    rfl
  have hnot : H.size ∉ ad := fun q => by
    have := (r3 _ q).2
    omega
  refine ⟨⟨⟨by simp [am_new, r1], ?_, fun x hx => ?_, fun k' c' hk' hn' => ?_⟩, by omega, fun q hq hq2 => ?_, f3, fun x hx => ?_, fun x hx => List.mem_append_left _ (f5 x hx)⟩, hle, hlast⟩
  · rw [List.nodup_append]
    refine ⟨r2, by simp, fun x hx y hy => ?_⟩
    have e : y = H.size := by simpa using hy
    subst e
    intro e
    subst e
    exact hnot hx
  · rcases List.mem_append.mp hx with h1 | h1
    · have := r3 x h1
      omega
    · have e : x = H.size := by simpa using h1
      omega
  · rw [am_get_new hf] at hk'
    by_cases ek : k' = h.1
    · subst ek
      rw [if_pos rfl] at hk'
      cases hk'
      exact ⟨H.size, C, hlast, e1, hC⟩
    · rw [if_neg ek] at hk'
      obtain ⟨a', C', g1, g2, g3⟩ := r4 k' c' hk' hn'
      refine ⟨a', C', hle _ _ g1, ?_, am_cell_le hle g3⟩
      rw [e3 a' (Array.getElem?_eq_some_iff.mp g2).1]
      exact g2
  · rw [e3 q (by omega)]
    exact f2 q hq hq2
  · rcases List.mem_append.mp hx with h1 | h1
    · exact f4 x h1
    · have e : x = H.size := by simpa using h1
      subst e
      exact Or.inr f1
/-- a reference to a cell of the world -/
theorem am_ref (hp : am_HP Y s ad0 ad h H locs) {r : am_V} {V : Value} {c : am_C} (hv : am_V1 Y ad r V) (ht : Nat.beq r.1 10 = true) (hg : am_get h r.2.1 = some c) (hn : c.1 ≠ 999) : ∃ (a : Nat) (C : Cell), V = .ref a ∧ ad[r.2.1]? = some a ∧ H[a]? = some C ∧ am_cell Y ad C c := by
  obtain ⟨t, n, f⟩ := r
  have e := am_tag ht
  dsimp only at e
  subst e
  obtain ⟨a, k1, k2⟩ := hv
  obtain ⟨a', C, g1, g2, g3⟩ := am_HP_cell hp hg hn
  have e2 : a' = a := Option.some.inj (g1.symm.trans k1)
  subst e2
  exact ⟨a', C, k2, k1, g2, g3⟩
end AMHP
end
section
/-! ===== an operation of the abstract machine is sound where its instruction's row is ===== -/
def am_rk (code : ByteArray) (pc : Nat) (v : am_V) : Prop := (am_tI v = true ∧ decode code pc = .ok (.ireturn, 1)) ∨ (am_tL v = true ∧ decode code pc = .ok (.lreturn, 1)) ∨ (am_tF v = true ∧ decode code pc = .ok (.freturn, 1)) ∨ (am_tD v = true ∧ decode code pc = .ok (.dreturn, 1)) ∨ (am_tR v = true ∧ decode code pc = .ok (.areturn, 1))
def am_Ret (code : ByteArray) (rt : Option FieldType) (c : Code) (o : am_O) : Prop := (o.1 = 0 → o.2.2.2.2.1 = [] ∧ decode code o.2.2.1 = .ok (.return_, 1) ∧ rt = none) ∧ (o.1 = 1 → o.2.2.2.2.1 = [o.2.1] ∧ ∃ t, rt = some t ∧ am_fit t o.2.1 = true ∧ am_rk code o.2.2.1 o.2.1) ∧ (o.1 = 2 → c.exceptionTable.toList = [])
/-- what a run that comes to o owes from there on -/
def am_Kont (p : Program) (l : Launch) (e : Env) (R : Room) (s : State) (m : MethodId) (args : Array Value) (below : List Frame) (meth : Method) (c : Code) (Q : State → Prop) (Y : am_Y) (ad0 : List Nat) (nL c0 q0 : Nat) (ad : List Nat) (o : am_O) : Prop :=
  ∀ (ad' : List Nat) (H' : Heap) (locs' : List Loc) (ls' : Array Slot) (S' : List Value), am_le ad ad' → am_HP Y s ad0 ad' o.2.2.2.2.2.1 H' locs' → am_Lo Y ad' nL o.2.2.2.1 ls' → am_St Y ad' o.2.2.2.2.1 S' →
    (o.1 ≠ 2 → W p l e R s m args below meth c H' locs' (c0 + o.2.2.2.2.2.2.1) (q0 + o.2.2.2.2.2.2.2) Q (F0 m o.2.2.1 ls' S')) ∧
    (o.1 = 2 → ∀ E : String, am_ex[o.2.1.1]? = some E →
      (∀ (q : Addr) (ce : Cell) (pc' : Nat), H'[q]? = some ce → ce.vm = .none → s.vm.findClass E = some ce.cls → vx_W p l e R s m args below meth c H' locs' (c0 + o.2.2.2.2.2.2.1) (q0 + o.2.2.2.2.2.2.2) Q (F0 m pc' ls' S') q) ∧
      ∃ (Qc : Array Value → State → Outcome → State → Prop) (XC : String → State → State → Prop) (mc ms : Nat), Q = vx_MQ below Qc XC args s mc ms (fun q => Y.1.heap.size ≤ q) ∧ c0 + o.2.2.2.2.2.2.1 ≤ mc ∧ q0 + o.2.2.2.2.2.2.2 ≤ ms ∧
        ∀ t : State, s.vm.Alike t.vm → H'.size ≤ t.heap.size → (∀ q : Nat, q < H'.size → t.heap[q]? = H'[q]?) → XC E s t)
/-- g is what the machine does from pc on -/
def am_Snd (p : Program) (l : Launch) (e : Env) (R : Room) (s : State) (m : MethodId) (args : Array Value) (below : List Frame) (meth : Method) (c : Code) (Q : State → Prop) (Y : am_Y) (ad0 : List Nat) (nL c0 q0 : Nat) (code : ByteArray) (rt : Option FieldType) (g : am_G) (pc : Nat) : Prop :=
  ∀ (lo stk : List am_V) (h : am_H) (nc ns : Nat) (o : am_O), g lo stk h nc ns = some o → nc ≤ o.2.2.2.2.2.2.1 ∧ ns ≤ o.2.2.2.2.2.2.2 ∧ am_Ret code rt c o ∧
    ∀ (ad : List Nat) (H : Heap) (locs : List Loc) (ls : Array Slot) (S : List Value), am_HP Y s ad0 ad h H locs → am_Lo Y ad nL lo ls → am_St Y ad stk S → c0 + o.2.2.2.2.2.2.1 ≤ R.cells → q0 + o.2.2.2.2.2.2.2 ≤ R.slots → am_Kont p l e R s m args below meth c Q Y ad0 nL c0 q0 ad o →
      W p l e R s m args below meth c H locs (c0 + nc) (q0 + ns) Q (F0 m pc ls S)
theorem am_Kont_le {p : Program} {l : Launch} {e : Env} {R : Room} {s : State} {m : MethodId} {args : Array Value} {below : List Frame} {meth : Method} {c : Code} {Q : State → Prop} {Y : am_Y} {ad0 : List Nat} {nL c0 q0 : Nat} {ad ad1 : List Nat} {o : am_O} (h : am_Kont p l e R s m args below meth c Q Y ad0 nL c0 q0 ad o) (hl : am_le ad ad1) : am_Kont p l e R s m args below meth c Q Y ad0 nL c0 q0 ad1 o :=
  fun ad' H' locs' ls' S' h1 => h ad' H' locs' ls' S' (am_le_tr hl h1)
section AMOPS
variable {p : Program} {l : Launch} {e : Env} {R : Room} {s : State} {m : MethodId} {args : Array Value} {below : List Frame} {meth : Method} {c : Code} {Q : State → Prop} {Y : am_Y} {A : am_A} {ad0 : List Nat} {nL c0 q0 : Nat} {code : ByteArray} {rt : Option FieldType}
variable {sub : Nat → am_G} {go : am_G} {jmp : Nat → am_G} {pc pc' : Nat}
theorem am_sBad : am_Snd p l e R s m args below meth c Q Y ad0 nL c0 q0 code rt (am_oBad A sub go jmp) pc := fun lo stk h nc ns o ho => by cases ho
theorem am_sPush {v : am_V} (hgo : am_Snd p l e R s m args below meth c Q Y ad0 nL c0 q0 code rt go pc') (row : ∀ (ad : List Nat) (H : Heap) (locs : List Loc) (k n : Nat) (ls : Array Slot) (S : List Value), ∃ V, am_V1 Y ad v V ∧ (W p l e R s m args below meth c H locs k n Q (F0 m pc' ls (V :: S)) → W p l e R s m args below meth c H locs k n Q (F0 m pc ls S))) : am_Snd p l e R s m args below meth c Q Y ad0 nL c0 q0 code rt (am_oPush v A sub go jmp) pc := by
  intro lo stk h nc ns o ho
  obtain ⟨g1, g2, g3, g4⟩ := hgo lo (v :: stk) h nc ns o ho
  refine ⟨g1, g2, g3, fun ad H locs ls S hp hl hs r1 r2 hk => ?_⟩
  obtain ⟨V, k1, k2⟩ := row ad H locs (c0 + nc) (q0 + ns) ls S
  exact k2 (g4 ad H locs ls (V :: S) hp hl ⟨k1, hs⟩ r1 r2 hk)
theorem am_sLoad {ok : am_V → Bool} {k : Nat} (hok : ∀ v, ok v = true → v.1 ≠ 98) (hgo : am_Snd p l e R s m args below meth c Q Y ad0 nL c0 q0 code rt go pc') (row : ∀ (ad : List Nat) (v : am_V) (V : Value), am_V1 Y ad v V → ok v = true → ∀ (H : Heap) (locs : List Loc) (k1 n : Nat) (ls : Array Slot) (S : List Value), ls[k]? = some (.val V) → W p l e R s m args below meth c H locs k1 n Q (F0 m pc' ls (V :: S)) → W p l e R s m args below meth c H locs k1 n Q (F0 m pc ls S)) : am_Snd p l e R s m args below meth c Q Y ad0 nL c0 q0 code rt (am_oLoad ok k A sub go jmp) pc := by
  intro lo stk h nc ns o ho
  obtain ⟨v, hv, ho1⟩ := am_ob_some ho
  obtain ⟨hv2, ho2⟩ := am_if_some ho1
  obtain ⟨g1, g2, g3, g4⟩ := hgo lo (v :: stk) h nc ns o ho2
  refine ⟨g1, g2, g3, fun ad H locs ls S hp hl hs r1 r2 hk => ?_⟩
  obtain ⟨V, k1, k2⟩ := am_Lo_get hl hv (hok v hv2)
  exact row ad v V k1 hv2 H locs _ _ ls S k2 (g4 ad H locs ls (V :: S) hp hl ⟨k1, hs⟩ r1 r2 hk)
theorem am_sStore {ok : am_V → Bool} {k : Nat} (hgo : am_Snd p l e R s m args below meth c Q Y ad0 nL c0 q0 code rt go pc') (row : ∀ (ad : List Nat) (v : am_V) (V : Value), am_V1 Y ad v V → ok v = true → ∀ (H : Heap) (locs : List Loc) (k1 n : Nat) (ls : Array Slot) (S : List Value) (lv : List (Nat × Value)), lv_has ls nL lv → k < nL → (∀ ls' : Array Slot, lv_has ls' nL ((k, V) :: lv.filter (fun q => !(q.1 == k) && !(q.1 + 1 == k && q.2.category == 2))) → W p l e R s m args below meth c H locs k1 n Q (F0 m pc' ls' S)) → W p l e R s m args below meth c H locs k1 n Q (F0 m pc ls (V :: S))) : am_Snd p l e R s m args below meth c Q Y ad0 nL c0 q0 code rt (am_oStore ok k A sub go jmp) pc := by
  intro lo stk h nc ns o ho
  obtain ⟨v, rest, rfl, ho1⟩ := am_lc_some ho
  obtain ⟨hv2, ho2⟩ := am_if_some ho1
  rw [am_and_t] at hv2
  obtain ⟨g1, g2, g3, g4⟩ := hgo (am_st1 lo k v) rest h nc ns o ho2
  refine ⟨g1, g2, g3, fun ad H locs ls S hp hl hs r1 r2 hk => ?_⟩
  obtain ⟨V, S', rfl, k1, k2⟩ := am_St_cons hs
  obtain ⟨e1, lv, e2, e3⟩ := am_Lo_st1 hl hv2.2 k1
  exact row ad v V k1 hv2.1 H locs _ _ ls S' lv e2 e1 (fun ls' h' => g4 ad H locs ls' S' hp (e3 ls' h') k2 r1 r2 hk)
theorem am_sStore2 {ok : am_V → Bool} {k : Nat} (hgo : am_Snd p l e R s m args below meth c Q Y ad0 nL c0 q0 code rt go pc') (row : ∀ (ad : List Nat) (v : am_V) (V : Value), am_V1 Y ad v V → ok v = true → ∀ (H : Heap) (locs : List Loc) (k1 n : Nat) (ls : Array Slot) (S : List Value) (lv : List (Nat × Value)), lv_has ls nL lv → k + 1 < nL → (∀ ls' : Array Slot, lv_has ls' nL ((k, V) :: lv.filter (fun q => !(q.1 == k) && (!(q.1 == k + 1) && !(q.1 + 1 == k && q.2.category == 2)))) → W p l e R s m args below meth c H locs k1 n Q (F0 m pc' ls' S)) → W p l e R s m args below meth c H locs k1 n Q (F0 m pc ls (V :: S))) : am_Snd p l e R s m args below meth c Q Y ad0 nL c0 q0 code rt (am_oStore2 ok k A sub go jmp) pc := by
  intro lo stk h nc ns o ho
  obtain ⟨v, rest, rfl, ho1⟩ := am_lc_some ho
  obtain ⟨hv2, ho2⟩ := am_if_some ho1
  rw [am_and_t] at hv2
  obtain ⟨g1, g2, g3, g4⟩ := hgo (am_st2 lo k v) rest h nc ns o ho2
  refine ⟨g1, g2, g3, fun ad H locs ls S hp hl hs r1 r2 hk => ?_⟩
  obtain ⟨V, S', rfl, k1, k2⟩ := am_St_cons hs
  obtain ⟨e1, lv, e2, e3⟩ := am_Lo_st2 hl hv2.2 k1
  exact row ad v V k1 hv2.1 H locs _ _ ls S' lv e2 e1 (fun ls' h' => g4 ad H locs ls' S' hp (e3 ls' h') k2 r1 r2 hk)
theorem am_sBinA {f : am_A → am_V → am_V → Option am_V} (hgo : am_Snd p l e R s m args below meth c Q Y ad0 nL c0 q0 code rt go pc') (row : ∀ (ad : List Nat) (u v r : am_V) (U V : Value), am_V1 Y ad u U → am_V1 Y ad v V → f A u v = some r → ∃ r' : Value, am_V1 Y ad r r' ∧ ∀ (H : Heap) (locs : List Loc) (k n : Nat) (ls : Array Slot) (S : List Value), W p l e R s m args below meth c H locs k n Q (F0 m pc' ls (r' :: S)) → W p l e R s m args below meth c H locs k n Q (F0 m pc ls (V :: U :: S))) : am_Snd p l e R s m args below meth c Q Y ad0 nL c0 q0 code rt (am_oBinA f A sub go jmp) pc := by
  intro lo stk h nc ns o ho
  obtain ⟨y, r1, rfl, ho1⟩ := am_lc_some ho
  obtain ⟨x, rest, rfl, ho2⟩ := am_lc_some ho1
  obtain ⟨r, hr, ho3⟩ := am_ob_some ho2
  obtain ⟨g1, g2, g3, g4⟩ := hgo lo (r :: rest) h nc ns o ho3
  refine ⟨g1, g2, g3, fun ad H locs ls S hp hl hs r1 r2 hk => ?_⟩
  obtain ⟨V, S', rfl, k1, k2⟩ := am_St_cons hs
  obtain ⟨U, S'', rfl, k3, k4⟩ := am_St_cons k2
  obtain ⟨r', e1, e2⟩ := row ad x y r U V k3 k1 hr
  exact e2 H locs _ _ ls S'' (g4 ad H locs ls (r' :: S'') hp hl ⟨e1, k4⟩ r1 r2 hk)
theorem am_sBin {f : am_V → am_V → Option am_V} (hgo : am_Snd p l e R s m args below meth c Q Y ad0 nL c0 q0 code rt go pc') (row : ∀ (ad : List Nat) (u v r : am_V) (U V : Value), am_V1 Y ad u U → am_V1 Y ad v V → f u v = some r → ∃ r' : Value, am_V1 Y ad r r' ∧ ∀ (H : Heap) (locs : List Loc) (k n : Nat) (ls : Array Slot) (S : List Value), W p l e R s m args below meth c H locs k n Q (F0 m pc' ls (r' :: S)) → W p l e R s m args below meth c H locs k n Q (F0 m pc ls (V :: U :: S))) : am_Snd p l e R s m args below meth c Q Y ad0 nL c0 q0 code rt (am_oBin f A sub go jmp) pc :=
  am_sBinA (A := A) (sub := sub) (jmp := jmp) (f := fun _ => f) hgo row
theorem am_sUn {f : am_V → Option am_V} (hgo : am_Snd p l e R s m args below meth c Q Y ad0 nL c0 q0 code rt go pc') (row : ∀ (ad : List Nat) (u r : am_V) (U : Value), am_V1 Y ad u U → f u = some r → ∃ r' : Value, am_V1 Y ad r r' ∧ ∀ (H : Heap) (locs : List Loc) (k n : Nat) (ls : Array Slot) (S : List Value), W p l e R s m args below meth c H locs k n Q (F0 m pc' ls (r' :: S)) → W p l e R s m args below meth c H locs k n Q (F0 m pc ls (U :: S))) : am_Snd p l e R s m args below meth c Q Y ad0 nL c0 q0 code rt (am_oUn f A sub go jmp) pc := by
  intro lo stk h nc ns o ho
  obtain ⟨x, rest, rfl, ho1⟩ := am_lc_some ho
  obtain ⟨r, hr, ho2⟩ := am_ob_some ho1
  obtain ⟨g1, g2, g3, g4⟩ := hgo lo (r :: rest) h nc ns o ho2
  refine ⟨g1, g2, g3, fun ad H locs ls S hp hl hs r1 r2 hk => ?_⟩
  obtain ⟨U, S', rfl, k1, k2⟩ := am_St_cons hs
  obtain ⟨r', e1, e2⟩ := row ad x r U k1 hr
  exact e2 H locs _ _ ls S' (g4 ad H locs ls (r' :: S') hp hl ⟨e1, k2⟩ r1 r2 hk)
theorem am_sGoto {t pt : Nat} (hj : am_Snd p l e R s m args below meth c Q Y ad0 nL c0 q0 code rt (jmp t) pt) (row : ∀ (H : Heap) (locs : List Loc) (k n : Nat) (ls : Array Slot) (S : List Value), W p l e R s m args below meth c H locs k n Q (F0 m pt ls S) → W p l e R s m args below meth c H locs k n Q (F0 m pc ls S)) : am_Snd p l e R s m args below meth c Q Y ad0 nL c0 q0 code rt (am_oGoto t A sub go jmp) pc := by
  intro lo stk h nc ns o ho
  obtain ⟨g1, g2, g3, g4⟩ := hj lo stk h nc ns o ho
  exact ⟨g1, g2, g3, fun ad H locs ls S hp hl hs r1 r2 hk => row H locs _ _ ls S (g4 ad H locs ls S hp hl hs r1 r2 hk)⟩
/-- a branch on two values: cb what decides it -/
theorem am_sIf2 {f : am_A → am_V → am_V → Option Bool} {t pt : Nat} (hgo : am_Snd p l e R s m args below meth c Q Y ad0 nL c0 q0 code rt go pc') (hj : am_Snd p l e R s m args below meth c Q Y ad0 nL c0 q0 code rt (jmp t) pt) (row : ∀ (ad : List Nat) (u v : am_V) (U V : Value) (b : Bool), am_V1 Y ad u U → am_V1 Y ad v V → f A u v = some b → ∀ (H : Heap) (locs : List Loc) (k n : Nat) (ls : Array Slot) (S : List Value), (b = true → W p l e R s m args below meth c H locs k n Q (F0 m pt ls S)) → (b = false → W p l e R s m args below meth c H locs k n Q (F0 m pc' ls S)) → W p l e R s m args below meth c H locs k n Q (F0 m pc ls (V :: U :: S))) : am_Snd p l e R s m args below meth c Q Y ad0 nL c0 q0 code rt (am_oIf2 f t A sub go jmp) pc := by
  intro lo stk h nc ns o ho
  obtain ⟨y, r1, rfl, ho1⟩ := am_lc_some ho
  obtain ⟨x, rest, rfl, ho2⟩ := am_lc_some ho1
  obtain ⟨b, hb, ho3⟩ := am_ob_some ho2
  cases b with
  | true =>
    obtain ⟨g1, g2, g3, g4⟩ := hj lo rest h nc ns o ho3
    refine ⟨g1, g2, g3, fun ad H locs ls S hp hl hs r1 r2 hk => ?_⟩
    obtain ⟨V, S', rfl, k1, k2⟩ := am_St_cons hs
    obtain ⟨U, S'', rfl, k3, k4⟩ := am_St_cons k2
    exact row ad x y U V true k3 k1 hb H locs _ _ ls S'' (fun _ => g4 ad H locs ls S'' hp hl k4 r1 r2 hk) (fun q => by cases q)
  | false =>
    obtain ⟨g1, g2, g3, g4⟩ := hgo lo rest h nc ns o ho3
    refine ⟨g1, g2, g3, fun ad H locs ls S hp hl hs r1 r2 hk => ?_⟩
    obtain ⟨V, S', rfl, k1, k2⟩ := am_St_cons hs
    obtain ⟨U, S'', rfl, k3, k4⟩ := am_St_cons k2
    exact row ad x y U V false k3 k1 hb H locs _ _ ls S'' (fun q => by cases q) (fun _ => g4 ad H locs ls S'' hp hl k4 r1 r2 hk)
theorem am_sIf2n {f : am_A → am_V → am_V → Option Bool} {t pt : Nat} (hgo : am_Snd p l e R s m args below meth c Q Y ad0 nL c0 q0 code rt go pc') (hj : am_Snd p l e R s m args below meth c Q Y ad0 nL c0 q0 code rt (jmp t) pt) (row : ∀ (ad : List Nat) (u v : am_V) (U V : Value) (b : Bool), am_V1 Y ad u U → am_V1 Y ad v V → f A u v = some b → ∀ (H : Heap) (locs : List Loc) (k n : Nat) (ls : Array Slot) (S : List Value), (b = false → W p l e R s m args below meth c H locs k n Q (F0 m pt ls S)) → (b = true → W p l e R s m args below meth c H locs k n Q (F0 m pc' ls S)) → W p l e R s m args below meth c H locs k n Q (F0 m pc ls (V :: U :: S))) : am_Snd p l e R s m args below meth c Q Y ad0 nL c0 q0 code rt (am_oIf2n f t A sub go jmp) pc := by
  intro lo stk h nc ns o ho
  obtain ⟨y, r1, rfl, ho1⟩ := am_lc_some ho
  obtain ⟨x, rest, rfl, ho2⟩ := am_lc_some ho1
  obtain ⟨b, hb, ho3⟩ := am_ob_some ho2
  cases b with
  | false =>
    obtain ⟨g1, g2, g3, g4⟩ := hj lo rest h nc ns o ho3
    refine ⟨g1, g2, g3, fun ad H locs ls S hp hl hs r1 r2 hk => ?_⟩
    obtain ⟨V, S', rfl, k1, k2⟩ := am_St_cons hs
    obtain ⟨U, S'', rfl, k3, k4⟩ := am_St_cons k2
    exact row ad x y U V false k3 k1 hb H locs _ _ ls S'' (fun _ => g4 ad H locs ls S'' hp hl k4 r1 r2 hk) (fun q => by cases q)
  | true =>
    obtain ⟨g1, g2, g3, g4⟩ := hgo lo rest h nc ns o ho3
    refine ⟨g1, g2, g3, fun ad H locs ls S hp hl hs r1 r2 hk => ?_⟩
    obtain ⟨V, S', rfl, k1, k2⟩ := am_St_cons hs
    obtain ⟨U, S'', rfl, k3, k4⟩ := am_St_cons k2
    exact row ad x y U V true k3 k1 hb H locs _ _ ls S'' (fun q => by cases q) (fun _ => g4 ad H locs ls S'' hp hl k4 r1 r2 hk)
theorem am_sIf1 {f : am_A → am_V → am_V → Option Bool} {t pt : Nat} (hgo : am_Snd p l e R s m args below meth c Q Y ad0 nL c0 q0 code rt go pc') (hj : am_Snd p l e R s m args below meth c Q Y ad0 nL c0 q0 code rt (jmp t) pt) (row : ∀ (ad : List Nat) (u : am_V) (U : Value) (b : Bool), am_V1 Y ad u U → f A u (0, 0, []) = some b → ∀ (H : Heap) (locs : List Loc) (k n : Nat) (ls : Array Slot) (S : List Value), (b = true → W p l e R s m args below meth c H locs k n Q (F0 m pt ls S)) → (b = false → W p l e R s m args below meth c H locs k n Q (F0 m pc' ls S)) → W p l e R s m args below meth c H locs k n Q (F0 m pc ls (U :: S))) : am_Snd p l e R s m args below meth c Q Y ad0 nL c0 q0 code rt (am_oIf1 f t A sub go jmp) pc := by
  intro lo stk h nc ns o ho
  obtain ⟨x, rest, rfl, ho1⟩ := am_lc_some ho
  obtain ⟨b, hb, ho2⟩ := am_ob_some ho1
  cases b with
  | true =>
    obtain ⟨g1, g2, g3, g4⟩ := hj lo rest h nc ns o ho2
    refine ⟨g1, g2, g3, fun ad H locs ls S hp hl hs r1 r2 hk => ?_⟩
    obtain ⟨U, S', rfl, k1, k2⟩ := am_St_cons hs
    exact row ad x U true k1 hb H locs _ _ ls S' (fun _ => g4 ad H locs ls S' hp hl k2 r1 r2 hk) (fun q => by cases q)
  | false =>
    obtain ⟨g1, g2, g3, g4⟩ := hgo lo rest h nc ns o ho2
    refine ⟨g1, g2, g3, fun ad H locs ls S hp hl hs r1 r2 hk => ?_⟩
    obtain ⟨U, S', rfl, k1, k2⟩ := am_St_cons hs
    exact row ad x U false k1 hb H locs _ _ ls S' (fun q => by cases q) (fun _ => g4 ad H locs ls S' hp hl k2 r1 r2 hk)
theorem am_sIf1n {f : am_A → am_V → am_V → Option Bool} {t pt : Nat} (hgo : am_Snd p l e R s m args below meth c Q Y ad0 nL c0 q0 code rt go pc') (hj : am_Snd p l e R s m args below meth c Q Y ad0 nL c0 q0 code rt (jmp t) pt) (row : ∀ (ad : List Nat) (u : am_V) (U : Value) (b : Bool), am_V1 Y ad u U → f A u (0, 0, []) = some b → ∀ (H : Heap) (locs : List Loc) (k n : Nat) (ls : Array Slot) (S : List Value), (b = false → W p l e R s m args below meth c H locs k n Q (F0 m pt ls S)) → (b = true → W p l e R s m args below meth c H locs k n Q (F0 m pc' ls S)) → W p l e R s m args below meth c H locs k n Q (F0 m pc ls (U :: S))) : am_Snd p l e R s m args below meth c Q Y ad0 nL c0 q0 code rt (am_oIf1n f t A sub go jmp) pc := by
  intro lo stk h nc ns o ho
  obtain ⟨x, rest, rfl, ho1⟩ := am_lc_some ho
  obtain ⟨b, hb, ho2⟩ := am_ob_some ho1
  cases b with
  | false =>
    obtain ⟨g1, g2, g3, g4⟩ := hj lo rest h nc ns o ho2
    refine ⟨g1, g2, g3, fun ad H locs ls S hp hl hs r1 r2 hk => ?_⟩
    obtain ⟨U, S', rfl, k1, k2⟩ := am_St_cons hs
    exact row ad x U false k1 hb H locs _ _ ls S' (fun _ => g4 ad H locs ls S' hp hl k2 r1 r2 hk) (fun q => by cases q)
  | true =>
    obtain ⟨g1, g2, g3, g4⟩ := hgo lo rest h nc ns o ho2
    refine ⟨g1, g2, g3, fun ad H locs ls S hp hl hs r1 r2 hk => ?_⟩
    obtain ⟨U, S', rfl, k1, k2⟩ := am_St_cons hs
    exact row ad x U true k1 hb H locs _ _ ls S' (fun q => by cases q) (fun _ => g4 ad H locs ls S' hp hl k2 r1 r2 hk)
theorem am_sNull {no : Bool} {t pt : Nat} (hgo : am_Snd p l e R s m args below meth c Q Y ad0 nL c0 q0 code rt go pc') (hj : am_Snd p l e R s m args below meth c Q Y ad0 nL c0 q0 code rt (jmp t) pt) (row1 : ∀ (H : Heap) (locs : List Loc) (k n : Nat) (ls : Array Slot) (S : List Value), W p l e R s m args below meth c H locs k n Q (F0 m (if no = true then pc' else pt) ls S) → W p l e R s m args below meth c H locs k n Q (F0 m pc ls (.null :: S))) (row2 : ∀ (x : Nat) (H : Heap) (locs : List Loc) (k n : Nat) (ls : Array Slot) (S : List Value), W p l e R s m args below meth c H locs k n Q (F0 m (if no = true then pt else pc') ls S) → W p l e R s m args below meth c H locs k n Q (F0 m pc ls (.ref x :: S))) : am_Snd p l e R s m args below meth c Q Y ad0 nL c0 q0 code rt (am_oNull no t A sub go jmp) pc := by
  intro lo stk h nc ns o ho
  obtain ⟨x, rest, rfl, ho1⟩ := am_lc_some ho
  cases h4 : Nat.beq x.1 4 with
  | true =>
    rw [h4] at ho1
    have key : ∀ (g : am_G) (pg : Nat), am_Snd p l e R s m args below meth c Q Y ad0 nL c0 q0 code rt g pg → pg = (if no = true then pc' else pt) → g lo rest h nc ns = some o → nc ≤ o.2.2.2.2.2.2.1 ∧ ns ≤ o.2.2.2.2.2.2.2 ∧ am_Ret code rt c o ∧ ∀ (ad : List Nat) (H : Heap) (locs : List Loc) (ls : Array Slot) (S : List Value), am_HP Y s ad0 ad h H locs → am_Lo Y ad nL lo ls → am_St Y ad (x :: rest) S → c0 + o.2.2.2.2.2.2.1 ≤ R.cells → q0 + o.2.2.2.2.2.2.2 ≤ R.slots → am_Kont p l e R s m args below meth c Q Y ad0 nL c0 q0 ad o → W p l e R s m args below meth c H locs (c0 + nc) (q0 + ns) Q (F0 m pc ls S) := by
      intro g pg hg epg hgo'
      obtain ⟨g1, g2, g3, g4⟩ := hg lo rest h nc ns o hgo'
      refine ⟨g1, g2, g3, fun ad H locs ls S hp hl hs r1 r2 hk => ?_⟩
      obtain ⟨U, S', rfl, k1, k2⟩ := am_St_cons hs
      obtain ⟨tg, n1, f1⟩ := x
      have e := am_tag h4
      dsimp only at e
      subst e
      have hU : U = .null := k1
      subst hU
      refine row1 H locs _ _ ls S' ?_
      rw [← epg]
      exact g4 ad H locs ls S' hp hl k2 r1 r2 hk
    cases no with
    | true => exact key go pc' hgo rfl ho1
    | false => exact key (jmp t) pt hj rfl ho1
  | false =>
    rw [h4] at ho1
    obtain ⟨hr, ho2⟩ := am_if_some (show am_if (am_tR x) _ none = some o from ho1)
    have key : ∀ (g : am_G) (pg : Nat), am_Snd p l e R s m args below meth c Q Y ad0 nL c0 q0 code rt g pg → pg = (if no = true then pt else pc') → g lo rest h nc ns = some o → nc ≤ o.2.2.2.2.2.2.1 ∧ ns ≤ o.2.2.2.2.2.2.2 ∧ am_Ret code rt c o ∧ ∀ (ad : List Nat) (H : Heap) (locs : List Loc) (ls : Array Slot) (S : List Value), am_HP Y s ad0 ad h H locs → am_Lo Y ad nL lo ls → am_St Y ad (x :: rest) S → c0 + o.2.2.2.2.2.2.1 ≤ R.cells → q0 + o.2.2.2.2.2.2.2 ≤ R.slots → am_Kont p l e R s m args below meth c Q Y ad0 nL c0 q0 ad o → W p l e R s m args below meth c H locs (c0 + nc) (q0 + ns) Q (F0 m pc ls S) := by
      intro g pg hg epg hgo'
      obtain ⟨g1, g2, g3, g4⟩ := hg lo rest h nc ns o hgo'
      refine ⟨g1, g2, g3, fun ad H locs ls S hp hl hs r1 r2 hk => ?_⟩
      obtain ⟨U, S', rfl, k1, k2⟩ := am_St_cons hs
      obtain ⟨a, rfl⟩ := am_tR_ok k1 hr
      refine row2 a H locs _ _ ls S' ?_
      rw [← epg]
      exact g4 ad H locs ls S' hp hl k2 r1 r2 hk
    cases no with
    | true => exact key (jmp t) pt hj rfl ho2
    | false => exact key go pc' hgo rfl ho2
theorem am_sDup (hgo : am_Snd p l e R s m args below meth c Q Y ad0 nL c0 q0 code rt go pc') (row : ∀ (V : Value), V.category = 1 → ∀ (H : Heap) (locs : List Loc) (k n : Nat) (ls : Array Slot) (S : List Value), W p l e R s m args below meth c H locs k n Q (F0 m pc' ls (V :: V :: S)) → W p l e R s m args below meth c H locs k n Q (F0 m pc ls (V :: S))) : am_Snd p l e R s m args below meth c Q Y ad0 nL c0 q0 code rt (am_oDup A sub go jmp) pc := by
  intro lo stk h nc ns o ho
  obtain ⟨v, rest, rfl, ho1⟩ := am_lc_some ho
  cases hc : am_c2 v with
  | true => rw [hc] at ho1; cases ho1
  | false =>
    rw [hc] at ho1
    obtain ⟨g1, g2, g3, g4⟩ := hgo lo (v :: v :: rest) h nc ns o ho1
    refine ⟨g1, g2, g3, fun ad H locs ls S hp hl hs r1 r2 hk => ?_⟩
    obtain ⟨V, S', rfl, k1, k2⟩ := am_St_cons hs
    have hcat := am_cat k1
    rw [hc] at hcat
    exact row V hcat H locs _ _ ls S' (g4 ad H locs ls (V :: V :: S') hp hl ⟨k1, k1, k2⟩ r1 r2 hk)
theorem am_sDup2 (hgo : am_Snd p l e R s m args below meth c Q Y ad0 nL c0 q0 code rt go pc') (row : ∀ (V U : Value), V.category = 1 → U.category = 1 → ∀ (H : Heap) (locs : List Loc) (k n : Nat) (ls : Array Slot) (S : List Value), W p l e R s m args below meth c H locs k n Q (F0 m pc' ls (V :: U :: V :: U :: S)) → W p l e R s m args below meth c H locs k n Q (F0 m pc ls (V :: U :: S))) : am_Snd p l e R s m args below meth c Q Y ad0 nL c0 q0 code rt (am_oDup2 A sub go jmp) pc := by
  intro lo stk h nc ns o ho
  obtain ⟨v, r1, rfl, ho1⟩ := am_lc_some ho
  obtain ⟨w, rest, rfl, ho2⟩ := am_lc_some ho1
  cases hc : am_or (am_c2 v) (am_c2 w) with
  | true => rw [hc] at ho2; cases ho2
  | false =>
    rw [hc] at ho2
    have hv : am_c2 v = false := by
      cases q : am_c2 v with
      | false => rfl
      | true => rw [q] at hc; cases hc
    have hw : am_c2 w = false := by
      rw [hv] at hc
      exact hc
    obtain ⟨g1, g2, g3, g4⟩ := hgo lo (v :: w :: v :: w :: rest) h nc ns o ho2
    refine ⟨g1, g2, g3, fun ad H locs ls S hp hl hs r1 r2 hk => ?_⟩
    obtain ⟨V, S', rfl, k1, k2⟩ := am_St_cons hs
    obtain ⟨U, S'', rfl, k3, k4⟩ := am_St_cons k2
    have hcat := am_cat k1
    rw [hv] at hcat
    have hcat2 := am_cat k3
    rw [hw] at hcat2
    exact row V U hcat hcat2 H locs _ _ ls S'' (g4 ad H locs ls (V :: U :: V :: U :: S'') hp hl ⟨k1, k3, k1, k3, k4⟩ r1 r2 hk)
theorem am_sIinc {k : Nat} {z : Int} (hA : am_kn A Y.2.2.1) (hgo : am_Snd p l e R s m args below meth c Q Y ad0 nL c0 q0 code rt go pc') (row : ∀ (H : Heap) (locs : List Loc) (k1 n : Nat) (ls : Array Slot) (S : List Value) (lv : List (Nat × Value)) (j : Nat) (x v : Int32), lv_has ls nL lv → k < nL → lv[j]? = some (k, .int x) → x + Int32.ofInt z = v → (∀ ls' : Array Slot, lv_has ls' nL ((k, .int v) :: lv.filter (fun q => !(q.1 == k) && !(q.1 + 1 == k && q.2.category == 2))) → W p l e R s m args below meth c H locs k1 n Q (F0 m pc' ls' S)) → W p l e R s m args below meth c H locs k1 n Q (F0 m pc ls S)) : am_Snd p l e R s m args below meth c Q Y ad0 nL c0 q0 code rt (am_oIinc k z A sub go jmp) pc := by
  intro lo stk h nc ns o ho
  obtain ⟨v, hv, ho1⟩ := am_ob_some ho
  obtain ⟨r, hr, ho2⟩ := am_ob_some ho1
  obtain ⟨g1, g2, g3, g4⟩ := hgo (am_st1 lo k r) stk h nc ns o ho2
  refine ⟨g1, g2, g3, fun ad H locs ls S hp hl hs r1 r2 hk => ?_⟩
  have hh : am_has lo k = true := by
    unfold am_has
    rw [hv]
  have hn : v.1 ≠ 98 := by
    obtain ⟨t, n, f⟩ := v
    intro e
    dsimp only at e
    subst e
    rw [show am_iadd A (98, n, f) (am_int z) = none from rfl] at hr
    cases hr
  obtain ⟨V, k1, -⟩ := am_Lo_get hl hv hn
  obtain ⟨x, y, e1, e2, e3⟩ := am_R_iadd (b := Y.2.2.2) (ad := ad) hA k1 (am_R_i z) hr
  have e4 : y = Int32.ofInt z := (Value.int.inj e2).symm
  subst e4
  obtain ⟨q1, -⟩ := am_Lo_st1 hl hh e3
  obtain ⟨hlen, lv, h2, h3⟩ := id hl
  rw [am_nth_eq] at hv
  obtain ⟨V2, k2, k3⟩ := h3 k v hv hn
  obtain ⟨x2, y2, f1, f2, f3⟩ := am_R_iadd (b := Y.2.2.2) (ad := ad) hA k2 (am_R_i z) hr
  have e5 : y2 = Int32.ofInt z := (Value.int.inj f2).symm
  subst e5
  subst f1
  obtain ⟨j, hj⟩ := List.getElem?_of_mem k3
  obtain ⟨-, lv2, h4, h5⟩ := am_Lo_st1 hl hh f3
  refine row H locs _ _ ls S lv j x2 _ h2 q1 hj rfl (fun ls' h' => g4 ad H locs ls' S hp ?_ hs r1 r2 hk)
  refine ⟨by rw [am_st1_len]; exact hlen, _, h', fun i w hw hn2 => ?_⟩
  rcases am_st1_get (am_has_ok hh) hw hn2 with ⟨a1, a2⟩ | ⟨a1, a2, a3⟩
  · subst a1
    subst a2
    exact ⟨_, f3, List.mem_cons_self⟩
  · obtain ⟨W2, b1, b2⟩ := h3 i w a2 hn2
    refine ⟨W2, b1, List.mem_cons_of_mem _ (List.mem_filter.mpr ⟨b2, ?_⟩)⟩
    have hc := am_cat b1
    have t1 : (i == k) = false := by simpa using a1
    by_cases e : i + 1 = k
    · have e4 := a3 e
      rw [e4] at hc
      simp only [Bool.false_eq_true, if_false] at hc
      simp [t1, hc]
    · simp [t1, e]
end AMOPS
end
section
/-! ===== fields, arrays, new objects ===== -/
/-- the words that hold at every frame -/
def am_ws : List Cond := lw_tbl.filter goodWord
/-- the word at a place of the tables -/
def am_q : List (Nat × List Cond) := [(24, tables_1_1), (264, tables_1_2), (504, tables_1_3), (744, tables_1_4), (984, tables_1_5), (1004, [])]
def am_at1 (i : Nat) : List (Nat × List Cond) → Option Cond
  | [] => none
  | [_] => none
  | x :: y :: r => bif Nat.blt i y.1 then (bif Nat.blt i x.1 then none else x.2[i - x.1]?) else am_at1 i (y :: r)
/-- the word at a place -/
def am_atw (i : Nat) : Option Cond := bif Nat.blt i 24 then lw_tbl[i]? else am_at1 i am_q
theorem am_at1_in {i : Nat} {w : Cond} : ∀ {l : List (Nat × List Cond)}, am_at1 i l = some w → ∃ x ∈ l, w ∈ x.2
  | [], h => by cases h
  | [_], h => by cases h
  | x :: y :: r, h => by
    unfold am_at1 at h
    cases h1 : Nat.blt i y.1 with
    | true =>
      rw [h1] at h
      cases h2 : Nat.blt i x.1 with
      | true => rw [h2] at h; cases h
      | false =>
        rw [h2] at h
        exact ⟨x, List.mem_cons_self, List.mem_of_getElem? (show x.2[i - x.1]? = some w from h)⟩
    | false =>
      rw [h1] at h
      obtain ⟨z, h3, h4⟩ := am_at1_in (l := y :: r) h
      exact ⟨z, List.mem_cons_of_mem _ h3, h4⟩
theorem am_atw_in {i : Nat} {w : Cond} (h : am_atw i = some w) : w ∈ lw_tbl := by
  unfold am_atw at h
  cases h1 : Nat.blt i 24 with
  | true =>
    rw [h1] at h
    exact List.mem_of_getElem? h
  | false =>
    rw [h1] at h
    obtain ⟨x, hx, hw⟩ := am_at1_in (show am_at1 i am_q = some w from h)
    refine List.mem_append_right _ ?_
    show w ∈ tables_1_1 ++ (tables_1_2 ++ (tables_1_3 ++ (tables_1_4 ++ tables_1_5)))
    simp only [List.mem_append]
    simp only [am_q, List.mem_cons, List.not_mem_nil, or_false] at hx
    rcases hx with rfl | rfl | rfl | rfl | rfl | rfl
    · exact Or.inl hw
    · exact Or.inr (Or.inl hw)
    · exact Or.inr (Or.inr (Or.inl hw))
    · exact Or.inr (Or.inr (Or.inr (Or.inl hw)))
    · exact Or.inr (Or.inr (Or.inr (Or.inr hw)))
    · cases hw
def am_w (i : Nat) (w : Cond) : Bool := decide (am_atw i = some w) && goodWord w
theorem am_w_in {i : Nat} {w : Cond} (h : am_w i w = true) : w ∈ am_ws := by
  simp only [am_w, Bool.and_eq_true, decide_eq_true_eq] at h
  exact List.mem_filter.mpr ⟨am_atw_in h.1, h.2⟩
/-- a frame -/
def am_Fm (p : Program) (s : State) (m : MethodId) (args : Array Value) (meth : Method) (c : Code) (Y : am_Y) (own : String) (code : ByteArray) (nL : Nat) (rt : Option FieldType) : Prop :=
  p.tables.exec = Jvm.exec ∧ c.code = code ∧ c.maxLocals = nL ∧ s.vm.findClass own = some m.cls ∧ (∀ w ∈ am_ws, w.before args s = true) ∧ meth.locks = false ∧ meth.sig.returnType = rt ∧ Y.1.WarmedH s.vm ∧ (∀ q : Nat, q < Y.1.heap.size → s.heap[q]? = Y.1.heap[q]?) ∧ Y.1.heap.size ≤ s.heap.size
/-- the classes stand as the tables have them -/
def am_Kl (Y : am_Y) : Prop := ∀ (k : Nat) (q : vw_C), am_cl[k]? = some q → u_Kn Y.1 q.1 q.2.1 q.2.2 (Y.2.1.1 k) (Y.2.1.2 k)
theorem am_lay_in : ∀ (k : Nat) (q : vw_C), am_cl[k]? = some q → ∀ w ∈ u_ws q.1 q.2.1 q.2.2, w ∈ am_ws := by
  have key : (am_cl.all (fun q => (u_ws q.1 q.2.1 q.2.2).all (fun w => decide (w ∈ lw_tbl) && goodWord w))) = true := by decide +kernel
  intro k q hq w hw
  have h1 := List.all_eq_true.mp key q (List.mem_of_getElem? hq)
  have h2 := List.all_eq_true.mp h1 w hw
  simp only [Bool.and_eq_true, decide_eq_true_eq] at h2
  exact List.mem_filter.mpr h2
theorem am_ty_ok : ∀ (ci : Nat) (q : vw_C), am_cl[ci]? = some q → ∀ k, k < q.2.2 → parseFieldDescriptor (q.2.1 k).2.2.1 = some (am_ty ci k) := by
  intro ci q hq k hk
  match ci, hq with
  | 0, hq => cases hq; exact tyX0_ok k hk
  | 1, hq => cases hq; exact tyX1_ok k hk
  | 2, hq => cases hq; exact tyX2_ok k hk
  | 3, hq => cases hq; exact tyX3_ok k hk
  | 4, hq => cases hq; exact tyX4_ok k hk
  | 5, hq => cases hq; exact tyX5_ok k hk
  | 6, hq => cases hq; exact tyX6_ok k hk
  | n + 7, hq => simp [am_cl] at hq
theorem am_nm_ok : ∀ (ci : Nat) (q : vw_C), am_cl[ci]? = some q → ∀ a, a < q.2.2 → ∀ b, b < q.2.2 → a ≠ b → (q.2.1 a).2.1 ≠ (q.2.1 b).2.1 := by
  intro ci q hq
  match ci, hq with
  | 0, hq => cases hq; exact nmX0
  | 1, hq => cases hq; exact nmX1
  | 2, hq => cases hq; exact nmX2
  | 3, hq => cases hq; exact nmX3
  | 4, hq => cases hq; exact nmX4
  | 5, hq => cases hq; exact nmX5
  | 6, hq => cases hq; exact nmX6
  | n + 7, hq => simp [am_cl] at hq
theorem am_cl_lt {ci : Nat} {q : vw_C} (h : am_cl[ci]? = some q) : ci < 7 := (List.getElem?_eq_some_iff.mp h).1
theorem am_setSlot_get {C : Cell} {i j : Nat} {V : Value} (hi : i < C.slots.size) : (C.setSlot i V).slots[j]? = if j = i then some V else C.slots[j]? := by
  show (C.slots.setIfInBounds i V)[j]? = _
  by_cases e : j = i
  · subst e
    simp [hi]
  · rw [if_neg e, Array.getElem?_setIfInBounds_ne (Ne.symm e)]
theorem am_setSlot_size {C : Cell} {i : Nat} {V : Value} : (C.setSlot i V).slots.size = C.slots.size := by
  show (C.slots.setIfInBounds i V).size = _
  simp
theorem am_hold_set {Y : am_Y} {ad : List Nat} {C : Cell} {f : Nat → Nat} {vs : List am_V} {k : Nat} {v : am_V} {V : Value} (h : am_hold Y ad C f vs) (hk : k < vs.length) (hv : am_V1 Y ad v V) (hf : ∀ j, j < vs.length → j ≠ k → f j ≠ f k) (hi : f k < C.slots.size) : am_hold Y ad (C.setSlot (f k) V) f (vs.set k v) := by
  intro j w hw
  by_cases e : j = k
  · subst e
    rw [List.getElem?_set_self hk] at hw
    cases hw
    exact ⟨V, by rw [am_setSlot_get hi, if_pos rfl], hv⟩
  · rw [List.getElem?_set_ne (Ne.symm e)] at hw
    obtain ⟨W2, h1, h2⟩ := h j w hw
    exact ⟨W2, by rw [am_setSlot_get hi, if_neg (hf j (List.getElem?_eq_some_iff.mp hw).1 e)]; exact h1, h2⟩
theorem am_fit_ok {Y : am_Y} {ad : List Nat} {t : FieldType} {v : am_V} {V : Value} (h : am_fit t v = true) (hv : am_V1 Y ad v V) : narrow t V = V ∧ fits t V = true := by
  have key : ∀ (k : Nat), k < 65536 → v.1 = 0 → v.2.1 = k → V = .int (Int32.ofNat k) := by
    intro k _ h1 h2
    obtain ⟨tg, n, f⟩ := v
    dsimp only at h1 h2
    subst h1
    subst h2
    exact hv
  cases t with
  | int =>
    obtain ⟨x, rfl⟩ := am_tI_ok hv h
    exact ⟨rfl, rfl⟩
  | boolean =>
    rw [show am_fit .boolean v = am_and (Nat.beq v.1 0) (Nat.blt v.2.1 2) from rfl, am_and_t, Nat.blt_eq] at h
    have e := key v.2.1 (by omega) (am_tag h.1) rfl
    rw [e]
    rcases (show v.2.1 = 0 ∨ v.2.1 = 1 by omega) with e2 | e2 <;> (rw [e2]; exact ⟨rfl, rfl⟩)
  | char =>
    rw [show am_fit .char v = am_and (Nat.beq v.1 0) (Nat.blt v.2.1 65536) from rfl, am_and_t, Nat.blt_eq] at h
    have e := key v.2.1 (by omega) (am_tag h.1) rfl
    rw [e]
    exact pk_charN h.2
  | long =>
    obtain ⟨x, rfl⟩ := am_tL_ok hv h
    exact ⟨rfl, rfl⟩
  | float =>
    obtain ⟨x, rfl⟩ := am_tF_ok hv h
    exact ⟨rfl, rfl⟩
  | double =>
    obtain ⟨x, rfl⟩ := am_tD_ok hv h
    exact ⟨rfl, rfl⟩
  | object n =>
    rcases am_tA_ok hv h with rfl | ⟨x, rfl⟩
    · exact ⟨rfl, rfl⟩
    · exact ⟨rfl, rfl⟩
  | array t2 =>
    rcases am_tA_ok hv h with rfl | ⟨x, rfl⟩
    · exact ⟨rfl, rfl⟩
    · exact ⟨rfl, rfl⟩
  | _ => cases h
theorem am_idx {Y : am_Y} {ad : List Nat} {i : am_V} {V : Value} (hv : am_V1 Y ad i V) (h0 : Nat.beq i.1 0 = true) (h1 : Nat.blt i.2.1 2147483648 = true) : V = .int (nI i.2.1) ∧ (nI i.2.1).toNatClampNeg = i.2.1 ∧ ¬ nI i.2.1 < 0 := by
  obtain ⟨t, n, f⟩ := i
  have e := am_tag h0
  dsimp only at e
  subst e
  rw [Nat.blt_eq] at h1
  exact ⟨hv, nI_clamp (by simpa using h1), nI_pos (by simpa using h1)⟩
section AMHO
variable {p : Program} {l : Launch} {e : Env} {R : Room} {s : State} {m : MethodId} {args : Array Value} {below : List Frame} {meth : Method} {c : Code} {Q : State → Prop} {Y : am_Y} {A : am_A} {ad0 : List Nat} {nL c0 q0 : Nat} {code : ByteArray} {rt : Option FieldType}
variable {sub : Nat → am_G} {go : am_G} {jmp : Nat → am_G} {pc : Nat} {own : String}
/-- a field, from here -/
theorem am_fld (hF : am_Fm p s m args meth c Y own code nL rt) (hK : am_Kl Y) {ci k : Nat} {q : vw_C} (hq : am_cl[ci]? = some q) (hk : k < q.2.2) : ∃ (cf : ClassId) (kf : Class) (fi : Nat) (fd : Field), s.fieldFound? (q.2.1 k).1 (q.2.1 k).2.1 (q.2.1 k).2.2.1 = some (cf, kf, fi, fd) ∧ fd.slot = Y.2.1.2 ci k ∧ fd.isStatic = false ∧ ((Cond.lays q.1 (q.2.1 k).1 (q.2.1 k).2.1 (q.2.1 k).2.2.1).before args s = true ∨ (Cond.laysFinal q.1 (q.2.1 k).1 (q.2.1 k).2.1 (q.2.1 k).2.2.1).before args s = true) ∧ ClassAt s q.1 (Y.2.1.1 ci) := by
  obtain ⟨-, -, -, -, hts, -, -, hW, -⟩ := hF
  obtain ⟨hS, hfc, kC, hkC, hkind⟩ := u_Kn_moved hW.alike (hK ci q hq)
  obtain ⟨cf, kf, fi, f, hi, hsl⟩ := hS k hk
  have hl := u_lays hts (am_lay_in ci q hq) hk
  exact ⟨cf, kf, fi, f, hi, hsl, (u_facts hfc hkC hl hi).1, hl, hfc, kC, hkC, hkind⟩
theorem am_apart (hF : am_Fm p s m args meth c Y own code nL rt) (hK : am_Kl Y) {ci : Nat} {q : vw_C} (hq : am_cl[ci]? = some q) : ∀ a b, a < q.2.2 → b < q.2.2 → a ≠ b → Y.2.1.2 ci a ≠ Y.2.1.2 ci b := by
  intro a b ha hb hab
  obtain ⟨cf, kf, fi, fd, h1, h2, -, h3, -⟩ := am_fld hF hK hq ha
  obtain ⟨cf', kf', fi', fd', h1', h2', -, h3', -⟩ := am_fld hF hK hq hb
  rw [← h2, ← h2']
  refine u_apart h3 h3' h1 h1' ?_
  rw [(State.fieldFound?_type h1 (am_ty_ok ci q hq a ha)).1, (State.fieldFound?_type h1' (am_ty_ok ci q hq b hb)).1]
  exact am_nm_ok ci q hq a ha b hb hab
/-- a cell of a class of ours -/
theorem am_obj {ad : List Nat} {C : Cell} {k : am_C} {ci : Nat} {q : vw_C} (h : am_cell Y ad C k) (hk : Nat.beq k.1 ci = true) (hq : am_cl[ci]? = some q) : C.vm = .none ∧ C.cls = Y.2.1.1 ci ∧ k.2.length = q.2.2 ∧ am_hold Y ad C (Y.2.1.2 ci) k.2 := by
  obtain ⟨t, vs⟩ := k
  have e := am_tag hk
  dsimp only at e
  subst e
  obtain ⟨h1, h2⟩ := h
  have hlt := am_cl_lt hq
  rcases h2 with ⟨r, a1, a2, a3, a4⟩ | ⟨ty, a0, -⟩
  · cases Option.some.inj (a1.symm.trans hq)
    exact ⟨h1, a2, a3, a4⟩
  · dsimp only at a0
    omega
theorem am_sGet (hF : am_Fm p s m args meth c Y own code nL rt) (hK : am_Kl Y) {ci k idx : Nat} {q : vw_C} (hq : am_cl[ci]? = some q) (hk : k < q.2.2) (hl : (Cond.fieldLink own idx (q.2.1 k).1 (q.2.1 k).2.1 (q.2.1 k).2.2.1) ∈ am_ws) (hd : decode code pc = .ok (.getfield idx, 3)) (hgo : am_Snd p l e R s m args below meth c Q Y ad0 nL c0 q0 code rt go (pc + 3)) : am_Snd p l e R s m args below meth c Q Y ad0 nL c0 q0 code rt (am_oGet ci k A sub go jmp) pc := by
  intro lo stk h nc ns o ho
  obtain ⟨r, rest, rfl, ho1⟩ := am_lc_some ho
  obtain ⟨hr, ho2⟩ := am_if_some ho1
  obtain ⟨k0, hg, ho3⟩ := am_ob_some ho2
  obtain ⟨hc, ho4⟩ := am_if_some ho3
  obtain ⟨v, hv, ho5⟩ := am_ob_some ho4
  obtain ⟨g1, g2, g3, g4⟩ := hgo lo (v :: rest) h nc ns o ho5
  refine ⟨g1, g2, g3, fun ad H locs ls S hp hlo hs r1 r2 hkt => ?_⟩
  obtain ⟨V, S', rfl, k1, k2⟩ := am_St_cons hs
  have hlt := am_cl_lt hq
  have hci := am_tag hc
  obtain ⟨a, C, rfl, -, hC, hcell⟩ := am_ref hp k1 hr hg (by omega)
  obtain ⟨b1, b2, b3, b4⟩ := am_obj hcell hc hq
  rw [am_nth_eq] at hv
  obtain ⟨W1, w1, w2⟩ := b4 k v hv
  obtain ⟨cf, kf, fi, fd, f1, f2, f3, -⟩ := am_fld hF hK hq hk
  obtain ⟨hx, hb, -, hown, hts, -⟩ := hF
  exact W.getf hx hb hown (hts _ hl) f1 f3 hC (by rw [b1]; exact fun q => by cases q) (v := W1) (by rw [f2]; exact w1) rfl rfl hd (g4 ad H locs ls (W1 :: S') hp hlo ⟨w2, k2⟩ r1 r2 hkt)
theorem am_sPut (hF : am_Fm p s m args meth c Y own code nL rt) (hK : am_Kl Y) {ci k idx : Nat} {q : vw_C} (hq : am_cl[ci]? = some q) (hk : k < q.2.2) (hl : (Cond.fieldLink own idx (q.2.1 k).1 (q.2.1 k).2.1 (q.2.1 k).2.2.1) ∈ am_ws) (hfin : (q.2.1 k).2.2.2 = false ∨ (meth.name = "<init>" ∧ (q.2.1 k).1 = own)) (hd : decode code pc = .ok (.putfield idx, 3)) (hgo : am_Snd p l e R s m args below meth c Q Y ad0 nL c0 q0 code rt go (pc + 3)) : am_Snd p l e R s m args below meth c Q Y ad0 nL c0 q0 code rt (am_oPut ci k (am_ty ci k) A sub go jmp) pc := by
  intro lo stk h nc ns o ho
  obtain ⟨v, st1, rfl, ho1⟩ := am_lc_some ho
  obtain ⟨r, rest, rfl, ho2⟩ := am_lc_some ho1
  obtain ⟨hr, ho3⟩ := am_if_some ho2
  obtain ⟨k0, hg, ho4⟩ := am_ob_some ho3
  obtain ⟨hc, ho5⟩ := am_if_some ho4
  rw [am_and_t, am_and_t] at hc
  obtain ⟨hc, hhas, hfit⟩ := hc
  obtain ⟨g1, g2, g3, g4⟩ := hgo lo rest (am_put h r.2.1 (ci, am_set k0.2 k v)) nc ns o ho5
  refine ⟨g1, g2, g3, fun ad H locs ls S hp hlo hs r1 r2 hkt => ?_⟩
  obtain ⟨V, S1, rfl, k1, k2⟩ := am_St_cons hs
  obtain ⟨U, S', rfl, k3, k4⟩ := am_St_cons k2
  have hlt := am_cl_lt hq
  have hci := am_tag hc
  obtain ⟨a, C, rfl, had, hC, hcell⟩ := am_ref hp k3 hr hg (by omega)
  obtain ⟨b1, b2, b3, b4⟩ := am_obj hcell hc hq
  have hkl := am_has_ok hhas
  obtain ⟨W1, w1, w2⟩ := b4 k (k0.2[k]) (List.getElem?_eq_getElem hkl)
  have hsz := k2_hasslot w1
  obtain ⟨cf, kf, fi, fd, f1, f2, f3, f4, f5, kC, f6, f7⟩ := am_fld hF hK hq hk
  obtain ⟨n1, n2⟩ := am_fit_ok hfit k1
  have hap := am_apart hF hK hq
  have hF' := hF
  obtain ⟨hx, hb, -, hown, hts, -⟩ := hF
  have hend : ∀ H' : Heap, H'[a]? = some (C.setSlot fd.slot V) → H'.size = H.size → (∀ q : Nat, q ≠ a → H'[q]? = H[q]?) → W p l e R s m args below meth c H' (locs ++ [⟨a, fd.slot⟩]) (c0 + nc) (q0 + ns) Q (F0 m (pc + 3) ls S') := by
    intro H' e1 e2 e3
    rw [f2] at e1 ⊢
    refine g4 ad H' _ ls S' (am_HP_set hp hg (by omega) had (c := (ci, am_set k0.2 k v)) (C := C.setSlot (Y.2.1.2 ci k) V) ?_ e1 e2 e3) hlo k4 r1 r2 hkt
    refine ⟨b1, Or.inl ⟨q, hq, b2, by rw [am_set_eq, List.length_set]; exact b3, ?_⟩⟩
    show am_hold Y ad _ (Y.2.1.2 ci) (am_set k0.2 k v)
    rw [am_set_eq]
    exact am_hold_set b4 hkl k1 (fun j hj hjk => hap j k (by omega) hk hjk) hsz
  rcases hfin with hfin | ⟨hfin, hdecl⟩
  · have hlay := hts _ (am_lay_in ci q hq _ (u_in_lay hk))
    unfold u_lay at hlay
    rw [if_neg (by rw [hfin]; decide)] at hlay
    have h6 := u_store f5 f6 f7 hlay f1 (am_ty_ok ci q hq k hk) n1 n2
    exact W.putK hx hb (f := fd) ⟨hown, hts _ hl, ⟨_, _, _, f1⟩, f3⟩ (by rw [b2]; exact h6) hC b1 (by rw [f2]; exact hsz) rfl rfl hd hend
  · by_cases hf2 : (q.2.1 k).2.2.2 = false
    · have hlay := hts _ (am_lay_in ci q hq _ (u_in_lay hk))
      unfold u_lay at hlay
      rw [if_neg (by rw [hf2]; decide)] at hlay
      have h6 := u_store f5 f6 f7 hlay f1 (am_ty_ok ci q hq k hk) n1 n2
      exact W.putK hx hb (f := fd) ⟨hown, hts _ hl, ⟨_, _, _, f1⟩, f3⟩ (by rw [b2]; exact h6) hC b1 (by rw [f2]; exact hsz) rfl rfl hd hend
    · have hlay := hts _ (am_lay_in ci q hq _ (u_in_lay hk))
      unfold u_lay at hlay
      rw [if_pos (by simpa using hf2)] at hlay
      have hcf : m.cls = cf := by
        obtain ⟨_, _, c', _, _, _, -, -, hf', -, -, -, hown2, -⟩ := Cond.laysFinal_spec hlay
        have e1 : c' = cf := by have := f1.symm.trans hf'; simp at this; exact this.1.symm
        rw [hdecl] at hown2
        rw [← e1]; exact Option.some.inj (hown.symm.trans hown2)
      have h6 := u_fits f5 f6 f7 (Or.inr hlay) f1 (am_ty_ok ci q hq k hk) n1 n2
      exact W.putFinK hx hb hown (hts _ hl) f1 f3 hcf hfin (by rw [b2]; exact h6) hC b1 (by rw [f2]; exact hsz) rfl rfl hd hend
/-- a cell that is an array -/
theorem am_arr {ad : List Nat} {C : Cell} {k : am_C} (h : am_cell Y ad C k) (hk : 100 ≤ k.1) : C.vm = .none ∧ ∃ ty : FieldType, am_at k.1 = some ty ∧ ArrOfT Y.1 C.cls ty ∧ am_ak Y.1 C.cls k.1 ∧ C.slots.size = k.2.length ∧ am_hold Y ad C (fun j => j) k.2 := by
  obtain ⟨h1, h2⟩ := h
  rcases h2 with ⟨r, a1, -⟩ | ⟨ty, -, h⟩
  · have := am_cl_lt a1
    omega
  · exact ⟨h1, ty, h⟩
theorem am_isArr (hF : am_Fm p s m args meth c Y own code nL rt) {C : Cell} {ty : FieldType} (hvm : C.vm = .none) (h : ArrOfT Y.1 C.cls ty) : s.isArrayOf C ty := by
  obtain ⟨-, -, -, -, -, -, -, hW, -⟩ := hF
  have h1 := arrOfT_moved hW.alike h 0 (fun _ => .null)
  exact ⟨fun k e => (by rw [hvm] at e; cases e), h1.2⟩
theorem am_sIald (hF : am_Fm p s m args meth c Y own code nL rt) (hd : decode code pc = .ok (.iaload, 1)) (hgo : am_Snd p l e R s m args below meth c Q Y ad0 nL c0 q0 code rt go (pc + 1)) : am_Snd p l e R s m args below meth c Q Y ad0 nL c0 q0 code rt (am_oAld false A sub go jmp) pc := by
  intro lo stk h nc ns o ho
  obtain ⟨i, st1, rfl, ho1⟩ := am_lc_some ho
  obtain ⟨r, rest, rfl, ho2⟩ := am_lc_some ho1
  obtain ⟨hc, ho3⟩ := am_if_some ho2
  rw [am_and_t, am_and_t] at hc
  obtain ⟨hr, hi0, hi1⟩ := hc
  obtain ⟨k0, hg, ho4⟩ := am_ob_some ho3
  obtain ⟨hk, ho5⟩ := am_if_some ho4
  obtain ⟨v, hv, ho6⟩ := am_ob_some ho5
  obtain ⟨g1, g2, g3, g4⟩ := hgo lo (v :: rest) h nc ns o ho6
  refine ⟨g1, g2, g3, fun ad H locs ls S hp hlo hs r1 r2 hkt => ?_⟩
  obtain ⟨V, S1, rfl, k1, k2⟩ := am_St_cons hs
  obtain ⟨U, S', rfl, k3, k4⟩ := am_St_cons k2
  have hk100 : k0.1 = 100 := am_tag hk
  obtain ⟨a, C, rfl, -, hC, hcell⟩ := am_ref hp k3 hr hg (by omega)
  obtain ⟨b1, ty, b2, b3, -, b4, b5⟩ := am_arr hcell (by omega)
  rw [hk100] at b2
  cases b2
  obtain ⟨rfl, hcl, hneg⟩ := am_idx k1 hi0 hi1
  rw [am_nth_eq] at hv
  obtain ⟨W1, w1, w2⟩ := b5 i.2.1 v hv
  have hsz : i.2.1 < C.slots.size := (Array.getElem?_eq_some_iff.mp w1).1
  have hF' := hF
  obtain ⟨hx, hb, -⟩ := hF
  exact W.iald hx hb hC (am_isArr hF' b1 b3) (by rw [b1]; exact fun q => by cases q) (by rw [hcl]; rintro (q | q); exact hneg q; omega) (v := W1) (by rw [hcl]; exact w1) rfl rfl hd (g4 ad H locs ls (W1 :: S') hp hlo ⟨w2, k4⟩ r1 r2 hkt)
theorem am_sAald (hF : am_Fm p s m args meth c Y own code nL rt) (hd : decode code pc = .ok (.aaload, 1)) (hgo : am_Snd p l e R s m args below meth c Q Y ad0 nL c0 q0 code rt go (pc + 1)) : am_Snd p l e R s m args below meth c Q Y ad0 nL c0 q0 code rt (am_oAld true A sub go jmp) pc := by
  intro lo stk h nc ns o ho
  obtain ⟨i, st1, rfl, ho1⟩ := am_lc_some ho
  obtain ⟨r, rest, rfl, ho2⟩ := am_lc_some ho1
  obtain ⟨hc, ho3⟩ := am_if_some ho2
  rw [am_and_t, am_and_t] at hc
  obtain ⟨hr, hi0, hi1⟩ := hc
  obtain ⟨k0, hg, ho4⟩ := am_ob_some ho3
  obtain ⟨hk, ho5⟩ := am_if_some ho4
  obtain ⟨v, hv, ho6⟩ := am_ob_some ho5
  obtain ⟨g1, g2, g3, g4⟩ := hgo lo (v :: rest) h nc ns o ho6
  refine ⟨g1, g2, g3, fun ad H locs ls S hp hlo hs r1 r2 hkt => ?_⟩
  obtain ⟨V, S1, rfl, k1, k2⟩ := am_St_cons hs
  obtain ⟨U, S', rfl, k3, k4⟩ := am_St_cons k2
  have hk1 : am_and (Nat.blt 100 k0.1) (Nat.blt k0.1 105) = true := hk
  rw [am_and_t, Nat.blt_eq, Nat.blt_eq] at hk1
  obtain ⟨a, C, rfl, -, hC, hcell⟩ := am_ref hp k3 hr hg (by omega)
  obtain ⟨b1, ty, b2, b3, -, b4, b5⟩ := am_arr hcell (by omega)
  obtain ⟨rfl, hcl, hneg⟩ := am_idx k1 hi0 hi1
  rw [am_nth_eq] at hv
  obtain ⟨W1, w1, w2⟩ := b5 i.2.1 v hv
  have hsz : i.2.1 < C.slots.size := (Array.getElem?_eq_some_iff.mp w1).1
  have href : ty.isReference = true := by
    rcases (show k0.1 = 101 ∨ k0.1 = 102 ∨ k0.1 = 103 ∨ k0.1 = 104 by omega) with e | e | e | e <;> (rw [e] at b2; cases b2; rfl)
  have hF' := hF
  obtain ⟨hx, hb, -⟩ := hF
  exact W.aald (ty := ty) hx hb hC (am_isArr hF' b1 b3) href (by rw [b1]; exact fun q => by cases q) (by rw [hcl]; rintro (q | q); exact hneg q; omega) (v := W1) (by rw [hcl]; exact w1) rfl rfl hd (g4 ad H locs ls (W1 :: S') hp hlo ⟨w2, k4⟩ r1 r2 hkt)
theorem am_sIast (hF : am_Fm p s m args meth c Y own code nL rt) (hd : decode code pc = .ok (.iastore, 1)) (hgo : am_Snd p l e R s m args below meth c Q Y ad0 nL c0 q0 code rt go (pc + 1)) : am_Snd p l e R s m args below meth c Q Y ad0 nL c0 q0 code rt (am_oIast A sub go jmp) pc := by
  intro lo stk h nc ns o ho
  obtain ⟨v, st1, rfl, ho1⟩ := am_lc_some ho
  obtain ⟨i, st2, rfl, ho2⟩ := am_lc_some ho1
  obtain ⟨r, rest, rfl, ho3⟩ := am_lc_some ho2
  obtain ⟨hc, ho4⟩ := am_if_some ho3
  rw [am_and_t, am_and_t, am_and_t] at hc
  obtain ⟨hr, hti, hi0, hi1⟩ := hc
  obtain ⟨k0, hg, ho5⟩ := am_ob_some ho4
  obtain ⟨hk, ho6⟩ := am_if_some ho5
  rw [am_and_t] at hk
  obtain ⟨g1, g2, g3, g4⟩ := hgo lo rest (am_put h r.2.1 (100, am_set k0.2 i.2.1 v)) nc ns o ho6
  refine ⟨g1, g2, g3, fun ad H locs ls S hp hlo hs r1 r2 hkt => ?_⟩
  obtain ⟨V, S1, rfl, k1, k2⟩ := am_St_cons hs
  obtain ⟨I, S2, rfl, k3, k4⟩ := am_St_cons k2
  obtain ⟨U, S', rfl, k5, k6⟩ := am_St_cons k4
  have hk100 : k0.1 = 100 := am_tag hk.1
  have hkl := am_has_ok hk.2
  obtain ⟨a, C, rfl, had, hC, hcell⟩ := am_ref hp k5 hr hg (by omega)
  obtain ⟨b1, ty, b2, b3, b0, b4, b5⟩ := am_arr hcell (by omega)
  rw [hk100] at b2
  cases b2
  obtain ⟨rfl, hcl, hneg⟩ := am_idx k3 hi0 hi1
  obtain ⟨x, rfl⟩ := am_tI_ok k1 hti
  have hsz : i.2.1 < C.slots.size := by omega
  have hF' := hF
  obtain ⟨hx, hb, -⟩ := hF
  refine W.iast hx hb hC (am_isArr hF' b1 b3) (by rw [b1]; exact fun q => by cases q) (by rw [hcl]; rintro (q | q); exact hneg q; omega) rfl rfl hd (fun H' e1 e2 e3 => ?_)
  rw [hcl] at e1 ⊢
  refine g4 ad H' _ ls S' (am_HP_set hp hg (by omega) had (c := (100, am_set k0.2 i.2.1 v)) (C := C.setSlot i.2.1 (.int x)) ?_ e1 e2 e3) hlo k6 r1 r2 hkt
  rw [hk100] at b0
  refine ⟨b1, Or.inr ⟨.int, Nat.le_refl _, rfl, b3, b0, by rw [am_setSlot_size, am_set_eq, List.length_set]; exact b4, ?_⟩⟩
  show am_hold Y ad _ (fun j => j) (am_set k0.2 i.2.1 v)
  rw [am_set_eq]
  exact am_hold_set b5 hkl k1 (fun j _ hj => hj) hsz
theorem am_sAast (hF : am_Fm p s m args meth c Y own code nL rt) (hK : am_Kl Y) (hd : decode code pc = .ok (.aastore, 1)) (hgo : am_Snd p l e R s m args below meth c Q Y ad0 nL c0 q0 code rt go (pc + 1)) : am_Snd p l e R s m args below meth c Q Y ad0 nL c0 q0 code rt (am_oAast A sub go jmp) pc := by
  intro lo stk h nc ns o ho
  obtain ⟨v, st1, rfl, ho1⟩ := am_lc_some ho
  obtain ⟨i, st2, rfl, ho2⟩ := am_lc_some ho1
  obtain ⟨r, rest, rfl, ho3⟩ := am_lc_some ho2
  obtain ⟨hc, ho4⟩ := am_if_some ho3
  rw [am_and_t, am_and_t, am_and_t] at hc
  obtain ⟨hr, hrv, hi0, hi1⟩ := hc
  obtain ⟨k0, hg, ho5⟩ := am_ob_some ho4
  obtain ⟨kw, hgw, ho6⟩ := am_ob_some ho5
  obtain ⟨hk, ho7⟩ := am_if_some ho6
  rw [am_and_t, am_and_t, am_and_t, Nat.blt_eq, Nat.blt_eq] at hk
  obtain ⟨⟨hk1, hk1b⟩, hk2, hk3⟩ := hk
  obtain ⟨g1, g2, g3, g4⟩ := hgo lo rest (am_put h r.2.1 (k0.1, am_set k0.2 i.2.1 v)) nc ns o ho7
  refine ⟨g1, g2, g3, fun ad H locs ls S hp hlo hs r1 r2 hkt => ?_⟩
  obtain ⟨V, S1, rfl, k1, k2⟩ := am_St_cons hs
  obtain ⟨I, S2, rfl, k3, k4⟩ := am_St_cons k2
  obtain ⟨U, S', rfl, k5, k6⟩ := am_St_cons k4
  have hkl := am_has_ok hk3
  have hel := am_tag hk2
  have hkind : k0.1 = 101 ∨ k0.1 = 102 ∨ k0.1 = 103 ∨ k0.1 = 104 := by omega
  obtain ⟨a, C, rfl, had, hC, hcell⟩ := am_ref hp k5 hr hg (by omega)
  obtain ⟨b1, ty, b2, b3, b0, b4, b5⟩ := am_arr hcell (by omega)
  have hw999 : kw.1 ≠ 999 := by
    rw [hel]
    rcases hkind with e | e | e | e <;> (rw [e]; decide)
  obtain ⟨w, Cw, rfl, -, hCw, hcellw⟩ := am_ref hp k1 hrv hgw hw999
  obtain ⟨rfl, hcl, hneg⟩ := am_idx k3 hi0 hi1
  have hsz : i.2.1 < C.slots.size := by omega
  have hF' := hF
  obtain ⟨hx, hb, -, -, -, -, -, hW, -⟩ := hF
  have hvmw : Cw.vm = .none := hcellw.1
  have facts : ∃ (k kv kcomp : Class) (comp : ClassId) (t : FieldType), s.vm.classes[C.cls]? = some k ∧ k.kind = .array comp t ∧ t.isReference = true ∧ s.vm.classes[comp]? = some kcomp ∧ s.vm.classes[Cw.cls]? = some kv ∧ s.vm.assignable Cw.cls comp = true := by
    have obj : ∀ (ci : Nat) (q : vw_C), am_cl[ci]? = some q → kw.1 = ci → va_RA Y.1 C.cls (.object q.1) → ∃ (k kv kcomp : Class) (comp : ClassId) (t : FieldType), s.vm.classes[C.cls]? = some k ∧ k.kind = .array comp t ∧ t.isReference = true ∧ s.vm.classes[comp]? = some kcomp ∧ s.vm.classes[Cw.cls]? = some kv ∧ s.vm.assignable Cw.cls comp = true := by
      intro ci q hq hci hra
      obtain ⟨-, o2, -, -⟩ := am_obj hcellw (by rw [hci]; exact Nat.beq_refl ci) hq
      obtain ⟨hfc, kC, hkC, -⟩ := (u_Kn_moved hW.alike (hK ci q hq)).2
      obtain ⟨kA, comp, f1, f2, f3, -⟩ := va_RA.moved hW.alike hra
      have e : comp = Y.2.1.1 ci := Option.some.inj (f3.symm.trans hfc)
      subst e
      exact ⟨kA, kC, kC, Y.2.1.1 ci, .object q.1, f1, f2, rfl, hkC, by rw [o2]; exact hkC, by rw [o2]; exact va_asg _ _⟩
    rcases hkind with e | e | e | e
    · rw [e] at b0 hel
      exact obj 5 _ rfl hel b0
    · rw [e] at b0 hel
      exact obj 2 _ rfl hel b0
    · rw [e] at b0 hel
      exact obj 1 _ rfl hel b0
    · rw [e] at b0 hel
      obtain ⟨kA, comp, kI, f1, f2, f3, f4⟩ := b0
      have hel2 : kw.1 = 100 := hel
      obtain ⟨-, tw, c2, c3, c0, -⟩ := am_arr hcellw (by omega)
      rw [hel2] at c0
      have e2 : comp = Cw.cls := Option.some.inj (f3.symm.trans c0)
      subst e2
      obtain ⟨kA', g5, g6⟩ := hW.alike.2.2 _ _ f1
      obtain ⟨kI', g7, g8⟩ := hW.alike.2.2 _ _ f4
      exact ⟨kA', kI', kI', Cw.cls, .array .int, g5, by rw [g6]; exact f2, rfl, g7, g7, va_asg _ _⟩
  obtain ⟨kk, kv, kcomp, comp, t, q1, q2, q3, q4, q5, q6⟩ := facts
  refine W.aast hx hb hC (by rw [b1]; exact fun _ q => by cases q) (by rw [b1]; exact fun q => by cases q) q1 q2 q3 q4 ⟨by exact hneg, by rw [hcl]; exact hsz⟩ hCw (by rw [hvmw]; exact fun _ q => by cases q) q5 q6 rfl rfl hd (fun H' e1 e2 e3 => ?_)
  rw [hcl] at e1 ⊢
  refine g4 ad H' _ ls S' (am_HP_set hp hg (by omega) had (c := (k0.1, am_set k0.2 i.2.1 v)) (C := C.setSlot i.2.1 (.ref w)) ?_ e1 e2 e3) hlo k6 r1 r2 hkt
  refine ⟨b1, Or.inr ⟨ty, by omega, b2, b3, b0, by rw [am_setSlot_size, am_set_eq, List.length_set]; exact b4, ?_⟩⟩
  show am_hold Y ad _ (fun j => j) (am_set k0.2 i.2.1 v)
  rw [am_set_eq]
  exact am_hold_set b5 hkl k1 (fun j _ hj => hj) hsz
end AMHO
end
section
/-! ===== new objects and arrays ===== -/
section AMGA
variable {Y : am_Y} {s : State} {ad0 ad : List Nat} {h : am_H} {H : Heap} {locs : List Loc}
/-- the heap has grown -/
theorem am_HP_grow (hp : am_HP Y s ad0 ad h H locs) {H' : Heap} (e2 : H.size ≤ H'.size) (e3 : ∀ q : Nat, q < H.size → H'[q]? = H[q]?) : am_HP Y s ad0 ad h H' locs := by
  obtain ⟨⟨r1, r2, r3, r4⟩, f1, f2, f3, f4, f5⟩ := hp
  refine ⟨⟨r1, r2, fun x hx => ⟨(r3 x hx).1, by have := (r3 x hx).2; omega⟩, fun k' c' hk' hn' => ?_⟩, by omega, fun q hq hq2 => ?_, f3, f4, f5⟩
  · obtain ⟨a', C', g1, g2, g3⟩ := r4 k' c' hk' hn'
    exact ⟨a', C', g1, by rw [e3 a' (Array.getElem?_eq_some_iff.mp g2).1]; exact g2, g3⟩
  · rw [e3 q (by omega)]
    exact f2 q hq hq2
/-- a cell that is there comes into the world -/
theorem am_HP_adopt (hs : Y.1.heap.size ≤ s.heap.size) (hp : am_HP Y s ad0 ad h H locs) {c : am_C} {C : Cell} {a : Nat} (hf : am_free h = true) (ha : a ∉ ad) (has : s.heap.size ≤ a) (hC : am_cell Y (ad ++ [a]) C c) (e1 : H[a]? = some C) : am_HP Y s ad0 (ad ++ [a]) (am_new h c) H locs ∧ am_le ad (ad ++ [a]) ∧ (ad ++ [a])[h.1]? = some a := by
  obtain ⟨⟨r1, r2, r3, r4⟩, f1, f2, f3, f4, f5⟩ := hp
  have hle : am_le ad (ad ++ [a]) := fun k a' hk => by
    rw [List.getElem?_append_left (List.getElem?_eq_some_iff.mp hk).1]
    exact hk
  have hlast : (ad ++ [a])[h.1]? = some a := by
    rw [← r1, List.getElem?_append_right (Nat.le_refl _), Nat.sub_self]
    rfl
  refine ⟨⟨⟨by simp [am_new, r1], ?_, fun x hx => ?_, fun k' c' hk' hn' => ?_⟩, f1, f2, f3, fun x hx => ?_, fun x hx => List.mem_append_left _ (f5 x hx)⟩, hle, hlast⟩
  · rw [List.nodup_append]
    refine ⟨r2, by simp, fun x hx y hy => ?_⟩
    have e : y = a := by simpa using hy
    subst e
    intro e
    subst e
    exact ha hx
  · rcases List.mem_append.mp hx with h1 | h1
    · exact r3 x h1
    · have e : x = a := by simpa using h1
      subst e
      exact ⟨by omega, (Array.getElem?_eq_some_iff.mp e1).1⟩
  · rw [am_get_new hf] at hk'
    by_cases ek : k' = h.1
    · subst ek
      rw [if_pos rfl] at hk'
      cases hk'
      exact ⟨a, C, hlast, e1, hC⟩
    · rw [if_neg ek] at hk'
      obtain ⟨a', C', g1, g2, g3⟩ := r4 k' c' hk' hn'
      exact ⟨a', C', hle _ _ g1, g2, am_cell_le hle g3⟩
  · rcases List.mem_append.mp hx with h1 | h1
    · exact f4 x h1
    · have e : x = a := by simpa using h1
      subst e
      exact Or.inr has
end AMGA
theorem am_df_ok (Y : am_Y) (ad : List Nat) (t : FieldType) : am_V1 Y ad (am_df t) (defaultValue t) := by
  cases t <;> rfl
theorem am_bl_ok : ∀ (ci : Nat) (q : vw_C) (fs : List am_V), am_cl[ci]? = some q → am_bl[ci]? = some fs → fs = (List.range q.2.2).map (fun j => am_df (am_ty ci j)) := by
  intro ci q fs hq hf
  match ci, hq, hf with
  | 0, hq, hf => cases hq; cases hf; rfl
  | 1, hq, hf => cases hq; cases hf; rfl
  | 2, hq, hf => cases hq; cases hf; rfl
  | 3, hq, hf => cases hq; cases hf; rfl
  | 4, hq, hf => cases hq; cases hf; rfl
  | 5, hq, hf => cases hq; cases hf; rfl
  | 6, hq, hf => cases hq; cases hf; rfl
  | n + 7, hq, _ => simp [am_cl] at hq
theorem am_len_eq {α : Type} (l : List α) : am_len l = l.length := by
  induction l with
  | nil => rfl
  | cons a t ih => exact congrArg Nat.succ ih
theorem am_rep_eq {α : Type} (n : Nat) (x : α) : am_rep n x = List.replicate n x := by
  induction n with
  | zero => rfl
  | succ n ih => exact congrArg (x :: ·) ih
/-- .. over int[] (follows va_AO of the kit) -/
def am_AOA (U : State) : Prop := (Cond.arrayOver (.array .int)).before #[] U = true
theorem am_AOA_moved {u U : State} (hvm : u.vm.Alike U.vm) (h : am_AOA u) : am_AOA U := by
  obtain ⟨comp, c, k, h1, h2, h3, h4, h5⟩ := arrayOverA_spec h
  obtain ⟨k', hk', he⟩ := hvm.2.2 _ _ h3
  have hi : (U.vm.classes.findIdx? fun (x : Class) => match x.kind with | .array component _ => component == comp | _ => false) = some c := by
    exact (hvm.findIdx?_eq _ (fun _ => rfl)).trans h2
  have hkind : k'.kind = .array comp (.array .int) := by rw [he]; exact h4
  have f1 : U.vm.findClass (FieldType.array .int).toString = some comp := by rw [hvm.findClass]; exact h1
  have f2 : U.vm.findClass ("[" ++ (FieldType.array .int).toString) = some c := by rw [hvm.findClass]; exact h5
  unfold am_AOA Cond.before Cond.holds
  simp only [Cond.value]
  rw [f1, Option.bind_some]
  refine (congrArg (fun o : Option Nat => (o.bind (fun c => (U.vm.classes[c]?).map fun (k : Class) => match k.kind with | .array _ ty => decide (ty = FieldType.array .int) && decide (U.vm.findClass ("[" ++ (FieldType.array .int).toString) = some c) | _ => false) == some true)) hi).trans ?_
  simp [hk', hkind, f2]
/-- the tables' word of an array class over a class of ours, at the law's entry -/
def am_AO (Y : am_Y) : Prop := va_AO RX5 Y.1 ∧ va_AO RX2 Y.1 ∧ va_AO RX1 Y.1 ∧ am_AOA Y.1
section AMNEW
variable {p : Program} {l : Launch} {e : Env} {R : Room} {s : State} {m : MethodId} {args : Array Value} {below : List Frame} {meth : Method} {c : Code} {Q : State → Prop} {Y : am_Y} {A : am_A} {ad0 : List Nat} {nL c0 q0 : Nat} {code : ByteArray} {rt : Option FieldType}
variable {sub : Nat → am_G} {go : am_G} {jmp : Nat → am_G} {pc : Nat} {own : String}
theorem am_sNew (hF : am_Fm p s m args meth c Y own code nL rt) (hK : am_Kl Y) {ci idx : Nat} {q : vw_C} {fs : List am_V} (hq : am_cl[ci]? = some q) (hfs : am_bl[ci]? = some fs) (h1 : Cond.classLink own idx q.1 ∈ am_ws) (h2 : Cond.instantiable q.1 q.2.2 ∈ am_ws) (h3 : Cond.initialized q.1 ∈ am_ws) (hd : decode code pc = .ok (.new idx, 3)) (hgo : am_Snd p l e R s m args below meth c Q Y ad0 nL c0 q0 code rt go (pc + 3)) : am_Snd p l e R s m args below meth c Q Y ad0 nL c0 q0 code rt (am_oNew ci fs A sub go jmp) pc := by
  intro lo stk h nc ns o ho
  obtain ⟨hf, ho1⟩ := am_if_some ho
  have hbl := am_bl_ok ci q fs hq hfs
  have hlen : fs.length = q.2.2 := by rw [hbl]; simp
  rw [am_len_eq, hlen] at ho1
  obtain ⟨g1, g2, g3, g4⟩ := hgo lo ((10, h.1, []) :: stk) (am_new h (ci, fs)) (nc + 1) (ns + q.2.2) o ho1
  refine ⟨by omega, by omega, g3, fun ad H locs ls S hp hlo hs r1 r2 hkt => ?_⟩
  have hF' := hF
  obtain ⟨hx, hb, -, hown, hts, -, -, hW, -, hsz⟩ := hF
  have hKn := u_Kn_moved hW.alike (hK ci q hq)
  have hci := am_cl_lt hq
  refine W.newcK hx hb hown (hts _ h1) (hts _ h2) (hts _ h3) rfl hd (by omega) (by omega) hKn.2.1 rfl fun H1 kC hkC e1 z1 o1 => ?_
  obtain ⟨cell, u1, u2, u3, u4⟩ := u_born (am_ty ci) hts (am_lay_in ci q hq) hKn hkC e1 (am_ty_ok ci q hq)
  obtain ⟨k1, k2, k3⟩ := am_HP_new hsz hp (c := (ci, fs)) (C := cell) hf ⟨u3, Or.inl ⟨q, hq, u2, hlen, fun j v hv => by
    rw [hbl, List.getElem?_map] at hv
    by_cases hj : j < q.2.2
    · rw [List.getElem?_range hj] at hv
      cases hv
      exact ⟨_, u4 j hj, am_df_ok _ _ _⟩
    · rw [List.getElem?_eq_none (by simpa using hj)] at hv
      cases hv⟩⟩ u1 z1 o1
  have hg := g4 (ad ++ [H.size]) H1 locs ls (.ref H.size :: S) k1 (am_Lo_le k2 hlo) ⟨⟨H.size, k3, rfl⟩, am_St_le k2 hs⟩ r1 r2 (am_Kont_le hkt k2)
  rw [show c0 + nc + 1 = c0 + (nc + 1) from Nat.add_assoc _ _ _, show q0 + ns + q.2.2 = q0 + (ns + q.2.2) from Nat.add_assoc _ _ _]
  exact hg
theorem am_sNewa (hF : am_Fm p s m args meth c Y own code nL rt) (h1 : Cond.arrayClass .int ∈ am_ws) (hd : decode code pc = .ok (.newarray .int, 2)) (hgo : am_Snd p l e R s m args below meth c Q Y ad0 nL c0 q0 code rt go (pc + 2)) : am_Snd p l e R s m args below meth c Q Y ad0 nL c0 q0 code rt (am_oNewa 100 (0, 0, []) A sub go jmp) pc := by
  intro lo stk h nc ns o ho
  obtain ⟨n, rest, rfl, ho1⟩ := am_lc_some ho
  obtain ⟨hc, ho2⟩ := am_if_some ho1
  rw [am_and_t, am_and_t] at hc
  obtain ⟨hn0, hn1, hf⟩ := hc
  obtain ⟨g1, g2, g3, g4⟩ := hgo lo ((10, h.1, []) :: rest) (am_new h (100, am_rep n.2.1 (0, 0, []))) (nc + 1) (ns + n.2.1) o ho2
  refine ⟨by omega, by omega, g3, fun ad H locs ls S hp hlo hs r1 r2 hkt => ?_⟩
  obtain ⟨V, S', rfl, k1, k2⟩ := am_St_cons hs
  rw [Nat.blt_eq] at hn1
  obtain ⟨rfl, hcl, hneg⟩ := am_idx k1 hn0 (by rw [Nat.blt_eq]; omega)
  have hF' := hF
  obtain ⟨hx, hb, -, hown, hts, -, -, hW, -, hsz⟩ := hF
  refine va_newaK (atype := .int) hx hb (hts _ h1) rfl hd rfl hneg hcl (by show n.2.1 * 4 ≤ _; omega) (by omega) (by omega) rfl fun H1 cA e1 z1 o1 hAr hNm => ?_
  have hAr0 : ArrOfT Y.1 cA .int := arrOfT_moved hW.alike.symm hAr
  have hNm0 : Y.1.vm.findClass "[I" = some cA := by
    rw [← hW.alike.findClass]
    exact hNm
  obtain ⟨l1, l2, l3⟩ := am_HP_new hsz hp (c := (100, am_rep n.2.1 (0, 0, []))) (C := arrV cA n.2.1 (fun _ => .int 0)) hf ⟨rfl, Or.inr ⟨.int, Nat.le_refl _, rfl, hAr0, hNm0, by rw [arrV_size, am_rep_eq, List.length_replicate], fun j v hv => by
    rw [am_rep_eq] at hv
    have hj : j < n.2.1 := by
      have := (List.getElem?_eq_some_iff.mp hv).1
      rw [List.length_replicate] at this
      exact this
    rw [List.getElem?_replicate, if_pos hj] at hv
    cases hv
    exact ⟨_, arrV_read _ _ hj, rfl⟩⟩⟩ e1 z1 o1
  rw [show c0 + nc + 1 = c0 + (nc + 1) from Nat.add_assoc _ _ _, show q0 + ns + n.2.1 = q0 + (ns + n.2.1) from Nat.add_assoc _ _ _]
  exact g4 (ad ++ [H.size]) H1 locs ls (.ref H.size :: S') l1 (am_Lo_le l2 hlo) ⟨⟨H.size, l3, rfl⟩, am_St_le l2 k2⟩ r1 r2 (am_Kont_le hkt l2)
/-- an array of nulls -/
theorem am_nulls {ad : List Nat} {cA : ClassId} {n kind : Nat} {ty : FieldType} (hk : 100 ≤ kind) (ht : am_at kind = some ty) (hAr : ArrOfT Y.1 cA ty) (hak : am_ak Y.1 cA kind) : am_cell Y ad { cls := cA, slots := Array.replicate n .null, vm := .none } (kind, am_rep n (4, 0, [])) := by
  refine ⟨rfl, Or.inr ⟨ty, hk, ht, hAr, hak, by rw [am_rep_eq, List.length_replicate]; simp, fun j v hv => ?_⟩⟩
  rw [am_rep_eq] at hv
  have hj : j < n := by
    have := (List.getElem?_eq_some_iff.mp hv).1
    rw [List.length_replicate] at this
    exact this
  rw [List.getElem?_replicate, if_pos hj] at hv
  cases hv
  exact ⟨.null, by simp [hj], rfl⟩
theorem am_sNewq (hF : am_Fm p s m args meth c Y own code nL rt) (hO : am_AO Y) {kind idx : Nat} {C : String} (hkd : (kind = 101 ∧ C = RX5) ∨ (kind = 102 ∧ C = RX2) ∨ (kind = 103 ∧ C = RX1)) (h1 : Cond.classLink own idx C ∈ am_ws) (hd : decode code pc = .ok (.anewarray idx, 3)) (hgo : am_Snd p l e R s m args below meth c Q Y ad0 nL c0 q0 code rt go (pc + 3)) : am_Snd p l e R s m args below meth c Q Y ad0 nL c0 q0 code rt (am_oNewa kind (4, 0, []) A sub go jmp) pc := by
  intro lo stk h nc ns o ho
  obtain ⟨n, rest, rfl, ho1⟩ := am_lc_some ho
  obtain ⟨hc, ho2⟩ := am_if_some ho1
  rw [am_and_t, am_and_t] at hc
  obtain ⟨hn0, hn1, hf⟩ := hc
  obtain ⟨g1, g2, g3, g4⟩ := hgo lo ((10, h.1, []) :: rest) (am_new h (kind, am_rep n.2.1 (4, 0, []))) (nc + 1) (ns + n.2.1) o ho2
  refine ⟨by omega, by omega, g3, fun ad H locs ls S hp hlo hs r1 r2 hkt => ?_⟩
  obtain ⟨V, S', rfl, k1, k2⟩ := am_St_cons hs
  rw [Nat.blt_eq] at hn1
  obtain ⟨rfl, hcl, hneg⟩ := am_idx k1 hn0 (by rw [Nat.blt_eq]; omega)
  have hF' := hF
  obtain ⟨hx, hb, -, hown, hts, -, -, hW, -, hsz⟩ := hF
  have hover : va_AO C s := by
    rcases hkd with ⟨-, rfl⟩ | ⟨-, rfl⟩ | ⟨-, rfl⟩
    · exact va_AO.moved hW.alike hO.1
    · exact va_AO.moved hW.alike hO.2.1
    · exact va_AO.moved hW.alike hO.2.2.1
  refine W.anew hx hb hown (hts _ h1) (va_AO.use hover) rfl hd rfl hneg (by rw [hcl]; omega) (by omega) (by rw [hcl]; omega) fun cA kA comp f1 f2 f3 f4 => ?_
  rw [hcl]
  generalize hH1 : H.push ({ cls := cA, slots := Array.replicate n.2.1 .null, vm := .none } : Cell) = H1
  have z1 : H1.size = H.size + 1 := by rw [← hH1, Array.size_push]
  have e1 : H1[H.size]? = some { cls := cA, slots := Array.replicate n.2.1 .null, vm := .none } := by rw [← hH1, Array.getElem?_push_size]
  have o1 : ∀ q : Nat, q < H.size → H1[q]? = H[q]? := fun q hq => by rw [← hH1, Array.getElem?_push, if_neg (Nat.ne_of_lt hq)]
  have hAr : ArrOfT Y.1 cA (.object C) := arrOfT_moved hW.alike.symm (fun N z => ⟨(fun k h => by cases h), kA, f2, comp, f3⟩)
  have hRA : va_RA Y.1 cA (.object C) := va_RA.moved hW.alike.symm ⟨kA, comp, f2, f3, f4, f1⟩
  have hcell : ∀ ad' : List Nat, am_cell Y ad' { cls := cA, slots := Array.replicate n.2.1 .null, vm := .none } (kind, am_rep n.2.1 (4, 0, [])) := by
    intro ad'
    rcases hkd with ⟨rfl, rfl⟩ | ⟨rfl, rfl⟩ | ⟨rfl, rfl⟩
    · exact am_nulls (by decide) rfl hAr hRA
    · exact am_nulls (by decide) rfl hAr hRA
    · exact am_nulls (by decide) rfl hAr hRA
  obtain ⟨l1, l2, l3⟩ := am_HP_new hsz hp (c := (kind, am_rep n.2.1 (4, 0, []))) hf (hcell _) e1 z1 o1
  rw [show c0 + nc + 1 = c0 + (nc + 1) from Nat.add_assoc _ _ _, show q0 + ns + n.2.1 = q0 + (ns + n.2.1) from Nat.add_assoc _ _ _]
  exact g4 (ad ++ [H.size]) H1 locs ls (.ref H.size :: S') l1 (am_Lo_le l2 hlo) ⟨⟨H.size, l3, rfl⟩, am_St_le l2 k2⟩ r1 r2 (am_Kont_le hkt l2)
theorem am_sNewA (hF : am_Fm p s m args meth c Y own code nL rt) (hO : am_AO Y) {idx : Nat} (h1 : Cond.classLink own idx "[I" ∈ am_ws) (hd : decode code pc = .ok (.anewarray idx, 3)) (hgo : am_Snd p l e R s m args below meth c Q Y ad0 nL c0 q0 code rt go (pc + 3)) : am_Snd p l e R s m args below meth c Q Y ad0 nL c0 q0 code rt (am_oNewa 104 (4, 0, []) A sub go jmp) pc := by
  intro lo stk h nc ns o ho
  obtain ⟨n, rest, rfl, ho1⟩ := am_lc_some ho
  obtain ⟨hc, ho2⟩ := am_if_some ho1
  rw [am_and_t, am_and_t] at hc
  obtain ⟨hn0, hn1, hf⟩ := hc
  obtain ⟨g1, g2, g3, g4⟩ := hgo lo ((10, h.1, []) :: rest) (am_new h (104, am_rep n.2.1 (4, 0, []))) (nc + 1) (ns + n.2.1) o ho2
  refine ⟨by omega, by omega, g3, fun ad H locs ls S hp hlo hs r1 r2 hkt => ?_⟩
  obtain ⟨V, S', rfl, k1, k2⟩ := am_St_cons hs
  rw [Nat.blt_eq] at hn1
  obtain ⟨rfl, hcl, hneg⟩ := am_idx k1 hn0 (by rw [Nat.blt_eq]; omega)
  have hF' := hF
  obtain ⟨hx, hb, -, hown, hts, -, -, hW, -, hsz⟩ := hF
  have hover : am_AOA s := am_AOA_moved hW.alike hO.2.2.2
  refine W.anewA (t := .int) hx hb hown (hts _ h1) (show (Cond.arrayOver (.array .int)).before args s = true from hover) rfl hd rfl hneg (by rw [hcl]; omega) (by omega) (by rw [hcl]; omega) fun cA kA comp f1 f2 f3 f4 => ?_
  rw [hcl]
  generalize hH1 : H.push ({ cls := cA, slots := Array.replicate n.2.1 .null, vm := .none } : Cell) = H1
  have z1 : H1.size = H.size + 1 := by rw [← hH1, Array.size_push]
  have e1 : H1[H.size]? = some { cls := cA, slots := Array.replicate n.2.1 .null, vm := .none } := by rw [← hH1, Array.getElem?_push_size]
  have o1 : ∀ q : Nat, q < H.size → H1[q]? = H[q]? := fun q hq => by rw [← hH1, Array.getElem?_push, if_neg (Nat.ne_of_lt hq)]
  have hAr : ArrOfT Y.1 cA (.array .int) := arrOfT_moved hW.alike.symm (fun N z => ⟨(fun k h => by cases h), kA, f2, comp, f3⟩)
  have hak : am_ak Y.1 cA 104 := by
    obtain ⟨kA', g5, g6⟩ := hW.alike.symm.2.2 _ _ f2
    have f5 : Y.1.vm.findClass "[I" = some comp := by
      rw [← hW.alike.findClass]
      exact f4
    obtain ⟨kI, g7, -⟩ := Vm.findClass_spec f5
    exact ⟨kA', comp, kI, g5, by rw [g6]; exact f3, f5, g7⟩
  obtain ⟨l1, l2, l3⟩ := am_HP_new hsz hp (c := (104, am_rep n.2.1 (4, 0, []))) hf (am_nulls (by decide) rfl hAr hak) e1 z1 o1
  rw [show c0 + nc + 1 = c0 + (nc + 1) from Nat.add_assoc _ _ _, show q0 + ns + n.2.1 = q0 + (ns + n.2.1) from Nat.add_assoc _ _ _]
  exact g4 (ad ++ [H.size]) H1 locs ls (.ref H.size :: S') l1 (am_Lo_le l2 hlo) ⟨⟨H.size, l3, rfl⟩, am_St_le l2 k2⟩ r1 r2 (am_Kont_le hkt l2)
end AMNEW
end
section
/-! ===== new int[3][30] ===== -/
section AMMUL
variable {p : Program} {l : Launch} {e : Env} {R : Room} {s : State} {m : MethodId} {args : Array Value} {below : List Frame} {meth : Method} {c : Code} {Q : State → Prop} {Y : am_Y} {A : am_A} {ad0 : List Nat} {nL c0 q0 : Nat} {code : ByteArray} {rt : Option FieldType}
variable {sub : Nat → am_G} {go : am_G} {jmp : Nat → am_G} {pc : Nat} {own : String}
theorem am_zeros {ad : List Nat} {cy : ClassId} {M : Nat} (hAr : ArrOfT Y.1 cy .int) (hNm : Y.1.vm.findClass "[I" = some cy) : am_cell Y ad { cls := cy, slots := Array.replicate M (.int 0), vm := .none } (100, am_rep M (0, 0, [])) := by
  refine ⟨rfl, Or.inr ⟨.int, Nat.le_refl _, rfl, hAr, hNm, by rw [am_rep_eq, List.length_replicate]; simp, fun j v hv => ?_⟩⟩
  rw [am_rep_eq] at hv
  have hj : j < M := by
    have := (List.getElem?_eq_some_iff.mp hv).1
    rw [List.length_replicate] at this
    exact this
  rw [List.getElem?_replicate, if_pos hj] at hv
  cases hv
  exact ⟨.int 0, by simp [hj], rfl⟩
theorem am_sMulti (hF : am_Fm p s m args meth c Y own code nL rt) (hO : am_AO Y) {idx : Nat} (h1 : Cond.classLink own idx "[[I" ∈ am_ws) (h2 : Cond.arrayClass .int ∈ am_ws) (hd : decode code pc = .ok (.multianewarray idx 2, 4)) (hgo : am_Snd p l e R s m args below meth c Q Y ad0 nL c0 q0 code rt go (pc + 4)) : am_Snd p l e R s m args below meth c Q Y ad0 nL c0 q0 code rt (am_oMulti A sub go jmp) pc := by
  intro lo stk h nc ns o ho
  obtain ⟨y, st1, rfl, ho1⟩ := am_lc_some ho
  obtain ⟨x, rest, rfl, ho2⟩ := am_lc_some ho1
  obtain ⟨hc, ho3⟩ := am_if_some ho2
  rw [am_and_t, am_and_t] at hc
  obtain ⟨hk2, hy, hx3⟩ := hc
  obtain ⟨hf, ho4⟩ := am_if_some ho3
  rw [am_and_t, am_and_t, am_and_t] at hf
  obtain ⟨hf0, hf1, hf2, hf3⟩ := hf
  obtain ⟨g1, g2, g3, g4⟩ := hgo _ _ _ _ _ o ho4
  refine ⟨by omega, by omega, g3, fun ad H locs ls S hp hlo hs r1 r2 hkt => ?_⟩
  obtain ⟨V, S1, rfl, k1, k2⟩ := am_St_cons hs
  obtain ⟨U, S', rfl, k3, k4⟩ := am_St_cons k2
  obtain ⟨e1, e2⟩ := am_R_k2 hk2 k3 k1
  have hy2 : y.2.1 = 30 := am_tag hy
  have hx2 : x.2.1 = 3 := am_tag hx3
  rw [hx2] at e1
  rw [hy2] at e2
  subst e1
  subst e2
  have hF' := hF
  obtain ⟨hx, hb, -, hown, hts, -, -, hW, -, hsz⟩ := hF
  have hover : am_AOA s := am_AOA_moved hW.alike hO.2.2.2
  intro T hT Xs
  obtain ⟨vm₁, cA, cy, -, fA, fC, hO1, hO2, X', step⟩ := Xs.multianewarray2F (ty := .int) hx hown (hts _ h1) (show (Cond.arrayOver (.array .int)).before args s = true from hover) (hts _ h2) (g := F0 m pc ls (.int (Int32.ofNat 30) :: .int (Int32.ofNat 3) :: S')) rfl (by rw [hb]; exact hd) rfl (by decide) (by decide) (by decide) (by decide) (by decide) rfl rfl (by show c0 + nc + (1 + 3) ≤ _; omega) (by show q0 + ns + (3 + 3 * 30) ≤ _; omega)
  rw [show (Int32.ofNat 3).toNatClampNeg = 3 from by decide, show (Int32.ofNat 30).toNatClampNeg = 30 from by decide] at X' step
  have hTh : (T.setVm vm₁).heap = H := hT
  have hfl := Jvm.Free.Multi.fill_facts (T.setVm vm₁) cA cy 3 30 (defaultValue .int) 3
  have hold := fun (q : Nat) (hq : q < H.size) => Jvm.Free.Multi.fill_old (T.setVm vm₁) cA cy 3 30 (defaultValue .int) (a := q) (by rw [hTh]; exact hq) 3
  have hin := fun (j : Nat) (hj : j < 3) => Jvm.Free.Multi.fill_inner (T.setVm vm₁) cA cy 3 30 (defaultValue .int) 3 j hj
  generalize Jvm.Free.Multi.fill (T.setVm vm₁) cA cy 3 30 (defaultValue .int) 3 = F at X' step hfl hold hin
  rw [hTh] at hfl hold hin
  obtain ⟨f1, f2, -, -⟩ := hfl
  have hArI : ArrOfT Y.1 cy .int := arrOfT_moved hW.alike.symm (fun N z => ⟨(fun k h => by cases h), (hO2 0 .null).1.2⟩)
  have hArA : ArrOfT Y.1 cA (.array .int) := arrOfT_moved hW.alike.symm (fun N z => ⟨(fun k h => by cases h), by
    obtain ⟨-, k9, hk9, cm9, hkk9⟩ := (hO1 0 0 0).1
    exact ⟨k9, hk9, cm9, hkk9⟩⟩)
  have hNm0 : Y.1.vm.findClass "[I" = some cy := by
    rw [← hW.alike.findClass]
    exact fC
  have hak : am_ak Y.1 cA 104 := by
    obtain ⟨comp, c9, kA, a1, -, a3, a4, a5⟩ := arrayOverA_spec hO.2.2.2
    have e1 : c9 = cA := by
      have e2 : Y.1.vm.findClass ("[" ++ (FieldType.array .int).toString) = some cA := by
        rw [← hW.alike.findClass]
        exact fA
      exact Option.some.inj (a5.symm.trans e2)
    subst e1
    have e3 : comp = cy := Option.some.inj (a1.symm.trans hNm0)
    subst e3
    obtain ⟨kI, g7, -⟩ := Vm.findClass_spec hNm0
    exact ⟨kA, comp, kI, a3, a4, hNm0, g7⟩
  have hb0 : ∀ a ∈ ad, a < H.size := fun a ha => (hp.1.2.2.1 a ha).2
  have hHs : s.heap.size ≤ H.size := hp.2.1
  have p0 := am_HP_grow hp (H' := F.heap) (by rw [f1]; omega) hold
  obtain ⟨p1, l1, i1⟩ := am_HP_adopt hsz p0 (c := (100, am_rep 30 (0, 0, []))) (a := H.size + 1 + 0) hf0 (fun q => by have := hb0 _ q; omega) (by omega) (am_zeros hArI hNm0) (hin 0 (by decide))
  obtain ⟨p2, l2, i2⟩ := am_HP_adopt hsz p1 (c := (100, am_rep 30 (0, 0, []))) (a := H.size + 1 + 1) hf1 (fun q => by
    rcases List.mem_append.mp q with q | q
    · have := hb0 _ q
      omega
    · have : H.size + 1 + 1 = H.size + 1 + 0 := by simpa using q
      omega) (by omega) (am_zeros hArI hNm0) (hin 1 (by decide))
  obtain ⟨p3, l3, i3⟩ := am_HP_adopt hsz p2 (c := (100, am_rep 30 (0, 0, []))) (a := H.size + 1 + 2) hf2 (fun q => by
    rcases List.mem_append.mp q with q | q
    · rcases List.mem_append.mp q with q | q
      · have := hb0 _ q
        omega
      · have : H.size + 1 + 2 = H.size + 1 + 0 := by simpa using q
        omega
    · have : H.size + 1 + 2 = H.size + 1 + 1 := by simpa using q
      omega) (by omega) (am_zeros hArI hNm0) (hin 2 (by decide))
  obtain ⟨p4, l4, i4⟩ := am_HP_adopt hsz p3 (c := (104, [(10, h.1, []), (10, (am_new h (100, am_rep 30 (0, 0, []))).1, []), (10, (am_new (am_new h (100, am_rep 30 (0, 0, []))) (100, am_rep 30 (0, 0, []))).1, [])])) (a := H.size) hf3 (fun q => by
    rcases List.mem_append.mp q with q | q
    · rcases List.mem_append.mp q with q | q
      · rcases List.mem_append.mp q with q | q
        · have := hb0 _ q
          omega
        · have : H.size = H.size + 1 + 0 := by simpa using q
          omega
      · have : H.size = H.size + 1 + 1 := by simpa using q
        omega
    · have : H.size = H.size + 1 + 2 := by simpa using q
      omega) (by omega) (C := Jvm.Free.Multi.outerC cA 3 H.size 3) (by
    rw [vr_outer]
    refine ⟨rfl, Or.inr ⟨.array .int, (show 100 ≤ 104 by decide), rfl, hArA, hak, by rw [arrV_size]; rfl, fun j v hv => ?_⟩⟩
    have hle1 : ∀ (k a : Nat), ((ad ++ [H.size + 1 + 0]) ++ [H.size + 1 + 1] ++ [H.size + 1 + 2])[k]? = some a → ((ad ++ [H.size + 1 + 0]) ++ [H.size + 1 + 1] ++ [H.size + 1 + 2] ++ [H.size])[k]? = some a := fun k a hk => by
      rw [List.getElem?_append_left (List.getElem?_eq_some_iff.mp hk).1]
      exact hk
    match j, hv with
    | 0, hv => cases hv; exact ⟨_, arrV_read _ _ (by decide), ⟨H.size + 1 + 0, hle1 _ _ (l3 _ _ (l2 _ _ i1)), rfl⟩⟩
    | 1, hv => cases hv; exact ⟨_, arrV_read _ _ (by decide), ⟨H.size + 1 + 1, hle1 _ _ (l3 _ _ i2), rfl⟩⟩
    | 2, hv => cases hv; exact ⟨_, arrV_read _ _ (by decide), ⟨H.size + 1 + 2, hle1 _ _ i3, rfl⟩⟩
    | n + 3, hv => simp at hv) f2
  have hl := am_le_tr l1 (am_le_tr l2 (am_le_tr l3 l4))
  have hW2 := g4 _ F.heap locs ls (.ref H.size :: S') p4 (am_Lo_le hl hlo) ⟨⟨H.size, i4, rfl⟩, am_St_le hl k4⟩ r1 r2 (am_Kont_le hkt hl)
  obtain ⟨t, a1, b1⟩ := hW2 F rfl X'
  refine ⟨t, step t ?_, b1⟩
  have e : T.heap.size = H.size := by rw [hT]
  rw [e]
  exact a1
end AMMUL
end
section
/-! ===== Object(), Math, bits, returns, throws ===== -/
/-- stack words of four values at most -/
theorem am_St_cat {Y : am_Y} {ad : List Nat} : ∀ {vs : List am_V} {Vs : List Value}, am_St Y ad vs Vs → (Vs.map fun v => v.category).sum ≤ 2 * vs.length
  | [], [], _ => Nat.le_refl _
  | v :: vs, V :: Vs, h => by
    have h1 := am_cat h.1
    have h2 := am_St_cat h.2
    simp only [List.map_cons, List.sum_cons, List.length_cons]
    split at h1 <;> omega
  | [], _ :: _, h => h.elim
  | _ :: _, [], h => h.elim
/-- the room of a frame at depth d -/
def am_rm (d k n : Nat) : Room := { frames := d + 20, cells := k, slots := n, locals := 100 * d + 400 }
section AMEND
variable {p : Program} {l : Launch} {e : Env} {R : Room} {s : State} {m : MethodId} {args : Array Value} {below : List Frame} {meth : Method} {c : Code} {Q : State → Prop} {Y : am_Y} {A : am_A} {ad0 : List Nat} {nL c0 q0 : Nat} {code : ByteArray} {rt : Option FieldType}
variable {sub : Nat → am_G} {go : am_G} {jmp : Nat → am_G} {pc : Nat} {own : String}
theorem am_Lo_size {ad : List Nat} {lo : List am_V} {ls : Array Slot} (h : am_Lo Y ad nL lo ls) : ls.size = nL := by
  obtain ⟨-, lv, h2, -⟩ := h
  exact h2.1
theorem am_sObj (hF : am_Fm p s m args meth c Y own code nL rt) (hfr : 20 ≤ R.frames) (hlr : 400 ≤ R.locals) {idx : Nat} (h1 : Cond.methodLink own idx Lib.objectInit ∈ am_ws) (h2 : Cond.instanceMethod Lib.objectInit ∈ am_ws) (h3 : Cond.code Lib.objectInit ⟨#[0xb1]⟩ 1 none ∈ am_ws) (hd : decode code pc = .ok (.invokespecial idx, 3)) (hgo : am_Snd p l e R s m args below meth c Q Y ad0 nL c0 q0 code rt go (pc + 3)) : am_Snd p l e R s m args below meth c Q Y ad0 nL c0 q0 code rt (am_oObj A sub go jmp) pc := by
  intro lo stk h nc ns o ho
  obtain ⟨r, rest, rfl, ho1⟩ := am_lc_some ho
  obtain ⟨hc, ho2⟩ := am_if_some ho1
  rw [am_and_t] at hc
  obtain ⟨g1, g2, g3, g4⟩ := hgo lo rest h nc ns o ho2
  refine ⟨g1, g2, g3, fun ad H locs ls S hp hlo hs r1 r2 hkt => ?_⟩
  obtain ⟨V, S', rfl, k1, k2⟩ := am_St_cons hs
  obtain ⟨a, rfl⟩ := am_tR_ok k1 (am_or_t.mpr (Or.inl hc.1))
  have hcat := am_St_cat k2
  have hsh := am_sh_ok hc.2
  obtain ⟨hx, hb, hml, hown, hts, -⟩ := hF
  refine W.objInit hx hb hown (hts _ h1) (hts _ h2) (hts _ h3) rfl (by rw [hml]; exact am_Lo_size hlo) rfl hd (by omega) (by show 2 * 0 + _ + 12 ≤ _; omega) ?_
  exact g4 ad H locs ls S' hp hlo k2 r1 r2 hkt
theorem am_sAbs (hA : am_kn A Y.2.2.1) (hF : am_Fm p s m args meth c Y own code nL rt) (hfr : 20 ≤ R.frames) (hlr : 400 ≤ R.locals) {idx : Nat} (h1 : Cond.methodLink own idx Lib.Math.abs.name ∈ am_ws) (h2 : Cond.static Lib.Math.abs.name ∈ am_ws) (h3 : Cond.initialized "java/lang/Math" ∈ am_ws) (h4 : Cond.code Lib.Math.abs.name Lib.Math.abs.code 1 (some .int) ∈ am_ws) (hd : decode code pc = .ok (.invokestatic idx, 3)) (hgo : am_Snd p l e R s m args below meth c Q Y ad0 nL c0 q0 code rt go (pc + 3)) : am_Snd p l e R s m args below meth c Q Y ad0 nL c0 q0 code rt (am_oAbs A sub go jmp) pc := by
  intro lo stk h nc ns o ho
  obtain ⟨x, rest, rfl, ho1⟩ := am_lc_some ho
  obtain ⟨hc, ho2⟩ := am_if_some ho1
  obtain ⟨r, hr, ho3⟩ := am_ob_some ho2
  obtain ⟨g1, g2, g3, g4⟩ := hgo lo (r :: rest) h nc ns o ho3
  refine ⟨g1, g2, g3, fun ad H locs ls S hp hlo hs r1 r2 hkt => ?_⟩
  obtain ⟨V, S', rfl, k1, k2⟩ := am_St_cons hs
  obtain ⟨z, rfl, e2⟩ := am_R_abs (b := Y.2.2.2) (ad := ad) hA k1 hr
  have hcat := am_St_cat k2
  have hsh := am_sh_ok hc
  obtain ⟨hx, hb, hml, hown, hts, -⟩ := hF
  exact va_mabs hx hb (by rw [hml, am_Lo_size hlo]) hown (hts _ h1) (hts _ h2) (hts _ h3) (hts _ h4) (by omega) (by omega) (by omega) (by omega) hd (g4 ad H locs ls (_ :: S') hp hlo ⟨e2, k2⟩ r1 r2 hkt)
theorem am_ofI_ok (X : List Int) (b : Nat) (ad : List Nat) (x : Int32) : am_R X b ad (am_ofI x) (.int x) := by
  show Value.int x = .int (Int32.ofNat x.toBitVec.toNat)
  congr 1
  simp
theorem am_ofL_ok (X : List Int) (b : Nat) (ad : List Nat) (x : Int64) : am_R X b ad (am_ofL x) (.long x) := by
  show Value.long x = .long (Int64.ofNat x.toBitVec.toNat)
  congr 1
  simp
theorem am_ofF_ok (X : List Int) (b : Nat) (ad : List Nat) (x : UInt32) : am_R X b ad (am_ofF x) (.float x) := by
  show Value.float x = .float (UInt32.ofNat x.toNat)
  congr 1
  simp
theorem am_ofD_ok (X : List Int) (b : Nat) (ad : List Nat) (x : UInt64) : am_R X b ad (am_ofD x) (.double x) := by
  show Value.double x = .double (UInt64.ofNat x.toNat)
  congr 1
  simp
theorem am_L2 {ad : List Nat} {u v : am_V} {U V : Value} (hu : Nat.beq u.1 1 = true) (hv : Nat.beq v.1 1 = true) (ku : am_V1 Y ad u U) (kv : am_V1 Y ad v V) : U = .long (Int64.ofNat u.2.1) ∧ V = .long (Int64.ofNat v.2.1) := by
  obtain ⟨t, n, f⟩ := u
  obtain ⟨t', n', f'⟩ := v
  have e1 := am_tag hu
  have e2 := am_tag hv
  dsimp only at e1 e2
  subst e1
  subst e2
  exact ⟨ku, kv⟩
theorem am_sBinS {f : am_V → am_V → Option am_V} (hgo : am_Snd p l e R s m args below meth c Q Y ad0 nL c0 q0 code rt go (pc + 3)) (row : ∀ (ad : List Nat) (u v r : am_V) (U V : Value), am_V1 Y ad u U → am_V1 Y ad v V → f u v = some r → ∃ r' : Value, am_V1 Y ad r r' ∧ ∀ (H : Heap) (locs : List Loc) (k n : Nat) (ls : Array Slot) (S : List Value), ls.size = nL → (S.map fun v => v.category).sum ≤ 8 → k ≤ R.cells → n ≤ R.slots → W p l e R s m args below meth c H locs k n Q (F0 m (pc + 3) ls (r' :: S)) → W p l e R s m args below meth c H locs k n Q (F0 m pc ls (V :: U :: S))) : am_Snd p l e R s m args below meth c Q Y ad0 nL c0 q0 code rt (am_oBinS f A sub go jmp) pc := by
  intro lo stk h nc ns o ho
  obtain ⟨y, st1, rfl, ho1⟩ := am_lc_some ho
  obtain ⟨x, rest, rfl, ho2⟩ := am_lc_some ho1
  obtain ⟨hc, ho3⟩ := am_if_some ho2
  obtain ⟨y', st1', e1, ho4⟩ := am_lc_some ho3
  obtain ⟨x', rest', e2, ho5⟩ := am_lc_some ho4
  cases e1
  cases e2
  obtain ⟨r, hr, ho6⟩ := am_ob_some ho5
  obtain ⟨g1, g2, g3, g4⟩ := hgo lo (r :: rest) h nc ns o ho6
  refine ⟨g1, g2, g3, fun ad H locs ls S hp hlo hs r1 r2 hkt => ?_⟩
  obtain ⟨V, S1, rfl, k1, k2⟩ := am_St_cons hs
  obtain ⟨U, S', rfl, k3, k4⟩ := am_St_cons k2
  obtain ⟨r', e1, e2⟩ := row ad x y r U V k3 k1 hr
  have hcat := am_St_cat k4
  have hsh := am_sh_ok hc
  exact e2 H locs _ _ ls S' (am_Lo_size hlo) (by omega) (by omega) (by omega) (g4 ad H locs ls (r' :: S') hp hlo ⟨e1, k4⟩ r1 r2 hkt)
theorem am_sMin (hF : am_Fm p s m args meth c Y own code nL rt) (hfr : 20 ≤ R.frames) (hlr : 400 ≤ R.locals) {idx : Nat} (h1 : Cond.methodLink own idx Lib.Math.min.name ∈ am_ws) (h2 : Cond.static Lib.Math.min.name ∈ am_ws) (h3 : Cond.initialized "java/lang/Math" ∈ am_ws) (h4 : Cond.code Lib.Math.min.name Lib.Math.min.code 2 (some .int) ∈ am_ws) (hd : decode code pc = .ok (.invokestatic idx, 3)) (hgo : am_Snd p l e R s m args below meth c Q Y ad0 nL c0 q0 code rt go (pc + 3)) : am_Snd p l e R s m args below meth c Q Y ad0 nL c0 q0 code rt (am_oBinS (am_i22 (fun x y => am_ofI (if y < x then y else x))) A sub go jmp) pc := by
  refine am_sBinS hgo fun ad u v r U V hu hv hr => ?_
  obtain ⟨hk, hr⟩ := am_if_some hr
  obtain ⟨e1, e2⟩ := am_R_k2 hk hu hv
  cases hr
  subst e1
  subst e2
  obtain ⟨hx, hb, hml, hown, hts, -⟩ := hF
  exact ⟨_, am_ofI_ok _ _ _ _, fun H locs k n ls S q1 q2 q3 q4 hk => va_mmin hx hb (by rw [hml, q1]) hown (hts _ h1) (hts _ h2) (hts _ h3) (hts _ h4) (by omega) (by omega) q3 q4 hd hk⟩
theorem am_sMinL (hF : am_Fm p s m args meth c Y own code nL rt) (hfr : 20 ≤ R.frames) (hlr : 400 ≤ R.locals) {idx : Nat} (h1 : Cond.methodLink own idx Lib.MathLoose.min_long.x ∈ am_ws) (h2 : Cond.static Lib.MathLoose.min_long.x ∈ am_ws) (h3 : Cond.initialized "java/lang/Math" ∈ am_ws) (h4 : Cond.code Lib.MathLoose.min_long.x Lib.MathLoose.min_long.code 4 (some .long) ∈ am_ws) (hd : decode code pc = .ok (.invokestatic idx, 3)) (hgo : am_Snd p l e R s m args below meth c Q Y ad0 nL c0 q0 code rt go (pc + 3)) : am_Snd p l e R s m args below meth c Q Y ad0 nL c0 q0 code rt (am_oBinS (am_l22 (fun x y => am_ofL (if y < x then y else x))) A sub go jmp) pc := by
  refine am_sBinS hgo fun ad u v r U V hu hv hr => ?_
  unfold am_l22 at hr
  cases hk : (Nat.beq u.1 1 && Nat.beq v.1 1) with
  | false => rw [hk] at hr; cases hr
  | true =>
    rw [hk] at hr
    rw [Bool.and_eq_true] at hk
    obtain ⟨e1, e2⟩ := am_L2 hk.1 hk.2 hu hv
    cases hr
    subst e1
    subst e2
    obtain ⟨hx, hb, hml, hown, hts, -⟩ := hF
    exact ⟨_, am_ofL_ok _ _ _ _, fun H locs k n ls S q1 q2 q3 q4 hk => va_mmin_long hx hb (by rw [hml, q1]) hown (hts _ h1) (hts _ h2) (hts _ h3) (hts _ h4) (by omega) (by omega) q3 q4 hd hk⟩
theorem am_sMaxL (hF : am_Fm p s m args meth c Y own code nL rt) (hfr : 20 ≤ R.frames) (hlr : 400 ≤ R.locals) {idx : Nat} (h1 : Cond.methodLink own idx Lib.MathLoose.max_long.x ∈ am_ws) (h2 : Cond.static Lib.MathLoose.max_long.x ∈ am_ws) (h3 : Cond.initialized "java/lang/Math" ∈ am_ws) (h4 : Cond.code Lib.MathLoose.max_long.x Lib.MathLoose.max_long.code 4 (some .long) ∈ am_ws) (hd : decode code pc = .ok (.invokestatic idx, 3)) (hgo : am_Snd p l e R s m args below meth c Q Y ad0 nL c0 q0 code rt go (pc + 3)) : am_Snd p l e R s m args below meth c Q Y ad0 nL c0 q0 code rt (am_oBinS (am_l22 (fun x y => am_ofL (if y < x then x else y))) A sub go jmp) pc := by
  refine am_sBinS hgo fun ad u v r U V hu hv hr => ?_
  unfold am_l22 at hr
  cases hk : (Nat.beq u.1 1 && Nat.beq v.1 1) with
  | false => rw [hk] at hr; cases hr
  | true =>
    rw [hk] at hr
    rw [Bool.and_eq_true] at hk
    obtain ⟨e1, e2⟩ := am_L2 hk.1 hk.2 hu hv
    cases hr
    subst e1
    subst e2
    obtain ⟨hx, hb, hml, hown, hts, -⟩ := hF
    exact ⟨_, am_ofL_ok _ _ _ _, fun H locs k n ls S q1 q2 q3 q4 hk => va_mmax_long hx hb (by rw [hml, q1]) hown (hts _ h1) (hts _ h2) (hts _ h3) (hts _ h4) (by omega) (by omega) q3 q4 hd hk⟩
-- returns: the run stops here
theorem am_sRet0 (hrt : rt = none) (hd : decode code pc = .ok (.return_, 1)) : am_Snd p l e R s m args below meth c Q Y ad0 nL c0 q0 code rt (am_oRet0 pc A sub go jmp) pc := by
  intro lo stk h nc ns o ho
  cases stk with
  | cons v vs => cases ho
  | nil =>
    cases ho
    refine ⟨Nat.le_refl _, Nat.le_refl _, ⟨fun _ => ⟨rfl, hd, hrt⟩, fun q => (by cases q), fun q => (by cases q)⟩, fun ad H locs ls S hp hlo hs r1 r2 hkt => ?_⟩
    exact (hkt ad H locs ls S (am_le_rf ad) hp hlo hs).1 (show _ ≠ 2 from fun q => by cases q)
theorem am_sRet {ok : am_V → Bool} {t : FieldType} (hrt : rt = some t) (hrk : ∀ v, ok v = true → am_rk code pc v) : am_Snd p l e R s m args below meth c Q Y ad0 nL c0 q0 code rt (am_oRet pc ok t A sub go jmp) pc := by
  intro lo stk h nc ns o ho
  obtain ⟨v, rest, rfl, ho1⟩ := am_lc_some ho
  obtain ⟨hc, ho2⟩ := am_if_some ho1
  rw [am_and_t, am_and_t] at hc
  obtain ⟨h1, h2, h3⟩ := hc
  cases rest with
  | cons _ _ => cases h1
  | nil =>
    cases ho2
    refine ⟨Nat.le_refl _, Nat.le_refl _, ⟨fun q => (by cases q), fun _ => ⟨rfl, t, hrt, h3, hrk v h2⟩, fun q => (by cases q)⟩, fun ad H locs ls S hp hlo hs r1 r2 hkt => ?_⟩
    exact (hkt ad H locs ls S (am_le_rf ad) hp hlo hs).1 (show _ ≠ 2 from fun q => by cases q)
end AMEND
end
section
/-! ===== throw new NoSuchElementException(text): its constructor passes to RuntimeException by another index of the pool than the others ===== -/
section VNS
theorem vn_six_0 : decode prog_32_method_4_code 0 = .ok (.aload_n 0, 1) := by decide +kernel
theorem vn_six_1 : decode prog_32_method_4_code 1 = .ok (.aload_n 1, 1) := by decide +kernel
theorem vn_six_2 : decode prog_32_method_4_code 2 = .ok (.invokespecial 13, 3) := by decide +kernel
theorem vn_six_5 : decode prog_32_method_4_code 5 = .ok (.return_, 1) := by decide +kernel
def vn_chain : List Cond := Bundle.passSAtoms "java/util/NoSuchElementException" "java/lang/RuntimeException" 13 prog_32_method_4_code ++ Bundle.chainSAtoms "java/lang/RuntimeException" ["java/lang/Exception"]
def vn_rest (own : String) (ic : Nat) : List Cond :=
  (Bundle.ownAtoms own ic "java/util/NoSuchElementException" []).drop (Bundle.throwableAtoms ++ Bundle.throwableSAtoms ++ Bundle.chainSAtoms "java/util/NoSuchElementException" []).length
/-- the words of this throw -/
def vn_all (own : String) (ic : Nat) : List Cond := Bundle.throwableAtoms ++ Bundle.throwableSAtoms ++ vn_chain ++ vn_rest own ic
def vn_at (own : String) (ic : Nat) : List Cond := (vn_all own ic).filter vx_no
theorem vn_restmem {own : String} {ic : Nat} {w : Cond} (h : w ∈ vn_rest own ic) : w ∈ vn_all own ic := List.mem_append_right _ h
theorem vn_rest_eq (own : String) (ic : Nat) : vn_rest own ic = [.methodLink own ic (Bundle.initS "java/util/NoSuchElementException"), .instantiable "java/util/NoSuchElementException" 6, .castable "java/util/NoSuchElementException" "java/util/NoSuchElementException", .selects "java/util/NoSuchElementException" Bundle.tFill0 Bundle.tFill0, .selects "java/util/NoSuchElementException" Bundle.tFill Bundle.tFill,
   .lays "java/util/NoSuchElementException" Bundle.tN "cause" "Ljava/lang/Throwable;", .lays "java/util/NoSuchElementException" Bundle.tN "stackTrace" Bundle.steD, .lays "java/util/NoSuchElementException" Bundle.tN "suppressedExceptions" Bundle.listD, .lays "java/util/NoSuchElementException" Bundle.tN "detailMessage" "Ljava/lang/String;",
   .isRef (.static Bundle.tN "UNASSIGNED_STACK" Bundle.steD), .isRef (.static Bundle.tN "SUPPRESSED_SENTINEL" Bundle.listD),
   .fieldLink Bundle.tN 198 Bundle.tN "backtrace" "Ljava/lang/Object;", .lays Bundle.tN Bundle.tN "backtrace" "Ljava/lang/Object;", .lays "java/util/NoSuchElementException" Bundle.tN "backtrace" "Ljava/lang/Object;"] := by
  unfold vn_rest Bundle.ownAtoms
  exact List.drop_left
theorem vn_chainOk {args : Array Value} {s : State} {pl : Platform} (hpl : pl.magicAccessors = ({} : Platform).magicAccessors) {top : MethodId} (htop : s.methodNamed? (Bundle.initS Bundle.tN) = some top) (h : ∀ c ∈ vn_chain, c.before args s = true) :
    ∃ (P1 : PassC) (Ps : List PassC), Ps.length = 2 ∧ P1.LinksS pl s ∧ (∀ P, P ∈ Ps → P.LinksS pl s) ∧ s.methodNamed? (Bundle.initS "java/util/NoSuchElementException") = some P1.m ∧
        P1.sup = firstOf top (Ps.map (·.toPassT)) ∧ PassesOn top (Ps.map (·.toPassT)) := by
  obtain ⟨P, L, hm, hs⟩ := PassC.ofS_atoms (args := args) (s := s) hpl (X := "java/util/NoSuchElementException") (Y := "java/lang/RuntimeException") (by decide +kernel) (by decide +kernel) vn_six_0 vn_six_1 vn_six_2 vn_six_5 (fun c hc => h c (List.mem_append_left _ hc))
  obtain ⟨P', Ps, hlen, L', hL, hm', hsup, hpass⟩ := Bundle.chainS (args := args) hpl htop ["java/lang/Exception"] "java/lang/RuntimeException" (by decide +kernel) (fun n hn => by cases List.mem_singleton.mp hn; decide +kernel) (fun c hc => h c (List.mem_append_right _ hc))
  refine ⟨P, P' :: Ps, by simp [hlen], L, ?_, hm, Option.some.inj (hs.symm.trans hm'), hsup, hpass⟩
  intro Q hQ
  rcases List.mem_cons.mp hQ with rfl | hQ
  · exact L'
  · exact hL Q hQ
set_option maxHeartbeats 1000000 in
/-- its constructor, and the throw: the new cell stands, of its class -/
theorem vn_ctorThrow {p : Program} {l : Launch} {e : Env} {R : Room} {s : State} {m₀ : MethodId} {args : Array Value} {below : List Frame} {meth : Method} {c : Code} {W : State} {locs : List Loc} {cells slots : Nat}
    (X : Stand p l e R s m₀ args below meth c W locs cells slots) (hexec : p.tables.exec = Jvm.exec) (htr : e.platform.stackTraces = false) {own : String} {ic : Nat}
    (hown : s.vm.findClass own = some m₀.cls) (h : ∀ a ∈ vn_all own ic, a.before args s = true)
    (hlocs : ∀ x ∈ locs, ∀ cell, s.heap[x.base]? = some cell → cell.vm.isStatics = false)
    {a : Addr} {cX : ClassId} {kX : Class} (hfoundX : s.vm.findClass "java/util/NoSuchElementException" = some cX) (hkX : s.vm.classes[cX]? = some kX) (hcell : W.heap[a]? = some (freshCell cX kX)) (hnew : s.heap.size ≤ a)
    {msg : Value} (hmsg : msg.isRef = true)
    {g : JFrame} (hg : g.method = m₀) (hsize : g.locals.size = c.maxLocals) (hlocked : g.locked = none) (hentered : g.entered = []) {rest : List Value} (hstack : g.stack = msg :: .ref a :: .ref a :: rest)
    (hd6 : decode c.code g.pc = .ok (.invokespecial ic, 3)) (hd9 : decode c.code (g.pc + 3) = .ok (.athrow, 1)) (hout : ∀ x ∈ c.exceptionTable.toList, covers x (g.pc + 3) = false)
    (hRframes : 2 + 3 < R.frames) (hRlocals : 2 * g.monitorRoom + ((Value.ref a :: rest).map fun v => v.category).sum + (13 * (2 + 1) + 42) ≤ R.locals) (hlocks : meth.locks = false) :
    ∃ U : State, Steps p.tables e below (W.setTop g) U ∧ U.status = .running ∧ Ended U below (.threw a) ∧ s.WarmedH U.vm ∧ s.sameButNew ({ U with vm := s.vm } : State) locs cells slots ∧
      ∃ ce, U.heap[a]? = some ce ∧ ce.vm = .none ∧ s.vm.findClass "java/util/NoSuchElementException" = some ce.cls := by
  have howns : e.platform.frameOwnsMonitors = true := by rw [X.admits.platform]
  have hfin : e.platform.finalization = false := by rw [X.admits.platform]
  have hpl : e.platform.magicAccessors = ({} : Platform).magicAccessors := by rw [X.admits.platform]
  have hr : ∀ x ∈ vn_rest own ic, x.holds args s none s [] = true := fun x hx => h x (vn_restmem hx)
  rw [vn_rest_eq] at hr
  obtain ⟨T, Z0, L, -, Y⟩ := ThrowableC.of_atoms (args := args) howns hfin hpl (fun x hx => h x (List.mem_append_left _ (List.mem_append_left _ (List.mem_append_left _ hx))))
  obtain ⟨Z, M, LZ, LM, hnZ⟩ := Init0T.ofS_atoms (args := args) hpl L Y (fun x hx => h x (List.mem_append_left _ (List.mem_append_left _ (List.mem_append_right _ hx))))
  obtain ⟨P1, Ps, hlen, L1, hL, hP1m, hlink1, hlink⟩ := vn_chainOk (args := args) hpl hnZ (fun x hx => h x (List.mem_append_left _ (List.mem_append_right _ hx)))
  have hfound : s.vm.findClass "java/util/NoSuchElementException" = some P1.m.cls := findClass_of_methodNamed hP1m
  cases Option.some.inj (hfoundX.symm.trans hfound)
  obtain ⟨c1, kX', hc1, hk, hord, -, -, -⟩ := Cond.instantiable_spec (hr (.instantiable "java/util/NoSuchElementException" 6) (by simp))
  cases Option.some.inj (hc1.symm.trans hfound)
  cases Option.some.inj (hkX.symm.trans hk)
  have hsel0 : selectMethod e.platform s.vm P1.m.cls T.fill0 = .method T.fill0 := by
    obtain ⟨c2, r2, m2, q1, q2, q3, q4, -⟩ := Cond.selects_spec (hr (.selects "java/util/NoSuchElementException" Bundle.tFill0 Bundle.tFill0) (by simp))
    cases Option.some.inj (q1.symm.trans hfound)
    cases Option.some.inj (q2.symm.trans (State.methodFound?_of_named Y.fill0 (by decide)))
    cases Option.some.inj (q3.symm.trans Y.fill0)
    rw [Launch.admits_selectMethod X.admits]; exact q4
  have hselF : selectMethod e.platform s.vm P1.m.cls T.fill = .method T.fill := by
    obtain ⟨c2, r2, m2, q1, q2, q3, q4, -⟩ := Cond.selects_spec (hr (.selects "java/util/NoSuchElementException" Bundle.tFill Bundle.tFill) (by simp))
    cases Option.some.inj (q1.symm.trans hfound)
    cases Option.some.inj (q2.symm.trans (State.methodFound?_of_named Y.fill (by decide)))
    cases Option.some.inj (q3.symm.trans Y.fill)
    rw [Launch.admits_selectMethod X.admits]; exact q4
  obtain ⟨cellS0, hcS0, hiss⟩ := Y.statics
  obtain ⟨u0, hu0⟩ := Cond.staticRefV Y.unassigned L.unassignedStatic L.statics hcS0 hiss (hr (.isRef (.static Bundle.tN "UNASSIGNED_STACK" Bundle.steD)) (by simp))
  obtain ⟨sen, hsen⟩ := Cond.staticRefV Y.sentinel L.sentinelStatic L.statics hcS0 hiss (hr (.isRef (.static Bundle.tN "SUPPRESSED_SENTINEL" Bundle.listD)) (by simp))
  obtain ⟨ci198, i198, fB, hk198, hg198, ha198, hsB, -, hnB, htB, hffB⟩ := Cond.ownField (t := .object "java/lang/Object") Y.found L.cls (by decide +kernel) (hr (.fieldLink Bundle.tN 198 Bundle.tN "backtrace" "Ljava/lang/Object;") (by simp)) (hr (.lays Bundle.tN Bundle.tN "backtrace" "Ljava/lang/Object;") (by simp)) e.platform hpl
  obtain ⟨cellS, hcS', heS, -, hkeep⟩ := X.same.2.2.2.2.2 T.aS cellS0 hcS0
  have hcellS : W.heap[T.aS]? = some cellS := hcS'
  have hout' : ∀ i, (⟨T.aS, i⟩ : Loc) ∉ locs := fun i hmem => by
    have := hlocs _ hmem cellS0 hcS0
    rw [hiss] at this; cases this
  have hknownS : cellS.vm ≠ .unknown := by
    rw [heS]; intro hu
    rw [show cellS0.vm = .unknown from hu] at hiss
    cases hiss
  have hneS : T.aS ≠ a := Nat.ne_of_lt (Nat.lt_of_lt_of_le (Array.getElem?_eq_some_iff.mp hcS0).1 hnew)
  obtain ⟨iM, hffM⟩ := Y.msg
  obtain ⟨tyC, dC, hdC, hdnC⟩ := Cond.laysAt hfound hk Y.cause (hr (.lays "java/util/NoSuchElementException" Bundle.tN "cause" "Ljava/lang/Throwable;") (by simp))
  obtain ⟨tyS, dS, hdS, hdnS⟩ := Cond.laysAt hfound hk Y.stack (hr (.lays "java/util/NoSuchElementException" Bundle.tN "stackTrace" Bundle.steD) (by simp))
  obtain ⟨tyP, dP, hdP, hdnP⟩ := Cond.laysAt hfound hk Y.supp (hr (.lays "java/util/NoSuchElementException" Bundle.tN "suppressedExceptions" Bundle.listD) (by simp))
  obtain ⟨tyM, dM, hdM, hdnM⟩ := Cond.laysAt hfound hk hffM (hr (.lays "java/util/NoSuchElementException" Bundle.tN "detailMessage" "Ljava/lang/String;") (by simp))
  obtain ⟨tyB, dB, hdB, hdnB⟩ := Cond.laysAt hfound hk hffB (hr (.lays "java/util/NoSuchElementException" Bundle.tN "backtrace" "Ljava/lang/Object;") (by simp))
  have bC := Cond.laysApart hdB hdC hdnB hdnC (by rw [hnB, Y.causeName]; decide)
  have bS := Cond.laysApart hdB hdS hdnB hdnS (by rw [hnB, Y.stackName]; decide)
  have bP := Cond.laysApart hdB hdP hdnB hdnP (by rw [hnB, Y.suppName]; decide)
  have hskip : SkipFacts T e.platform s (fun u => u) u0 ((preparedCellV T.toThrowableT (freshCell P1.m.cls kX) a u0 sen).withEntry W.cur) :=
    ⟨{ ci198 := ci198, i198 := i198, fBack := fB }, ⟨hk198, hg198, ha198, hsB⟩, by
      have := fresh_default (c := P1.m.cls) tyB
      rw [htB] at this
      simpa [preparedCellV, Cell.setSlot, Cell.withEntry, Array.getElem?_setIfInBounds, bC, bS, bP, bC.symm, bS.symm, bP.symm, defaultValue] using this, fun _ _ => rfl⟩
  have hci : (Cond.instanceMethod (Bundle.initS "java/util/NoSuchElementException")).before args s = true := h _ (List.mem_append_left _ (List.mem_append_right _ (List.mem_append_left _ (by simp [Bundle.passSAtoms]))))
  have hcc : (Cond.code (Bundle.initS "java/util/NoSuchElementException") prog_32_method_4_code 2 none).before args s = true := h _ (List.mem_append_left _ (List.mem_append_right _ (List.mem_append_left _ (by simp [Bundle.passSAtoms]))))
  obtain ⟨tm, methC, cdC, kC, vm₁, hnC, -, -, -, -, -, -, -, hW₁, st1⟩ := Steps.initColdS (tb := p.tables) (e := e) (below := below) (s := s) (U := W) X.here hexec X.warmed hpl hown (t := Bundle.initS "java/util/NoSuchElementException") rfl rfl ⟨by decide +kernel, by decide +kernel⟩
    (hr (.methodLink own ic (Bundle.initS "java/util/NoSuchElementException")) (by simp)) hci (bytes := prog_32_method_4_code) (maxL := 2) hcc
    (f := g) hg (a := a) (msg := msg) (rest := .ref a :: rest) hstack hd6
  cases Option.some.inj (hnC.symm.trans hP1m)
  have X₁ := X.noted hW₁
  obtain ⟨vm₂, X₂, st2⟩ := X₁.ctorMessageOffV hexec (g := { g with stack := .ref a :: rest }) hg hsize T L Z LZ M LM (P1 :: Ps)
    (fun P hP => by rcases List.mem_cons.mp hP with rfl | hP; exact L1; exact hL P hP) ⟨hlink1, hlink⟩ (u0 := u0) (sen := sen) (self := a) hmsg (cell := freshCell P1.m.cls kX) (cellS := cellS)
    hcell (fun _ => by simp) (by simp) rfl rfl hsel0 hselF hcellS hneS hknownS (by rw [hkeep _ (hout' _)]; exact hu0) (by rw [hkeep _ (hout' _)]; exact hsen)
    (Takes.of_laid hk hord tyC (by rw [Y.causeType]; rfl)) (Takes.of_laid hk hord tyS (by rw [Y.stackType]; exact fits_refV_array _ u0)) (Takes.of_laid hk hord tyP (by rw [Y.suppType]; exact fits_refV_object _ sen))
    (Takes.of_laid hk hord tyM (by rw [Y.msgType]; exact fits_refV_object _ ⟨msg, hmsg⟩)) Y.objLocals hskip htr [] hd6
    (by simp only [List.length_cons, hlen]; omega) (by simp only [List.length_cons, hlen]; exact hRlocals)
  obtain ⟨hwalk, hrun, hended, hWU, hsame⟩ := X₂.athrowLeaves hexec (g := { g with stack := .ref a :: rest, pc := g.pc + 3 }) hg hlocked hentered hout (a := a) (rest := rest) rfl hd9
  have hlt : a < ((W.setVm vm₁).setVm vm₂).heap.size := (Array.getElem?_eq_some_iff.mp hcell).1
  have hU := heapAt_setCell_self (s := (W.setVm vm₁).setVm vm₂) (plainBareV T.toThrowableT (freshCell P1.m.cls kX) a u0 sen msg) hlt
  refine ⟨_, st1 _ (fun acts => ?_), hrun, hended, hWU, hsame.weaken (fun y hy hlt' => ?_) (Nat.le_refl _) (Nat.le_refl _), _, hU, rfl, hfound⟩
  · rw [doInvoke_state]
    exact st2 _ hwalk
  · rcases List.mem_append.mp hy with h1 | h1
    · exact h1
    · exfalso
      have hb : y.base = a := by
        simp only [List.mem_cons, List.not_mem_nil, or_false] at h1
        rcases h1 with rfl | rfl | rfl | rfl | rfl <;> rfl
      rw [hb] at hlt'
      exact Nat.not_lt.mpr hnew hlt'
variable {p : Program} {l : Launch} {e : Env} {R : Room} {s : State} {m : MethodId} {args : Array Value} {below : List Frame} {meth : Method} {c : Code} {H : Heap} {locs : List Loc} {cells slots : Nat} {Q : State → Prop}
variable {free : Addr → Prop} {ls : Array Slot} {rest : List Value}
variable {Qc : Array Value → State → Outcome → State → Prop} {XC : String → State → State → Prop}
/-- the throw, the text by a narrow index -/
theorem vn_throwS {cc : ByteArray} {pc : Nat} (hexec : p.tables.exec = Jvm.exec) (hb : c.code = cc) (hl : l.stackTraces = false) {own text : String} {ik is ic mc ms sa : Nat} {A : Nat → Prop}
    (hown : s.vm.findClass own = some m.cls)
    (hk : (Cond.classLink own ik "java/util/NoSuchElementException").before args s = true) (hini : (Cond.initialized "java/util/NoSuchElementException").before args s = true) (hstr : vk_R own is text sa s) (hat : ∀ w ∈ vn_at own ic, w.before args s = true)
    (hgood : ∀ w ∈ Cond.classLink own ik "java/util/NoSuchElementException" :: Cond.initialized "java/util/NoSuchElementException" :: vn_at own ic, vx_ot w = true)
    (hU : vx_Zq Bundle.tN "UNASSIGNED_STACK" Bundle.steD A s s.heap) (hN : vx_Zq Bundle.tN "SUPPRESSED_SENTINEL" Bundle.listD A s s.heap) (hS : va_S A s.heap H locs) (hsize : ls.size = c.maxLocals)
    (d0 : decode cc pc = .ok (.new ik, 3)) (d3 : decode cc (pc + 3) = .ok (.dup, 1)) (d4 : decode cc (pc + 4) = .ok (.ldc is, 2)) (d6 : decode cc (pc + 6) = .ok (.invokespecial ic, 3)) (d9 : decode cc (pc + 9) = .ok (.athrow, 1))
    (hout : ∀ x ∈ c.exceptionTable.toList, covers x (pc + 9) = false)
    (hRframes : 2 + 3 < R.frames) (hRlocals : (rest.map fun v => v.category).sum + (13 * (2 + 1) + 43) ≤ R.locals) (hRcells : cells + 1 ≤ R.cells) (hRslots : slots + 6 ≤ R.slots) (hlocks : meth.locks = false)
    (hx : ∀ t : State, s.vm.Alike t.vm → H.size ≤ t.heap.size → (∀ q : Nat, q < H.size → t.heap[q]? = H[q]?) → XC "java/util/NoSuchElementException" s t)
    (hf : ∀ z ∈ locs, free z.base) (hc : cells + 1 ≤ mc) (hs : slots + 6 ≤ ms) :
    W p l e R s m args below meth c H locs cells slots (vx_MQ below Qc XC args s mc ms free) (F0 m pc ls rest) := by
  intro T hT X
  have htr : e.platform.stackTraces = false := (show e.platform.stackTraces = l.stackTraces by rw [X.admits.platform]).trans hl
  have Y := vx_rebase X (R' := { frames := R.frames, locals := R.locals, cells := 1, slots := 6 }) (Nat.le_refl _) (Nat.le_refl _) hRcells hRslots
  obtain ⟨s', hA⟩ : ∃ z, z = (T.setVm s.vm).setFrames (.invoking m args :: below) := ⟨_, rfl⟩
  rw [← hA] at Y
  have hvm : s'.vm = s.vm := by rw [hA]; rfl
  have hhp : s'.heap = H := by rw [hA]; exact hT
  have hW0 : s.WarmedH s'.vm := by rw [hvm]; exact State.WarmedH.refl s
  have hat' : ∀ w ∈ vn_at own ic, w.before args s' = true := fun w hw => vx_ot_at hW0 hvm.symm (hgood w (List.mem_cons_of_mem _ (List.mem_cons_of_mem _ hw))) (hat w hw)
  have hk' := vx_ot_at (a' := args) hW0 hvm.symm (hgood _ List.mem_cons_self) hk
  have hini' := vx_ot_at (a' := args) hW0 hvm.symm (hgood _ (List.mem_cons_of_mem _ List.mem_cons_self)) hini
  have hU' : vx_Zq Bundle.tN "UNASSIGNED_STACK" Bundle.steD A s' s'.heap := by rw [hhp]; exact vx_Zq.moved hW0.alike (hU.kept hS.2.1)
  have hN' : vx_Zq Bundle.tN "SUPPRESSED_SENTINEL" Bundle.listD A s' s'.heap := by rw [hhp]; exact vx_Zq.moved hW0.alike (hN.kept hS.2.1)
  have h : ∀ w ∈ vn_all own ic, w.before args s' = true := vx_own hat' (vx_isRefq hU'.1) (vx_isRefq hN'.1) hU'.2.word hN'.2.word
  have hown' : s'.vm.findClass own = some m.cls := by rw [hvm]; exact hown
  have hins : (Cond.instantiable "java/util/NoSuchElementException" 6).before args s' = true := h _ (vn_restmem (by rw [vn_rest_eq]; simp))
  obtain ⟨vm₁, cX, kX, hfX, hkX, -, -, X₁, st1⟩ := Y.newCold hexec (own := own) (C := "java/util/NoSuchElementException") (index := ik) (n := 6) hown' hk' hins hini'
    (g := F0 m pc ls rest) rfl (by rw [hb]; exact d0) (Nat.le_refl _) (Nat.le_refl _)
  generalize hT1 : (T.setVm vm₁).pushCell { cls := cX, slots := kX.instanceTypes.map defaultValue, vm := .none } = T1 at X₁ st1
  have hcat : (Value.ref T.heap.size).category = 1 := rfl
  have hcellA : T1.heap[T.heap.size]? = some (freshCell cX kX) := by rw [← hT1]; exact State.heap_pushCell_size _ _
  have d3' : decode c.code (pc + 3) = .ok (.dup, 1) := by rw [hb]; exact d3
  have d4' : decode c.code (pc + 4) = .ok (.ldc is, 2) := by rw [hb]; exact d4
  have hstr' : vk_R own is text sa s' := vk_R.warm hW0 hstr
  obtain ⟨U, hsteps, hrun, hend, hW, hsame, ce, hce, hO1, hO2⟩ := vn_ctorThrow X₁ hexec htr (own := own) (ic := ic) hown' h (fun x hx => nomatch hx) hfX hkX hcellA (by rw [hhp, hT]; exact Nat.le_refl _) (msg := .ref sa) rfl
    (g := { method := m, pc := pc + 6, locals := ls, stack := .ref sa :: .ref T.heap.size :: .ref T.heap.size :: rest, locked := none }) rfl hsize rfl rfl (rest := rest) rfl
    (by rw [hb]; exact d6) (by rw [hb]; exact d9) hout hRframes (by simp only [List.map_cons, List.sum_cons, hcat]; omega) hlocks
  obtain ⟨f1, f2⟩ := vx_frame hsame
  rw [hhp] at f1 f2
  have hWs : s.WarmedH U.vm := State.WarmedH.trans hW0 hW
  have hcl : s.vm.findClass "java/util/NoSuchElementException" = some ce.cls := by
    rw [hvm] at hO2
    exact hO2
  have hall : s.sameButNew ({ U with vm := s.vm } : State) locs mc ms := by
    subst hA
    obtain ⟨e1, e2⟩ := hsame
    rw [State.setFrames_setFrames] at e1
    have h2 : (T.setVm s.vm).sameButNew ({ U with vm := s.vm } : State) [] (0 + 1) (0 + 6) := ⟨e1, e2⟩
    have h3 := X.same.trans h2
    rw [List.append_nil] at h3
    exact h3.mono hc hs
  refine ⟨U, ?_, .threw T.heap.size, hrun, hend, Or.inr ⟨T.heap.size, rfl, _, ce, locs, hx U hWs.alike f1 (fun q hq => f2 q hq (fun z hz => nomatch hz)), hce, hO1, hcl, hWs, hall, hf⟩⟩
  refine st1 _ ?_
  show Steps p.tables e below (T1.setTop { method := m, pc := pc + 3, locals := ls, stack := .ref T.heap.size :: rest, locked := none }) _
  jvm_step X₁.here [X₁.here.top, hexec, d3', Value.category]
  exact X₁.ldcString hexec (own := own) (text := text) (index := is) (a := sa) hown' hstr'.1 hstr'.2
    (g := { method := m, pc := pc + 4, locals := ls, stack := .ref T.heap.size :: .ref T.heap.size :: rest, locked := none }) rfl d4' _ hsteps
/-- the throw, the text by a wide index -/
theorem vn_throwSW {cc : ByteArray} {pc : Nat} (hexec : p.tables.exec = Jvm.exec) (hb : c.code = cc) (hl : l.stackTraces = false) {own text : String} {ik is ic mc ms sa : Nat} {A : Nat → Prop}
    (hown : s.vm.findClass own = some m.cls)
    (hk : (Cond.classLink own ik "java/util/NoSuchElementException").before args s = true) (hini : (Cond.initialized "java/util/NoSuchElementException").before args s = true) (hstr : vk_R own is text sa s) (hat : ∀ w ∈ vn_at own ic, w.before args s = true)
    (hgood : ∀ w ∈ Cond.classLink own ik "java/util/NoSuchElementException" :: Cond.initialized "java/util/NoSuchElementException" :: vn_at own ic, vx_ot w = true)
    (hU : vx_Zq Bundle.tN "UNASSIGNED_STACK" Bundle.steD A s s.heap) (hN : vx_Zq Bundle.tN "SUPPRESSED_SENTINEL" Bundle.listD A s s.heap) (hS : va_S A s.heap H locs) (hsize : ls.size = c.maxLocals)
    (d0 : decode cc pc = .ok (.new ik, 3)) (d3 : decode cc (pc + 3) = .ok (.dup, 1)) (d4 : decode cc (pc + 4) = .ok (.ldc_w is, 3)) (d7 : decode cc (pc + 7) = .ok (.invokespecial ic, 3)) (d10 : decode cc (pc + 10) = .ok (.athrow, 1))
    (hout : ∀ x ∈ c.exceptionTable.toList, covers x (pc + 10) = false)
    (hRframes : 2 + 3 < R.frames) (hRlocals : (rest.map fun v => v.category).sum + (13 * (2 + 1) + 43) ≤ R.locals) (hRcells : cells + 1 ≤ R.cells) (hRslots : slots + 6 ≤ R.slots) (hlocks : meth.locks = false)
    (hx : ∀ t : State, s.vm.Alike t.vm → H.size ≤ t.heap.size → (∀ q : Nat, q < H.size → t.heap[q]? = H[q]?) → XC "java/util/NoSuchElementException" s t)
    (hf : ∀ z ∈ locs, free z.base) (hc : cells + 1 ≤ mc) (hs : slots + 6 ≤ ms) :
    W p l e R s m args below meth c H locs cells slots (vx_MQ below Qc XC args s mc ms free) (F0 m pc ls rest) := by
  intro T hT X
  have htr : e.platform.stackTraces = false := (show e.platform.stackTraces = l.stackTraces by rw [X.admits.platform]).trans hl
  have Y := vx_rebase X (R' := { frames := R.frames, locals := R.locals, cells := 1, slots := 6 }) (Nat.le_refl _) (Nat.le_refl _) hRcells hRslots
  obtain ⟨s', hA⟩ : ∃ z, z = (T.setVm s.vm).setFrames (.invoking m args :: below) := ⟨_, rfl⟩
  rw [← hA] at Y
  have hvm : s'.vm = s.vm := by rw [hA]; rfl
  have hhp : s'.heap = H := by rw [hA]; exact hT
  have hW0 : s.WarmedH s'.vm := by rw [hvm]; exact State.WarmedH.refl s
  have hat' : ∀ w ∈ vn_at own ic, w.before args s' = true := fun w hw => vx_ot_at hW0 hvm.symm (hgood w (List.mem_cons_of_mem _ (List.mem_cons_of_mem _ hw))) (hat w hw)
  have hk' := vx_ot_at (a' := args) hW0 hvm.symm (hgood _ List.mem_cons_self) hk
  have hini' := vx_ot_at (a' := args) hW0 hvm.symm (hgood _ (List.mem_cons_of_mem _ List.mem_cons_self)) hini
  have hU' : vx_Zq Bundle.tN "UNASSIGNED_STACK" Bundle.steD A s' s'.heap := by rw [hhp]; exact vx_Zq.moved hW0.alike (hU.kept hS.2.1)
  have hN' : vx_Zq Bundle.tN "SUPPRESSED_SENTINEL" Bundle.listD A s' s'.heap := by rw [hhp]; exact vx_Zq.moved hW0.alike (hN.kept hS.2.1)
  have h : ∀ w ∈ vn_all own ic, w.before args s' = true := vx_own hat' (vx_isRefq hU'.1) (vx_isRefq hN'.1) hU'.2.word hN'.2.word
  have hown' : s'.vm.findClass own = some m.cls := by rw [hvm]; exact hown
  have hins : (Cond.instantiable "java/util/NoSuchElementException" 6).before args s' = true := h _ (vn_restmem (by rw [vn_rest_eq]; simp))
  obtain ⟨vm₁, cX, kX, hfX, hkX, -, -, X₁, st1⟩ := Y.newCold hexec (own := own) (C := "java/util/NoSuchElementException") (index := ik) (n := 6) hown' hk' hins hini'
    (g := F0 m pc ls rest) rfl (by rw [hb]; exact d0) (Nat.le_refl _) (Nat.le_refl _)
  generalize hT1 : (T.setVm vm₁).pushCell { cls := cX, slots := kX.instanceTypes.map defaultValue, vm := .none } = T1 at X₁ st1
  have hcat : (Value.ref T.heap.size).category = 1 := rfl
  have hcellA : T1.heap[T.heap.size]? = some (freshCell cX kX) := by rw [← hT1]; exact State.heap_pushCell_size _ _
  have d3' : decode c.code (pc + 3) = .ok (.dup, 1) := by rw [hb]; exact d3
  have d4' : decode c.code (pc + 4) = .ok (.ldc_w is, 3) := by rw [hb]; exact d4
  have hstr' : vk_R own is text sa s' := vk_R.warm hW0 hstr
  obtain ⟨U, hsteps, hrun, hend, hW, hsame, ce, hce, hO1, hO2⟩ := vn_ctorThrow X₁ hexec htr (own := own) (ic := ic) hown' h (fun x hx => nomatch hx) hfX hkX hcellA (by rw [hhp, hT]; exact Nat.le_refl _) (msg := .ref sa) rfl
    (g := { method := m, pc := pc + 7, locals := ls, stack := .ref sa :: .ref T.heap.size :: .ref T.heap.size :: rest, locked := none }) rfl hsize rfl rfl (rest := rest) rfl
    (by rw [hb]; exact d7) (by rw [hb]; exact d10) hout hRframes (by simp only [List.map_cons, List.sum_cons, hcat]; omega) hlocks
  obtain ⟨f1, f2⟩ := vx_frame hsame
  rw [hhp] at f1 f2
  have hWs : s.WarmedH U.vm := State.WarmedH.trans hW0 hW
  have hcl : s.vm.findClass "java/util/NoSuchElementException" = some ce.cls := by
    rw [hvm] at hO2
    exact hO2
  have hall : s.sameButNew ({ U with vm := s.vm } : State) locs mc ms := by
    subst hA
    obtain ⟨e1, e2⟩ := hsame
    rw [State.setFrames_setFrames] at e1
    have h2 : (T.setVm s.vm).sameButNew ({ U with vm := s.vm } : State) [] (0 + 1) (0 + 6) := ⟨e1, e2⟩
    have h3 := X.same.trans h2
    rw [List.append_nil] at h3
    exact h3.mono hc hs
  refine ⟨U, ?_, .threw T.heap.size, hrun, hend, Or.inr ⟨T.heap.size, rfl, _, ce, locs, hx U hWs.alike f1 (fun q hq => f2 q hq (fun z hz => nomatch hz)), hce, hO1, hcl, hWs, hall, hf⟩⟩
  refine st1 _ ?_
  show Steps p.tables e below (T1.setTop { method := m, pc := pc + 3, locals := ls, stack := .ref T.heap.size :: rest, locked := none }) _
  jvm_step X₁.here [X₁.here.top, hexec, d3', Value.category]
  exact X₁.ldcStringW hexec (own := own) (text := text) (index := is) (a := sa) hown' hstr'.1 hstr'.2
    (g := { method := m, pc := pc + 4, locals := ls, stack := .ref T.heap.size :: .ref T.heap.size :: rest, locked := none }) rfl d4' _ hsteps
end VNS
end
section
/-! ===== throw new E(text) out of a method ===== -/
/-- words that hold in every frame if they hold at the law's entry -/
def am_wk (w : Cond) : Bool := goodWord w || (match w with | .castable .. => true | .declares .. => true | .methodLinkNest .. => true | _ => false)
theorem am_wk_ok {w : Cond} {s0 s : State} {args : Array Value} (h : am_wk w = true) (h0 : w.before #[] s0 = true) (hW : s0.WarmedH s.vm) : w.before args s = true := by
  unfold am_wk at h
  rw [Bool.or_eq_true] at h
  rcases h with h | h
  · exact word_at hW (good_of_word h) h0
  · split at h
    · exact va_tabs rfl rfl (va_Nw.warmC hW h0)
    · exact va_tabs rfl rfl (va_Nw.warmD hW h0)
    · exact va_tabs rfl rfl (va_Nw.warmM hW h0)
    · cases h
/-- the texts of the throws: class, place, text -/
def am_strs : List (String × Nat × String) := [("CombCylinder", 68, "the place is for a bell"), ("CombCylinder", 77, "the place is for a tooth"), ("CombCylinder", 106, "there is no such end"), ("CombCylinder", 116, "too little steel would be left"), ("CombCylinder", 131, "the lead would be out of range"), ("CombCylinder", 133, "there is no such kind"), ("CombCylinder", 142, "it has no damper"), ("CombCylinder", 155, "the sheet is full"), ("CombCylinder", 171, "the cylinder is full"), ("CombCylinder", 176, "it would come too near to another pin"), ("CombCylinder", 187, "there is no such pin"), ("CombCylinder", 326, "it is not lost, or there is no tuning"), ("CombCylinder", 337, "too many teeth are lost"), ("CombCylinder", 357, "no pin is on any sheet"), ("CombCylinder", 377, "there are no voices that are not broken"), ("CombCylinder", 396, "a number is out of range"), ("CombCylinder", 400, "there is no such place, air or tick"), ("CombCylinder", 403, "it is broken"), ("CombCylinder", 405, "nothing is there"), ("CombCylinder", 407, "there is no cylinder"), ("CombCylinder", 412, "it is cemented")]
/-- what holds at the law's entry -/
def am_Gl (l : Launch) (Y : am_Y) : Prop := l.stackTraces = false ∧ am_Kl Y ∧ am_AO Y ∧ (∀ w ∈ lw_tbl, am_wk w = true → w.before #[] Y.1 = true) ∧ vx_Zq Bundle.tN "UNASSIGNED_STACK" Bundle.steD (fun q => Y.1.heap.size ≤ q) Y.1 Y.1.heap ∧ vx_Zq Bundle.tN "SUPPRESSED_SENTINEL" Bundle.listD (fun q => Y.1.heap.size ≤ q) Y.1 Y.1.heap ∧
  (∀ q ∈ am_strs, ∃ sa, vk_R q.1 q.2.1 q.2.2 sa Y.1) ∧ (∀ (i j : Nat) (E F : String), i ≠ j → am_ex[i]? = some E → am_ex[j]? = some F → va_Nc E F Y.1)
def am_rte : List String := ["java/lang/RuntimeException", "java/lang/Exception"]
def am_tws (own : String) (ic : Nat) (E : String) : List Cond := if E = "java/util/NoSuchElementException" then vn_at own ic else vx_atS own ic E am_rte
/-- a throw's words are the tables' -/
def am_tw (own : String) (ik is ic : Nat) (E text : String) : Bool := decide ((own, is, text) ∈ am_strs) && (decide (Cond.classLink own ik E ∈ lw_tbl) && decide (Cond.initialized E ∈ lw_tbl)) && (am_tws own ic E).all (fun w => decide (w ∈ lw_tbl) && am_wk w && vx_ot w) && Bundle.fit E && am_rte.all Bundle.fit
section AMTHR
variable {p : Program} {l : Launch} {e : Env} {R : Room} {s : State} {m : MethodId} {args : Array Value} {below : List Frame} {meth : Method} {c : Code} {Q : State → Prop} {Y : am_Y} {A : am_A} {ad0 : List Nat} {nL c0 q0 : Nat} {code : ByteArray} {rt : Option FieldType}
variable {sub : Nat → am_G} {go : am_G} {jmp : Nat → am_G} {pc : Nat} {own : String}
theorem am_sThrow (hG : am_Gl l Y) (hF : am_Fm p s m args meth c Y own code nL rt) (hfr : 20 ≤ R.frames) (hlr : 400 ≤ R.locals) (htab : c.exceptionTable.toList = []) {ei ik is ic : Nat} {E text : String} (hE : am_ex[ei]? = some E) (hw : am_tw own ik is ic E text = true) (d0 : decode code pc = .ok (.new ik, 3)) (d3 : decode code (pc + 3) = .ok (.dup, 1))
    (d4 : (decode code (pc + 4) = .ok (.ldc is, 2) ∧ decode code (pc + 6) = .ok (.invokespecial ic, 3) ∧ decode code (pc + 9) = .ok (.athrow, 1)) ∨ (decode code (pc + 4) = .ok (.ldc_w is, 3) ∧ decode code (pc + 7) = .ok (.invokespecial ic, 3) ∧ decode code (pc + 10) = .ok (.athrow, 1))) : am_Snd p l e R s m args below meth c Q Y ad0 nL c0 q0 code rt (am_oThrow pc ei A sub go jmp) pc := by
  intro lo stk h nc ns o ho
  obtain ⟨hc, ho1⟩ := am_if_some ho
  cases ho1
  refine ⟨Nat.le_succ _, Nat.le_add_right _ _, ⟨fun q => (by cases q), fun q => (by cases q), fun _ => htab⟩, fun ad H locs ls S hp hlo hs r1 r2 hkt => ?_⟩
  obtain ⟨Qc, XC, mc, ms, rfl, b1, b2, b3⟩ := ((hkt ad H locs ls S (am_le_rf ad) hp hlo hs).2 rfl E hE).2
  have hcat := am_St_cat hs
  have hsh := am_sh_ok hc
  obtain ⟨hl, -, -, hall, hU, hN, hstr, -⟩ := hG
  obtain ⟨hx, hb, hml, hown, hts, hlocks, -, hW, hold, hsz⟩ := hF
  simp only [am_tw, Bool.and_eq_true, decide_eq_true_eq] at hw
  obtain ⟨⟨⟨⟨w1, w2, w3⟩, w4⟩, w5⟩, w6⟩ := hw
  have w4 := List.all_eq_true.mp w4
  have w6 := List.all_eq_true.mp w6
  obtain ⟨sa, hsa⟩ := hstr _ w1
  have hk : (Cond.classLink own ik E).before args s = true := am_wk_ok rfl (hall _ w2 rfl) hW
  have hini : (Cond.initialized E).before args s = true := am_wk_ok rfl (hall _ w3 rfl) hW
  have hat : ∀ w ∈ am_tws own ic E, w.before args s = true := fun w hw => by
    have q := w4 w hw
    simp only [Bool.and_eq_true, decide_eq_true_eq] at q
    exact am_wk_ok q.1.2 (hall _ q.1.1 q.1.2) hW
  have hgood : ∀ w ∈ Cond.classLink own ik E :: Cond.initialized E :: am_tws own ic E, vx_ot w = true := fun w hw => by
    rcases List.mem_cons.mp hw with rfl | hw
    · rfl
    · rcases List.mem_cons.mp hw with rfl | hw
      · rfl
      · have q := w4 w hw
        simp only [Bool.and_eq_true, decide_eq_true_eq] at q
        exact q.2
  have hZ : ∀ {C n d : String}, vx_Zq C n d (fun q => Y.1.heap.size ≤ q) Y.1 Y.1.heap → vx_Zq C n d (fun q => Y.1.heap.size ≤ q) s s.heap := fun h => (h.moved hW.alike).kept (fun a ha _ => hold a ha)
  have hS : va_S (fun q => Y.1.heap.size ≤ q) s.heap H locs := ⟨hp.2.1, fun q h1 h2 => hp.2.2.1 q h1 (fun h3 => h2 (hp.1.2.2.1 q (hp.2.2.2.2.2 q h3)).1), hp.2.2.2.1⟩
  have hout : ∀ pc', ∀ x ∈ c.exceptionTable.toList, covers x pc' = false := fun pc' x hx => by rw [htab] at hx; cases hx
  have hsize := (am_Lo_size hlo).trans hml.symm
  by_cases hNS : E = "java/util/NoSuchElementException"
  · subst hNS
    unfold am_tws at hat hgood
    rw [if_pos rfl] at hat hgood
    rcases d4 with ⟨d4, d6, d9⟩ | ⟨d4, d6, d9⟩
    · exact vn_throwS hx hb hl hown hk hini (vk_R.warm hW hsa) hat hgood (hZ hU) (hZ hN) hS hsize d0 d3 d4 d6 d9 (hout _) (by omega) (by omega) (by omega) (by omega) hlocks (fun t h1 h2 h3 => b3 t h1 h2 h3) hp.2.2.2.1 (by omega) (by omega)
    · exact vn_throwSW hx hb hl hown hk hini (vk_R.warm hW hsa) hat hgood (hZ hU) (hZ hN) hS hsize d0 d3 d4 d6 d9 (hout _) (by omega) (by omega) (by omega) (by omega) hlocks (fun t h1 h2 h3 => b3 t h1 h2 h3) hp.2.2.2.1 (by omega) (by omega)
  unfold am_tws at hat hgood
  rw [if_neg hNS] at hat hgood
  rcases d4 with ⟨d4, d6, d9⟩ | ⟨d4, d6, d9⟩
  · exact vx_throwS hx hb hl hown w5 w6 hk hini (vk_R.warm hW hsa) hat hgood (hZ hU) (hZ hN) hS hsize d0 d3 d4 d6 d9 (hout _) (by show 2 + 3 < _; omega) (by show _ + (13 * (2 + 1) + 43) ≤ _; omega) (by omega) (by omega) hlocks (fun t h1 h2 h3 => b3 t h1 h2 h3) hp.2.2.2.1 (by omega) (by omega)
  · exact vx_throwSW hx hb hl hown w5 w6 hk hini (vk_R.warm hW hsa) hat hgood (hZ hU) (hZ hN) hS hsize d0 d3 d4 d6 d9 (hout _) (by show 2 + 3 < _; omega) (by show _ + (13 * (2 + 1) + 43) ≤ _; omega) (by omega) (by omega) hlocks (fun t h1 h2 h3 => b3 t h1 h2 h3) hp.2.2.2.1 (by omega) (by omega)
end AMTHR
end
section
/-! ===== calls: a callee's contract out of its run, and a call by it ===== -/
/-- the word of a method's own code -/
def am_head (M : am_M) : Cond := match M.2.2.2.2.1 with
  | [] => .code M.1 M.2.1 M.2.2.1 M.2.2.2.1
  | hh => .codeWith M.1 M.2.1 M.2.2.1 M.2.2.2.1 hh
def am_Pc (Y : am_Y) (ad : List Nat) (as : List am_V) (h : am_H) : Array Value → State → Prop := fun v U => (∃ vs, am_St Y ad as vs ∧ v = vs.toArray) ∧ Y.1.WarmedH U.vm ∧ (∀ q : Nat, q < Y.1.heap.size → U.heap[q]? = Y.1.heap[q]?) ∧ Y.1.heap.size ≤ U.heap.size ∧ am_Rep Y ad h U.heap
def am_Qc (Y : am_Y) (ad : List Nat) (o : am_O) : Array Value → State → Outcome → State → Prop := fun _ st oc t => ∃ ad', am_le ad ad' ∧ am_HP Y st ad ad' o.2.2.2.2.2.1 t.heap [] ∧ ((o.1 = 0 ∧ oc = .returned none) ∨ (o.1 = 1 ∧ ∃ V, am_V1 Y ad' o.2.1 V ∧ oc = .returned (some V)))
def am_XC (Y : am_Y) (ad : List Nat) (o : am_O) : String → State → State → Prop := fun E st t => o.1 = 2 ∧ am_ex[o.2.1.1]? = some E ∧ ∃ ad', am_le ad ad' ∧ am_HP Y st ad ad' o.2.2.2.2.2.1 t.heap []
theorem am_HP_nil {Y : am_Y} {s : State} {ad0 ad : List Nat} {h : am_H} {H : Heap} {locs : List Loc} (hp : am_HP Y s ad0 ad h H locs) : am_HP Y s ad0 ad h H [] := by
  obtain ⟨r, f1, f2, f3, f4, f5⟩ := hp
  exact ⟨r, f1, f2, fun _ h => (by cases h), f4, f5⟩
theorem am_HP_start {Y : am_Y} {s : State} {ad : List Nat} {h : am_H} (hr : am_Rep Y ad h s.heap) : am_HP Y s ad ad h s.heap [] :=
  ⟨hr, Nat.le_refl _, fun _ _ _ => rfl, fun _ h => (by cases h), fun _ h => Or.inl h, fun _ h => h⟩
/-- a callee's end within the caller -/
theorem am_HP_comp {Y : am_Y} {s st : State} {ad0 ad ad' : List Nat} {h h' : am_H} {H H' : Heap} {locs L : List Loc} (hp : am_HP Y s ad0 ad h H locs) (h0 : st.heap = H) (hq : am_HP Y st ad ad' h' H' []) (hL : ∀ z ∈ L, Y.1.heap.size ≤ z.base) : am_HP Y s ad0 ad' h' H' (locs ++ L) := by
  obtain ⟨r, f1, f2, f3, f4, f5⟩ := hp
  obtain ⟨r', g1, g2, g3, g4, g5⟩ := hq
  rw [h0] at g1 g2 g4
  refine ⟨r', Nat.le_trans f1 g1, fun q h1 h2 => ?_, fun z hz => ?_, fun a ha => ?_, fun a ha => g5 a (f5 a ha)⟩
  · rw [g2 q (Nat.lt_of_lt_of_le h1 f1) (fun h3 => ?_)]
    · exact f2 q h1 h2
    · rcases f4 q h3 with k | k
      · exact h2 k
      · omega
  · rcases List.mem_append.mp hz with k | k
    · exact f3 z k
    · exact hL z k
  · rcases g4 a ha with k | k
    · exact f4 a k
    · exact Or.inr (Nat.le_trans f1 k)
/-- a method's frame at its entry -/
theorem am_entry {Y : am_Y} {ad : List Nat} : ∀ {as : List am_V} {vs : List Value} {n : Nat} {lo : List am_V}, am_St Y ad as vs → am_pad am_un0 (am_lay as) n = some lo → (lg_sl vs).length ≤ n ∧ lo.length = n ∧ ∀ (i0 i : Nat) (v : am_V), lo[i]? = some v → v.1 ≠ 98 → ∃ V, am_V1 Y ad v V ∧ (i0 + i, V) ∈ lv_args i0 vs := by
  intro as
  induction as with
  | nil =>
    intro vs n lo hs hp
    have e := am_St_nil hs
    subst e
    have hp2 : some (am_rep n am_un0) = some lo := hp
    cases hp2
    refine ⟨Nat.zero_le _, by rw [am_rep_eq, List.length_replicate], fun i0 i v hv hn => ?_⟩
    rw [am_rep_eq, List.getElem?_replicate] at hv
    split at hv
    · cases hv
      exact absurd rfl hn
    · cases hv
  | cons a as ih =>
    intro vs n lo hs hp
    obtain ⟨V, vs', rfl, k1, k2⟩ := am_St_cons hs
    have hcat := am_cat k1
    have step : ∀ (x : am_V) (l : List am_V) (n : Nat) (lo : List am_V), am_pad am_un0 (x :: l) n = some lo → ∃ m t, n = m + 1 ∧ am_pad am_un0 l m = some t ∧ lo = x :: t := by
      intro x l n lo h
      cases n with
      | zero => cases h
      | succ m =>
        have h2 : am_ob (am_pad am_un0 l m) (fun t => some (x :: t)) = some lo := h
        obtain ⟨t, h3, h4⟩ := am_ob_some h2
        cases h4
        exact ⟨m, t, rfl, h3, rfl⟩
    have hp1 : am_pad am_un0 (am_if (am_c2 a) (a :: am_un0 :: am_lay as) (a :: am_lay as)) n = some lo := hp
    cases hc : am_c2 a with
    | false =>
      rw [hc] at hp1 hcat
      obtain ⟨m, t, rfl, h1, rfl⟩ := step a (am_lay as) n lo hp1
      obtain ⟨i1, i2, i3⟩ := ih k2 h1
      have hc1 : V.category = 1 := hcat
      refine ⟨?_, by simp [i2], fun i0 i v hv hn => ?_⟩
      · have e : lg_sl (V :: vs') = [.val V] ++ lg_sl vs' := by simp [lg_sl, hc1]
        rw [e]
        simp
        omega
      · have e : lv_args i0 (V :: vs') = (i0, V) :: lv_args (i0 + 1) vs' := by simp [lv_args, hc1]
        rw [e]
        cases i with
        | zero =>
          have e2 : a = v := by simpa using hv
          subst e2
          exact ⟨V, k1, List.mem_cons_self⟩
        | succ i =>
          obtain ⟨V2, j1, j2⟩ := i3 (i0 + 1) i v (by simpa using hv) hn
          exact ⟨V2, j1, List.mem_cons_of_mem _ (by rw [show i0 + (i + 1) = i0 + 1 + i by omega]; exact j2)⟩
    | true =>
      rw [hc] at hp1 hcat
      obtain ⟨m, t, rfl, h1, rfl⟩ := step a (am_un0 :: am_lay as) n lo hp1
      obtain ⟨m2, t2, rfl, h2, rfl⟩ := step am_un0 (am_lay as) m t h1
      obtain ⟨i1, i2, i3⟩ := ih k2 h2
      have hc1 : V.category = 2 := hcat
      refine ⟨?_, by simp [i2], fun i0 i v hv hn => ?_⟩
      · have e : lg_sl (V :: vs') = [.val V, .second] ++ lg_sl vs' := by simp [lg_sl, hc1]
        rw [e]
        simp
        omega
      · have e : lv_args i0 (V :: vs') = (i0, V) :: lv_args (i0 + 2) vs' := by simp [lv_args, hc1]
        rw [e]
        match i, hv with
        | 0, hv =>
          have e2 : a = v := by simpa using hv
          subst e2
          exact ⟨V, k1, List.mem_cons_self⟩
        | 1, hv =>
          have e2 : am_un0 = v := by simpa using hv
          subst e2
          exact absurd rfl hn
        | i + 2, hv =>
          obtain ⟨V2, j1, j2⟩ := i3 (i0 + 2) i v (by simpa using hv) hn
          exact ⟨V2, j1, List.mem_cons_of_mem _ (by rw [show i0 + (i + 2) = i0 + 2 + i by omega]; exact j2)⟩
theorem am_tabOf {M : am_M} {s : State} {args : Array Value} {p : Program} {l : Launch} {S : Spec} {e : Env} {m : MethodId} {below : List Frame} {meth : Method} {c : Code} {s₁ : State} (B : BodyLoose p l M.1 S M.2.1 M.2.2.1 M.2.2.2.1 e s m args below meth c s₁) (h : (am_head M).before args s = true) : c.exceptionTable.toList = tableOf M.2.2.2.2.1 := by
  unfold am_head at h
  split at h
  · rename_i hh
    rw [hh]
    obtain ⟨meth9, c9, h1, h2, -, -, -, -, h7, -⟩ := Cond.code_spec B.named h
    cases Option.some.inj (h1.symm.trans B.method)
    cases Option.some.inj (h2.symm.trans (Stand.of_body B).code)
    rw [Array.isEmpty_iff.mp h7]
    rfl
  · exact vx_table (x := M.1) B h
/-- the callee's contract, out of the soundness of its run -/
theorem am_callee {l : Launch} {Y : am_Y} {M : am_M} {d : Nat} {g : am_G} {as lo1 : List am_V} {h : am_H} {o : am_O} (hpl : plainName M.1.cls = true) (hpad : am_pad am_un0 (am_lay as) M.2.2.1 = some lo1) (hrun : g lo1 [] h 0 0 = some o) (ho : o.1 ≤ 2)
    (hsnd : ∀ (ad : List Nat) (p : Program) (e : Env) (s : State) (m : MethodId) (args : Array Value) (below : List Frame) (meth : Method) (c : Code) (Q : State → Prop), am_Fm p s m args meth c Y M.1.cls M.2.1 M.2.2.1 M.2.2.2.1 → c.exceptionTable.toList = tableOf M.2.2.2.2.1 → meth.name = M.1.name → am_Snd p l e (am_rm d o.2.2.2.2.2.2.1 o.2.2.2.2.2.2.2) s m args below meth c Q Y ad M.2.2.1 0 0 M.2.1 M.2.2.2.1 g 0) (ad : List Nat) :
    vx_Met l M.1 (am_head M :: am_ws) (am_rm d o.2.2.2.2.2.2.1 o.2.2.2.2.2.2.2) (am_Pc Y ad as h) (am_Qc Y ad o) (am_XC Y ad o) o.2.2.2.2.2.2.1 o.2.2.2.2.2.2.2 (fun q => Y.1.heap.size ≤ q) := by
  have body : ∀ (p : Program) (e : Env) (s : State) (m : MethodId) (args : Array Value) (below : List Frame) (meth : Method) (c : Code) (s₁ : State), BodyLoose p l M.1 (headSpec (am_head M :: am_ws) (am_rm d o.2.2.2.2.2.2.1 o.2.2.2.2.2.2.2)) M.2.1 M.2.2.1 M.2.2.2.1 e s m args below meth c s₁ → c.maxLocals = M.2.2.1 → am_Pc Y ad as h args s →
      W p l e (headSpec (am_head M :: am_ws) (am_rm d o.2.2.2.2.2.2.1 o.2.2.2.2.2.2.2)).room s m args below meth c s.heap [] 0 0 (vx_MQ below (am_Qc Y ad o) (am_XC Y ad o) args s o.2.2.2.2.2.2.1 o.2.2.2.2.2.2.2 (fun q => Y.1.heap.size ≤ q)) (entryFrame m args M.2.2.1) := by
    intro p e s m args below meth c s₁ B hml hP
    obtain ⟨⟨vs, hvs, rfl⟩, hW, hold, hsz, hrep⟩ := hP
    have hts0 := atoms_spec (ws := am_head M :: am_ws) B.pre
    have hF : am_Fm p s m vs.toArray meth c Y M.1.cls M.2.1 M.2.2.1 M.2.2.2.1 := ⟨B.exec, B.bytes, hml, findClass_of_methodNamed B.named, fun w hw => hts0 w (List.mem_cons_of_mem _ hw), B.notSynchronized, B.returns, hW, hold, hsz⟩
    have htab := am_tabOf B (hts0 _ List.mem_cons_self)
    obtain ⟨g1, g2, g3, g4⟩ := hsnd ad p e s m vs.toArray below meth c (vx_MQ below (am_Qc Y ad o) (am_XC Y ad o) vs.toArray s o.2.2.2.2.2.2.1 o.2.2.2.2.2.2.2 (fun q => Y.1.heap.size ≤ q)) hF htab (name_of_methodNamed B.named B.method).1 lo1 [] h 0 0 o hrun
    obtain ⟨e1, e2, e3⟩ := am_entry hvs hpad
    have hlo : am_Lo Y ad M.2.2.1 lo1 (lg_sl vs ++ List.replicate (M.2.2.1 - (lg_sl vs).length) Slot.unset).toArray := ⟨e2, lv_args 0 vs, lv_entry vs e1, fun i v hv hn => by
      obtain ⟨V, j1, j2⟩ := e3 0 i v hv hn
      rw [Nat.zero_add] at j2
      exact ⟨V, j1, j2⟩⟩
    rw [lg_entry_eq]
    refine g4 ad s.heap [] _ [] (am_HP_start hrep) hlo trivial (by show 0 + _ ≤ o.2.2.2.2.2.2.1; omega) (by show 0 + _ ≤ o.2.2.2.2.2.2.2; omega) ?_
    intro ad' H' locs' ls' S' hle hp' hlo' hs'
    obtain ⟨q0, q1, q2⟩ := g3
    have hx := hF.1
    have hb := hF.2.1
    have hr := hF.2.2.2.2.2.2.1
    have hlocks := hF.2.2.2.2.2.1
    have hz1 : 0 + o.2.2.2.2.2.2.1 = o.2.2.2.2.2.2.1 := Nat.zero_add _
    have hz2 : 0 + o.2.2.2.2.2.2.2 = o.2.2.2.2.2.2.2 := Nat.zero_add _
    refine ⟨fun hk => ?_, fun hk E hE => ⟨fun q ce pc' hce hcv hcl => ?_, am_Qc Y ad o, am_XC Y ad o, _, _, rfl, by omega, by omega, fun t h1 h2 h3 => ⟨hk, hE, ad', hle, am_HP_nil (am_HP_grow hp' h2 h3)⟩⟩⟩
    · rw [hz1, hz2]
      refine vx_ret ?_
      rcases (show o.1 = 0 ∨ o.1 = 1 by omega) with k | k
      · obtain ⟨k1, k2, k3⟩ := q0 k
        rw [k1] at hs'
        have e0 := am_St_nil hs'
        subst e0
        exact W.vret hx hb (hr.trans k3) (fun t' ht _ => ⟨ad', hle, by rw [ht]; exact am_HP_nil hp', Or.inl ⟨k, rfl⟩⟩) hp'.2.2.2.1 k2 hlocks
      · obtain ⟨k1, t, k2, k3, k4⟩ := q1 k
        rw [k1] at hs'
        obtain ⟨V, S2, rfl, j1, j2⟩ := am_St_cons hs'
        have e0 := am_St_nil j2
        subst e0
        obtain ⟨n1, n2⟩ := am_fit_ok k3 j1
        have hend : ∀ t' : State, t'.heap = H' → s.WarmedH t'.vm → am_Qc Y ad o vs.toArray s (.returned (some V)) t' := fun t' ht _ => ⟨ad', hle, by rw [ht]; exact am_HP_nil hp', Or.inr ⟨k, V, j1, rfl⟩⟩
        have hr2 : meth.sig.returnType = some t := hr.trans k2
        rcases k4 with ⟨z1, z2⟩ | ⟨z1, z2⟩ | ⟨z1, z2⟩ | ⟨z1, z2⟩ | ⟨z1, z2⟩
        · obtain ⟨x, rfl⟩ := am_tI_ok j1 z1
          exact W.zret hx hb hr2 n1 hend hp'.2.2.2.1 z2 hlocks
        · obtain ⟨x, rfl⟩ := am_tL_ok j1 z1
          have et : t = .long := by
            cases t <;> first | rfl | (exfalso; simp [fits] at n2)
          subst et
          exact W.lret hx hb hr2 hend hp'.2.2.2.1 z2 hlocks
        · obtain ⟨x, rfl⟩ := am_tF_ok j1 z1
          have et : t = .float := by
            cases t <;> first | rfl | (exfalso; simp [fits] at n2)
          subst et
          exact W.fret hx hb hr2 hend hp'.2.2.2.1 z2 hlocks
        · obtain ⟨x, rfl⟩ := am_tD_ok j1 z1
          have et : t = .double := by
            cases t <;> first | rfl | (exfalso; simp [fits] at n2)
          subst et
          exact W.dret hx hb hr2 hend hp'.2.2.2.1 z2 hlocks
        · obtain ⟨x, rfl⟩ := am_tR_ok j1 z1
          have et : (∃ n, t = .object n) ∨ ∃ t2, t = .array t2 := by
            cases t with
            | object n => exact Or.inl ⟨n, rfl⟩
            | array n => exact Or.inr ⟨n, rfl⟩
            | _ => exfalso; simp [fits] at n2
          exact W.aret hx hb hr2 et (Or.inr ⟨x, rfl⟩) hend hp'.2.2.2.1 z2 hlocks
    · exact vx_out (E := E) (fun x hx2 => by rw [q2 hk] at hx2; cases hx2) hlocks hce hcv hcl (fun t h1 h2 => ⟨hk, hE, ad', hle, by rw [h1]; exact am_HP_nil hp'⟩) hp'.2.2.2.1 (by omega) (by omega)
  cases htb : M.2.2.2.2.1 with
  | nil => exact vx_ofW (cc := M.2.1) (maxL := M.2.2.1) (ret := M.2.2.2.1) (ws' := am_ws) hpl (by unfold am_head; rw [htb]) (fun p e s m args below meth c s₁ B hml _ hP => body p e s m args below meth c s₁ B hml hP)
  | cons x xs => exact vx_ofWH (cc := M.2.1) (maxL := M.2.2.1) (ret := M.2.2.2.1) (ws' := am_ws) (hh := x :: xs) hpl (by unfold am_head; rw [htb]) (fun p e s m args below meth c s₁ B hml hP => body p e s m args below meth c s₁ B hml hP)
end
section
/-! ===== a call ===== -/
theorem am_pop_some {α β : Type} {n : Nat} {k : List α → List α → Option β} {stk : List α} {r : β} (h : am_pop n k stk = some r) : ∃ as rest, stk = as.reverse ++ rest ∧ as.length = n ∧ k as rest = some r := by
  have key : ∀ (n : Nat) (acc stk : List α), Nat.rec (motive := fun _ => List α → List α → Option β) k (fun _ ih acc st => am_lc st (fun v rest => ih (v :: acc) rest)) n acc stk = some r → ∃ as rest, stk = as.reverse ++ rest ∧ as.length = n ∧ k (as ++ acc) rest = some r := by
    intro n
    induction n with
    | zero => intro acc stk h; exact ⟨[], stk, rfl, rfl, h⟩
    | succ n ih =>
      intro acc stk h
      obtain ⟨v, rest, rfl, h1⟩ := am_lc_some h
      obtain ⟨as, rest2, rfl, h3, h4⟩ := ih (v :: acc) rest h1
      refine ⟨as ++ [v], rest2, by simp, by simp [h3], ?_⟩
      rw [List.append_assoc]
      exact h4
  obtain ⟨as, rest, h1, h2, h3⟩ := key n [] stk h
  rw [List.append_nil] at h3
  exact ⟨as, rest, h1, h2, h3⟩
theorem am_St_app {Y : am_Y} {ad : List Nat} : ∀ {u v : List am_V} {S : List Value}, am_St Y ad (u ++ v) S → ∃ S1 S2, S = S1 ++ S2 ∧ am_St Y ad u S1 ∧ am_St Y ad v S2
  | [], v, S, h => ⟨[], S, rfl, trivial, h⟩
  | a :: u, v, S, h => by
    obtain ⟨V, S', rfl, k1, k2⟩ := am_St_cons (vs := u ++ v) h
    obtain ⟨S1, S2, rfl, k3, k4⟩ := am_St_app k2
    exact ⟨V :: S1, S2, rfl, ⟨k1, k3⟩, k4⟩
theorem am_St_snoc {Y : am_Y} {ad : List Nat} : ∀ {u v : List am_V} {S T : List Value}, am_St Y ad u S → am_St Y ad v T → am_St Y ad (u ++ v) (S ++ T)
  | [], v, [], T, _, h => h
  | a :: u, v, V :: S, T, h1, h2 => ⟨h1.1, am_St_snoc h1.2 h2⟩
  | [], _, _ :: _, _, h, _ => h.elim
  | _ :: _, _, [], _, h, _ => h.elim
theorem am_St_rev {Y : am_Y} {ad : List Nat} : ∀ {u : List am_V} {S : List Value}, am_St Y ad u S → am_St Y ad u.reverse S.reverse
  | [], [], _ => trivial
  | a :: u, V :: S, h => by
    rw [List.reverse_cons, List.reverse_cons]
    exact am_St_snoc (am_St_rev h.2) ⟨h.1, trivial⟩
  | [], _ :: _, h => h.elim
  | _ :: _, [], h => h.elim
def am_SubOK (l : Launch) (Y : am_Y) (d : Nat) (sub : Nat → am_G) : Prop := ∀ (mi : Nat) (M : am_M) (as lo1 : List am_V) (h : am_H) (o : am_O), am_db[mi]? = some M → am_pad am_un0 (am_lay as) M.2.2.1 = some lo1 → sub mi lo1 [] h 0 0 = some o → o.1 ≤ 2 → ∀ ad : List Nat, vx_Met l M.1 (am_head M :: am_ws) (am_rm d o.2.2.2.2.2.2.1 o.2.2.2.2.2.2.2) (am_Pc Y ad as h) (am_Qc Y ad o) (am_XC Y ad o) o.2.2.2.2.2.2.1 o.2.2.2.2.2.2.2 (fun q => Y.1.heap.size ≤ q)
section AMCALL
variable {p : Program} {l : Launch} {e : Env} {R : Room} {s : State} {m : MethodId} {args : Array Value} {below : List Frame} {meth : Method} {c : Code} {Q : State → Prop} {Y : am_Y} {A : am_A} {ad0 : List Nat} {nL c0 q0 : Nat} {code : ByteArray} {rt : Option FieldType}
variable {sub : Nat → am_G} {go : am_G} {jmp : Nat → am_G} {pc : Nat}
theorem am_sCallC {chk : List am_V → am_H → Prop} {d mi n ml : Nat} {tb : List (Option Nat)} {vo : Bool} {M : am_M} (hsub : am_SubOK l Y d sub) (hM : am_db[mi]? = some M) (hml : M.2.2.1 = ml)
    (row : ∀ (o1 : am_O) (as : List am_V) (h : am_H) (ad : List Nat), vx_Met l M.1 (am_head M :: am_ws) (am_rm d o1.2.2.2.2.2.2.1 o1.2.2.2.2.2.2.2) (am_Pc Y ad as h) (am_Qc Y ad o1) (am_XC Y ad o1) o1.2.2.2.2.2.2.1 o1.2.2.2.2.2.2.2 (fun q => Y.1.heap.size ≤ q) → as.length = n → (∃ rest, chk (as.reverse ++ rest) h) → ∀ (H : Heap) (locs : List Loc) (k j : Nat) (ls : Array Slot) (As S : List Value), am_St Y ad as As → am_HP Y s ad0 ad h H locs → ls.size = nL → (S.map fun v => v.category).sum ≤ 8 → k + o1.2.2.2.2.2.2.1 ≤ R.cells → j + o1.2.2.2.2.2.2.2 ≤ R.slots →
      vx_Run p l e R s m args below meth c H locs k j o1.2.2.2.2.2.2.1 o1.2.2.2.2.2.2.2 (F0 m pc ls (As.reverse ++ S)) S (am_Qc Y ad o1 As.toArray) (am_XC Y ad o1) (fun q => Y.1.heap.size ≤ q))
    (hgo : am_Snd p l e R s m args below meth c Q Y ad0 nL c0 q0 code rt go (pc + 3)) (htb : tb = [] → c.exceptionTable.toList = [])
    (hcatch : ∀ (ei t : Nat), tb[ei]? = some (some t) → ∃ (pt : Nat) (E : String), am_ex[ei]? = some E ∧ am_Snd p l e R s m args below meth c Q Y ad0 nL c0 q0 code rt (jmp t) pt ∧ ∀ (H : Heap) (locs : List Loc) (k j : Nat) (ls : Array Slot) (S : List Value) (q : Addr) (ce : Cell), H[q]? = some ce → ce.vm = .none → s.vm.findClass E = some ce.cls → W p l e R s m args below meth c H locs k j Q (F0 m pt ls [.ref q]) → vx_W p l e R s m args below meth c H locs k j Q (F0 m pc ls S) q) (lo stk : List am_V) (h : am_H) (nc ns : Nat) (o : am_O) (hck : chk stk h) (ho : am_oCall tb pc mi n ml vo A sub go jmp lo stk h nc ns = some o) : nc ≤ o.2.2.2.2.2.2.1 ∧ ns ≤ o.2.2.2.2.2.2.2 ∧ am_Ret code rt c o ∧ ∀ (ad : List Nat) (H : Heap) (locs : List Loc) (ls : Array Slot) (S : List Value), am_HP Y s ad0 ad h H locs → am_Lo Y ad nL lo ls → am_St Y ad stk S → c0 + o.2.2.2.2.2.2.1 ≤ R.cells → q0 + o.2.2.2.2.2.2.2 ≤ R.slots → am_Kont p l e R s m args below meth c Q Y ad0 nL c0 q0 ad o → W p l e R s m args below meth c H locs (c0 + nc) (q0 + ns) Q (F0 m pc ls S) := by
  obtain ⟨as, rest, rfl, hn, ho1⟩ := am_pop_some ho
  obtain ⟨hsh, ho2⟩ := am_if_some ho1
  obtain ⟨lo1, hpad, ho3⟩ := am_ob_some ho2
  obtain ⟨o1, hrun, hback⟩ := am_ob_some ho3
  rw [← hml] at hpad
  unfold am_back at hback
  -- what the call owes
  have call : o1.1 ≤ 2 → ∀ (ad : List Nat) (H : Heap) (locs : List Loc) (ls : Array Slot) (S : List Value), am_HP Y s ad0 ad h H locs → am_Lo Y ad nL lo ls → am_St Y ad (as.reverse ++ rest) S → c0 + (nc + o1.2.2.2.2.2.2.1) ≤ R.cells → q0 + (ns + o1.2.2.2.2.2.2.2) ≤ R.slots →
      (∀ (S2 : List Value) (ad' : List Nat) (H1 : Heap) (locs1 : List Loc), am_le ad ad' → am_St Y ad' rest S2 → am_HP Y s ad0 ad' o1.2.2.2.2.2.1 H1 locs1 → am_Lo Y ad' nL lo ls →
        (o1.1 = 0 → W p l e R s m args below meth c H1 locs1 (c0 + (nc + o1.2.2.2.2.2.2.1)) (q0 + (ns + o1.2.2.2.2.2.2.2)) Q (F0 m (pc + 3) ls S2)) ∧
        (o1.1 = 1 → ∀ V, am_V1 Y ad' o1.2.1 V → W p l e R s m args below meth c H1 locs1 (c0 + (nc + o1.2.2.2.2.2.2.1)) (q0 + (ns + o1.2.2.2.2.2.2.2)) Q (F0 m (pc + 3) ls (V :: S2))) ∧
        (o1.1 = 2 → ∀ (E : String) (q : Addr) (ce : Cell), am_ex[o1.2.1.1]? = some E → H1[q]? = some ce → ce.vm = .none → s.vm.findClass E = some ce.cls → vx_W p l e R s m args below meth c H1 locs1 (c0 + (nc + o1.2.2.2.2.2.2.1)) (q0 + (ns + o1.2.2.2.2.2.2.2)) Q (F0 m pc ls S2) q)) →
      W p l e R s m args below meth c H locs (c0 + nc) (q0 + ns) Q (F0 m pc ls S) := by
    intro hle2 ad H locs ls S hp hlo hs r1 r2 kk
    obtain ⟨S1, S2, rfl, s1, s2⟩ := am_St_app hs
    have s3 := am_St_rev s1
    rw [List.reverse_reverse] at s3
    have hcat := am_St_cat s2
    have hsh2 := am_sh_ok hsh
    have hmet := hsub mi M as lo1 h o1 hM hpad hrun hle2 ad
    have hr := row o1 as h ad hmet hn ⟨rest, hck⟩ H locs (c0 + nc) (q0 + ns) ls S1.reverse S2 s3 hp (am_Lo_size hlo) (by omega) (by omega) (by omega)
    rw [List.reverse_reverse] at hr
    intro T hT Xs
    rcases hr T hT Xs with ⟨v, st₀, t, T', L, h0, X', hL, e1, e2, ⟨ad', l1, l2, l3⟩, st⟩ | ⟨q, st₀, t, T', L, E, ce, h0, X', hL, e1, e2, ⟨x1, x2, ad', l1, l2⟩, hce, hcv, hcl, st⟩
    · have hp2 := am_HP_comp hp h0 l2 hL
      rw [← e1] at hp2
      obtain ⟨m0, m1, -⟩ := kk S2 ad' T'.heap (locs ++ L) l1 (am_St_le l1 s2) hp2 (am_Lo_le l1 hlo)
      rw [show c0 + (nc + o1.2.2.2.2.2.2.1) = c0 + nc + o1.2.2.2.2.2.2.1 by omega, show q0 + (ns + o1.2.2.2.2.2.2.2) = q0 + ns + o1.2.2.2.2.2.2.2 by omega] at m0 m1
      rcases l3 with ⟨k0, k1⟩ | ⟨k0, V, k1, k2⟩
      · cases k1
        obtain ⟨t2, a1, b1⟩ := m0 k0 T' rfl X'
        exact ⟨t2, st t2 a1, b1⟩
      · cases k2
        obtain ⟨t2, a1, b1⟩ := m1 k0 V k1 T' rfl X'
        exact ⟨t2, st t2 a1, b1⟩
    · have hp2 := am_HP_comp hp h0 l2 hL
      rw [← e1] at hp2
      obtain ⟨-, -, m2⟩ := kk S2 ad' T'.heap (locs ++ L) l1 (am_St_le l1 s2) hp2 (am_Lo_le l1 hlo)
      rw [show c0 + (nc + o1.2.2.2.2.2.2.1) = c0 + nc + o1.2.2.2.2.2.2.1 by omega, show q0 + (ns + o1.2.2.2.2.2.2.2) = q0 + ns + o1.2.2.2.2.2.2.2 by omega] at m2
      obtain ⟨t2, a1, b1⟩ := m2 x1 E q ce x2 (by rw [e1]; exact hce) hcv hcl T' rfl X'
      exact ⟨t2, st.trans a1, b1⟩
  cases h1 : Nat.beq o1.1 1 with
  | true =>
    have ek := am_tag h1
    rw [h1] at hback
    cases vo with
    | true => cases hback
    | false =>
      obtain ⟨g1, g2, g3, g4⟩ := hgo _ _ _ _ _ o hback
      refine ⟨by omega, by omega, g3, fun ad H locs ls S hp hlo hs r1 r2 hkt => call (by omega) ad H locs ls S hp hlo hs (by omega) (by omega) fun S2 ad' H1 locs1 l1 s2 hp2 hlo2 => ⟨fun q => by omega, fun _ V hV => ?_, fun q => by omega⟩⟩
      exact g4 ad' H1 locs1 ls (V :: S2) hp2 hlo2 ⟨hV, s2⟩ r1 r2 (am_Kont_le hkt l1)
  | false =>
    rw [h1] at hback
    have hback1 : am_if (Nat.beq o1.1 0) _ _ = some o := hback
    cases h0 : Nat.beq o1.1 0 with
    | true =>
      have ek := am_tag h0
      rw [h0] at hback1
      cases vo with
      | false => cases hback1
      | true =>
        obtain ⟨g1, g2, g3, g4⟩ := hgo _ _ _ _ _ o hback1
        refine ⟨by omega, by omega, g3, fun ad H locs ls S hp hlo hs r1 r2 hkt => call (by omega) ad H locs ls S hp hlo hs (by omega) (by omega) fun S2 ad' H1 locs1 l1 s2 hp2 hlo2 => ⟨fun _ => ?_, fun q => by omega, fun q => by omega⟩⟩
        exact g4 ad' H1 locs1 ls S2 hp2 hlo2 s2 r1 r2 (am_Kont_le hkt l1)
    | false =>
      rw [h0] at hback1
      obtain ⟨h2, hback2⟩ := am_if_some (show am_if (Nat.beq o1.1 2) _ none = some o from hback1)
      have ek := am_tag h2
      split at hback2
      · cases hback2
        refine ⟨Nat.le_add_right _ _, Nat.le_add_right _ _, ⟨fun q => (by cases q), fun q => (by cases q), fun _ => htb rfl⟩, fun ad H locs ls S hp hlo hs r1 r2 hkt => call (by omega) ad H locs ls S hp hlo hs r1 r2 fun S2 ad' H1 locs1 l1 s2 hp2 hlo2 => ⟨fun q => by omega, fun q => by omega, fun _ E q ce hE hce hcv hcl => ?_⟩⟩
        exact ((hkt ad' H1 locs1 ls S2 l1 hp2 hlo2 s2).2 rfl E hE).1 q ce pc hce hcv hcl
      · split at hback2
        · rename_i xs x0 t ht
          obtain ⟨pt, E0, hE0, hj, hc⟩ := hcatch _ t ht
          obtain ⟨g1, g2, g3, g4⟩ := hj _ _ _ _ _ o hback2
          refine ⟨by omega, by omega, g3, fun ad H locs ls S hp hlo hs r1 r2 hkt => call (by omega) ad H locs ls S hp hlo hs (by omega) (by omega) fun S2 ad' H1 locs1 l1 s2 hp2 hlo2 => ⟨fun q => by omega, fun q => by omega, fun _ E q ce hE hce hcv hcl => ?_⟩⟩
          have e : E = E0 := Option.some.inj (hE.symm.trans hE0)
          subst e
          exact hc H1 locs1 _ _ ls S2 q ce hce hcv hcl (g4 ad' H1 locs1 ls [.ref q] hp2 hlo2 ⟨⟨q, rfl⟩, trivial⟩ r1 r2 (am_Kont_le hkt l1))
        · cases hback2
theorem am_sCallV {tb : List (Option Nat)} {mi n ml ci : Nat} {vo : Bool} (h : ∀ (lo stk : List am_V) (h : am_H) (nc ns : Nat) (o : am_O), (∃ r k, stk[n - 1]? = some r ∧ Nat.beq r.1 10 = true ∧ am_get h r.2.1 = some k ∧ Nat.beq k.1 ci = true) → am_oCall tb pc mi n ml vo A sub go jmp lo stk h nc ns = some o → nc ≤ o.2.2.2.2.2.2.1 ∧ ns ≤ o.2.2.2.2.2.2.2 ∧ am_Ret code rt c o ∧ ∀ (ad : List Nat) (H : Heap) (locs : List Loc) (ls : Array Slot) (S : List Value), am_HP Y s ad0 ad h H locs → am_Lo Y ad nL lo ls → am_St Y ad stk S → c0 + o.2.2.2.2.2.2.1 ≤ R.cells → q0 + o.2.2.2.2.2.2.2 ≤ R.slots → am_Kont p l e R s m args below meth c Q Y ad0 nL c0 q0 ad o → W p l e R s m args below meth c H locs (c0 + nc) (q0 + ns) Q (F0 m pc ls S)) : am_Snd p l e R s m args below meth c Q Y ad0 nL c0 q0 code rt (am_oCallV tb pc mi n ml vo ci A sub go jmp) pc := by
  intro lo stk h1 nc ns o ho
  obtain ⟨r, hr, ho1⟩ := am_ob_some ho
  obtain ⟨h2, ho2⟩ := am_if_some ho1
  obtain ⟨k, h3, ho3⟩ := am_ob_some ho2
  obtain ⟨h4, ho4⟩ := am_if_some ho3
  rw [am_nth_eq] at hr
  exact h lo stk h1 nc ns o ⟨r, k, hr, h2, h3, h4⟩ ho4
end AMCALL
end
section
/-! ===== the kinds of calls ===== -/
def am_d (M : am_M) (n : Nat) : Bool := decide (M.1.cls ≠ "java/lang/invoke/MethodHandle") && decide (M.1.cls ≠ "java/lang/invoke/VarHandle") && decide ((parseMethodDescriptor M.1.desc).map (fun d => d.parameters.length) = some n) && decide (M.2.2.1 ≤ 80)
theorem am_d_ok {M : am_M} {n : Nat} (h : am_d M n = true) : (M.1.cls ≠ "java/lang/invoke/MethodHandle" ∧ M.1.cls ≠ "java/lang/invoke/VarHandle" ∧ (parseMethodDescriptor M.1.desc).map (fun d => d.parameters.length) = some n) ∧ M.2.2.1 ≤ 80 := by
  simp only [am_d, Bool.and_eq_true, decide_eq_true_eq] at h
  exact ⟨⟨h.1.1.1, h.1.1.2, h.1.2⟩, h.2⟩
theorem am_good {M : am_M} (h : am_head M ∈ am_ws) : GoodIn am_ws (am_head M :: am_ws) := by
  intro w hw
  have hm : w ∈ am_ws := by
    rcases List.mem_cons.mp hw with rfl | hw
    · exact h
    · exact hw
  exact ⟨hm, good_of_word (List.mem_filter.mp hm).2⟩
theorem am_head_nil {M : am_M} (h : M.2.2.2.2.1 = []) : am_head M = .code M.1 M.2.1 M.2.2.1 M.2.2.2.1 := by
  unfold am_head
  rw [h]
theorem am_head_cons {M : am_M} {x : Nat × Nat × Nat × Nat} {xs : List (Nat × Nat × Nat × Nat)} (h : M.2.2.2.2.1 = x :: xs) : am_head M = .codeWith M.1 M.2.1 M.2.2.1 M.2.2.2.1 (x :: xs) := by
  unfold am_head
  rw [h]
theorem am_room {R : Room} {d a b ml : Nat} (hfr : d + 21 ≤ R.frames) (hlr : 100 * d + 500 ≤ R.locals) (h : ml ≤ 80) : (am_rm d a b).frames + 1 ≤ R.frames ∧ 8 + (ml + 11) + (am_rm d a b).locals ≤ R.locals := by
  have e1 : (am_rm d a b).frames = d + 20 := rfl
  have e2 : (am_rm d a b).locals = 100 * d + 400 := rfl
  rw [e1, e2]
  omega
theorem am_blind (Y : am_Y) (ad : List Nat) (as : List am_V) (h : am_H) : FrameBlind (am_Pc Y ad as h) := fun _ _ _ _ q => q
section AMROWS
variable {p : Program} {l : Launch} {e : Env} {R : Room} {s : State} {m : MethodId} {args : Array Value} {below : List Frame} {meth : Method} {c : Code} {Q : State → Prop} {Y : am_Y} {A : am_A} {ad0 : List Nat} {nL c0 q0 : Nat} {code : ByteArray} {rt : Option FieldType}
variable {pc : Nat} {own : String}
theorem am_pcU (hF : am_Fm p s m args meth c Y own code nL rt) {ad : List Nat} {as : List am_V} {h : am_H} {H : Heap} {locs : List Loc} {As : List Value} (hs : am_St Y ad as As) (hp : am_HP Y s ad0 ad h H locs) (U : State) (hU : U.heap = H) (hW1 : s.WarmedH U.vm) : am_Pc Y ad as h As.toArray U := by
  obtain ⟨-, -, -, -, -, -, -, hW, hold, hsz⟩ := hF
  refine ⟨⟨As, hs, rfl⟩, State.WarmedH.trans hW hW1, fun q hq => ?_, by rw [hU]; exact Nat.le_trans hsz hp.2.1, by rw [hU]; exact hp.1⟩
  rw [hU, hp.2.2.1 q (Nat.lt_of_lt_of_le hq hsz) (fun h3 => ?_)]
  · exact hold q hq
  · have := (hp.1.2.2.1 q (hp.2.2.2.2.2 q h3)).1
    omega
theorem am_rowS (hF : am_Fm p s m args meth c Y own code nL rt) {d n idx : Nat} (hfr : d + 21 ≤ R.frames) (hlr : 100 * d + 500 ≤ R.locals) {M : am_M} (htb : M.2.2.2.2.1 = []) (hd : am_d M n = true) (h0 : am_head M ∈ am_ws) (h1 : Cond.methodLink own idx M.1 ∈ am_ws) (h2 : Cond.static M.1 ∈ am_ws) (h3 : Cond.initialized M.1.cls ∈ am_ws) (hdg : decode code pc = .ok (.invokestatic idx, 3)) {o1 : am_O} {as : List am_V} {h : am_H} {ad : List Nat} (hmet : vx_Met l M.1 (am_head M :: am_ws) (am_rm d o1.2.2.2.2.2.2.1 o1.2.2.2.2.2.2.2) (am_Pc Y ad as h) (am_Qc Y ad o1) (am_XC Y ad o1) o1.2.2.2.2.2.2.1 o1.2.2.2.2.2.2.2 (fun q => Y.1.heap.size ≤ q)) (hn : as.length = n) {H : Heap} {locs : List Loc} {k j : Nat} {ls : Array Slot} {As S : List Value} (hs : as.length = As.length) (hp : PreS s H (am_Pc Y ad as h) As) (hls : ls.size = nL) (hcat : (S.map fun v => v.category).sum ≤ 8) (r1 : k + o1.2.2.2.2.2.2.1 ≤ R.cells) (r2 : j + o1.2.2.2.2.2.2.2 ≤ R.slots) :
    vx_Run p l e R s m args below meth c H locs k j o1.2.2.2.2.2.2.1 o1.2.2.2.2.2.2.2 (F0 m pc ls (As.reverse ++ S)) S (am_Qc Y ad o1 As.toArray) (am_XC Y ad o1) (fun q => Y.1.heap.size ≤ q) := by
  have hF' := hF
  obtain ⟨hx, hb, hml, hown, hts, -, -, hW, hold, hsz⟩ := hF
  obtain ⟨d1, d2⟩ := am_d_ok hd
  have e0 := am_head_nil htb
  exact vx_runS (Ts := am_ws) ⟨hx, hb, hml, hown, hts⟩ hmet ⟨callB_of n hts (am_good h0) (by rw [e0]) rfl rfl (hts _ h3) (hts _ h1) d1 (am_room hfr hlr d2), hts _ h2⟩ hp rfl (hs.symm.trans hn) hls rfl (by show 2 * 0 + _ ≤ 8; omega) hdg ⟨r1, r2⟩
theorem am_rowSX (hF : am_Fm p s m args meth c Y own code nL rt) {d n idx : Nat} (hfr : d + 21 ≤ R.frames) (hlr : 100 * d + 500 ≤ R.locals) {M : am_M} {x : Nat × Nat × Nat × Nat} {xs : List (Nat × Nat × Nat × Nat)} (htb : M.2.2.2.2.1 = x :: xs) (hd : am_d M n = true) (h0 : am_head M ∈ am_ws) (h1 : Cond.methodLink own idx M.1 ∈ am_ws) (h2 : Cond.static M.1 ∈ am_ws) (h3 : Cond.initialized M.1.cls ∈ am_ws) (hdg : decode code pc = .ok (.invokestatic idx, 3)) {o1 : am_O} {as : List am_V} {h : am_H} {ad : List Nat} (hmet : vx_Met l M.1 (am_head M :: am_ws) (am_rm d o1.2.2.2.2.2.2.1 o1.2.2.2.2.2.2.2) (am_Pc Y ad as h) (am_Qc Y ad o1) (am_XC Y ad o1) o1.2.2.2.2.2.2.1 o1.2.2.2.2.2.2.2 (fun q => Y.1.heap.size ≤ q)) (hn : as.length = n) {H : Heap} {locs : List Loc} {k j : Nat} {ls : Array Slot} {As S : List Value} (hs : as.length = As.length) (hp : PreS s H (am_Pc Y ad as h) As) (hls : ls.size = nL) (hcat : (S.map fun v => v.category).sum ≤ 8) (r1 : k + o1.2.2.2.2.2.2.1 ≤ R.cells) (r2 : j + o1.2.2.2.2.2.2.2 ≤ R.slots) :
    vx_Run p l e R s m args below meth c H locs k j o1.2.2.2.2.2.2.1 o1.2.2.2.2.2.2.2 (F0 m pc ls (As.reverse ++ S)) S (am_Qc Y ad o1 As.toArray) (am_XC Y ad o1) (fun q => Y.1.heap.size ≤ q) := by
  have hF' := hF
  obtain ⟨hx, hb, hml, hown, hts, -, -, hW, hold, hsz⟩ := hF
  obtain ⟨⟨d1, d2, d3⟩, d4⟩ := am_d_ok hd
  have e0 := am_head_cons htb
  have hG := am_good h0
  have hcw : Cond.codeWith M.1 M.2.1 M.2.2.1 M.2.2.2.1 (x :: xs) ∈ am_head M :: am_ws := by rw [e0]; exact List.mem_cons_self
  exact vx_runSX (hh := x :: xs) (Ts := am_ws) ⟨hx, hb, hml, hown, hts⟩ hmet ⟨⟨rfl, rfl, (am_room hfr hlr d4).1, (am_room hfr hlr d4).2, pay_in hts hG, hcw⟩, hts _ (hG _ hcw).1, hts _ h3, ⟨d1, d2⟩, fun sig h => by
    rw [h] at d3
    exact (Option.some.inj d3).symm, hts _ h1, hts _ h2⟩ hp rfl (hs.symm.trans hn) hls rfl (by show 2 * 0 + _ ≤ 8; omega) hdg ⟨r1, r2⟩
end AMROWS
end
section
/-! ===== rows by instruction: the pure ones ===== -/
theorem am_tg0 {Y : am_Y} {ad : List Nat} {u : am_V} {U : Value} (h : Nat.beq u.1 0 = true) (k : am_V1 Y ad u U) : U = .int (Int32.ofNat u.2.1) := by
  obtain ⟨t, n, f⟩ := u
  have e := am_tag h
  dsimp only at e
  subst e
  exact k
theorem am_tg1 {Y : am_Y} {ad : List Nat} {u : am_V} {U : Value} (h : Nat.beq u.1 1 = true) (k : am_V1 Y ad u U) : U = .long (Int64.ofNat u.2.1) := by
  obtain ⟨t, n, f⟩ := u
  have e := am_tag h
  dsimp only at e
  subst e
  exact k
theorem am_tg2 {Y : am_Y} {ad : List Nat} {u : am_V} {U : Value} (h : Nat.beq u.1 2 = true) (k : am_V1 Y ad u U) : U = .float (UInt32.ofNat u.2.1) := by
  obtain ⟨t, n, f⟩ := u
  have e := am_tag h
  dsimp only at e
  subst e
  exact k
theorem am_tg3 {Y : am_Y} {ad : List Nat} {u : am_V} {U : Value} (h : Nat.beq u.1 3 = true) (k : am_V1 Y ad u U) : U = .double (UInt64.ofNat u.2.1) := by
  obtain ⟨t, n, f⟩ := u
  have e := am_tag h
  dsimp only at e
  subst e
  exact k
theorem am_bif_some {α : Type} {b : Bool} {t : Option α} {r : α} (h : (bif b then t else none) = some r) : b = true ∧ t = some r := by
  cases b with
  | true => exact ⟨rfl, h⟩
  | false => cases h
theorem am_tI_98 : ∀ v : am_V, am_tI v = true → v.1 ≠ 98 := fun v h e => by
  rcases am_or_t.mp h with q | q <;> (rw [e] at q; cases q)
theorem am_tL_98 : ∀ v : am_V, am_tL v = true → v.1 ≠ 98 := fun v h e => by
  rcases am_or_t.mp h with q | q <;> (rw [e] at q; cases q)
theorem am_tF_98 : ∀ v : am_V, am_tF v = true → v.1 ≠ 98 := fun v h e => by
  have q : Nat.beq v.1 2 = true := h
  rw [e] at q
  cases q
theorem am_tD_98 : ∀ v : am_V, am_tD v = true → v.1 ≠ 98 := fun v h e => by
  rcases am_or_t.mp h with q | q
  · rw [e] at q; cases q
  · rcases am_or_t.mp q with q | q <;> (rw [e] at q; cases q)
theorem am_tR_98 : ∀ v : am_V, am_tR v = true → v.1 ≠ 98 := fun v h e => by
  rcases am_or_t.mp h with q | q
  · rw [e] at q; cases q
  · rcases am_or_t.mp q with q | q <;> (rw [e] at q; cases q)
theorem am_tA_98 : ∀ v : am_V, am_tA v = true → v.1 ≠ 98 := fun v h e => by
  rcases am_or_t.mp h with q | q
  · exact am_tR_98 v q e
  · rw [e] at q; cases q
section AMROWP
variable {p : Program} {l : Launch} {e : Env} {R : Room} {s : State} {m : MethodId} {args : Array Value} {below : List Frame} {meth : Method} {c : Code} {Q : State → Prop} {Y : am_Y} {A : am_A} {ad0 : List Nat} {nL c0 q0 : Nat} {code : ByteArray} {rt : Option FieldType}
variable {sub : Nat → am_G} {go : am_G} {jmp : Nat → am_G} {pc : Nat} {own : String}
theorem am_rIconst (hx : p.tables.exec = exec) (hb : c.code = code) {n : Int} (hd : decode code pc = .ok (.iconst n, 1)) (hgo : am_Snd p l e R s m args below meth c Q Y ad0 nL c0 q0 code rt go (pc + 1)) : am_Snd p l e R s m args below meth c Q Y ad0 nL c0 q0 code rt (am_oPush (am_int n) A sub go jmp) pc := am_sPush hgo fun ad H locs k j ls S => ⟨_, am_R_i n, fun h => lv_iconst hx hb hd rfl h⟩
theorem am_rBipush (hx : p.tables.exec = exec) (hb : c.code = code) {n : Int} (hv : (Int8.ofInt n).toInt32 = Int32.ofInt n) (hd : decode code pc = .ok (.bipush n, 2)) (hgo : am_Snd p l e R s m args below meth c Q Y ad0 nL c0 q0 code rt go (pc + 2)) : am_Snd p l e R s m args below meth c Q Y ad0 nL c0 q0 code rt (am_oPush (am_int n) A sub go jmp) pc := am_sPush hgo fun ad H locs k j ls S => ⟨_, am_R_i n, fun h => lv_bipush hx hb hd hv h⟩
theorem am_rSipush (hx : p.tables.exec = exec) (hb : c.code = code) {n : Int} (hv : (Int16.ofInt n).toInt32 = Int32.ofInt n) (hd : decode code pc = .ok (.sipush n, 3)) (hgo : am_Snd p l e R s m args below meth c Q Y ad0 nL c0 q0 code rt go (pc + 3)) : am_Snd p l e R s m args below meth c Q Y ad0 nL c0 q0 code rt (am_oPush (am_int n) A sub go jmp) pc := am_sPush hgo fun ad H locs k j ls S => ⟨_, am_R_i n, fun h => lv_sipush hx hb hd hv h⟩
theorem am_rLconst (hx : p.tables.exec = exec) (hb : c.code = code) {n : Fin 2} (hd : decode code pc = .ok (.lconst n, 1)) (hgo : am_Snd p l e R s m args below meth c Q Y ad0 nL c0 q0 code rt go (pc + 1)) : am_Snd p l e R s m args below meth c Q Y ad0 nL c0 q0 code rt (am_oPush (1, n.val, []) A sub go jmp) pc := am_sPush hgo fun ad H locs k j ls S => ⟨.long (Int64.ofNat n.val), rfl, fun h => lv_lconst hx hb hd rfl h⟩
theorem am_rFconst (hx : p.tables.exec = exec) (hb : c.code = code) {n : Fin 3} (hd : decode code pc = .ok (.fconst n, 1)) (hgo : am_Snd p l e R s m args below meth c Q Y ad0 nL c0 q0 code rt go (pc + 1)) : am_Snd p l e R s m args below meth c Q Y ad0 nL c0 q0 code rt (am_oPush (am_ofF (match n with | 0 => FP.fconst0 | 1 => FP.fconst1 | 2 => FP.fconst2)) A sub go jmp) pc := by
  match n, hd with
  | 0, hd => exact am_sPush hgo fun ad H locs k j ls S => ⟨_, am_ofF_ok _ _ _ _, fun h => lv_fconst0 hx hb hd h⟩
  | 1, hd => exact am_sPush hgo fun ad H locs k j ls S => ⟨_, am_ofF_ok _ _ _ _, fun h => lv_fconst1 hx hb hd h⟩
  | 2, hd => exact am_sPush hgo fun ad H locs k j ls S => ⟨_, am_ofF_ok _ _ _ _, fun h => lv_fconst2 hx hb hd h⟩
theorem am_rDconst (hx : p.tables.exec = exec) (hb : c.code = code) {n : Fin 2} (hd : decode code pc = .ok (.dconst n, 1)) (hgo : am_Snd p l e R s m args below meth c Q Y ad0 nL c0 q0 code rt go (pc + 1)) : am_Snd p l e R s m args below meth c Q Y ad0 nL c0 q0 code rt (am_oPush (am_ofD (match n with | 0 => FP.dconst0 | 1 => FP.dconst1)) A sub go jmp) pc := by
  match n, hd with
  | 0, hd => exact am_sPush hgo fun ad H locs k j ls S => ⟨_, am_ofD_ok _ _ _ _, fun h => lv_dconst0 hx hb hd h⟩
  | 1, hd => exact am_sPush hgo fun ad H locs k j ls S => ⟨_, am_ofD_ok _ _ _ _, fun h => lv_dconst1 hx hb hd h⟩
theorem am_rLdcI (hx : p.tables.exec = exec) (hb : c.code = code) (hown : s.vm.findClass own = some m.cls) {idx n : Nat} (hw : (Cond.constant own idx (Int32.ofNat n)).before args s = true) (hd : decode code pc = .ok (.ldc idx, 2)) (hgo : am_Snd p l e R s m args below meth c Q Y ad0 nL c0 q0 code rt go (pc + 2)) : am_Snd p l e R s m args below meth c Q Y ad0 nL c0 q0 code rt (am_oPush (0, n, []) A sub go jmp) pc := am_sPush hgo fun ad H locs k j ls S => ⟨.int (Int32.ofNat n), rfl, fun h => lv_ldc hx hb hown hw hd h⟩
theorem am_rLdcF (hx : p.tables.exec = exec) (hb : c.code = code) (hown : s.vm.findClass own = some m.cls) {idx n : Nat} (hw : (Cond.constantFloat own idx (UInt32.ofNat n)).before args s = true) (hd : decode code pc = .ok (.ldc idx, 2)) (hgo : am_Snd p l e R s m args below meth c Q Y ad0 nL c0 q0 code rt go (pc + 2)) : am_Snd p l e R s m args below meth c Q Y ad0 nL c0 q0 code rt (am_oPush (2, n, []) A sub go jmp) pc := am_sPush hgo fun ad H locs k j ls S => ⟨.float (UInt32.ofNat n), rfl, fun h => lv_ldcf hx hb hown hw hd h⟩
theorem am_rLdcW (hx : p.tables.exec = exec) (hb : c.code = code) (hown : s.vm.findClass own = some m.cls) {idx n : Nat} (hw : (Cond.constant own idx (Int32.ofNat n)).before args s = true) (hd : decode code pc = .ok (.ldc_w idx, 3)) (hgo : am_Snd p l e R s m args below meth c Q Y ad0 nL c0 q0 code rt go (pc + 3)) : am_Snd p l e R s m args below meth c Q Y ad0 nL c0 q0 code rt (am_oPush (0, n, []) A sub go jmp) pc := am_sPush hgo fun ad H locs k j ls S => ⟨.int (Int32.ofNat n), rfl, fun h => lv_ldcw hx hb hown hw hd h⟩
theorem am_ldcFW0 {T : State} {locs : List Loc} {cells slots : Nat} (X : Stand p l e R s m args below meth c T locs cells slots) (hexec : p.tables.exec = Jvm.exec) {index : Nat} {v : UInt32} (hown : s.vm.findClass own = some m.cls)
    (hconst : (Cond.constantFloat own index v).before args s = true) {g : JFrame} (hg : g.method = m) (hdg : decode c.code g.pc = .ok (.ldc_w index, 3)) :
    ∀ target, Steps p.tables e below (T.setTop { g with pc := g.pc + 3, stack := .float v :: g.stack }) target → Steps p.tables e below (T.setTop g) target := by
  obtain ⟨k, cf, hk, hcf, hcp⟩ := Cond.constantFloat_spec hown hconst
  obtain ⟨k', hk', he⟩ := X.warmed.alike.2.2 _ _ hk
  intro target hrest
  subst hg
  jvm_step X.here [hexec, hdg, ldc_w.wp_float (s := T) (f := g) X.here.top hk' (by rw [he]; exact hcf) hcp]
  exact hrest
theorem am_rLdcFW (hx : p.tables.exec = exec) (hb : c.code = code) (hown : s.vm.findClass own = some m.cls) {idx n : Nat} (hw : (Cond.constantFloat own idx (UInt32.ofNat n)).before args s = true) (hd : decode code pc = .ok (.ldc_w idx, 3)) (hgo : am_Snd p l e R s m args below meth c Q Y ad0 nL c0 q0 code rt go (pc + 3)) : am_Snd p l e R s m args below meth c Q Y ad0 nL c0 q0 code rt (am_oPush (2, n, []) A sub go jmp) pc := am_sPush hgo fun ad H locs k j ls S => ⟨.float (UInt32.ofNat n), rfl, fun h => by
  intro T hT X
  obtain ⟨t, a, b⟩ := h T hT X
  exact ⟨t, am_ldcFW0 X hx hown hw (g := F0 m pc ls S) rfl (by rw [hb]; exact hd) t a, b⟩⟩
theorem am_rLdcL (hx : p.tables.exec = exec) (hb : c.code = code) (hown : s.vm.findClass own = some m.cls) {idx n : Nat} (hw : (Cond.constantLong own idx (Int64.ofNat n)).before args s = true) (hd : decode code pc = .ok (.ldc2_w idx, 3)) (hgo : am_Snd p l e R s m args below meth c Q Y ad0 nL c0 q0 code rt go (pc + 3)) : am_Snd p l e R s m args below meth c Q Y ad0 nL c0 q0 code rt (am_oPush (1, n, []) A sub go jmp) pc := am_sPush hgo fun ad H locs k j ls S => ⟨.long (Int64.ofNat n), rfl, fun h => lv_ldc2 hx hb hown hw hd h⟩
theorem am_rLdcD (hx : p.tables.exec = exec) (hb : c.code = code) (hown : s.vm.findClass own = some m.cls) {idx n : Nat} (hw : (Cond.constantDouble own idx (UInt64.ofNat n)).before args s = true) (hd : decode code pc = .ok (.ldc2_w idx, 3)) (hgo : am_Snd p l e R s m args below meth c Q Y ad0 nL c0 q0 code rt go (pc + 3)) : am_Snd p l e R s m args below meth c Q Y ad0 nL c0 q0 code rt (am_oPush (3, n, []) A sub go jmp) pc := am_sPush hgo fun ad H locs k j ls S => ⟨.double (UInt64.ofNat n), rfl, fun h => lv_ldc2d hx hb hown hw hd h⟩
theorem am_rIload (hx : p.tables.exec = exec) (hb : c.code = code) {i : Nat} (hd : decode code pc = .ok (.iload i, 2)) (hgo : am_Snd p l e R s m args below meth c Q Y ad0 nL c0 q0 code rt go (pc + 2)) : am_Snd p l e R s m args below meth c Q Y ad0 nL c0 q0 code rt (am_oLoad am_tI i A sub go jmp) pc := am_sLoad am_tI_98 hgo fun ad v V hv hok H locs k n ls S hl h => by
  obtain ⟨x, rfl⟩ := am_tI_ok hv hok
  exact lv_iload hx hb hd hl h
theorem am_rIloadn (hx : p.tables.exec = exec) (hb : c.code = code) {i : Fin 4} (hd : decode code pc = .ok (.iload_n i, 1)) (hgo : am_Snd p l e R s m args below meth c Q Y ad0 nL c0 q0 code rt go (pc + 1)) : am_Snd p l e R s m args below meth c Q Y ad0 nL c0 q0 code rt (am_oLoad am_tI i.val A sub go jmp) pc := am_sLoad am_tI_98 hgo fun ad v V hv hok H locs k n ls S hl h => by
  obtain ⟨x, rfl⟩ := am_tI_ok hv hok
  exact lv_iload_n hx hb hd rfl hl h
theorem am_rIstore (hx : p.tables.exec = exec) (hb : c.code = code) {i : Nat} (hd : decode code pc = .ok (.istore i, 2)) (hgo : am_Snd p l e R s m args below meth c Q Y ad0 nL c0 q0 code rt go (pc + 2)) : am_Snd p l e R s m args below meth c Q Y ad0 nL c0 q0 code rt (am_oStore am_tI i A sub go jmp) pc := am_sStore hgo fun ad v V hv hok H locs k n ls S lv h1 h2 h => by
  obtain ⟨x, rfl⟩ := am_tI_ok hv hok
  exact lv_istore hx hb hd h1 h2 rfl h
theorem am_rIstoren (hx : p.tables.exec = exec) (hb : c.code = code) {i : Fin 4} (hd : decode code pc = .ok (.istore_n i, 1)) (hgo : am_Snd p l e R s m args below meth c Q Y ad0 nL c0 q0 code rt go (pc + 1)) : am_Snd p l e R s m args below meth c Q Y ad0 nL c0 q0 code rt (am_oStore am_tI i.val A sub go jmp) pc := am_sStore hgo fun ad v V hv hok H locs k n ls S lv h1 h2 h => by
  obtain ⟨x, rfl⟩ := am_tI_ok hv hok
  exact lv_istore_n hx hb hd rfl h1 h2 rfl h
theorem am_rLload (hx : p.tables.exec = exec) (hb : c.code = code) {i : Nat} (hd : decode code pc = .ok (.lload i, 2)) (hgo : am_Snd p l e R s m args below meth c Q Y ad0 nL c0 q0 code rt go (pc + 2)) : am_Snd p l e R s m args below meth c Q Y ad0 nL c0 q0 code rt (am_oLoad am_tL i A sub go jmp) pc := am_sLoad am_tL_98 hgo fun ad v V hv hok H locs k n ls S hl h => by
  obtain ⟨x, rfl⟩ := am_tL_ok hv hok
  exact lv_lload hx hb hd hl h
theorem am_rLloadn (hx : p.tables.exec = exec) (hb : c.code = code) {i : Fin 4} (hd : decode code pc = .ok (.lload_n i, 1)) (hgo : am_Snd p l e R s m args below meth c Q Y ad0 nL c0 q0 code rt go (pc + 1)) : am_Snd p l e R s m args below meth c Q Y ad0 nL c0 q0 code rt (am_oLoad am_tL i.val A sub go jmp) pc := am_sLoad am_tL_98 hgo fun ad v V hv hok H locs k n ls S hl h => by
  obtain ⟨x, rfl⟩ := am_tL_ok hv hok
  exact lv_lload_n hx hb hd rfl hl h
theorem am_rLstore (hx : p.tables.exec = exec) (hb : c.code = code) {i : Nat} (hd : decode code pc = .ok (.lstore i, 2)) (hgo : am_Snd p l e R s m args below meth c Q Y ad0 nL c0 q0 code rt go (pc + 2)) : am_Snd p l e R s m args below meth c Q Y ad0 nL c0 q0 code rt (am_oStore2 am_tL i A sub go jmp) pc := am_sStore2 hgo fun ad v V hv hok H locs k n ls S lv h1 h2 h => by
  obtain ⟨x, rfl⟩ := am_tL_ok hv hok
  exact lv_lstore hx hb hd h1 h2 rfl h
theorem am_rLstoren (hx : p.tables.exec = exec) (hb : c.code = code) {i : Fin 4} (hd : decode code pc = .ok (.lstore_n i, 1)) (hgo : am_Snd p l e R s m args below meth c Q Y ad0 nL c0 q0 code rt go (pc + 1)) : am_Snd p l e R s m args below meth c Q Y ad0 nL c0 q0 code rt (am_oStore2 am_tL i.val A sub go jmp) pc := am_sStore2 hgo fun ad v V hv hok H locs k n ls S lv h1 h2 h => by
  obtain ⟨x, rfl⟩ := am_tL_ok hv hok
  exact lv_lstore_n hx hb hd rfl h1 h2 rfl h
theorem am_rFloadn (hx : p.tables.exec = exec) (hb : c.code = code) {i : Fin 4} (hd : decode code pc = .ok (.fload_n i, 1)) (hgo : am_Snd p l e R s m args below meth c Q Y ad0 nL c0 q0 code rt go (pc + 1)) : am_Snd p l e R s m args below meth c Q Y ad0 nL c0 q0 code rt (am_oLoad am_tF i.val A sub go jmp) pc := am_sLoad am_tF_98 hgo fun ad v V hv hok H locs k n ls S hl h => by
  obtain ⟨x, rfl⟩ := am_tF_ok hv hok
  exact lv_fload_n hx hb hd rfl hl h
theorem am_rFstoren (hx : p.tables.exec = exec) (hb : c.code = code) {i : Fin 4} (hd : decode code pc = .ok (.fstore_n i, 1)) (hgo : am_Snd p l e R s m args below meth c Q Y ad0 nL c0 q0 code rt go (pc + 1)) : am_Snd p l e R s m args below meth c Q Y ad0 nL c0 q0 code rt (am_oStore am_tF i.val A sub go jmp) pc := am_sStore hgo fun ad v V hv hok H locs k n ls S lv h1 h2 h => by
  obtain ⟨x, rfl⟩ := am_tF_ok hv hok
  exact lv_fstore_n hx hb hd rfl h1 h2 rfl h
theorem am_rDloadn (hx : p.tables.exec = exec) (hb : c.code = code) {i : Fin 4} (hd : decode code pc = .ok (.dload_n i, 1)) (hgo : am_Snd p l e R s m args below meth c Q Y ad0 nL c0 q0 code rt go (pc + 1)) : am_Snd p l e R s m args below meth c Q Y ad0 nL c0 q0 code rt (am_oLoad am_tD i.val A sub go jmp) pc := am_sLoad am_tD_98 hgo fun ad v V hv hok H locs k n ls S hl h => by
  obtain ⟨x, rfl⟩ := am_tD_ok hv hok
  exact lv_dload_n hx hb hd rfl hl h
theorem am_rDstoren (hx : p.tables.exec = exec) (hb : c.code = code) {i : Fin 4} (hd : decode code pc = .ok (.dstore_n i, 1)) (hgo : am_Snd p l e R s m args below meth c Q Y ad0 nL c0 q0 code rt go (pc + 1)) : am_Snd p l e R s m args below meth c Q Y ad0 nL c0 q0 code rt (am_oStore2 am_tD i.val A sub go jmp) pc := am_sStore2 hgo fun ad v V hv hok H locs k n ls S lv h1 h2 h => by
  obtain ⟨x, rfl⟩ := am_tD_ok hv hok
  exact lv_dstore_n hx hb hd rfl h1 h2 rfl h
theorem am_rAload (hx : p.tables.exec = exec) (hb : c.code = code) {i : Nat} (hd : decode code pc = .ok (.aload i, 2)) (hgo : am_Snd p l e R s m args below meth c Q Y ad0 nL c0 q0 code rt go (pc + 2)) : am_Snd p l e R s m args below meth c Q Y ad0 nL c0 q0 code rt (am_oLoad am_tA i A sub go jmp) pc := am_sLoad am_tA_98 hgo fun ad v V hv hok H locs k n ls S hl h => by
  rcases am_tA_ok hv hok with rfl | ⟨x, rfl⟩
  · exact lv_aloadN hx hb hd hl h
  · exact lv_aload hx hb hd hl h
theorem am_rAloadn (hx : p.tables.exec = exec) (hb : c.code = code) {i : Fin 4} (hd : decode code pc = .ok (.aload_n i, 1)) (hgo : am_Snd p l e R s m args below meth c Q Y ad0 nL c0 q0 code rt go (pc + 1)) : am_Snd p l e R s m args below meth c Q Y ad0 nL c0 q0 code rt (am_oLoad am_tA i.val A sub go jmp) pc := am_sLoad am_tA_98 hgo fun ad v V hv hok H locs k n ls S hl h => by
  rcases am_tA_ok hv hok with rfl | ⟨x, rfl⟩
  · exact lv_aload_nN hx hb hd rfl hl h
  · exact lv_aload_n hx hb hd rfl hl h
theorem am_rAstore (hx : p.tables.exec = exec) (hb : c.code = code) {i : Nat} (hd : decode code pc = .ok (.astore i, 2)) (hgo : am_Snd p l e R s m args below meth c Q Y ad0 nL c0 q0 code rt go (pc + 2)) : am_Snd p l e R s m args below meth c Q Y ad0 nL c0 q0 code rt (am_oStore am_tA i A sub go jmp) pc := am_sStore hgo fun ad v V hv hok H locs k n ls S lv h1 h2 h => by
  rcases am_tA_ok hv hok with rfl | ⟨x, rfl⟩
  · exact lv_astoreN hx hb hd h1 h2 rfl h
  · exact lv_astore hx hb hd h1 h2 rfl h
theorem am_rAstoren (hx : p.tables.exec = exec) (hb : c.code = code) {i : Fin 4} (hd : decode code pc = .ok (.astore_n i, 1)) (hgo : am_Snd p l e R s m args below meth c Q Y ad0 nL c0 q0 code rt go (pc + 1)) : am_Snd p l e R s m args below meth c Q Y ad0 nL c0 q0 code rt (am_oStore am_tA i.val A sub go jmp) pc := am_sStore hgo fun ad v V hv hok H locs k n ls S lv h1 h2 h => by
  rcases am_tA_ok hv hok with rfl | ⟨x, rfl⟩
  · exact lv_astore_nN hx hb hd rfl h1 h2 rfl h
  · exact lv_astore_n hx hb hd rfl h1 h2 rfl h
theorem am_rIinc (hx : p.tables.exec = exec) (hb : c.code = code) (hA : am_kn A Y.2.2.1) {i : Nat} {z : Int} (hd : decode code pc = .ok (.iinc i z, 3)) (hgo : am_Snd p l e R s m args below meth c Q Y ad0 nL c0 q0 code rt go (pc + 3)) : am_Snd p l e R s m args below meth c Q Y ad0 nL c0 q0 code rt (am_oIinc i z A sub go jmp) pc := am_sIinc hA hgo fun H locs k1 n ls S lv j x v h1 h2 h3 h4 h => lv_iinc hx hb hd h1 h3 h4 h2 rfl h
theorem am_rIadd (hx : p.tables.exec = exec) (hb : c.code = code) (hA : am_kn A Y.2.2.1) (hd : decode code pc = .ok (.iadd, 1)) (hgo : am_Snd p l e R s m args below meth c Q Y ad0 nL c0 q0 code rt go (pc + 1)) : am_Snd p l e R s m args below meth c Q Y ad0 nL c0 q0 code rt (am_oBinA am_iadd A sub go jmp) pc := am_sBinA hgo fun ad u v r U V hu hv hr => by
  obtain ⟨x, y, rfl, rfl, e⟩ := am_R_iadd hA hu hv hr
  exact ⟨_, e, fun H locs k n ls S h => lv_iadd hx hb hd h⟩
theorem am_rIsub (hx : p.tables.exec = exec) (hb : c.code = code) (hA : am_kn A Y.2.2.1) (hd : decode code pc = .ok (.isub, 1)) (hgo : am_Snd p l e R s m args below meth c Q Y ad0 nL c0 q0 code rt go (pc + 1)) : am_Snd p l e R s m args below meth c Q Y ad0 nL c0 q0 code rt (am_oBinA am_isub A sub go jmp) pc := am_sBinA hgo fun ad u v r U V hu hv hr => by
  obtain ⟨x, y, rfl, rfl, e⟩ := am_R_isub hA hu hv hr
  exact ⟨_, e, fun H locs k n ls S h => lv_isub hx hb hd h⟩
theorem am_rImul (hx : p.tables.exec = exec) (hb : c.code = code) (hA : am_kn A Y.2.2.1) (hd : decode code pc = .ok (.imul, 1)) (hgo : am_Snd p l e R s m args below meth c Q Y ad0 nL c0 q0 code rt go (pc + 1)) : am_Snd p l e R s m args below meth c Q Y ad0 nL c0 q0 code rt (am_oBinA am_imul A sub go jmp) pc := am_sBinA hgo fun ad u v r U V hu hv hr => by
  obtain ⟨x, y, rfl, rfl, e⟩ := am_R_imul hA hu hv hr
  exact ⟨_, e, fun H locs k n ls S h => lv_imul hx hb hd h⟩
theorem am_rIdiv (hx : p.tables.exec = exec) (hb : c.code = code) (hA : am_kn A Y.2.2.1) (hd : decode code pc = .ok (.idiv, 1)) (hgo : am_Snd p l e R s m args below meth c Q Y ad0 nL c0 q0 code rt go (pc + 1)) : am_Snd p l e R s m args below meth c Q Y ad0 nL c0 q0 code rt (am_oBinA am_idiv A sub go jmp) pc := am_sBinA hgo fun ad u v r U V hu hv hr => by
  obtain ⟨x, y, rfl, rfl, hne, e⟩ := am_R_idiv hA hu hv hr
  exact ⟨_, e, fun H locs k n ls S h => lv_idiv hx hb hd hne h⟩
theorem am_rIrem (hx : p.tables.exec = exec) (hb : c.code = code) (hA : am_kn A Y.2.2.1) (hd : decode code pc = .ok (.irem, 1)) (hgo : am_Snd p l e R s m args below meth c Q Y ad0 nL c0 q0 code rt go (pc + 1)) : am_Snd p l e R s m args below meth c Q Y ad0 nL c0 q0 code rt (am_oBinA am_irem A sub go jmp) pc := am_sBinA hgo fun ad u v r U V hu hv hr => by
  obtain ⟨x, y, rfl, rfl, hne, e⟩ := am_R_irem hA hu hv hr
  exact ⟨_, e, fun H locs k n ls S h => lv_irem hx hb hd hne h⟩
end AMROWP
end
section
/-! ===== rows by instruction: numbers and branches ===== -/
theorem am_n32_ok {r : UInt32} (h : am_n32 r = true) : vf_n32 r := of_decide_eq_true (p := r &&& 0x7fffffff ≤ 0x7f800000) h
theorem am_n64_ok {r : UInt64} (h : am_n64 r = true) : vf_n64 r := of_decide_eq_true (p := r &&& 0x7fffffffffffffff ≤ 0x7ff0000000000000) h
section AMROWN
variable {p : Program} {l : Launch} {e : Env} {R : Room} {s : State} {m : MethodId} {args : Array Value} {below : List Frame} {meth : Method} {c : Code} {Q : State → Prop} {Y : am_Y} {A : am_A} {ad0 : List Nat} {nL c0 q0 : Nat} {code : ByteArray} {rt : Option FieldType}
variable {sub : Nat → am_G} {go : am_G} {jmp : Nat → am_G} {pc : Nat} {own : String}
theorem am_rIor (hx : p.tables.exec = exec) (hb : c.code = code) (hd : decode code pc = .ok (.ior, 1)) (hgo : am_Snd p l e R s m args below meth c Q Y ad0 nL c0 q0 code rt go (pc + 1)) : am_Snd p l e R s m args below meth c Q Y ad0 nL c0 q0 code rt (am_oBin (am_i22 (fun x y => am_ofI (x ||| y))) A sub go jmp) pc := am_sBin hgo fun ad u v r U V hu hv hr => by
  obtain ⟨hk, hr⟩ := am_if_some hr
  obtain ⟨e1, e2⟩ := am_R_k2 hk hu hv
  cases hr
  subst e1
  subst e2
  exact ⟨_, am_ofI_ok _ _ _ _, fun H locs k n ls S h => lv_ior hx hb hd h⟩
theorem am_rIshl (hx : p.tables.exec = exec) (hb : c.code = code) (hd : decode code pc = .ok (.ishl, 1)) (hgo : am_Snd p l e R s m args below meth c Q Y ad0 nL c0 q0 code rt go (pc + 1)) : am_Snd p l e R s m args below meth c Q Y ad0 nL c0 q0 code rt (am_oBin (am_i22 (fun x y => am_ofI (x <<< (y &&& 31)))) A sub go jmp) pc := am_sBin hgo fun ad u v r U V hu hv hr => by
  obtain ⟨hk, hr⟩ := am_if_some hr
  obtain ⟨e1, e2⟩ := am_R_k2 hk hu hv
  cases hr
  subst e1
  subst e2
  exact ⟨_, am_ofI_ok _ _ _ _, fun H locs k n ls S h => lv_ishl hx hb hd h⟩
theorem am_rI2c (hx : p.tables.exec = exec) (hb : c.code = code) (hd : decode code pc = .ok (.i2c, 1)) (hgo : am_Snd p l e R s m args below meth c Q Y ad0 nL c0 q0 code rt go (pc + 1)) : am_Snd p l e R s m args below meth c Q Y ad0 nL c0 q0 code rt (am_oUn (am_i1 (fun x => am_ofI (x.toUInt32 % 65536).toInt32)) A sub go jmp) pc := am_sUn hgo fun ad u r U hu hr => by
  obtain ⟨hk, hr⟩ := am_bif_some hr
  have e := am_tg0 hk hu
  cases hr
  subst e
  exact ⟨_, am_ofI_ok _ _ _ _, fun H locs k n ls S h => lv_i2c hx hb hd rfl h⟩
theorem am_rI2l (hx : p.tables.exec = exec) (hb : c.code = code) (hd : decode code pc = .ok (.i2l, 1)) (hgo : am_Snd p l e R s m args below meth c Q Y ad0 nL c0 q0 code rt go (pc + 1)) : am_Snd p l e R s m args below meth c Q Y ad0 nL c0 q0 code rt (am_oUn (am_i1 (fun x => am_ofL x.toInt64)) A sub go jmp) pc := am_sUn hgo fun ad u r U hu hr => by
  obtain ⟨hk, hr⟩ := am_bif_some hr
  have e := am_tg0 hk hu
  cases hr
  subst e
  exact ⟨_, am_ofL_ok _ _ _ _, fun H locs k n ls S h => lv_i2l hx hb hd rfl h⟩
theorem am_rI2f (hx : p.tables.exec = exec) (hb : c.code = code) (hd : decode code pc = .ok (.i2f, 1)) (hgo : am_Snd p l e R s m args below meth c Q Y ad0 nL c0 q0 code rt go (pc + 1)) : am_Snd p l e R s m args below meth c Q Y ad0 nL c0 q0 code rt (am_oUn (am_i1 (fun x => am_ofF (FP.i2f x))) A sub go jmp) pc := am_sUn hgo fun ad u r U hu hr => by
  obtain ⟨hk, hr⟩ := am_bif_some hr
  have e := am_tg0 hk hu
  cases hr
  subst e
  exact ⟨_, am_ofF_ok _ _ _ _, fun H locs k n ls S h => lv_i2f hx hb hd h⟩
theorem am_rL2i (hx : p.tables.exec = exec) (hb : c.code = code) (hd : decode code pc = .ok (.l2i, 1)) (hgo : am_Snd p l e R s m args below meth c Q Y ad0 nL c0 q0 code rt go (pc + 1)) : am_Snd p l e R s m args below meth c Q Y ad0 nL c0 q0 code rt (am_oUn (am_l1 (fun x => am_ofI x.toInt32)) A sub go jmp) pc := am_sUn hgo fun ad u r U hu hr => by
  obtain ⟨hk, hr⟩ := am_bif_some hr
  have e := am_tg1 hk hu
  cases hr
  subst e
  exact ⟨_, am_ofI_ok _ _ _ _, fun H locs k n ls S h => lv_l2i hx hb hd rfl h⟩
theorem am_rF2i (hx : p.tables.exec = exec) (hb : c.code = code) (hd : decode code pc = .ok (.f2i, 1)) (hgo : am_Snd p l e R s m args below meth c Q Y ad0 nL c0 q0 code rt go (pc + 1)) : am_Snd p l e R s m args below meth c Q Y ad0 nL c0 q0 code rt (am_oUn (am_f1v (fun x => am_ofI (FP.f2i x))) A sub go jmp) pc := am_sUn hgo fun ad u r U hu hr => by
  obtain ⟨hk, hr⟩ := am_bif_some hr
  have e := am_tg2 hk hu
  cases hr
  subst e
  exact ⟨_, am_ofI_ok _ _ _ _, fun H locs k n ls S h => lv_f2i hx hb hd h⟩
theorem am_rD2l (hx : p.tables.exec = exec) (hb : c.code = code) (hd : decode code pc = .ok (.d2l, 1)) (hgo : am_Snd p l e R s m args below meth c Q Y ad0 nL c0 q0 code rt go (pc + 1)) : am_Snd p l e R s m args below meth c Q Y ad0 nL c0 q0 code rt (am_oUn (am_d1v (fun x => am_ofL (FP.d2l x))) A sub go jmp) pc := am_sUn hgo fun ad u r U hu hr => by
  obtain ⟨hk, hr⟩ := am_bif_some hr
  have e := am_tg3 hk hu
  cases hr
  subst e
  exact ⟨_, am_ofL_ok _ _ _ _, fun H locs k n ls S h => lv_d2l hx hb hd h⟩
theorem am_rLadd (hx : p.tables.exec = exec) (hb : c.code = code) (hd : decode code pc = .ok (.ladd, 1)) (hgo : am_Snd p l e R s m args below meth c Q Y ad0 nL c0 q0 code rt go (pc + 1)) : am_Snd p l e R s m args below meth c Q Y ad0 nL c0 q0 code rt (am_oBin (am_l22 (fun x y => am_ofL (x + y))) A sub go jmp) pc := am_sBin hgo fun ad u v r U V hu hv hr => by
  obtain ⟨hk, hr⟩ := am_bif_some hr
  rw [Bool.and_eq_true] at hk
  have e1 := am_tg1 hk.1 hu
  have e2 := am_tg1 hk.2 hv
  cases hr
  subst e1
  subst e2
  exact ⟨_, am_ofL_ok _ _ _ _, fun H locs k n ls S h => lv_ladd hx hb hd h⟩
theorem am_rLsub (hx : p.tables.exec = exec) (hb : c.code = code) (hd : decode code pc = .ok (.lsub, 1)) (hgo : am_Snd p l e R s m args below meth c Q Y ad0 nL c0 q0 code rt go (pc + 1)) : am_Snd p l e R s m args below meth c Q Y ad0 nL c0 q0 code rt (am_oBin (am_l22 (fun x y => am_ofL (x - y))) A sub go jmp) pc := am_sBin hgo fun ad u v r U V hu hv hr => by
  obtain ⟨hk, hr⟩ := am_bif_some hr
  rw [Bool.and_eq_true] at hk
  have e1 := am_tg1 hk.1 hu
  have e2 := am_tg1 hk.2 hv
  cases hr
  subst e1
  subst e2
  exact ⟨_, am_ofL_ok _ _ _ _, fun H locs k n ls S h => lv_lsub hx hb hd h⟩
theorem am_rLmul (hx : p.tables.exec = exec) (hb : c.code = code) (hd : decode code pc = .ok (.lmul, 1)) (hgo : am_Snd p l e R s m args below meth c Q Y ad0 nL c0 q0 code rt go (pc + 1)) : am_Snd p l e R s m args below meth c Q Y ad0 nL c0 q0 code rt (am_oBin (am_l22 (fun x y => am_ofL (x * y))) A sub go jmp) pc := am_sBin hgo fun ad u v r U V hu hv hr => by
  obtain ⟨hk, hr⟩ := am_bif_some hr
  rw [Bool.and_eq_true] at hk
  have e1 := am_tg1 hk.1 hu
  have e2 := am_tg1 hk.2 hv
  cases hr
  subst e1
  subst e2
  exact ⟨_, am_ofL_ok _ _ _ _, fun H locs k n ls S h => lv_lmul hx hb hd h⟩
theorem am_rLor (hx : p.tables.exec = exec) (hb : c.code = code) (hd : decode code pc = .ok (.lor, 1)) (hgo : am_Snd p l e R s m args below meth c Q Y ad0 nL c0 q0 code rt go (pc + 1)) : am_Snd p l e R s m args below meth c Q Y ad0 nL c0 q0 code rt (am_oBin (am_l22 (fun x y => am_ofL (x ||| y))) A sub go jmp) pc := am_sBin hgo fun ad u v r U V hu hv hr => by
  obtain ⟨hk, hr⟩ := am_bif_some hr
  rw [Bool.and_eq_true] at hk
  have e1 := am_tg1 hk.1 hu
  have e2 := am_tg1 hk.2 hv
  cases hr
  subst e1
  subst e2
  exact ⟨_, am_ofL_ok _ _ _ _, fun H locs k n ls S h => lv_lor hx hb hd h⟩
theorem am_rLshl (hx : p.tables.exec = exec) (hb : c.code = code) (hd : decode code pc = .ok (.lshl, 1)) (hgo : am_Snd p l e R s m args below meth c Q Y ad0 nL c0 q0 code rt go (pc + 1)) : am_Snd p l e R s m args below meth c Q Y ad0 nL c0 q0 code rt (am_oBin (am_li (fun x y => am_ofL (x <<< (y.toInt64 &&& 63)))) A sub go jmp) pc := am_sBin hgo fun ad u v r U V hu hv hr => by
  obtain ⟨hk, hr⟩ := am_bif_some hr
  rw [Bool.and_eq_true] at hk
  have e1 := am_tg1 hk.1 hu
  have e2 := am_tg0 hk.2 hv
  cases hr
  subst e1
  subst e2
  exact ⟨_, am_ofL_ok _ _ _ _, fun H locs k n ls S h => lv_lshl hx hb hd rfl h⟩
theorem am_rFcmp (hx : p.tables.exec = exec) (hb : c.code = code) {op : CmpOp} (hd : decode code pc = .ok (.fcmp op, 1)) (hgo : am_Snd p l e R s m args below meth c Q Y ad0 nL c0 q0 code rt go (pc + 1)) : am_Snd p l e R s m args below meth c Q Y ad0 nL c0 q0 code rt (am_oBin (am_fc (fun x y => Op.cmpValue (FP.fcmp x y) op)) A sub go jmp) pc := am_sBin hgo fun ad u v r U V hu hv hr => by
  obtain ⟨hk, hr⟩ := am_bif_some hr
  rw [Bool.and_eq_true] at hk
  have e1 := am_tg2 hk.1 hu
  have e2 := am_tg2 hk.2 hv
  cases hr
  subst e1
  subst e2
  exact ⟨_, am_ofI_ok _ _ _ _, fun H locs k n ls S h => lv_fcmp hx hb hd h⟩
theorem am_rFdiv (hx : p.tables.exec = exec) (hb : c.code = code) (hd : decode code pc = .ok (.fdiv, 1)) (hgo : am_Snd p l e R s m args below meth c Q Y ad0 nL c0 q0 code rt go (pc + 1)) : am_Snd p l e R s m args below meth c Q Y ad0 nL c0 q0 code rt (am_oBin (am_f22 am_n32 FP.fdiv) A sub go jmp) pc := am_sBin hgo fun ad u v r U V hu hv hr => by
  obtain ⟨hk, hr⟩ := am_bif_some hr
  rw [Bool.and_eq_true, Bool.and_eq_true] at hk
  have e1 := am_tg2 hk.1.1 hu
  have e2 := am_tg2 hk.1.2 hv
  cases hr
  subst e1
  subst e2
  exact ⟨_, am_ofF_ok _ _ _ _, fun H locs k n ls S h => lv_fdiv hx hb hd (am_n32_ok hk.2) h⟩
theorem am_rFmul (hx : p.tables.exec = exec) (hb : c.code = code) (hd : decode code pc = .ok (.fmul, 1)) (hgo : am_Snd p l e R s m args below meth c Q Y ad0 nL c0 q0 code rt go (pc + 1)) : am_Snd p l e R s m args below meth c Q Y ad0 nL c0 q0 code rt (am_oBin (am_f22 am_n32 FP.fmul) A sub go jmp) pc := am_sBin hgo fun ad u v r U V hu hv hr => by
  obtain ⟨hk, hr⟩ := am_bif_some hr
  rw [Bool.and_eq_true, Bool.and_eq_true] at hk
  have e1 := am_tg2 hk.1.1 hu
  have e2 := am_tg2 hk.1.2 hv
  cases hr
  subst e1
  subst e2
  exact ⟨_, am_ofF_ok _ _ _ _, fun H locs k n ls S h => lv_fmul hx hb hd (am_n32_ok hk.2) h⟩
theorem am_rFsub (hx : p.tables.exec = exec) (hb : c.code = code) (hd : decode code pc = .ok (.fsub, 1)) (hgo : am_Snd p l e R s m args below meth c Q Y ad0 nL c0 q0 code rt go (pc + 1)) : am_Snd p l e R s m args below meth c Q Y ad0 nL c0 q0 code rt (am_oBin (am_f22 am_n32 FP.fsub) A sub go jmp) pc := am_sBin hgo fun ad u v r U V hu hv hr => by
  obtain ⟨hk, hr⟩ := am_bif_some hr
  rw [Bool.and_eq_true, Bool.and_eq_true] at hk
  have e1 := am_tg2 hk.1.1 hu
  have e2 := am_tg2 hk.1.2 hv
  cases hr
  subst e1
  subst e2
  exact ⟨_, am_ofF_ok _ _ _ _, fun H locs k n ls S h => lv_fsub hx hb hd (am_n32_ok hk.2) h⟩
theorem am_rDadd (hx : p.tables.exec = exec) (hb : c.code = code) (hd : decode code pc = .ok (.dadd, 1)) (hgo : am_Snd p l e R s m args below meth c Q Y ad0 nL c0 q0 code rt go (pc + 1)) : am_Snd p l e R s m args below meth c Q Y ad0 nL c0 q0 code rt (am_oBin (am_d22 am_n64 FP.dadd) A sub go jmp) pc := am_sBin hgo fun ad u v r U V hu hv hr => by
  obtain ⟨hk, hr⟩ := am_bif_some hr
  rw [Bool.and_eq_true, Bool.and_eq_true] at hk
  have e1 := am_tg3 hk.1.1 hu
  have e2 := am_tg3 hk.1.2 hv
  cases hr
  subst e1
  subst e2
  exact ⟨_, am_ofD_ok _ _ _ _, fun H locs k n ls S h => lv_dadd hx hb hd (am_n64_ok hk.2) h⟩
theorem am_rDsub (hx : p.tables.exec = exec) (hb : c.code = code) (hd : decode code pc = .ok (.dsub, 1)) (hgo : am_Snd p l e R s m args below meth c Q Y ad0 nL c0 q0 code rt go (pc + 1)) : am_Snd p l e R s m args below meth c Q Y ad0 nL c0 q0 code rt (am_oBin (am_d22 am_n64 FP.dsub) A sub go jmp) pc := am_sBin hgo fun ad u v r U V hu hv hr => by
  obtain ⟨hk, hr⟩ := am_bif_some hr
  rw [Bool.and_eq_true, Bool.and_eq_true] at hk
  have e1 := am_tg3 hk.1.1 hu
  have e2 := am_tg3 hk.1.2 hv
  cases hr
  subst e1
  subst e2
  exact ⟨_, am_ofD_ok _ _ _ _, fun H locs k n ls S h => lv_dsub hx hb hd (am_n64_ok hk.2) h⟩
theorem am_rDmul (hx : p.tables.exec = exec) (hb : c.code = code) (hd : decode code pc = .ok (.dmul, 1)) (hgo : am_Snd p l e R s m args below meth c Q Y ad0 nL c0 q0 code rt go (pc + 1)) : am_Snd p l e R s m args below meth c Q Y ad0 nL c0 q0 code rt (am_oBin (am_d22 am_n64 FP.dmul) A sub go jmp) pc := am_sBin hgo fun ad u v r U V hu hv hr => by
  obtain ⟨hk, hr⟩ := am_bif_some hr
  rw [Bool.and_eq_true, Bool.and_eq_true] at hk
  have e1 := am_tg3 hk.1.1 hu
  have e2 := am_tg3 hk.1.2 hv
  cases hr
  subst e1
  subst e2
  exact ⟨_, am_ofD_ok _ _ _ _, fun H locs k n ls S h => lv_dmul hx hb hd (am_n64_ok hk.2) h⟩
theorem am_rF2d (hx : p.tables.exec = exec) (hb : c.code = code) (hd : decode code pc = .ok (.f2d, 1)) (hgo : am_Snd p l e R s m args below meth c Q Y ad0 nL c0 q0 code rt go (pc + 1)) : am_Snd p l e R s m args below meth c Q Y ad0 nL c0 q0 code rt (am_oUn am_f2d A sub go jmp) pc := am_sUn hgo fun ad u r U hu hr => by
  obtain ⟨hk, hr⟩ := am_bif_some hr
  rw [Bool.and_eq_true] at hk
  have e := am_tg2 hk.1 hu
  cases hr
  subst e
  exact ⟨_, am_ofD_ok _ _ _ _, fun H locs k n ls S h => lv_f2d hx hb hd (am_n64_ok hk.2) h⟩
theorem am_rI2d (hx : p.tables.exec = exec) (hb : c.code = code) (hd : decode code pc = .ok (.i2d, 1)) (hgo : am_Snd p l e R s m args below meth c Q Y ad0 nL c0 q0 code rt go (pc + 1)) : am_Snd p l e R s m args below meth c Q Y ad0 nL c0 q0 code rt (am_oUn am_i2d A sub go jmp) pc := am_sUn hgo fun ad u r U hu hr => by
  unfold am_i2d at hr
  cases h0 : Nat.beq u.1 0 with
  | true =>
    rw [h0] at hr
    have e := am_tg0 h0 hu
    cases hr
    subst e
    exact ⟨_, am_ofD_ok _ _ _ _, fun H locs k n ls S h => lv_i2d hx hb hd h⟩
  | false =>
    rw [h0] at hr
    obtain ⟨h6, hr⟩ := am_bif_some (show (bif Nat.beq u.1 6 then some (7, 0, u.2.2) else none) = some r from hr)
    obtain ⟨t, n, f⟩ := u
    have e := am_tag h6
    dsimp only at e
    subst e
    cases hr
    have hU : U = .int (am_i (am_ev Y.2.2.1 f)) := hu
    subst hU
    exact ⟨.double (FP.i2d (am_i (am_ev Y.2.2.1 f))), rfl, fun H locs k n ls S h => lv_i2d hx hb hd h⟩
theorem am_dq_n : (List.range 201).all (fun k => [4607182418800017408, 4611686018427387904, 4613937818241073152, 4616189618054758400].all (fun n => am_n64 (FP.ddiv (FP.i2d (am_i (k : Int))) (UInt64.ofNat n)))) = true := by decide +kernel
theorem am_rDdiv (hx : p.tables.exec = exec) (hb : c.code = code) (hA : am_kn A Y.2.2.1) (hd : decode code pc = .ok (.ddiv, 1)) (hgo : am_Snd p l e R s m args below meth c Q Y ad0 nL c0 q0 code rt go (pc + 1)) : am_Snd p l e R s m args below meth c Q Y ad0 nL c0 q0 code rt (am_oBinA am_ddiv A sub go jmp) pc := am_sBinA hgo fun ad u v r U V hu hv hr => by
  unfold am_ddiv at hr
  cases h0 : (Nat.beq u.1 7 && Nat.beq v.1 3 && am_d14 v.2.1) with
  | false =>
    rw [h0] at hr
    obtain ⟨hk, hr⟩ := am_bif_some (show am_d22 am_n64 FP.ddiv u v = some r from hr)
    rw [Bool.and_eq_true, Bool.and_eq_true] at hk
    have e1 := am_tg3 hk.1.1 hu
    have e2 := am_tg3 hk.1.2 hv
    cases hr
    subst e1
    subst e2
    exact ⟨_, am_ofD_ok _ _ _ _, fun H locs k n ls S h => lv_ddiv hx hb hd (am_n64_ok hk.2) h⟩
  | true =>
    rw [h0] at hr
    rw [Bool.and_eq_true, Bool.and_eq_true] at h0
    obtain ⟨t, n, f⟩ := u
    have e := am_tag h0.1.1
    dsimp only at e
    subst e
    have hU : U = .double (FP.i2d (am_i (am_ev Y.2.2.1 f))) := hu
    have e2 := am_tg3 h0.1.2 hv
    subst hU
    subst e2
    cases hl : am_lim A f with
    | none =>
      rw [hl] at hr
      cases hr
    | some q =>
      rw [hl] at hr
      obtain ⟨hk, hr⟩ := am_bif_some (show (bif decide (0 ≤ q.1) && decide (q.2 ≤ 200) then some (9, v.2.1, f) else none) = some r from hr)
      rw [Bool.and_eq_true, decide_eq_true_eq, decide_eq_true_eq] at hk
      obtain ⟨b1, b2⟩ := am_lim_ok hA hl
      cases hr
      refine ⟨.double (am_dq Y.2.2.1 v.2.1 f), rfl, fun H locs k n ls S h => lv_ddiv hx hb hd ?_ h⟩
      have hz : ((am_ev Y.2.2.1 f).toNat : Int) = am_ev Y.2.2.1 f := Int.toNat_of_nonneg (by omega)
      have q1 := List.all_eq_true.mp am_dq_n (am_ev Y.2.2.1 f).toNat (List.mem_range.mpr (by omega))
      rw [hz] at q1
      have q2 := List.all_eq_true.mp q1 v.2.1 (by
        have h4 := h0.2
        simp only [am_d14, Bool.or_eq_true] at h4
        rcases h4 with ((h4 | h4) | h4) | h4 <;> (rw [Nat.eq_of_beq_eq_true h4]; simp))
      exact am_n64_ok q2
theorem am_dq_c : (List.range 201).all (fun k => [4607182418800017408, 4611686018427387904, 4613937818241073152, 4616189618054758400].all (fun n => [CmpOp.g, CmpOp.l].all (fun o => decide (Op.cmpValue (FP.dcmp (FP.ddiv (FP.i2d (am_i (k : Int))) (UInt64.ofNat n)) (FP.ddiv (FP.i2d (am_i (k : Int))) (UInt64.ofNat n))) o = 0)))) = true := by decide +kernel
theorem am_d14_mem {n : Nat} (h : am_d14 n = true) : n ∈ [4607182418800017408, 4611686018427387904, 4613937818241073152, 4616189618054758400] := by
  simp only [am_d14, Bool.or_eq_true] at h
  rcases h with ((h | h) | h) | h <;> (rw [Nat.eq_of_beq_eq_true h]; simp)
theorem am_rDcmp (hx : p.tables.exec = exec) (hb : c.code = code) (hA : am_kn A Y.2.2.1) {op : CmpOp} (hd : decode code pc = .ok (.dcmp op, 1)) (hgo : am_Snd p l e R s m args below meth c Q Y ad0 nL c0 q0 code rt go (pc + 1)) : am_Snd p l e R s m args below meth c Q Y ad0 nL c0 q0 code rt (am_oBinA (am_dcmpA op) A sub go jmp) pc := am_sBinA hgo fun ad u v r U V hu hv hr => by
  unfold am_dcmpA at hr
  cases h0 : (Nat.beq u.1 9 && Nat.beq v.1 9 && Nat.beq u.2.1 v.2.1 && am_feq u.2.2 v.2.2 && am_d14 u.2.1) with
  | false =>
    rw [h0] at hr
    obtain ⟨hk, hr⟩ := am_bif_some (show am_dc (fun x y => Op.cmpValue (FP.dcmp x y) op) u v = some r from hr)
    rw [Bool.and_eq_true] at hk
    have e1 := am_tg3 hk.1 hu
    have e2 := am_tg3 hk.2 hv
    cases hr
    subst e1
    subst e2
    exact ⟨_, am_ofI_ok _ _ _ _, fun H locs k n ls S h => lv_dcmp hx hb hd h⟩
  | true =>
    rw [h0] at hr
    simp only [Bool.and_eq_true] at h0
    obtain ⟨t, n, f⟩ := u
    obtain ⟨t2, n2, f2⟩ := v
    have e := am_tag h0.1.1.1.1
    have e2 := am_tag h0.1.1.1.2
    have e3 := am_tag h0.1.1.2
    have e4 := am_ev_eq Y.2.2.1 _ _ h0.1.2
    dsimp only at e e2 e3 e4
    subst e
    subst e2
    subst e3
    have hU : U = .double (am_dq Y.2.2.1 n f) := hu
    have hV : V = .double (am_dq Y.2.2.1 n f2) := hv
    rw [show am_dq Y.2.2.1 n f2 = am_dq Y.2.2.1 n f by unfold am_dq; rw [e4]] at hV
    subst hU
    subst hV
    cases hl : am_lim A f with
    | none =>
      rw [show am_lim A (9, n, f).2.2 = am_lim A f from rfl, hl] at hr
      cases hr
    | some q =>
      rw [show am_lim A (9, n, f).2.2 = am_lim A f from rfl, hl] at hr
      obtain ⟨hk, hr⟩ := am_bif_some (show (bif decide (0 ≤ q.1) && decide (q.2 ≤ 200) then some (0, 0, []) else none) = some r from hr)
      rw [Bool.and_eq_true, decide_eq_true_eq, decide_eq_true_eq] at hk
      obtain ⟨b1, b2⟩ := am_lim_ok hA hl
      cases hr
      have hz : ((am_ev Y.2.2.1 f).toNat : Int) = am_ev Y.2.2.1 f := Int.toNat_of_nonneg (by omega)
      have q1 := List.all_eq_true.mp am_dq_c (am_ev Y.2.2.1 f).toNat (List.mem_range.mpr (by omega))
      rw [hz] at q1
      have q2 := List.all_eq_true.mp (List.all_eq_true.mp q1 n (am_d14_mem h0.2)) op (by cases op <;> simp)
      refine ⟨.int 0, rfl, fun H locs k n2 ls S h => lv_dcmp hx hb hd ?_⟩
      unfold am_dq
      rw [of_decide_eq_true q2]
      exact h
theorem am_rLcmp (hx : p.tables.exec = exec) (hb : c.code = code) (hd : decode code pc = .ok (.lcmp, 1)) (hgo : am_Snd p l e R s m args below meth c Q Y ad0 nL c0 q0 code rt go (pc + 1)) : am_Snd p l e R s m args below meth c Q Y ad0 nL c0 q0 code rt (am_oBin am_lcmp A sub go jmp) pc := am_sBin hgo fun ad u v r U V hu hv hr => by
  unfold am_lcmp at hr
  cases h0 : (Nat.beq u.1 11 && Nat.beq v.1 11 && Nat.beq u.2.1 v.2.1 && am_feq u.2.2 v.2.2) with
  | false =>
    rw [h0] at hr
    obtain ⟨hk, hr⟩ := am_bif_some (show am_l22 (fun x y => am_ofI (lg_cmp x y)) u v = some r from hr)
    rw [Bool.and_eq_true] at hk
    have e1 := am_tg1 hk.1 hu
    have e2 := am_tg1 hk.2 hv
    cases hr
    subst e1
    subst e2
    exact ⟨_, am_ofI_ok _ _ _ _, fun H locs k n ls S h => W.lcmp hx hb hd h⟩
  | true =>
    rw [h0] at hr
    cases hr
    rw [Bool.and_eq_true, Bool.and_eq_true, Bool.and_eq_true] at h0
    obtain ⟨t, n, f⟩ := u
    obtain ⟨t2, n2, f2⟩ := v
    have e := am_tag h0.1.1.1
    have e2 := am_tag h0.1.1.2
    have e3 := am_tag h0.1.2
    have e4 := am_ev_eq Y.2.2.1 _ _ h0.2
    dsimp only at e e2 e3 e4
    subst e
    subst e2
    subst e3
    have hU : U = .long (am_dq Y.2.2.1 n f).toInt64 := hu
    have hV : V = .long (am_dq Y.2.2.1 n f2).toInt64 := hv
    rw [show am_dq Y.2.2.1 n f2 = am_dq Y.2.2.1 n f by unfold am_dq; rw [e4]] at hV
    subst hU
    subst hV
    refine ⟨.int 0, rfl, fun H locs k n2 ls S h => W.lcmp hx hb hd ?_⟩
    rw [(lg_cmp_eq _ _).mpr rfl]
    exact h
theorem am_rIf1eq (hx : p.tables.exec = exec) (hb : c.code = code) (hA : am_kn A Y.2.2.1) {off : Int} {t pt : Nat} (ht : (pc : Int) + off = (pt : Int)) (hd : decode code pc = .ok (.ifCond .eq off, 3)) (hgo : am_Snd p l e R s m args below meth c Q Y ad0 nL c0 q0 code rt go (pc + 3)) (hj : am_Snd p l e R s m args below meth c Q Y ad0 nL c0 q0 code rt (jmp t) pt) : am_Snd p l e R s m args below meth c Q Y ad0 nL c0 q0 code rt (am_oIf1 am_eq t A sub go jmp) pc := am_sIf1 hgo hj fun ad u U b hu hr H locs k n ls S kt kf => by
  obtain ⟨x, y, ex, ey, e⟩ := am_R_eq (b := Y.2.2.2) (ad := ad) hA hu (am_R_0 0) hr
  subst ex
  have ez : y = 0 := (Value.int.inj ey).symm
  subst ez
  exact lv_if_eq hx hb hd ht (fun q => kt (e.mp q)) (fun q => kf (by cases b with | false => rfl | true => exact absurd (e.mpr rfl) q))
theorem am_rIf1ne (hx : p.tables.exec = exec) (hb : c.code = code) (hA : am_kn A Y.2.2.1) {off : Int} {t pt : Nat} (ht : (pc : Int) + off = (pt : Int)) (hd : decode code pc = .ok (.ifCond .ne off, 3)) (hgo : am_Snd p l e R s m args below meth c Q Y ad0 nL c0 q0 code rt go (pc + 3)) (hj : am_Snd p l e R s m args below meth c Q Y ad0 nL c0 q0 code rt (jmp t) pt) : am_Snd p l e R s m args below meth c Q Y ad0 nL c0 q0 code rt (am_oIf1n am_eq t A sub go jmp) pc := am_sIf1n hgo hj fun ad u U b hu hr H locs k n ls S kt kf => by
  obtain ⟨x, y, ex, ey, e⟩ := am_R_eq (b := Y.2.2.2) (ad := ad) hA hu (am_R_0 0) hr
  subst ex
  have ez : y = 0 := (Value.int.inj ey).symm
  subst ez
  exact lv_if_ne hx hb hd ht (fun q => kt (by cases b with | false => rfl | true => exact absurd (e.mpr rfl) q)) (fun q => kf (e.mp q))
theorem am_rIf1lt (hx : p.tables.exec = exec) (hb : c.code = code) (hA : am_kn A Y.2.2.1) {off : Int} {t pt : Nat} (ht : (pc : Int) + off = (pt : Int)) (hd : decode code pc = .ok (.ifCond .lt off, 3)) (hgo : am_Snd p l e R s m args below meth c Q Y ad0 nL c0 q0 code rt go (pc + 3)) (hj : am_Snd p l e R s m args below meth c Q Y ad0 nL c0 q0 code rt (jmp t) pt) : am_Snd p l e R s m args below meth c Q Y ad0 nL c0 q0 code rt (am_oIf1 am_lt t A sub go jmp) pc := am_sIf1 hgo hj fun ad u U b hu hr H locs k n ls S kt kf => by
  obtain ⟨x, y, ex, ey, e⟩ := am_R_lt (b := Y.2.2.2) (ad := ad) hA hu (am_R_0 0) hr
  subst ex
  have ez : y = 0 := (Value.int.inj ey).symm
  subst ez
  exact lv_if_lt hx hb hd ht (fun q => kt (e.mp q)) (fun q => kf (by cases b with | false => rfl | true => exact absurd (e.mpr rfl) q))
theorem am_rIf1ge (hx : p.tables.exec = exec) (hb : c.code = code) (hA : am_kn A Y.2.2.1) {off : Int} {t pt : Nat} (ht : (pc : Int) + off = (pt : Int)) (hd : decode code pc = .ok (.ifCond .ge off, 3)) (hgo : am_Snd p l e R s m args below meth c Q Y ad0 nL c0 q0 code rt go (pc + 3)) (hj : am_Snd p l e R s m args below meth c Q Y ad0 nL c0 q0 code rt (jmp t) pt) : am_Snd p l e R s m args below meth c Q Y ad0 nL c0 q0 code rt (am_oIf1n am_lt t A sub go jmp) pc := am_sIf1n hgo hj fun ad u U b hu hr H locs k n ls S kt kf => by
  obtain ⟨x, y, ex, ey, e⟩ := am_R_lt (b := Y.2.2.2) (ad := ad) hA hu (am_R_0 0) hr
  subst ex
  have ez : y = 0 := (Value.int.inj ey).symm
  subst ez
  exact lv_if_ge hx hb hd ht (fun q => kt (by cases b with | false => rfl | true => exact absurd (e.mpr rfl) (Int32.not_lt.mpr q))) (fun q => kf (e.mp (Int32.not_le.mp q)))
theorem am_rIf1gt (hx : p.tables.exec = exec) (hb : c.code = code) (hA : am_kn A Y.2.2.1) {off : Int} {t pt : Nat} (ht : (pc : Int) + off = (pt : Int)) (hd : decode code pc = .ok (.ifCond .gt off, 3)) (hgo : am_Snd p l e R s m args below meth c Q Y ad0 nL c0 q0 code rt go (pc + 3)) (hj : am_Snd p l e R s m args below meth c Q Y ad0 nL c0 q0 code rt (jmp t) pt) : am_Snd p l e R s m args below meth c Q Y ad0 nL c0 q0 code rt (am_oIf1 am_gt t A sub go jmp) pc := am_sIf1 hgo hj fun ad u U b hu hr H locs k n ls S kt kf => by
  obtain ⟨y, x, ey, ex, e⟩ := am_R_lt (b := Y.2.2.2) (ad := ad) hA (am_R_0 0) hu hr
  subst ex
  have ez : y = 0 := (Value.int.inj ey).symm
  subst ez
  exact lv_if_gt hx hb hd ht (fun q => kt (e.mp q)) (fun q => kf (by cases b with | false => rfl | true => exact absurd (e.mpr rfl) q))
theorem am_rIf1le (hx : p.tables.exec = exec) (hb : c.code = code) (hA : am_kn A Y.2.2.1) {off : Int} {t pt : Nat} (ht : (pc : Int) + off = (pt : Int)) (hd : decode code pc = .ok (.ifCond .le off, 3)) (hgo : am_Snd p l e R s m args below meth c Q Y ad0 nL c0 q0 code rt go (pc + 3)) (hj : am_Snd p l e R s m args below meth c Q Y ad0 nL c0 q0 code rt (jmp t) pt) : am_Snd p l e R s m args below meth c Q Y ad0 nL c0 q0 code rt (am_oIf1n am_gt t A sub go jmp) pc := am_sIf1n hgo hj fun ad u U b hu hr H locs k n ls S kt kf => by
  obtain ⟨y, x, ey, ex, e⟩ := am_R_lt (b := Y.2.2.2) (ad := ad) hA (am_R_0 0) hu hr
  subst ex
  have ez : y = 0 := (Value.int.inj ey).symm
  subst ez
  exact lv_if_le hx hb hd ht (fun q => kt (by cases b with | false => rfl | true => exact absurd (e.mpr rfl) (Int32.not_lt.mpr q))) (fun q => kf (e.mp (Int32.not_le.mp q)))
theorem am_rIf2eq (hx : p.tables.exec = exec) (hb : c.code = code) (hA : am_kn A Y.2.2.1) {off : Int} {t pt : Nat} (ht : (pc : Int) + off = (pt : Int)) (hd : decode code pc = .ok (.if_icmp .eq off, 3)) (hgo : am_Snd p l e R s m args below meth c Q Y ad0 nL c0 q0 code rt go (pc + 3)) (hj : am_Snd p l e R s m args below meth c Q Y ad0 nL c0 q0 code rt (jmp t) pt) : am_Snd p l e R s m args below meth c Q Y ad0 nL c0 q0 code rt (am_oIf2 am_eq t A sub go jmp) pc := am_sIf2 hgo hj fun ad u v U V b hu hv hr H locs k n ls S kt kf => by
  obtain ⟨x, y, ex, ey, e⟩ := am_R_eq (b := Y.2.2.2) (ad := ad) hA hu hv hr
  subst ex
  subst ey
  exact lv_icmp_eq hx hb hd ht (fun q => kt (e.mp q)) (fun q => kf (by cases b with | false => rfl | true => exact absurd (e.mpr rfl) q))
theorem am_rIf2ne (hx : p.tables.exec = exec) (hb : c.code = code) (hA : am_kn A Y.2.2.1) {off : Int} {t pt : Nat} (ht : (pc : Int) + off = (pt : Int)) (hd : decode code pc = .ok (.if_icmp .ne off, 3)) (hgo : am_Snd p l e R s m args below meth c Q Y ad0 nL c0 q0 code rt go (pc + 3)) (hj : am_Snd p l e R s m args below meth c Q Y ad0 nL c0 q0 code rt (jmp t) pt) : am_Snd p l e R s m args below meth c Q Y ad0 nL c0 q0 code rt (am_oIf2n am_eq t A sub go jmp) pc := am_sIf2n hgo hj fun ad u v U V b hu hv hr H locs k n ls S kt kf => by
  obtain ⟨x, y, ex, ey, e⟩ := am_R_eq (b := Y.2.2.2) (ad := ad) hA hu hv hr
  subst ex
  subst ey
  exact lv_icmp_ne hx hb hd ht (fun q => kt (by cases b with | false => rfl | true => exact absurd (e.mpr rfl) q)) (fun q => kf (e.mp q))
theorem am_rIf2lt (hx : p.tables.exec = exec) (hb : c.code = code) (hA : am_kn A Y.2.2.1) {off : Int} {t pt : Nat} (ht : (pc : Int) + off = (pt : Int)) (hd : decode code pc = .ok (.if_icmp .lt off, 3)) (hgo : am_Snd p l e R s m args below meth c Q Y ad0 nL c0 q0 code rt go (pc + 3)) (hj : am_Snd p l e R s m args below meth c Q Y ad0 nL c0 q0 code rt (jmp t) pt) : am_Snd p l e R s m args below meth c Q Y ad0 nL c0 q0 code rt (am_oIf2 am_lt t A sub go jmp) pc := am_sIf2 hgo hj fun ad u v U V b hu hv hr H locs k n ls S kt kf => by
  obtain ⟨x, y, ex, ey, e⟩ := am_R_lt (b := Y.2.2.2) (ad := ad) hA hu hv hr
  subst ex
  subst ey
  exact lv_icmp_lt hx hb hd ht (fun q => kt (e.mp q)) (fun q => kf (by cases b with | false => rfl | true => exact absurd (e.mpr rfl) q))
theorem am_rIf2ge (hx : p.tables.exec = exec) (hb : c.code = code) (hA : am_kn A Y.2.2.1) {off : Int} {t pt : Nat} (ht : (pc : Int) + off = (pt : Int)) (hd : decode code pc = .ok (.if_icmp .ge off, 3)) (hgo : am_Snd p l e R s m args below meth c Q Y ad0 nL c0 q0 code rt go (pc + 3)) (hj : am_Snd p l e R s m args below meth c Q Y ad0 nL c0 q0 code rt (jmp t) pt) : am_Snd p l e R s m args below meth c Q Y ad0 nL c0 q0 code rt (am_oIf2n am_lt t A sub go jmp) pc := am_sIf2n hgo hj fun ad u v U V b hu hv hr H locs k n ls S kt kf => by
  obtain ⟨x, y, ex, ey, e⟩ := am_R_lt (b := Y.2.2.2) (ad := ad) hA hu hv hr
  subst ex
  subst ey
  exact lv_icmp_ge hx hb hd ht (fun q => kt (by cases b with | false => rfl | true => exact absurd (e.mpr rfl) (Int32.not_lt.mpr q))) (fun q => kf (e.mp (Int32.not_le.mp q)))
theorem am_rIf2gt (hx : p.tables.exec = exec) (hb : c.code = code) (hA : am_kn A Y.2.2.1) {off : Int} {t pt : Nat} (ht : (pc : Int) + off = (pt : Int)) (hd : decode code pc = .ok (.if_icmp .gt off, 3)) (hgo : am_Snd p l e R s m args below meth c Q Y ad0 nL c0 q0 code rt go (pc + 3)) (hj : am_Snd p l e R s m args below meth c Q Y ad0 nL c0 q0 code rt (jmp t) pt) : am_Snd p l e R s m args below meth c Q Y ad0 nL c0 q0 code rt (am_oIf2 am_gt t A sub go jmp) pc := am_sIf2 hgo hj fun ad u v U V b hu hv hr H locs k n ls S kt kf => by
  obtain ⟨y, x, ey, ex, e⟩ := am_R_lt (b := Y.2.2.2) (ad := ad) hA hv hu hr
  subst ex
  subst ey
  exact lv_icmp_gt hx hb hd ht (fun q => kt (e.mp q)) (fun q => kf (by cases b with | false => rfl | true => exact absurd (e.mpr rfl) q))
theorem am_rIf2le (hx : p.tables.exec = exec) (hb : c.code = code) (hA : am_kn A Y.2.2.1) {off : Int} {t pt : Nat} (ht : (pc : Int) + off = (pt : Int)) (hd : decode code pc = .ok (.if_icmp .le off, 3)) (hgo : am_Snd p l e R s m args below meth c Q Y ad0 nL c0 q0 code rt go (pc + 3)) (hj : am_Snd p l e R s m args below meth c Q Y ad0 nL c0 q0 code rt (jmp t) pt) : am_Snd p l e R s m args below meth c Q Y ad0 nL c0 q0 code rt (am_oIf2n am_gt t A sub go jmp) pc := am_sIf2n hgo hj fun ad u v U V b hu hv hr H locs k n ls S kt kf => by
  obtain ⟨y, x, ey, ex, e⟩ := am_R_lt (b := Y.2.2.2) (ad := ad) hA hv hu hr
  subst ex
  subst ey
  exact lv_icmp_le hx hb hd ht (fun q => kt (by cases b with | false => rfl | true => exact absurd (e.mpr rfl) (Int32.not_lt.mpr q))) (fun q => kf (e.mp (Int32.not_le.mp q)))
theorem am_rGoto (hx : p.tables.exec = exec) (hb : c.code = code) {off : Int} {t pt : Nat} (ht : (pc : Int) + off = (pt : Int)) (hd : decode code pc = .ok (.goto off, 3)) (hj : am_Snd p l e R s m args below meth c Q Y ad0 nL c0 q0 code rt (jmp t) pt) : am_Snd p l e R s m args below meth c Q Y ad0 nL c0 q0 code rt (am_oGoto t A sub go jmp) pc := am_sGoto hj fun H locs k n ls S h => lv_goto hx hb hd ht h
theorem am_rIfnull (hx : p.tables.exec = exec) (hb : c.code = code) {off : Int} {t pt : Nat} (ht : (pc : Int) + off = (pt : Int)) (hd : decode code pc = .ok (.ifnull off, 3)) (hgo : am_Snd p l e R s m args below meth c Q Y ad0 nL c0 q0 code rt go (pc + 3)) (hj : am_Snd p l e R s m args below meth c Q Y ad0 nL c0 q0 code rt (jmp t) pt) : am_Snd p l e R s m args below meth c Q Y ad0 nL c0 q0 code rt (am_oNull false t A sub go jmp) pc := am_sNull hgo hj (fun H locs k n ls S h => lv_ifnullN hx hb hd ht h) (fun x H locs k n ls S h => lv_ifnull hx hb hd h)
theorem am_rIfnonnull (hx : p.tables.exec = exec) (hb : c.code = code) {off : Int} {t pt : Nat} (ht : (pc : Int) + off = (pt : Int)) (hd : decode code pc = .ok (.ifnonnull off, 3)) (hgo : am_Snd p l e R s m args below meth c Q Y ad0 nL c0 q0 code rt go (pc + 3)) (hj : am_Snd p l e R s m args below meth c Q Y ad0 nL c0 q0 code rt (jmp t) pt) : am_Snd p l e R s m args below meth c Q Y ad0 nL c0 q0 code rt (am_oNull true t A sub go jmp) pc := am_sNull hgo hj (fun H locs k n ls S h => lv_ifnonnullN hx hb hd h) (fun x H locs k n ls S h => lv_ifnonnull hx hb hd ht h)
theorem am_rDup (hx : p.tables.exec = exec) (hb : c.code = code) (hd : decode code pc = .ok (.dup, 1)) (hgo : am_Snd p l e R s m args below meth c Q Y ad0 nL c0 q0 code rt go (pc + 1)) : am_Snd p l e R s m args below meth c Q Y ad0 nL c0 q0 code rt (am_oDup A sub go jmp) pc := am_sDup hgo fun V hV H locs k n ls S h => lv_dup hx hb hd hV h
theorem am_rDup2 (hx : p.tables.exec = exec) (hb : c.code = code) (hd : decode code pc = .ok (.dup2, 1)) (hgo : am_Snd p l e R s m args below meth c Q Y ad0 nL c0 q0 code rt go (pc + 1)) : am_Snd p l e R s m args below meth c Q Y ad0 nL c0 q0 code rt (am_oDup2 A sub go jmp) pc := am_sDup2 hgo fun V U hV hU H locs k n ls S h => lv_dup2_11 hx hb hd hV hU h
theorem am_si_ok {n : Nat} (h : Nat.blt n 4294967296 = true) : (Int32.ofNat n).toInt = am_si n := by
  have h1 : n < 4294967296 := by
    have := Nat.ble_eq.mp h
    omega
  unfold am_si
  rw [show (Int32.ofNat n).toInt = ((n : Int)).bmod (2 ^ 32) from Int32.toInt_ofNat', Int.bmod_def]
  cases h2 : Nat.blt n 2147483648 with
  | true =>
    have := Nat.ble_eq.mp h2
    show _ = (n : Int)
    rw [if_pos (by omega)]
    omega
  | false =>
    have : ¬ (n + 1 ≤ 2147483648) := fun q => by
      rw [show Nat.blt n 2147483648 = true from Nat.ble_eq.mpr q] at h2
      cases h2
    show _ = (n : Int) - 4294967296
    rw [if_neg (by omega)]
    omega
theorem am_rSwitch (hx : p.tables.exec = exec) (hb : c.code = code) {df lw hg : Int} {os : Array Int} {len : Nat} {ix : Int → Nat} (hj : ∀ o : Int, 0 ≤ (pc : Int) + o → am_Snd p l e R s m args below meth c Q Y ad0 nL c0 q0 code rt (jmp (ix o)) (am_tgt pc o)) (hdf : 0 ≤ (pc : Int) + df) (hos : os.toList.all (fun o => decide (0 ≤ (pc : Int) + o)) = true) (hd : decode code pc = .ok (.tableswitch df lw hg os, len)) : am_Snd p l e R s m args below meth c Q Y ad0 nL c0 q0 code rt (am_oSwitch (ix df) lw hg (os.toList.map ix) A sub go jmp) pc := by
  intro lo stk h nc ns o ho
  obtain ⟨x, rest, rfl, ho1⟩ := am_lc_some ho
  obtain ⟨hc, ho2⟩ := am_if_some ho1
  rw [am_and_t] at hc
  have ez := am_si_ok hc.2
  have htg : ∀ z : Int, 0 ≤ (pc : Int) + z → (pc : Int) + z = (am_tgt pc z : Int) := fun z hz => (Int.toNat_of_nonneg hz).symm
  cases hb2 : (decide (am_si x.2.1 < lw) || decide (hg < am_si x.2.1)) with
  | true =>
    rw [hb2] at ho2
    obtain ⟨g1, g2, g3, g4⟩ := hj df hdf lo rest h nc ns o ho2
    refine ⟨g1, g2, g3, fun ad H locs ls S hp hl hs r1 r2 hk => ?_⟩
    obtain ⟨V, S', rfl, k1, k2⟩ := am_St_cons hs
    have e := am_tg0 hc.1 k1
    subst e
    rw [Bool.or_eq_true, decide_eq_true_eq, decide_eq_true_eq] at hb2
    exact lv_tableOut hx hb hd (by rw [ez]; exact hb2) (htg df hdf) (g4 ad H locs ls S' hp hl k2 r1 r2 hk)
  | false =>
    rw [hb2] at ho2
    obtain ⟨q, hq, ho3⟩ := am_ob_some (show am_ob _ _ = some o from ho2)
    rw [am_nth_eq, List.getElem?_map] at hq
    cases hz : os.toList[(am_si x.2.1 - lw).toNat]? with
    | none =>
      rw [hz] at hq
      cases hq
    | some z =>
      rw [hz] at hq
      have e : ix z = q := Option.some.inj hq
      subst e
      have h0 := of_decide_eq_true (List.all_eq_true.mp hos z (List.mem_of_getElem? hz))
      obtain ⟨g1, g2, g3, g4⟩ := hj z h0 lo rest h nc ns o ho3
      refine ⟨g1, g2, g3, fun ad H locs ls S hp hl hs r1 r2 hk => ?_⟩
      obtain ⟨V, S', rfl, k1, k2⟩ := am_St_cons hs
      have e := am_tg0 hc.1 k1
      subst e
      rw [Bool.or_eq_false_iff, decide_eq_false_iff_not, decide_eq_false_iff_not] at hb2
      exact lv_tableIn hx hb hd (by rw [ez]; exact hb2.1) (by rw [ez]; exact hb2.2) (by rw [ez, ← Array.getElem?_toList]; exact hz) (htg z h0) (g4 ad H locs ls S' hp hl k2 r1 r2 hk)
end AMROWN
end
section
/-! ===== calls on an object ===== -/
section AMCALLV
variable {p : Program} {l : Launch} {e : Env} {R : Room} {s : State} {m : MethodId} {args : Array Value} {below : List Frame} {meth : Method} {c : Code} {Q : State → Prop} {Y : am_Y} {A : am_A} {ad0 : List Nat} {nL c0 q0 : Nat} {code : ByteArray} {rt : Option FieldType}
variable {sub : Nat → am_G} {go : am_G} {jmp : Nat → am_G} {pc : Nat} {own : String}
theorem am_sCallI {tb : List (Option Nat)} {mi n ml : Nat} {vo : Bool} (h : ∀ (lo stk : List am_V) (h : am_H) (nc ns : Nat) (o : am_O), (∃ r, stk[n - 1]? = some r ∧ Nat.beq r.1 10 = true) → am_oCall tb pc mi n ml vo A sub go jmp lo stk h nc ns = some o → nc ≤ o.2.2.2.2.2.2.1 ∧ ns ≤ o.2.2.2.2.2.2.2 ∧ am_Ret code rt c o ∧ ∀ (ad : List Nat) (H : Heap) (locs : List Loc) (ls : Array Slot) (S : List Value), am_HP Y s ad0 ad h H locs → am_Lo Y ad nL lo ls → am_St Y ad stk S → c0 + o.2.2.2.2.2.2.1 ≤ R.cells → q0 + o.2.2.2.2.2.2.2 ≤ R.slots → am_Kont p l e R s m args below meth c Q Y ad0 nL c0 q0 ad o → W p l e R s m args below meth c H locs (c0 + nc) (q0 + ns) Q (F0 m pc ls S)) : am_Snd p l e R s m args below meth c Q Y ad0 nL c0 q0 code rt (am_oCallI tb pc mi n ml vo A sub go jmp) pc := by
  intro lo stk h1 nc ns o ho
  obtain ⟨r, hr, ho1⟩ := am_ob_some ho
  obtain ⟨h2, ho2⟩ := am_if_some ho1
  rw [am_nth_eq] at hr
  exact h lo stk h1 nc ns o ⟨r, hr, h2⟩ ho2
theorem am_sCallS {tb : List (Option Nat)} {mi n ml : Nat} {vo : Bool} (h : ∀ (lo stk : List am_V) (h : am_H) (nc ns : Nat) (o : am_O), True → am_oCall tb pc mi n ml vo A sub go jmp lo stk h nc ns = some o → nc ≤ o.2.2.2.2.2.2.1 ∧ ns ≤ o.2.2.2.2.2.2.2 ∧ am_Ret code rt c o ∧ ∀ (ad : List Nat) (H : Heap) (locs : List Loc) (ls : Array Slot) (S : List Value), am_HP Y s ad0 ad h H locs → am_Lo Y ad nL lo ls → am_St Y ad stk S → c0 + o.2.2.2.2.2.2.1 ≤ R.cells → q0 + o.2.2.2.2.2.2.2 ≤ R.slots → am_Kont p l e R s m args below meth c Q Y ad0 nL c0 q0 ad o → W p l e R s m args below meth c H locs (c0 + nc) (q0 + ns) Q (F0 m pc ls S)) : am_Snd p l e R s m args below meth c Q Y ad0 nL c0 q0 code rt (am_oCall tb pc mi n ml vo A sub go jmp) pc := fun lo stk h1 nc ns o ho => h lo stk h1 nc ns o trivial ho
theorem am_recv {as rest : List am_V} {n : Nat} {r : am_V} (hn : as.length = n + 1) (hr : (as.reverse ++ rest)[n + 1 - 1]? = some r) : ∃ as', as = r :: as' ∧ as'.length = n := by
  cases as with
  | nil => cases hn
  | cons a as' =>
    have e : as'.length = n := by simpa using hn
    rw [List.reverse_cons, List.append_assoc, List.getElem?_append_right (by simp [e])] at hr
    simp [e] at hr
    exact ⟨as', by rw [hr], e⟩
theorem am_pcU2 (hF : am_Fm p s m args meth c Y own code nL rt) {ad : List Nat} {as : List am_V} {h : am_H} {H : Heap} {locs : List Loc} {As : List Value} (hs : am_St Y ad as As) (hp : am_HP Y s ad0 ad h H locs) : PreS s H (am_Pc Y ad as h) As := ⟨am_blind _ _ _ _, fun U hU hW1 => am_pcU hF hs hp U hU hW1⟩
theorem am_rowV (hF : am_Fm p s m args meth c Y own code nL rt) (hK : am_Kl Y) {d n idx ci : Nat} (hfr : d + 21 ≤ R.frames) (hlr : 100 * d + 500 ≤ R.locals) {M : am_M} {qc : vw_C} (hq : am_cl[ci]? = some qc) (hqc : qc.1 = M.1.cls) (htb : M.2.2.2.2.1 = []) (hd : am_d M n = true) (h0 : am_head M ∈ am_ws) (h1 : Cond.methodLink own idx M.1 ∈ am_ws) (h2 : Cond.instanceMethod M.1 ∈ am_ws) (h3 : Cond.initialized M.1.cls ∈ am_ws) (h4 : Cond.selects M.1.cls M.1 M.1 ∈ am_ws) (hdg : decode code pc = .ok (.invokevirtual idx, 3)) {o1 : am_O} {as : List am_V} {h : am_H} {ad : List Nat} (hmet : vx_Met l M.1 (am_head M :: am_ws) (am_rm d o1.2.2.2.2.2.2.1 o1.2.2.2.2.2.2.2) (am_Pc Y ad as h) (am_Qc Y ad o1) (am_XC Y ad o1) o1.2.2.2.2.2.2.1 o1.2.2.2.2.2.2.2 (fun q => Y.1.heap.size ≤ q)) (hn : as.length = n + 1) (hck : ∃ rest, ∃ r k, (as.reverse ++ rest)[n + 1 - 1]? = some r ∧ Nat.beq r.1 10 = true ∧ am_get h r.2.1 = some k ∧ Nat.beq k.1 ci = true) {H : Heap} {locs : List Loc} {k j : Nat} {ls : Array Slot} {As S : List Value} (hs : am_St Y ad as As) (hp : am_HP Y s ad0 ad h H locs) (hls : ls.size = nL) (hcat : (S.map fun v => v.category).sum ≤ 8) (r1 : k + o1.2.2.2.2.2.2.1 ≤ R.cells) (r2 : j + o1.2.2.2.2.2.2.2 ≤ R.slots) :
    vx_Run p l e R s m args below meth c H locs k j o1.2.2.2.2.2.2.1 o1.2.2.2.2.2.2.2 (F0 m pc ls (As.reverse ++ S)) S (am_Qc Y ad o1 As.toArray) (am_XC Y ad o1) (fun q => Y.1.heap.size ≤ q) := by
  have hF' := hF
  obtain ⟨hx, hb, hml, hown, hts, -, -, hW, hold, hsz⟩ := hF
  obtain ⟨d1, d2⟩ := am_d_ok hd
  have e0 := am_head_nil htb
  obtain ⟨rest, r, k0, c1, c2, c3, c4⟩ := hck
  obtain ⟨as', rfl, hn'⟩ := am_recv hn c1
  obtain ⟨V, As', rfl, k1, k2⟩ := am_St_cons hs
  have hlt := am_cl_lt hq
  have hci := am_tag c4
  obtain ⟨a, C, rfl, -, hC, hcell⟩ := am_ref hp k1 c2 c3 (by omega)
  obtain ⟨b1, b2, -, -⟩ := am_obj hcell c4 hq
  have hcls : s.vm.findClass M.1.cls = some C.cls := by
    rw [b2, ← hqc]
    exact (u_Kn_moved hW.alike (hK ci qc hq)).2.1
  have est : As'.reverse ++ .ref a :: S = (Value.ref a :: As').reverse ++ S := by rw [List.reverse_cons, List.append_assoc]; rfl
  rw [← est]
  exact vx_runV (Ts := am_ws) (C := M.1.cls) ⟨hx, hb, hml, hown, hts⟩ hmet ⟨callB_of n hts (am_good h0) (by rw [e0]) rfl rfl (hts _ h3) (hts _ h1) d1 (am_room hfr hlr d2), hts _ h2, hts _ h4⟩ ⟨am_blind _ _ _ _, ⟨C, hC, by rw [b1]; rfl, hcls⟩, fun U hU hW1 => am_pcU hF' hs hp U hU hW1⟩ rfl ((am_St_len k2).symm.trans hn') hls rfl (by show 2 * 0 + _ ≤ 8; omega) hdg ⟨r1, r2⟩
theorem am_rowI (hF : am_Fm p s m args meth c Y own code nL rt) {d n idx : Nat} (hfr : d + 21 ≤ R.frames) (hlr : 100 * d + 500 ≤ R.locals) {M : am_M} (htb : M.2.2.2.2.1 = []) (hrt : M.2.2.2.1 = none) (hnm : M.1.name = "<init>") (hd : am_d M n = true) (h0 : am_head M ∈ am_ws) (h1 : Cond.methodLink own idx M.1 ∈ am_ws ∨ ∃ host, (Cond.methodLinkNest own idx M.1 host).before args s = true) (h2 : Cond.instanceMethod M.1 ∈ am_ws) (h3 : Cond.initialized M.1.cls ∈ am_ws) (hdg : decode code pc = .ok (.invokespecial idx, 3)) {o1 : am_O} {as : List am_V} {h : am_H} {ad : List Nat} (hmet : vx_Met l M.1 (am_head M :: am_ws) (am_rm d o1.2.2.2.2.2.2.1 o1.2.2.2.2.2.2.2) (am_Pc Y ad as h) (am_Qc Y ad o1) (am_XC Y ad o1) o1.2.2.2.2.2.2.1 o1.2.2.2.2.2.2.2 (fun q => Y.1.heap.size ≤ q)) (hn : as.length = n + 1) (hck : ∃ rest, ∃ r, (as.reverse ++ rest)[n + 1 - 1]? = some r ∧ Nat.beq r.1 10 = true) {H : Heap} {locs : List Loc} {k j : Nat} {ls : Array Slot} {As S : List Value} (hs : am_St Y ad as As) (hp : am_HP Y s ad0 ad h H locs) (hls : ls.size = nL) (hcat : (S.map fun v => v.category).sum ≤ 8) (r1 : k + o1.2.2.2.2.2.2.1 ≤ R.cells) (r2 : j + o1.2.2.2.2.2.2.2 ≤ R.slots) :
    vx_Run p l e R s m args below meth c H locs k j o1.2.2.2.2.2.2.1 o1.2.2.2.2.2.2.2 (F0 m pc ls (As.reverse ++ S)) S (am_Qc Y ad o1 As.toArray) (am_XC Y ad o1) (fun q => Y.1.heap.size ≤ q) := by
  have hF' := hF
  obtain ⟨hx, hb, hml, hown, hts, -, -, hW, hold, hsz⟩ := hF
  obtain ⟨⟨d1, d2, d3⟩, d4⟩ := am_d_ok hd
  have e0 : am_head M = .code M.1 M.2.1 M.2.2.1 none := by rw [am_head_nil htb, hrt]
  obtain ⟨rest, r, c1, c2⟩ := hck
  obtain ⟨as', rfl, hn'⟩ := am_recv hn c1
  obtain ⟨V, As', rfl, k1, k2⟩ := am_St_cons hs
  obtain ⟨a, rfl⟩ := am_tR_ok k1 (am_or_t.mpr (Or.inl c2))
  have est : As'.reverse ++ .ref a :: S = (Value.ref a :: As').reverse ++ S := by rw [List.reverse_cons, List.append_assoc]; rfl
  rw [← est]
  have hG := am_good h0
  have hcw : Cond.code M.1 M.2.1 M.2.2.1 none ∈ am_head M :: am_ws := by rw [e0]; exact List.mem_cons_self
  rcases h1 with h1 | ⟨host, h1⟩
  · exact vx_runI (Ts := am_ws) ⟨hx, hb, hml, hown, hts⟩ hmet ⟨callB_of n hts hG (by rw [e0]) rfl rfl (hts _ h3) (hts _ h1) ⟨d1, d2, d3⟩ (am_room hfr hlr d4), hnm, hts _ h2⟩ (am_pcU2 hF' hs hp) rfl ((am_St_len k2).symm.trans hn') hls rfl (by show 2 * 0 + _ ≤ 8; omega) hdg ⟨r1, r2⟩
  · exact vx_runIN (Ts := am_ws) (host := host) (maxL := M.2.2.1) (bytes := M.2.1) ⟨hx, hb, hml, hown, hts⟩ hmet ⟨⟨⟨rfl, rfl, (am_room hfr hlr d4).1, (am_room hfr hlr d4).2, pay_in hts hG, hcw⟩, hts _ (hG _ hcw).1, hts _ h3, ⟨d1, d2⟩, fun sig h => by
      rw [h] at d3
      exact (Option.some.inj d3).symm, h1⟩, hnm, hts _ h2⟩ (am_pcU2 hF' hs hp) rfl ((am_St_len k2).symm.trans hn') hls rfl (by show 2 * 0 + _ ≤ 8; omega) hdg ⟨r1, r2⟩
end AMCALLV
end
section
/-! ===== the bits of a float, of a double ===== -/
section AMBITS
variable {p : Program} {l : Launch} {e : Env} {R : Room} {s : State} {m : MethodId} {args : Array Value} {below : List Frame} {meth : Method} {c : Code} {Q : State → Prop} {Y : am_Y} {A : am_A} {ad0 : List Nat} {nL c0 q0 : Nat} {code : ByteArray} {rt : Option FieldType}
variable {sub : Nat → am_G} {go : am_G} {jmp : Nat → am_G} {pc : Nat} {own : String}
theorem am_rF2I (hF : am_Fm p s m args meth c Y own code nL rt) (hfr : 20 ≤ R.frames) (hlr : 400 ≤ R.locals) {idx : Nat} (h1 : Cond.methodLink own idx ⟨"java/lang/Float", "floatToRawIntBits", "(F)I"⟩ ∈ am_ws) (h2 : Cond.static ⟨"java/lang/Float", "floatToRawIntBits", "(F)I"⟩ ∈ am_ws) (h3 : Cond.initialized "java/lang/Float" ∈ am_ws) (h4 : Cond.native ⟨"java/lang/Float", "floatToRawIntBits", "(F)I"⟩ ∈ am_ws) (hd : decode code pc = .ok (.invokestatic idx, 3)) (hgo : am_Snd p l e R s m args below meth c Q Y ad0 nL c0 q0 code rt go (pc + 3)) : am_Snd p l e R s m args below meth c Q Y ad0 nL c0 q0 code rt (am_oF2I A sub go jmp) pc := by
  intro lo stk h nc ns o ho
  obtain ⟨x, rest, rfl, ho1⟩ := am_lc_some ho
  obtain ⟨hc, ho2⟩ := am_if_some ho1
  rw [am_and_t] at hc
  obtain ⟨g1, g2, g3, g4⟩ := hgo _ _ _ _ _ o ho2
  refine ⟨g1, g2, g3, fun ad H locs ls S hp hlo hs r1 r2 hkt => ?_⟩
  obtain ⟨V, S', rfl, k1, k2⟩ := am_St_cons hs
  have e := am_tg2 hc.1 k1
  subst e
  have hcat := am_St_cat k2
  have hsh := am_sh_ok hc.2
  obtain ⟨hx, hb, hml, hown, hts, -⟩ := hF
  exact vn_f2i hx hb (by rw [hml, am_Lo_size hlo]) hown (hts _ h1) (hts _ h4) (hts _ h2) (hts _ h3) (by omega) (by omega) hd (g4 ad H locs ls (_ :: S') hp hlo ⟨am_ofI_ok _ _ _ _, k2⟩ r1 r2 hkt)
theorem am_rD2L (hF : am_Fm p s m args meth c Y own code nL rt) (hfr : 20 ≤ R.frames) (hlr : 400 ≤ R.locals) {idx : Nat} (h1 : Cond.methodLink own idx ⟨"java/lang/Double", "doubleToRawLongBits", "(D)J"⟩ ∈ am_ws) (h2 : Cond.static ⟨"java/lang/Double", "doubleToRawLongBits", "(D)J"⟩ ∈ am_ws) (h3 : Cond.initialized "java/lang/Double" ∈ am_ws) (h4 : Cond.native ⟨"java/lang/Double", "doubleToRawLongBits", "(D)J"⟩ ∈ am_ws) (hd : decode code pc = .ok (.invokestatic idx, 3)) (hgo : am_Snd p l e R s m args below meth c Q Y ad0 nL c0 q0 code rt go (pc + 3)) : am_Snd p l e R s m args below meth c Q Y ad0 nL c0 q0 code rt (am_oD2L A sub go jmp) pc := by
  intro lo stk h nc ns o ho
  obtain ⟨x, rest, rfl, ho1⟩ := am_lc_some ho
  obtain ⟨hc, ho2⟩ := am_if_some ho1
  have hsh := am_sh_ok hc
  have key : ∀ (v : am_V) (b : UInt64), go lo (v :: rest) h nc ns = some o → (∀ (ad : List Nat) (V : Value), am_V1 Y ad x V → V = .double b ∧ am_V1 Y ad v (.long b.toInt64)) → nc ≤ o.2.2.2.2.2.2.1 ∧ ns ≤ o.2.2.2.2.2.2.2 ∧ am_Ret code rt c o ∧ ∀ (ad : List Nat) (H : Heap) (locs : List Loc) (ls : Array Slot) (S : List Value), am_HP Y s ad0 ad h H locs → am_Lo Y ad nL lo ls → am_St Y ad (x :: rest) S → c0 + o.2.2.2.2.2.2.1 ≤ R.cells → q0 + o.2.2.2.2.2.2.2 ≤ R.slots → am_Kont p l e R s m args below meth c Q Y ad0 nL c0 q0 ad o → W p l e R s m args below meth c H locs (c0 + nc) (q0 + ns) Q (F0 m pc ls S) := by
    intro v b hgo' hv
    obtain ⟨g1, g2, g3, g4⟩ := hgo _ _ _ _ _ o hgo'
    refine ⟨g1, g2, g3, fun ad H locs ls S hp hlo hs r1 r2 hkt => ?_⟩
    obtain ⟨V, S', rfl, k1, k2⟩ := am_St_cons hs
    obtain ⟨rfl, e2⟩ := hv ad V k1
    have hcat := am_St_cat k2
    obtain ⟨hx, hb, hml, hown, hts, -⟩ := hF
    exact vn_d2l hx hb (by rw [hml, am_Lo_size hlo]) hown (hts _ h1) (hts _ h4) (hts _ h2) (hts _ h3) (by omega) (by omega) hd (g4 ad H locs ls (_ :: S') hp hlo ⟨e2, k2⟩ r1 r2 hkt)
  cases h3 : Nat.beq x.1 3 with
  | true =>
    rw [h3] at ho2
    exact key _ (UInt64.ofNat x.2.1) ho2 fun ad V hV => ⟨am_tg3 h3 hV, am_ofL_ok _ _ _ _⟩
  | false =>
    rw [h3] at ho2
    obtain ⟨h9, ho3⟩ := am_if_some (show am_if (Nat.beq x.1 9) _ none = some o from ho2)
    obtain ⟨t, n, f⟩ := x
    have e := am_tag h9
    dsimp only at e
    subst e
    exact key _ (am_dq Y.2.2.1 n f) ho3 fun ad V hV => ⟨hV, rfl⟩
end AMBITS
end
section
/-! ===== where an exception is caught ===== -/
theorem am_hnd_split {hc : List (Nat × Nat)} {ei pc t : Nat} : ∀ {tbl : List (Nat × Nat × Nat × Nat)}, am_hnd hc ei pc tbl = some t → ∃ pre x suf, tbl = pre ++ x :: suf ∧ x.2.2.1 = t ∧ (x.1 ≤ pc ∧ pc < x.2.1) ∧ (x.2.2.2, ei) ∈ hc ∧ ∀ z ∈ pre, ¬ (z.1 ≤ pc ∧ pc < z.2.1) ∨ (z.2.2.2, ei) ∉ hc
  | [], h => by cases h
  | x :: xs, h => by
    unfold am_hnd at h
    have hmem : ∀ z : Nat × Nat × Nat × Nat, hc.any (fun q => Nat.beq q.1 z.2.2.2 && Nat.beq q.2 ei) = true ↔ (z.2.2.2, ei) ∈ hc := fun z => by
      rw [List.any_eq_true]
      constructor
      · rintro ⟨q, h1, h2⟩
        rw [Bool.and_eq_true] at h2
        have e1 := Nat.eq_of_beq_eq_true h2.1
        have e2 := Nat.eq_of_beq_eq_true h2.2
        rw [← e1, ← e2]
        exact h1
      · intro h1
        exact ⟨_, h1, by simp⟩
    cases hb : (Nat.ble x.1 pc && Nat.blt pc x.2.1 && hc.any (fun q => Nat.beq q.1 x.2.2.2 && Nat.beq q.2 ei)) with
    | true =>
      rw [hb] at h
      rw [Bool.and_eq_true, Bool.and_eq_true] at hb
      exact ⟨[], x, xs, rfl, Option.some.inj h, ⟨Nat.ble_eq.mp hb.1.1, Nat.ble_eq.mp hb.1.2⟩, (hmem x).mp hb.2, fun z hz => by cases hz⟩
    | false =>
      rw [hb] at h
      obtain ⟨pre, y, suf, h1, h2, h3, h4, h5⟩ := am_hnd_split (tbl := xs) h
      refine ⟨x :: pre, y, suf, by rw [h1]; rfl, h2, h3, h4, fun z hz => ?_⟩
      rcases List.mem_cons.mp hz with rfl | hz
      · by_cases hq : z.1 ≤ pc ∧ pc < z.2.1
        · refine Or.inr fun hm => ?_
          rw [show Nat.ble z.1 pc = true from Nat.ble_eq.mpr hq.1, show Nat.blt pc z.2.1 = true from Nat.ble_eq.mpr hq.2, (hmem z).mpr hm] at hb
          cases hb
        · exact Or.inl hq
      · exact h5 z hz
/-- the classes of the tables, and their words -/
theorem am_hc_ok : am_hc.all (fun q => match am_ex[q.2]? with
    | some E => decide (Cond.classLink "CombCylinderLaw" q.1 E ∈ lw_tbl) && am_wk (Cond.classLink "CombCylinderLaw" q.1 E) && decide (Cond.castable E E ∈ lw_tbl) && am_wk (Cond.castable E E)
    | none => false) = true := by decide +kernel
theorem am_hc_at {ct j : Nat} (h : (ct, j) ∈ am_hc) : ∃ E, am_ex[j]? = some E ∧ (Cond.classLink "CombCylinderLaw" ct E ∈ lw_tbl ∧ am_wk (Cond.classLink "CombCylinderLaw" ct E) = true) ∧ (Cond.castable E E ∈ lw_tbl ∧ am_wk (Cond.castable E E) = true) := by
  have h1 := List.all_eq_true.mp am_hc_ok _ h
  dsimp only at h1
  split at h1
  · rename_i E hE
    simp only [Bool.and_eq_true, decide_eq_true_eq] at h1
    exact ⟨E, hE, ⟨h1.1.1.1, h1.1.1.2⟩, ⟨h1.1.2, h1.2⟩⟩
  · cases h1
/-- every row of a method's table is of a class of ours -/
def am_tck (M : am_M) : Bool := M.2.2.2.2.1.all (fun z => decide (M.1.cls = "CombCylinderLaw") && (!(Nat.beq z.2.2.2 0) && am_hc.any (fun q => Nat.beq q.1 z.2.2.2)))
section AMCATCH
variable {p : Program} {l : Launch} {e : Env} {R : Room} {s : State} {m : MethodId} {args : Array Value} {below : List Frame} {meth : Method} {c : Code} {Q : State → Prop} {Y : am_Y} {A : am_A} {ad0 : List Nat} {nL c0 q0 : Nat} {code : ByteArray} {rt : Option FieldType}
theorem am_catch (hG : am_Gl l Y) {M : am_M} (hF : am_Fm p s m args meth c Y M.1.cls code nL rt) (htab : c.exceptionTable.toList = tableOf M.2.2.2.2.1) (hck : am_tck M = true) {pc ei pt : Nat} (h : am_hnd am_hc ei pc M.2.2.2.2.1 = some pt) : ∃ E, am_ex[ei]? = some E ∧ ∀ (H : Heap) (locs : List Loc) (k j : Nat) (ls : Array Slot) (S : List Value) (q : Addr) (ce : Cell), H[q]? = some ce → ce.vm = .none → s.vm.findClass E = some ce.cls → W p l e R s m args below meth c H locs k j Q (F0 m pt ls [.ref q]) → vx_W p l e R s m args below meth c H locs k j Q (F0 m pc ls S) q := by
  obtain ⟨pre, x, suf, h1, h2, h3, h4, h5⟩ := am_hnd_split h
  obtain ⟨E, hE, hl, hc⟩ := am_hc_at h4
  obtain ⟨-, -, -, hall, -, -, -, hnc⟩ := hG
  obtain ⟨hx, hb, hml, hown, hts, -, -, hW, -⟩ := hF
  have hck2 := fun z hz => List.all_eq_true.mp hck z hz
  have hcx := hck2 x (by rw [h1]; simp)
  simp only [Bool.and_eq_true, decide_eq_true_eq] at hcx
  have wk : ∀ w, w ∈ lw_tbl ∧ am_wk w = true → w.before args s = true := fun w q => am_wk_ok q.2 (hall _ q.1 q.2) hW
  have hz0 : ∀ z : Nat × Nat × Nat × Nat, (!(Nat.beq z.2.2.2 0)) = true → z.2.2.2 ≠ 0 := fun z q e => by
    rw [e] at q
    cases q
  refine ⟨E, hE, fun H locs k j ls S q ce hq hv hcl kk => ?_⟩
  rw [hcx.1] at hown
  rw [h1] at htab
  refine vx_catch (name := E) (E := E) hown (tableOf pre) ⟨x.1, x.2.1, x.2.2.1, x.2.2.2⟩ (tableOf suf) (by rw [htab]; simp [tableOf]) ?_ (by simp [covers, h3.1, h3.2]) (hz0 x hcx.2.1) (wk _ hl) (wk _ hc) hq hv hcl (by rw [show (⟨x.1, x.2.1, x.2.2.1, x.2.2.2⟩ : ExceptionTableEntry).handlerPc = pt from h2]; exact kk)
  intro z hz
  obtain ⟨z0, hz1, rfl⟩ := List.mem_map.mp hz
  rcases h5 z0 hz1 with h6 | h6
  · refine Or.inl ?_
    simp only [covers, Bool.and_eq_false_iff, decide_eq_false_iff_not]
    by_cases h7 : z0.1 ≤ pc
    · exact Or.inr fun h8 => h6 ⟨h7, h8⟩
    · exact Or.inl h7
  · have hcz := hck2 z0 (by rw [h1]; simp [hz1])
    simp only [Bool.and_eq_true, decide_eq_true_eq, List.any_eq_true] at hcz
    obtain ⟨-, hn0, q9, hq9, hq8⟩ := hcz
    have e9 := Nat.eq_of_beq_eq_true hq8
    obtain ⟨F, hF2, hl2, -⟩ := am_hc_at (ct := z0.2.2.2) (j := q9.2) (by rw [← e9]; exact hq9)
    have hne : ei ≠ q9.2 := fun e => h6 (by rw [← e9, e]; exact hq9)
    exact Or.inr ⟨hz0 z0 hn0, F, wk _ hl2, va_Nc.moved hW.alike (hnc ei q9.2 E F hne hE hF2)⟩
end AMCATCH
end
section
/-! ===== bitsOfDouble of a quotient ===== -/
def am_bits (k : Int) (n : Nat) : UInt64 := FP.ddiv (FP.i2d (am_i k)) (UInt64.ofNat n)
/-- what its runs on these come to -/
def am_BodOK (l : Launch) (Y : am_Y) (d : Nat) (M : am_M) : Prop := ∀ (k n : Nat), k ≤ 200 → am_d14 n = true → ∃ o : am_O, o.1 = 1 ∧ o.2.1 = (1, (am_bits k n).toNat, []) ∧ o.2.2.2.2.2.2.1 = 0 ∧ o.2.2.2.2.2.2.2 = 0 ∧
  vx_Met l M.1 (am_head M :: am_ws) (am_rm d o.2.2.2.2.2.2.1 o.2.2.2.2.2.2.2) (am_Pc Y [] [(3, (am_bits k n).toNat, [])] am_h0) (am_Qc Y [] o) (am_XC Y [] o) o.2.2.2.2.2.2.1 o.2.2.2.2.2.2.2 (fun q => Y.1.heap.size ≤ q)
theorem am_h0_get {k : Nat} {c : am_C} (h : am_get am_h0 k = some c) : c.1 = 999 := by
  obtain ⟨b, h1, h2⟩ := am_ob_some h
  rw [am_nth_eq] at h1 h2
  have hb : b = am_rep 16 (999, []) := by
    have h3 := List.mem_of_getElem? h1
    rw [show am_h0.2 = am_rep 32 (am_rep 16 (999, [])) from rfl, am_rep_eq] at h3
    exact List.eq_of_mem_replicate h3
  subst hb
  have h4 := List.mem_of_getElem? h2
  rw [am_rep_eq] at h4
  rw [List.eq_of_mem_replicate h4]
theorem am_Rep_0 (Y : am_Y) (H : Heap) : am_Rep Y [] am_h0 H := by
  refine ⟨rfl, List.nodup_nil, fun a ha => (by cases ha), fun k c h hn => ?_⟩
  exact absurd (am_h0_get h) hn
section AMBOD
variable {p : Program} {l : Launch} {e : Env} {R : Room} {s : State} {m : MethodId} {args : Array Value} {below : List Frame} {meth : Method} {c : Code} {Q : State → Prop} {Y : am_Y} {A : am_A} {ad0 : List Nat} {nL c0 q0 : Nat} {code : ByteArray} {rt : Option FieldType}
variable {sub : Nat → am_G} {go : am_G} {jmp : Nat → am_G} {pc : Nat} {own : String}
theorem am_sBod (hA : am_kn A Y.2.2.1) (hF : am_Fm p s m args meth c Y own code nL rt) {d idx mi ml : Nat} {tb : List (Option Nat)} (hfr : d + 21 ≤ R.frames) (hlr : 100 * d + 500 ≤ R.locals) {M : am_M} (htb : M.2.2.2.2.1 = []) (hd : am_d M 1 = true) (h0 : am_head M ∈ am_ws) (h1 : Cond.methodLink own idx M.1 ∈ am_ws) (h2 : Cond.static M.1 ∈ am_ws) (h3 : Cond.initialized M.1.cls ∈ am_ws) (hdg : decode code pc = .ok (.invokestatic idx, 3)) (hbod : am_BodOK l Y d M) (hcall : am_Snd p l e R s m args below meth c Q Y ad0 nL c0 q0 code rt (am_oCall tb pc mi 1 ml false A sub go jmp) pc) (hgo : am_Snd p l e R s m args below meth c Q Y ad0 nL c0 q0 code rt go (pc + 3)) : am_Snd p l e R s m args below meth c Q Y ad0 nL c0 q0 code rt (am_oBod tb pc mi ml A sub go jmp) pc := by
  intro lo stk h nc ns o ho
  obtain ⟨x, rest, rfl, ho1⟩ := am_lc_some ho
  cases h9 : Nat.beq x.1 9 with
  | false =>
    rw [h9] at ho1
    exact hcall lo (x :: rest) h nc ns o ho1
  | true =>
    rw [h9] at ho1
    obtain ⟨hc, ho2⟩ := am_if_some (show am_if (am_and (am_sh rest) (am_bodg A x)) (go lo ((11, x.2) :: rest) h nc ns) none = some o from ho1)
    rw [am_and_t] at hc
    have hg := hc.2
    unfold am_bodg at hg
    rw [Bool.and_eq_true] at hg
    obtain ⟨t, n, f⟩ := x
    have e := am_tag h9
    dsimp only at e
    subst e
    cases hl : am_lim A f with
    | none =>
      rw [show am_lim A (9, n, f).2.2 = am_lim A f from rfl, hl] at hg
      cases hg.2
    | some q =>
      rw [show am_lim A (9, n, f).2.2 = am_lim A f from rfl, hl] at hg
      have hk : (decide (0 ≤ q.1) && decide (q.2 ≤ 200)) = true := hg.2
      rw [Bool.and_eq_true, decide_eq_true_eq, decide_eq_true_eq] at hk
      obtain ⟨b1, b2⟩ := am_lim_ok hA hl
      have hz : ((am_ev Y.2.2.1 f).toNat : Int) = am_ev Y.2.2.1 f := Int.toNat_of_nonneg (by omega)
      obtain ⟨o1, p1, p2, p3, p4, hmet⟩ := hbod (am_ev Y.2.2.1 f).toNat n (by omega) hg.1
      rw [hz] at p2 hmet
      obtain ⟨g1, g2, g3, g4⟩ := hgo lo ((11, n, f) :: rest) h nc ns o ho2
      refine ⟨g1, g2, g3, fun ad H locs ls S hp hlo hs r1 r2 hkt => ?_⟩
      obtain ⟨V, S', rfl, k1, k2⟩ := am_St_cons hs
      have hV : V = .double (am_bits (am_ev Y.2.2.1 f) n) := k1
      have hcat := am_St_cat k2
      have hsh := am_sh_ok hc.1
      have hst : am_St Y [] [(3, (am_bits (am_ev Y.2.2.1 f) n).toNat, [])] [V] := ⟨by rw [hV]; exact am_ofD_ok _ _ _ _, trivial⟩
      have hF' := hF
      obtain ⟨-, -, -, -, -, -, -, hW, hold, hsz⟩ := hF'
      have hpre : PreS s H (am_Pc Y [] [(3, (am_bits (am_ev Y.2.2.1 f) n).toNat, [])] am_h0) [V] := ⟨am_blind _ _ _ _, fun U hU hW1 => ⟨⟨[V], hst, rfl⟩, State.WarmedH.trans hW hW1, fun q hq => by
        rw [hU, hp.2.2.1 q (Nat.lt_of_lt_of_le hq hsz) (fun h9 => ?_)]
        · exact hold q hq
        · have := (hp.1.2.2.1 q (hp.2.2.2.2.2 q h9)).1
          omega, by rw [hU]; exact Nat.le_trans hsz hp.2.1, am_Rep_0 Y U.heap⟩⟩
      have hr := am_rowS (below := below) (e := e) (As := [V]) (S := S') (H := H) (locs := locs) (k := c0 + nc) (j := q0 + ns) (ls := ls) hF hfr hlr htb hd h0 h1 h2 h3 hdg hmet rfl rfl hpre (am_Lo_size hlo) (by omega) (by omega) (by omega)
      intro T hT Xs
      rcases hr T hT Xs with ⟨v, st₀, t, T', L, h0', X', hL, e1, e2, ⟨ad', l1, l2, l3⟩, st⟩ | ⟨q, st₀, t, T', L, E, ce, h0', X', hL, e1, e2, ⟨x1, -⟩, -⟩
      · have hp2 : am_HP Y s ad0 ad h T'.heap (locs ++ L) := by
          have hq := am_HP_grow (H' := T'.heap) hp (by rw [e1, ← h0']; exact l2.2.1) (fun z hz => by rw [e1, ← h0']; exact l2.2.2.1 z (by rw [h0']; exact hz) (fun h9 => by cases h9))
          exact ⟨hq.1, hq.2.1, hq.2.2.1, fun z hz => by
            rcases List.mem_append.mp hz with hz | hz
            · exact hq.2.2.2.1 z hz
            · exact hL z hz, hq.2.2.2.2.1, hq.2.2.2.2.2⟩
        rcases l3 with ⟨k0, -⟩ | ⟨-, V2, k3, k4⟩
        · omega
        · cases k4
          rw [p2] at k3
          have hV2 : V2 = .long (am_bits (am_ev Y.2.2.1 f) n).toInt64 := by
            have h8 : V2 = .long (Int64.ofNat (am_bits (am_ev Y.2.2.1 f) n).toNat) := k3
            rw [h8]
            exact (am_ofL_ok Y.2.2.1 Y.2.2.2 ad (am_bits (am_ev Y.2.2.1 f) n).toInt64).symm
          subst hV2
          rw [p3, p4] at X'
          obtain ⟨t2, a1, b1⟩ := g4 ad T'.heap (locs ++ L) ls (.long (am_bits (am_ev Y.2.2.1 f) n).toInt64 :: S') hp2 hlo ⟨rfl, k2⟩ r1 r2 hkt T' rfl X'
          exact ⟨t2, st t2 a1, b1⟩
      · omega
end AMBOD
end
section
/-! ===== what makes an instruction's operation sound: checks over the tables ===== -/
def am_used : List Nat := [0, 1, 2, 3, 4, 5, 6, 7, 8, 9, 10, 11, 12, 13, 14, 15, 16, 17, 18, 19, 20, 21, 22, 23, 24, 25, 26, 27, 28, 29, 30, 31, 32, 33, 34, 35, 36, 37, 38, 39, 40, 41, 42, 43, 44, 45, 46, 48, 49, 50, 51, 52, 53, 54, 55, 56, 57, 58, 59, 60, 61, 62, 63, 64, 65, 66, 70, 71, 72, 73, 74, 75, 76, 77, 79, 80, 83, 84, 85, 86, 87, 88, 89, 90, 91, 92, 93, 94, 95, 97, 98, 99, 104, 105, 107, 108, 109, 110, 111, 112, 113, 114, 115, 116, 117, 118, 119, 121, 122, 123, 124]
theorem am_hw0 : am_head am_m0 ∈ am_ws := List.mem_filter.mpr ⟨am_atw_in (i := 51) rfl, rfl⟩
theorem am_hw1 : am_head am_m1 ∈ am_ws := List.mem_filter.mpr ⟨am_atw_in (i := 63) rfl, rfl⟩
theorem am_hw2 : am_head am_m2 ∈ am_ws := List.mem_filter.mpr ⟨am_atw_in (i := 70) rfl, rfl⟩
theorem am_hw3 : am_head am_m3 ∈ am_ws := List.mem_filter.mpr ⟨am_atw_in (i := 139) rfl, rfl⟩
theorem am_hw4 : am_head am_m4 ∈ am_ws := List.mem_filter.mpr ⟨am_atw_in (i := 158) rfl, rfl⟩
theorem am_hw5 : am_head am_m5 ∈ am_ws := List.mem_filter.mpr ⟨am_atw_in (i := 193) rfl, rfl⟩
theorem am_hw6 : am_head am_m6 ∈ am_ws := List.mem_filter.mpr ⟨am_atw_in (i := 245) rfl, rfl⟩
theorem am_hw7 : am_head am_m7 ∈ am_ws := List.mem_filter.mpr ⟨am_atw_in (i := 294) rfl, rfl⟩
theorem am_hw8 : am_head am_m8 ∈ am_ws := List.mem_filter.mpr ⟨am_atw_in (i := 298) rfl, rfl⟩
theorem am_hw9 : am_head am_m9 ∈ am_ws := List.mem_filter.mpr ⟨am_atw_in (i := 302) rfl, rfl⟩
theorem am_hw10 : am_head am_m10 ∈ am_ws := List.mem_filter.mpr ⟨am_atw_in (i := 305) rfl, rfl⟩
theorem am_hw11 : am_head am_m11 ∈ am_ws := List.mem_filter.mpr ⟨am_atw_in (i := 310) rfl, rfl⟩
theorem am_hw12 : am_head am_m12 ∈ am_ws := List.mem_filter.mpr ⟨am_atw_in (i := 314) rfl, rfl⟩
theorem am_hw13 : am_head am_m13 ∈ am_ws := List.mem_filter.mpr ⟨am_atw_in (i := 326) rfl, rfl⟩
theorem am_hw14 : am_head am_m14 ∈ am_ws := List.mem_filter.mpr ⟨am_atw_in (i := 330) rfl, rfl⟩
theorem am_hw15 : am_head am_m15 ∈ am_ws := List.mem_filter.mpr ⟨am_atw_in (i := 334) rfl, rfl⟩
theorem am_hw16 : am_head am_m16 ∈ am_ws := List.mem_filter.mpr ⟨am_atw_in (i := 338) rfl, rfl⟩
theorem am_hw17 : am_head am_m17 ∈ am_ws := List.mem_filter.mpr ⟨am_atw_in (i := 342) rfl, rfl⟩
theorem am_hw18 : am_head am_m18 ∈ am_ws := List.mem_filter.mpr ⟨am_atw_in (i := 349) rfl, rfl⟩
theorem am_hw19 : am_head am_m19 ∈ am_ws := List.mem_filter.mpr ⟨am_atw_in (i := 356) rfl, rfl⟩
theorem am_hw20 : am_head am_m20 ∈ am_ws := List.mem_filter.mpr ⟨am_atw_in (i := 363) rfl, rfl⟩
theorem am_hw21 : am_head am_m21 ∈ am_ws := List.mem_filter.mpr ⟨am_atw_in (i := 367) rfl, rfl⟩
theorem am_hw22 : am_head am_m22 ∈ am_ws := List.mem_filter.mpr ⟨am_atw_in (i := 370) rfl, rfl⟩
theorem am_hw23 : am_head am_m23 ∈ am_ws := List.mem_filter.mpr ⟨am_atw_in (i := 374) rfl, rfl⟩
theorem am_hw24 : am_head am_m24 ∈ am_ws := List.mem_filter.mpr ⟨am_atw_in (i := 378) rfl, rfl⟩
theorem am_hw25 : am_head am_m25 ∈ am_ws := List.mem_filter.mpr ⟨am_atw_in (i := 383) rfl, rfl⟩
theorem am_hw26 : am_head am_m26 ∈ am_ws := List.mem_filter.mpr ⟨am_atw_in (i := 389) rfl, rfl⟩
theorem am_hw27 : am_head am_m27 ∈ am_ws := List.mem_filter.mpr ⟨am_atw_in (i := 477) rfl, rfl⟩
theorem am_hw28 : am_head am_m28 ∈ am_ws := List.mem_filter.mpr ⟨am_atw_in (i := 480) rfl, rfl⟩
theorem am_hw29 : am_head am_m29 ∈ am_ws := List.mem_filter.mpr ⟨am_atw_in (i := 500) rfl, rfl⟩
theorem am_hw30 : am_head am_m30 ∈ am_ws := List.mem_filter.mpr ⟨am_atw_in (i := 504) rfl, rfl⟩
theorem am_hw31 : am_head am_m31 ∈ am_ws := List.mem_filter.mpr ⟨am_atw_in (i := 507) rfl, rfl⟩
theorem am_hw32 : am_head am_m32 ∈ am_ws := List.mem_filter.mpr ⟨am_atw_in (i := 540) rfl, rfl⟩
theorem am_hw33 : am_head am_m33 ∈ am_ws := List.mem_filter.mpr ⟨am_atw_in (i := 544) rfl, rfl⟩
theorem am_hw34 : am_head am_m34 ∈ am_ws := List.mem_filter.mpr ⟨am_atw_in (i := 548) rfl, rfl⟩
theorem am_hw35 : am_head am_m35 ∈ am_ws := List.mem_filter.mpr ⟨am_atw_in (i := 553) rfl, rfl⟩
theorem am_hw36 : am_head am_m36 ∈ am_ws := List.mem_filter.mpr ⟨am_atw_in (i := 557) rfl, rfl⟩
theorem am_hw37 : am_head am_m37 ∈ am_ws := List.mem_filter.mpr ⟨am_atw_in (i := 577) rfl, rfl⟩
theorem am_hw38 : am_head am_m38 ∈ am_ws := List.mem_filter.mpr ⟨am_atw_in (i := 582) rfl, rfl⟩
theorem am_hw39 : am_head am_m39 ∈ am_ws := List.mem_filter.mpr ⟨am_atw_in (i := 586) rfl, rfl⟩
theorem am_hw40 : am_head am_m40 ∈ am_ws := List.mem_filter.mpr ⟨am_atw_in (i := 591) rfl, rfl⟩
theorem am_hw41 : am_head am_m41 ∈ am_ws := List.mem_filter.mpr ⟨am_atw_in (i := 595) rfl, rfl⟩
theorem am_hw42 : am_head am_m42 ∈ am_ws := List.mem_filter.mpr ⟨am_atw_in (i := 601) rfl, rfl⟩
theorem am_hw43 : am_head am_m43 ∈ am_ws := List.mem_filter.mpr ⟨am_atw_in (i := 606) rfl, rfl⟩
theorem am_hw44 : am_head am_m44 ∈ am_ws := List.mem_filter.mpr ⟨am_atw_in (i := 610) rfl, rfl⟩
theorem am_hw45 : am_head am_m45 ∈ am_ws := List.mem_filter.mpr ⟨am_atw_in (i := 615) rfl, rfl⟩
theorem am_hw46 : am_head am_m46 ∈ am_ws := List.mem_filter.mpr ⟨am_atw_in (i := 620) rfl, rfl⟩
theorem am_hw48 : am_head am_m48 ∈ am_ws := List.mem_filter.mpr ⟨am_atw_in (i := 628) rfl, rfl⟩
theorem am_hw49 : am_head am_m49 ∈ am_ws := List.mem_filter.mpr ⟨am_atw_in (i := 648) rfl, rfl⟩
theorem am_hw50 : am_head am_m50 ∈ am_ws := List.mem_filter.mpr ⟨am_atw_in (i := 652) rfl, rfl⟩
theorem am_hw51 : am_head am_m51 ∈ am_ws := List.mem_filter.mpr ⟨am_atw_in (i := 656) rfl, rfl⟩
theorem am_hw52 : am_head am_m52 ∈ am_ws := List.mem_filter.mpr ⟨am_atw_in (i := 660) rfl, rfl⟩
theorem am_hw53 : am_head am_m53 ∈ am_ws := List.mem_filter.mpr ⟨am_atw_in (i := 664) rfl, rfl⟩
theorem am_hw54 : am_head am_m54 ∈ am_ws := List.mem_filter.mpr ⟨am_atw_in (i := 668) rfl, rfl⟩
theorem am_hw55 : am_head am_m55 ∈ am_ws := List.mem_filter.mpr ⟨am_atw_in (i := 672) rfl, rfl⟩
theorem am_hw56 : am_head am_m56 ∈ am_ws := List.mem_filter.mpr ⟨am_atw_in (i := 677) rfl, rfl⟩
theorem am_hw57 : am_head am_m57 ∈ am_ws := List.mem_filter.mpr ⟨am_atw_in (i := 683) rfl, rfl⟩
theorem am_hw58 : am_head am_m58 ∈ am_ws := List.mem_filter.mpr ⟨am_atw_in (i := 688) rfl, rfl⟩
theorem am_hw59 : am_head am_m59 ∈ am_ws := List.mem_filter.mpr ⟨am_atw_in (i := 692) rfl, rfl⟩
theorem am_hw60 : am_head am_m60 ∈ am_ws := List.mem_filter.mpr ⟨am_atw_in (i := 696) rfl, rfl⟩
theorem am_hw61 : am_head am_m61 ∈ am_ws := List.mem_filter.mpr ⟨am_atw_in (i := 701) rfl, rfl⟩
theorem am_hw62 : am_head am_m62 ∈ am_ws := List.mem_filter.mpr ⟨am_atw_in (i := 704) rfl, rfl⟩
theorem am_hw63 : am_head am_m63 ∈ am_ws := List.mem_filter.mpr ⟨am_atw_in (i := 708) rfl, rfl⟩
theorem am_hw64 : am_head am_m64 ∈ am_ws := List.mem_filter.mpr ⟨am_atw_in (i := 712) rfl, rfl⟩
theorem am_hw65 : am_head am_m65 ∈ am_ws := List.mem_filter.mpr ⟨am_atw_in (i := 716) rfl, rfl⟩
theorem am_hw66 : am_head am_m66 ∈ am_ws := List.mem_filter.mpr ⟨am_atw_in (i := 720) rfl, rfl⟩
theorem am_hw70 : am_head am_m70 ∈ am_ws := List.mem_filter.mpr ⟨am_atw_in (i := 737) rfl, rfl⟩
theorem am_hw71 : am_head am_m71 ∈ am_ws := List.mem_filter.mpr ⟨am_atw_in (i := 741) rfl, rfl⟩
theorem am_hw72 : am_head am_m72 ∈ am_ws := List.mem_filter.mpr ⟨am_atw_in (i := 745) rfl, rfl⟩
theorem am_hw73 : am_head am_m73 ∈ am_ws := List.mem_filter.mpr ⟨am_atw_in (i := 750) rfl, rfl⟩
theorem am_hw74 : am_head am_m74 ∈ am_ws := List.mem_filter.mpr ⟨am_atw_in (i := 754) rfl, rfl⟩
theorem am_hw75 : am_head am_m75 ∈ am_ws := List.mem_filter.mpr ⟨am_atw_in (i := 758) rfl, rfl⟩
theorem am_hw76 : am_head am_m76 ∈ am_ws := List.mem_filter.mpr ⟨am_atw_in (i := 762) rfl, rfl⟩
theorem am_hw77 : am_head am_m77 ∈ am_ws := List.mem_filter.mpr ⟨am_atw_in (i := 767) rfl, rfl⟩
theorem am_hw79 : am_head am_m79 ∈ am_ws := List.mem_filter.mpr ⟨am_atw_in (i := 776) rfl, rfl⟩
theorem am_hw80 : am_head am_m80 ∈ am_ws := List.mem_filter.mpr ⟨am_atw_in (i := 780) rfl, rfl⟩
theorem am_hw83 : am_head am_m83 ∈ am_ws := List.mem_filter.mpr ⟨am_atw_in (i := 792) rfl, rfl⟩
theorem am_hw84 : am_head am_m84 ∈ am_ws := List.mem_filter.mpr ⟨am_atw_in (i := 796) rfl, rfl⟩
theorem am_hw85 : am_head am_m85 ∈ am_ws := List.mem_filter.mpr ⟨am_atw_in (i := 800) rfl, rfl⟩
theorem am_hw86 : am_head am_m86 ∈ am_ws := List.mem_filter.mpr ⟨am_atw_in (i := 804) rfl, rfl⟩
theorem am_hw87 : am_head am_m87 ∈ am_ws := List.mem_filter.mpr ⟨am_atw_in (i := 809) rfl, rfl⟩
theorem am_hw88 : am_head am_m88 ∈ am_ws := List.mem_filter.mpr ⟨am_atw_in (i := 813) rfl, rfl⟩
theorem am_hw89 : am_head am_m89 ∈ am_ws := List.mem_filter.mpr ⟨am_atw_in (i := 817) rfl, rfl⟩
theorem am_hw90 : am_head am_m90 ∈ am_ws := List.mem_filter.mpr ⟨am_atw_in (i := 821) rfl, rfl⟩
theorem am_hw91 : am_head am_m91 ∈ am_ws := List.mem_filter.mpr ⟨am_atw_in (i := 825) rfl, rfl⟩
theorem am_hw92 : am_head am_m92 ∈ am_ws := List.mem_filter.mpr ⟨am_atw_in (i := 830) rfl, rfl⟩
theorem am_hw93 : am_head am_m93 ∈ am_ws := List.mem_filter.mpr ⟨am_atw_in (i := 834) rfl, rfl⟩
theorem am_hw94 : am_head am_m94 ∈ am_ws := List.mem_filter.mpr ⟨am_atw_in (i := 838) rfl, rfl⟩
theorem am_hw95 : am_head am_m95 ∈ am_ws := List.mem_filter.mpr ⟨am_atw_in (i := 842) rfl, rfl⟩
theorem am_hw97 : am_head am_m97 ∈ am_ws := List.mem_filter.mpr ⟨am_atw_in (i := 850) rfl, rfl⟩
theorem am_hw98 : am_head am_m98 ∈ am_ws := List.mem_filter.mpr ⟨am_atw_in (i := 854) rfl, rfl⟩
theorem am_hw99 : am_head am_m99 ∈ am_ws := List.mem_filter.mpr ⟨am_atw_in (i := 858) rfl, rfl⟩
theorem am_hw104 : am_head am_m104 ∈ am_ws := List.mem_filter.mpr ⟨am_atw_in (i := 878) rfl, rfl⟩
theorem am_hw105 : am_head am_m105 ∈ am_ws := List.mem_filter.mpr ⟨am_atw_in (i := 882) rfl, rfl⟩
theorem am_hw107 : am_head am_m107 ∈ am_ws := List.mem_filter.mpr ⟨am_atw_in (i := 890) rfl, rfl⟩
theorem am_hw108 : am_head am_m108 ∈ am_ws := List.mem_filter.mpr ⟨am_atw_in (i := 894) rfl, rfl⟩
theorem am_hw109 : am_head am_m109 ∈ am_ws := List.mem_filter.mpr ⟨am_atw_in (i := 899) rfl, rfl⟩
theorem am_hw110 : am_head am_m110 ∈ am_ws := List.mem_filter.mpr ⟨am_atw_in (i := 903) rfl, rfl⟩
theorem am_hw111 : am_head am_m111 ∈ am_ws := List.mem_filter.mpr ⟨am_atw_in (i := 913) rfl, rfl⟩
theorem am_hw112 : am_head am_m112 ∈ am_ws := List.mem_filter.mpr ⟨am_atw_in (i := 931) rfl, rfl⟩
theorem am_hw113 : am_head am_m113 ∈ am_ws := List.mem_filter.mpr ⟨am_atw_in (i := 937) rfl, rfl⟩
theorem am_hw114 : am_head am_m114 ∈ am_ws := List.mem_filter.mpr ⟨am_atw_in (i := 941) rfl, rfl⟩
theorem am_hw115 : am_head am_m115 ∈ am_ws := List.mem_filter.mpr ⟨am_atw_in (i := 945) rfl, rfl⟩
theorem am_hw116 : am_head am_m116 ∈ am_ws := List.mem_filter.mpr ⟨am_atw_in (i := 948) rfl, rfl⟩
theorem am_hw117 : am_head am_m117 ∈ am_ws := List.mem_filter.mpr ⟨am_atw_in (i := 962) rfl, rfl⟩
theorem am_hw118 : am_head am_m118 ∈ am_ws := List.mem_filter.mpr ⟨am_atw_in (i := 966) rfl, rfl⟩
theorem am_hw119 : am_head am_m119 ∈ am_ws := List.mem_filter.mpr ⟨am_atw_in (i := 973) rfl, rfl⟩
theorem am_hw121 : am_head am_m121 ∈ am_ws := List.mem_filter.mpr ⟨am_atw_in (i := 976) rfl, rfl⟩
theorem am_hw122 : am_head am_m122 ∈ am_ws := List.mem_filter.mpr ⟨am_atw_in (i := 979) rfl, rfl⟩
theorem am_hw123 : am_head am_m123 ∈ am_ws := List.mem_filter.mpr ⟨am_atw_in (i := 952) rfl, rfl⟩
theorem am_hw124 : am_head am_m124 ∈ am_ws := List.mem_filter.mpr ⟨am_atw_in (i := 955) rfl, rfl⟩
theorem am_heads : ∀ mi ∈ am_used, ∀ M : am_M, am_db[mi]? = some M → am_head M ∈ am_ws := by
  refine List.forall_mem_cons.mpr ⟨fun M hM => (Option.some.inj (show some am_m0 = some M from hM)) ▸ am_hw0, ?_⟩
  refine List.forall_mem_cons.mpr ⟨fun M hM => (Option.some.inj (show some am_m1 = some M from hM)) ▸ am_hw1, ?_⟩
  refine List.forall_mem_cons.mpr ⟨fun M hM => (Option.some.inj (show some am_m2 = some M from hM)) ▸ am_hw2, ?_⟩
  refine List.forall_mem_cons.mpr ⟨fun M hM => (Option.some.inj (show some am_m3 = some M from hM)) ▸ am_hw3, ?_⟩
  refine List.forall_mem_cons.mpr ⟨fun M hM => (Option.some.inj (show some am_m4 = some M from hM)) ▸ am_hw4, ?_⟩
  refine List.forall_mem_cons.mpr ⟨fun M hM => (Option.some.inj (show some am_m5 = some M from hM)) ▸ am_hw5, ?_⟩
  refine List.forall_mem_cons.mpr ⟨fun M hM => (Option.some.inj (show some am_m6 = some M from hM)) ▸ am_hw6, ?_⟩
  refine List.forall_mem_cons.mpr ⟨fun M hM => (Option.some.inj (show some am_m7 = some M from hM)) ▸ am_hw7, ?_⟩
  refine List.forall_mem_cons.mpr ⟨fun M hM => (Option.some.inj (show some am_m8 = some M from hM)) ▸ am_hw8, ?_⟩
  refine List.forall_mem_cons.mpr ⟨fun M hM => (Option.some.inj (show some am_m9 = some M from hM)) ▸ am_hw9, ?_⟩
  refine List.forall_mem_cons.mpr ⟨fun M hM => (Option.some.inj (show some am_m10 = some M from hM)) ▸ am_hw10, ?_⟩
  refine List.forall_mem_cons.mpr ⟨fun M hM => (Option.some.inj (show some am_m11 = some M from hM)) ▸ am_hw11, ?_⟩
  refine List.forall_mem_cons.mpr ⟨fun M hM => (Option.some.inj (show some am_m12 = some M from hM)) ▸ am_hw12, ?_⟩
  refine List.forall_mem_cons.mpr ⟨fun M hM => (Option.some.inj (show some am_m13 = some M from hM)) ▸ am_hw13, ?_⟩
  refine List.forall_mem_cons.mpr ⟨fun M hM => (Option.some.inj (show some am_m14 = some M from hM)) ▸ am_hw14, ?_⟩
  refine List.forall_mem_cons.mpr ⟨fun M hM => (Option.some.inj (show some am_m15 = some M from hM)) ▸ am_hw15, ?_⟩
  refine List.forall_mem_cons.mpr ⟨fun M hM => (Option.some.inj (show some am_m16 = some M from hM)) ▸ am_hw16, ?_⟩
  refine List.forall_mem_cons.mpr ⟨fun M hM => (Option.some.inj (show some am_m17 = some M from hM)) ▸ am_hw17, ?_⟩
  refine List.forall_mem_cons.mpr ⟨fun M hM => (Option.some.inj (show some am_m18 = some M from hM)) ▸ am_hw18, ?_⟩
  refine List.forall_mem_cons.mpr ⟨fun M hM => (Option.some.inj (show some am_m19 = some M from hM)) ▸ am_hw19, ?_⟩
  refine List.forall_mem_cons.mpr ⟨fun M hM => (Option.some.inj (show some am_m20 = some M from hM)) ▸ am_hw20, ?_⟩
  refine List.forall_mem_cons.mpr ⟨fun M hM => (Option.some.inj (show some am_m21 = some M from hM)) ▸ am_hw21, ?_⟩
  refine List.forall_mem_cons.mpr ⟨fun M hM => (Option.some.inj (show some am_m22 = some M from hM)) ▸ am_hw22, ?_⟩
  refine List.forall_mem_cons.mpr ⟨fun M hM => (Option.some.inj (show some am_m23 = some M from hM)) ▸ am_hw23, ?_⟩
  refine List.forall_mem_cons.mpr ⟨fun M hM => (Option.some.inj (show some am_m24 = some M from hM)) ▸ am_hw24, ?_⟩
  refine List.forall_mem_cons.mpr ⟨fun M hM => (Option.some.inj (show some am_m25 = some M from hM)) ▸ am_hw25, ?_⟩
  refine List.forall_mem_cons.mpr ⟨fun M hM => (Option.some.inj (show some am_m26 = some M from hM)) ▸ am_hw26, ?_⟩
  refine List.forall_mem_cons.mpr ⟨fun M hM => (Option.some.inj (show some am_m27 = some M from hM)) ▸ am_hw27, ?_⟩
  refine List.forall_mem_cons.mpr ⟨fun M hM => (Option.some.inj (show some am_m28 = some M from hM)) ▸ am_hw28, ?_⟩
  refine List.forall_mem_cons.mpr ⟨fun M hM => (Option.some.inj (show some am_m29 = some M from hM)) ▸ am_hw29, ?_⟩
  refine List.forall_mem_cons.mpr ⟨fun M hM => (Option.some.inj (show some am_m30 = some M from hM)) ▸ am_hw30, ?_⟩
  refine List.forall_mem_cons.mpr ⟨fun M hM => (Option.some.inj (show some am_m31 = some M from hM)) ▸ am_hw31, ?_⟩
  refine List.forall_mem_cons.mpr ⟨fun M hM => (Option.some.inj (show some am_m32 = some M from hM)) ▸ am_hw32, ?_⟩
  refine List.forall_mem_cons.mpr ⟨fun M hM => (Option.some.inj (show some am_m33 = some M from hM)) ▸ am_hw33, ?_⟩
  refine List.forall_mem_cons.mpr ⟨fun M hM => (Option.some.inj (show some am_m34 = some M from hM)) ▸ am_hw34, ?_⟩
  refine List.forall_mem_cons.mpr ⟨fun M hM => (Option.some.inj (show some am_m35 = some M from hM)) ▸ am_hw35, ?_⟩
  refine List.forall_mem_cons.mpr ⟨fun M hM => (Option.some.inj (show some am_m36 = some M from hM)) ▸ am_hw36, ?_⟩
  refine List.forall_mem_cons.mpr ⟨fun M hM => (Option.some.inj (show some am_m37 = some M from hM)) ▸ am_hw37, ?_⟩
  refine List.forall_mem_cons.mpr ⟨fun M hM => (Option.some.inj (show some am_m38 = some M from hM)) ▸ am_hw38, ?_⟩
  refine List.forall_mem_cons.mpr ⟨fun M hM => (Option.some.inj (show some am_m39 = some M from hM)) ▸ am_hw39, ?_⟩
  refine List.forall_mem_cons.mpr ⟨fun M hM => (Option.some.inj (show some am_m40 = some M from hM)) ▸ am_hw40, ?_⟩
  refine List.forall_mem_cons.mpr ⟨fun M hM => (Option.some.inj (show some am_m41 = some M from hM)) ▸ am_hw41, ?_⟩
  refine List.forall_mem_cons.mpr ⟨fun M hM => (Option.some.inj (show some am_m42 = some M from hM)) ▸ am_hw42, ?_⟩
  refine List.forall_mem_cons.mpr ⟨fun M hM => (Option.some.inj (show some am_m43 = some M from hM)) ▸ am_hw43, ?_⟩
  refine List.forall_mem_cons.mpr ⟨fun M hM => (Option.some.inj (show some am_m44 = some M from hM)) ▸ am_hw44, ?_⟩
  refine List.forall_mem_cons.mpr ⟨fun M hM => (Option.some.inj (show some am_m45 = some M from hM)) ▸ am_hw45, ?_⟩
  refine List.forall_mem_cons.mpr ⟨fun M hM => (Option.some.inj (show some am_m46 = some M from hM)) ▸ am_hw46, ?_⟩
  refine List.forall_mem_cons.mpr ⟨fun M hM => (Option.some.inj (show some am_m48 = some M from hM)) ▸ am_hw48, ?_⟩
  refine List.forall_mem_cons.mpr ⟨fun M hM => (Option.some.inj (show some am_m49 = some M from hM)) ▸ am_hw49, ?_⟩
  refine List.forall_mem_cons.mpr ⟨fun M hM => (Option.some.inj (show some am_m50 = some M from hM)) ▸ am_hw50, ?_⟩
  refine List.forall_mem_cons.mpr ⟨fun M hM => (Option.some.inj (show some am_m51 = some M from hM)) ▸ am_hw51, ?_⟩
  refine List.forall_mem_cons.mpr ⟨fun M hM => (Option.some.inj (show some am_m52 = some M from hM)) ▸ am_hw52, ?_⟩
  refine List.forall_mem_cons.mpr ⟨fun M hM => (Option.some.inj (show some am_m53 = some M from hM)) ▸ am_hw53, ?_⟩
  refine List.forall_mem_cons.mpr ⟨fun M hM => (Option.some.inj (show some am_m54 = some M from hM)) ▸ am_hw54, ?_⟩
  refine List.forall_mem_cons.mpr ⟨fun M hM => (Option.some.inj (show some am_m55 = some M from hM)) ▸ am_hw55, ?_⟩
  refine List.forall_mem_cons.mpr ⟨fun M hM => (Option.some.inj (show some am_m56 = some M from hM)) ▸ am_hw56, ?_⟩
  refine List.forall_mem_cons.mpr ⟨fun M hM => (Option.some.inj (show some am_m57 = some M from hM)) ▸ am_hw57, ?_⟩
  refine List.forall_mem_cons.mpr ⟨fun M hM => (Option.some.inj (show some am_m58 = some M from hM)) ▸ am_hw58, ?_⟩
  refine List.forall_mem_cons.mpr ⟨fun M hM => (Option.some.inj (show some am_m59 = some M from hM)) ▸ am_hw59, ?_⟩
  refine List.forall_mem_cons.mpr ⟨fun M hM => (Option.some.inj (show some am_m60 = some M from hM)) ▸ am_hw60, ?_⟩
  refine List.forall_mem_cons.mpr ⟨fun M hM => (Option.some.inj (show some am_m61 = some M from hM)) ▸ am_hw61, ?_⟩
  refine List.forall_mem_cons.mpr ⟨fun M hM => (Option.some.inj (show some am_m62 = some M from hM)) ▸ am_hw62, ?_⟩
  refine List.forall_mem_cons.mpr ⟨fun M hM => (Option.some.inj (show some am_m63 = some M from hM)) ▸ am_hw63, ?_⟩
  refine List.forall_mem_cons.mpr ⟨fun M hM => (Option.some.inj (show some am_m64 = some M from hM)) ▸ am_hw64, ?_⟩
  refine List.forall_mem_cons.mpr ⟨fun M hM => (Option.some.inj (show some am_m65 = some M from hM)) ▸ am_hw65, ?_⟩
  refine List.forall_mem_cons.mpr ⟨fun M hM => (Option.some.inj (show some am_m66 = some M from hM)) ▸ am_hw66, ?_⟩
  refine List.forall_mem_cons.mpr ⟨fun M hM => (Option.some.inj (show some am_m70 = some M from hM)) ▸ am_hw70, ?_⟩
  refine List.forall_mem_cons.mpr ⟨fun M hM => (Option.some.inj (show some am_m71 = some M from hM)) ▸ am_hw71, ?_⟩
  refine List.forall_mem_cons.mpr ⟨fun M hM => (Option.some.inj (show some am_m72 = some M from hM)) ▸ am_hw72, ?_⟩
  refine List.forall_mem_cons.mpr ⟨fun M hM => (Option.some.inj (show some am_m73 = some M from hM)) ▸ am_hw73, ?_⟩
  refine List.forall_mem_cons.mpr ⟨fun M hM => (Option.some.inj (show some am_m74 = some M from hM)) ▸ am_hw74, ?_⟩
  refine List.forall_mem_cons.mpr ⟨fun M hM => (Option.some.inj (show some am_m75 = some M from hM)) ▸ am_hw75, ?_⟩
  refine List.forall_mem_cons.mpr ⟨fun M hM => (Option.some.inj (show some am_m76 = some M from hM)) ▸ am_hw76, ?_⟩
  refine List.forall_mem_cons.mpr ⟨fun M hM => (Option.some.inj (show some am_m77 = some M from hM)) ▸ am_hw77, ?_⟩
  refine List.forall_mem_cons.mpr ⟨fun M hM => (Option.some.inj (show some am_m79 = some M from hM)) ▸ am_hw79, ?_⟩
  refine List.forall_mem_cons.mpr ⟨fun M hM => (Option.some.inj (show some am_m80 = some M from hM)) ▸ am_hw80, ?_⟩
  refine List.forall_mem_cons.mpr ⟨fun M hM => (Option.some.inj (show some am_m83 = some M from hM)) ▸ am_hw83, ?_⟩
  refine List.forall_mem_cons.mpr ⟨fun M hM => (Option.some.inj (show some am_m84 = some M from hM)) ▸ am_hw84, ?_⟩
  refine List.forall_mem_cons.mpr ⟨fun M hM => (Option.some.inj (show some am_m85 = some M from hM)) ▸ am_hw85, ?_⟩
  refine List.forall_mem_cons.mpr ⟨fun M hM => (Option.some.inj (show some am_m86 = some M from hM)) ▸ am_hw86, ?_⟩
  refine List.forall_mem_cons.mpr ⟨fun M hM => (Option.some.inj (show some am_m87 = some M from hM)) ▸ am_hw87, ?_⟩
  refine List.forall_mem_cons.mpr ⟨fun M hM => (Option.some.inj (show some am_m88 = some M from hM)) ▸ am_hw88, ?_⟩
  refine List.forall_mem_cons.mpr ⟨fun M hM => (Option.some.inj (show some am_m89 = some M from hM)) ▸ am_hw89, ?_⟩
  refine List.forall_mem_cons.mpr ⟨fun M hM => (Option.some.inj (show some am_m90 = some M from hM)) ▸ am_hw90, ?_⟩
  refine List.forall_mem_cons.mpr ⟨fun M hM => (Option.some.inj (show some am_m91 = some M from hM)) ▸ am_hw91, ?_⟩
  refine List.forall_mem_cons.mpr ⟨fun M hM => (Option.some.inj (show some am_m92 = some M from hM)) ▸ am_hw92, ?_⟩
  refine List.forall_mem_cons.mpr ⟨fun M hM => (Option.some.inj (show some am_m93 = some M from hM)) ▸ am_hw93, ?_⟩
  refine List.forall_mem_cons.mpr ⟨fun M hM => (Option.some.inj (show some am_m94 = some M from hM)) ▸ am_hw94, ?_⟩
  refine List.forall_mem_cons.mpr ⟨fun M hM => (Option.some.inj (show some am_m95 = some M from hM)) ▸ am_hw95, ?_⟩
  refine List.forall_mem_cons.mpr ⟨fun M hM => (Option.some.inj (show some am_m97 = some M from hM)) ▸ am_hw97, ?_⟩
  refine List.forall_mem_cons.mpr ⟨fun M hM => (Option.some.inj (show some am_m98 = some M from hM)) ▸ am_hw98, ?_⟩
  refine List.forall_mem_cons.mpr ⟨fun M hM => (Option.some.inj (show some am_m99 = some M from hM)) ▸ am_hw99, ?_⟩
  refine List.forall_mem_cons.mpr ⟨fun M hM => (Option.some.inj (show some am_m104 = some M from hM)) ▸ am_hw104, ?_⟩
  refine List.forall_mem_cons.mpr ⟨fun M hM => (Option.some.inj (show some am_m105 = some M from hM)) ▸ am_hw105, ?_⟩
  refine List.forall_mem_cons.mpr ⟨fun M hM => (Option.some.inj (show some am_m107 = some M from hM)) ▸ am_hw107, ?_⟩
  refine List.forall_mem_cons.mpr ⟨fun M hM => (Option.some.inj (show some am_m108 = some M from hM)) ▸ am_hw108, ?_⟩
  refine List.forall_mem_cons.mpr ⟨fun M hM => (Option.some.inj (show some am_m109 = some M from hM)) ▸ am_hw109, ?_⟩
  refine List.forall_mem_cons.mpr ⟨fun M hM => (Option.some.inj (show some am_m110 = some M from hM)) ▸ am_hw110, ?_⟩
  refine List.forall_mem_cons.mpr ⟨fun M hM => (Option.some.inj (show some am_m111 = some M from hM)) ▸ am_hw111, ?_⟩
  refine List.forall_mem_cons.mpr ⟨fun M hM => (Option.some.inj (show some am_m112 = some M from hM)) ▸ am_hw112, ?_⟩
  refine List.forall_mem_cons.mpr ⟨fun M hM => (Option.some.inj (show some am_m113 = some M from hM)) ▸ am_hw113, ?_⟩
  refine List.forall_mem_cons.mpr ⟨fun M hM => (Option.some.inj (show some am_m114 = some M from hM)) ▸ am_hw114, ?_⟩
  refine List.forall_mem_cons.mpr ⟨fun M hM => (Option.some.inj (show some am_m115 = some M from hM)) ▸ am_hw115, ?_⟩
  refine List.forall_mem_cons.mpr ⟨fun M hM => (Option.some.inj (show some am_m116 = some M from hM)) ▸ am_hw116, ?_⟩
  refine List.forall_mem_cons.mpr ⟨fun M hM => (Option.some.inj (show some am_m117 = some M from hM)) ▸ am_hw117, ?_⟩
  refine List.forall_mem_cons.mpr ⟨fun M hM => (Option.some.inj (show some am_m118 = some M from hM)) ▸ am_hw118, ?_⟩
  refine List.forall_mem_cons.mpr ⟨fun M hM => (Option.some.inj (show some am_m119 = some M from hM)) ▸ am_hw119, ?_⟩
  refine List.forall_mem_cons.mpr ⟨fun M hM => (Option.some.inj (show some am_m121 = some M from hM)) ▸ am_hw121, ?_⟩
  refine List.forall_mem_cons.mpr ⟨fun M hM => (Option.some.inj (show some am_m122 = some M from hM)) ▸ am_hw122, ?_⟩
  refine List.forall_mem_cons.mpr ⟨fun M hM => (Option.some.inj (show some am_m123 = some M from hM)) ▸ am_hw123, ?_⟩
  refine List.forall_mem_cons.mpr ⟨fun M hM => (Option.some.inj (show some am_m124 = some M from hM)) ▸ am_hw124, ?_⟩
  intro mi h
  cases h
def am_cLdc (own : String) (idx : Nat) (ln : List Nat) : Bool := match ln with
  | [] => true
  | [t, n, w] => (Nat.beq t 0 && am_w w (Cond.constant own idx (Int32.ofNat n))) || (Nat.beq t 2 && am_w w (Cond.constantFloat own idx (UInt32.ofNat n)))
  | _ => false
def am_cLdcW (own : String) (idx : Nat) (ln : List Nat) : Bool := match ln with
  | [] => true
  | [t, n, w] => (Nat.beq t 0 && am_w w (Cond.constant own idx (Int32.ofNat n))) || (Nat.beq t 2 && am_w w (Cond.constantFloat own idx (UInt32.ofNat n)))
  | _ => false
def am_cLdc2 (own : String) (idx : Nat) (ln : List Nat) : Bool := match ln with
  | [] => true
  | [t, n, w] => (Nat.beq t 1 && am_w w (Cond.constantLong own idx (Int64.ofNat n))) || (Nat.beq t 3 && am_w w (Cond.constantDouble own idx (UInt64.ofNat n)))
  | _ => false
def am_cFld (M : am_M) (put : Bool) (idx : Nat) (ln : List Nat) : Bool := match ln with
  | [] => true
  | [ci, k, w] => (match am_cl[ci]? with
    | some q => decide (k < q.2.2) && am_w w (Cond.fieldLink M.1.cls idx (q.2.1 k).1 (q.2.1 k).2.1 (q.2.1 k).2.2.1) && (!put || (!(q.2.1 k).2.2.2 || (decide (M.1.name = "<init>") && decide ((q.2.1 k).1 = M.1.cls))))
    | none => false)
  | _ => false
def am_txt (own : String) (is : Nat) : Option String := (am_strs.find? (fun q => decide (q.1 = own) && Nat.beq q.2.1 is)).map (fun q => q.2.2)
def am_cThr (M : am_M) (pc idx ei : Nat) : Bool := match am_ex[ei]? with
  | none => false
  | some E => decide (decode M.2.1 (pc + 3) = .ok (.dup, 1)) && (match decode M.2.1 (pc + 4) with
    | .ok (.ldc is, 2) => (match decode M.2.1 (pc + 6) with
      | .ok (.invokespecial ic, 3) => decide (decode M.2.1 (pc + 9) = .ok (.athrow, 1)) && (match am_txt M.1.cls is with
        | some text => am_tw M.1.cls idx is ic E text
        | none => false)
      | _ => false)
    | .ok (.ldc_w is, 3) => (match decode M.2.1 (pc + 7) with
      | .ok (.invokespecial ic, 3) => decide (decode M.2.1 (pc + 10) = .ok (.athrow, 1)) && (match am_txt M.1.cls is with
        | some text => am_tw M.1.cls idx is ic E text
        | none => false)
      | _ => false)
    | _ => false)
def am_cNew (M : am_M) (pc idx : Nat) (ln : List Nat) : Bool := match ln with
  | [] => true
  | [9, ei] => !(M.2.2.2.2.1.isEmpty) || am_cThr M pc idx ei
  | [ci, w1, w2, w3] => (match am_cl[ci]? with
    | some q => am_w w1 (Cond.classLink M.1.cls idx q.1) && am_w w2 (Cond.instantiable q.1 q.2.2) && am_w w3 (Cond.initialized q.1)
    | none => false)
  | _ => false
def am_cAna (own : String) (idx : Nat) (ln : List Nat) : Bool := match ln with
  | [] => true
  | k :: w :: _ => (Nat.beq k 101 && am_w w (Cond.classLink own idx RX5)) || (Nat.beq k 102 && am_w w (Cond.classLink own idx RX2)) || (Nat.beq k 103 && am_w w (Cond.classLink own idx RX1)) || (Nat.beq k 104 && am_w w (Cond.classLink own idx "[I"))
  | _ => false
def am_lib (own : String) (idx : Nat) (y : MethodName) (w1 w2 w3 w4 : Nat) (w : Cond) : Bool := am_w w1 (Cond.methodLink own idx y) && am_w w2 (Cond.static y) && am_w w3 (Cond.initialized y.cls) && am_w w4 w
def am_lib3 (own : String) (idx : Nat) (y : MethodName) (w1 w2 w3 : Nat) : Bool := am_w w1 (Cond.methodLink own idx y) && am_w w2 (Cond.static y) && am_w w3 (Cond.initialized y.cls)
def am_isu2 (mi : Nat) : Bool := am_used.any (fun k => Nat.beq k mi)
def am_cSt (b9 : Bool) (own : String) (idx : Nat) (ln : List Nat) : Bool := match ln with
  | [] => true
  | [0, mi, n, w1, w2, w3, w4] => (match am_db[mi]? with
    | some M1 => am_lib3 own idx M1.1 w1 w2 w3 && am_d M1 n && am_isu2 mi
    | none => false)
  | [3, w1, w2, w3, w4] => am_lib own idx Lib.Math.abs.name w1 w2 w3 w4 (Cond.code Lib.Math.abs.name Lib.Math.abs.code 1 (some .int))
  | [4, w1, w2, w3, w4] => am_lib own idx Lib.Math.min.name w1 w2 w3 w4 (Cond.code Lib.Math.min.name Lib.Math.min.code 2 (some .int))
  | [5, w1, w2, w3, w4] => am_lib own idx Lib.MathLoose.min_long.x w1 w2 w3 w4 (Cond.code Lib.MathLoose.min_long.x Lib.MathLoose.min_long.code 4 (some .long))
  | [6, w1, w2, w3, w4] => am_lib own idx Lib.MathLoose.max_long.x w1 w2 w3 w4 (Cond.code Lib.MathLoose.max_long.x Lib.MathLoose.max_long.code 4 (some .long))
  | [7, w1, w2, w3, w4] => am_lib own idx ⟨"java/lang/Float", "floatToRawIntBits", "(F)I"⟩ w1 w2 w3 w4 (Cond.native ⟨"java/lang/Float", "floatToRawIntBits", "(F)I"⟩)
  | [8, w1, w2, w3, w4] => am_lib own idx ⟨"java/lang/Double", "doubleToRawLongBits", "(D)J"⟩ w1 w2 w3 w4 (Cond.native ⟨"java/lang/Double", "doubleToRawLongBits", "(D)J"⟩)
  | [9, mi, n, w1, w2, w3, w4] => b9 && Nat.beq mi 18 && Nat.beq n 1 && am_lib3 own idx am_m18.1 w1 w2 w3 && am_d am_m18 1
  | _ => false
def am_cVi (own : String) (idx : Nat) (ln : List Nat) : Bool := match ln with
  | [] => true
  | [1, mi, n, ci, w1, w2, w3, w4, w5] => (match am_db[mi]?, am_cl[ci]? with
    | some M1, some q => decide (0 < n) && am_d M1 (n - 1) && M1.2.2.2.2.1.isEmpty && decide (q.1 = M1.1.cls) && am_w w1 (Cond.methodLink own idx M1.1) && am_w w2 (Cond.instanceMethod M1.1) && am_w w3 (Cond.selects M1.1.cls M1.1 M1.1) && am_w w4 (Cond.initialized M1.1.cls) && am_isu2 mi
    | _, _ => false)
  | _ => false
def am_cSp (own : String) (idx : Nat) (ln : List Nat) : Bool := match ln with
  | [] => true
  | [0, mi, n, w1, w2, w3, w4] => (match am_db[mi]? with
    | some M1 => decide (0 < n) && am_d M1 (n - 1) && M1.2.2.2.2.1.isEmpty && M1.2.2.2.1.isNone && decide (M1.1.name = "<init>") && (am_w w1 (Cond.methodLink own idx M1.1) || decide (am_atw w1 = some (Cond.methodLinkNest own idx M1.1 "CombCylinder"))) && am_w w2 (Cond.instanceMethod M1.1) && am_w w3 (Cond.initialized M1.1.cls) && am_isu2 mi
    | none => false)
  | [2, w1, w2, w3] => am_w w1 (Cond.methodLink own idx Lib.objectInit) && am_w w2 (Cond.instanceMethod Lib.objectInit) && am_w w3 (Cond.code Lib.objectInit ⟨#[0xb1]⟩ 1 none)
  | _ => false
end
section
/-! ===== an instruction that passes its check ===== -/
theorem am_tb_ok {M : am_M} {pc ei t : Nat} (h : (am_tb am_hc M pc)[ei]? = some (some t)) : ∃ t0, am_hnd am_hc ei pc M.2.2.2.2.1 = some t0 ∧ t = am_ix t0 M.2.2.2.2.2 := by
  unfold am_tb at h
  split at h
  · cases h
  · rename_i x xs hx
    rw [List.getElem?_map] at h
    have h1 : ([0, 1, 2, 3, 4, 5] : List Nat)[ei]? = some ei := by
      cases h2 : ([0, 1, 2, 3, 4, 5] : List Nat)[ei]? with
      | none => rw [h2] at h; cases h
      | some y =>
        match ei, h2 with
        | 0, h2 => exact h2.symm.trans rfl
        | 1, h2 => exact h2.symm.trans rfl
        | 2, h2 => exact h2.symm.trans rfl
        | 3, h2 => exact h2.symm.trans rfl
        | 4, h2 => exact h2.symm.trans rfl
        | 5, h2 => exact h2.symm.trans rfl
        | n + 6, h2 => cases h2
    rw [h1] at h
    have h3 := Option.some.inj h
    dsimp only at h3
    rw [hx]
    split at h3
    · rename_i t0 ht
      exact ⟨t0, ht, (Option.some.inj h3).symm⟩
    · cases h3
theorem am_tb_nil {M : am_M} {pc : Nat} (h : am_tb am_hc M pc = []) : tableOf M.2.2.2.2.1 = [] := by
  unfold am_tb at h
  split at h
  · rename_i hx
    rw [hx]
    rfl
  · cases h
theorem am_lib_ok {own : String} {idx w1 w2 w3 w4 : Nat} {y : MethodName} {w : Cond} (h : am_lib own idx y w1 w2 w3 w4 w = true) : Cond.methodLink own idx y ∈ am_ws ∧ Cond.static y ∈ am_ws ∧ Cond.initialized y.cls ∈ am_ws ∧ w ∈ am_ws := by
  simp only [am_lib, Bool.and_eq_true] at h
  exact ⟨am_w_in h.1.1.1, am_w_in h.1.1.2, am_w_in h.1.2, am_w_in h.2⟩
theorem am_lib3_ok {own : String} {idx w1 w2 w3 : Nat} {y : MethodName} (h : am_lib3 own idx y w1 w2 w3 = true) : Cond.methodLink own idx y ∈ am_ws ∧ Cond.static y ∈ am_ws ∧ Cond.initialized y.cls ∈ am_ws := by
  simp only [am_lib3, Bool.and_eq_true] at h
  exact ⟨am_w_in h.1.1, am_w_in h.1.2, am_w_in h.2⟩
theorem am_hd_ok {mi : Nat} {M : am_M} (h : am_isu2 mi = true) (hM : am_db[mi]? = some M) : am_head M ∈ am_ws := by
  obtain ⟨k, h1, h2⟩ := List.any_eq_true.mp h
  have e := Nat.eq_of_beq_eq_true h2
  subst e
  exact am_heads k h1 M hM
theorem am_arrInt : Cond.arrayClass .int ∈ am_ws := am_w_in (i := 189) (by decide +kernel)
section AMK
variable {p : Program} {l : Launch} {e : Env} {R : Room} {s : State} {m : MethodId} {args : Array Value} {below : List Frame} {meth : Method} {c : Code} {Q : State → Prop} {Y : am_Y} {A : am_A} {ad0 : List Nat} {nL c0 q0 : Nat} {code : ByteArray} {rt : Option FieldType}
variable {sub : Nat → am_G} {go : am_G} {jmp : Nat → am_G} {pc : Nat} {M : am_M}
theorem am_kBad (A : am_A) (sub : Nat → am_G) (go : am_G) (jmp : Nat → am_G) : am_Snd p l e R s m args below meth c Q Y ad0 M.2.2.1 c0 q0 M.2.1 M.2.2.2.1 (am_oBad A sub go jmp) pc := am_sBad
theorem am_kLdc (hF : am_Fm p s m args meth c Y M.1.cls M.2.1 M.2.2.1 M.2.2.2.1) {idx : Nat} {ln : List Nat} (h : am_cLdc M.1.cls idx ln = true) (hd : decode M.2.1 pc = .ok (.ldc idx, 2)) (hgo : am_Snd p l e R s m args below meth c Q Y ad0 M.2.2.1 c0 q0 M.2.1 M.2.2.2.1 go (pc + 2)) : am_Snd p l e R s m args below meth c Q Y ad0 M.2.2.1 c0 q0 M.2.1 M.2.2.2.1 (am_op am_db am_hc am_bl M pc (.ldc idx) ln A sub go jmp) pc := by
  unfold am_cLdc at h
  split at h
  · exact am_kBad A sub go jmp
  · rename_i t n w
    rw [Bool.or_eq_true, Bool.and_eq_true, Bool.and_eq_true] at h
    rcases h with ⟨e, h⟩ | ⟨e, h⟩
    · have e := Nat.eq_of_beq_eq_true e
      subst e
      exact am_rLdcI (A := A) (sub := sub) (go := go) (jmp := jmp) hF.1 hF.2.1 hF.2.2.2.1 (hF.2.2.2.2.1 _ (am_w_in h)) hd hgo
    · have e := Nat.eq_of_beq_eq_true e
      subst e
      exact am_rLdcF (A := A) (sub := sub) (go := go) (jmp := jmp) hF.1 hF.2.1 hF.2.2.2.1 (hF.2.2.2.2.1 _ (am_w_in h)) hd hgo
  · cases h
theorem am_kLdcW (hF : am_Fm p s m args meth c Y M.1.cls M.2.1 M.2.2.1 M.2.2.2.1) {idx : Nat} {ln : List Nat} (h : am_cLdcW M.1.cls idx ln = true) (hd : decode M.2.1 pc = .ok (.ldc_w idx, 3)) (hgo : am_Snd p l e R s m args below meth c Q Y ad0 M.2.2.1 c0 q0 M.2.1 M.2.2.2.1 go (pc + 3)) : am_Snd p l e R s m args below meth c Q Y ad0 M.2.2.1 c0 q0 M.2.1 M.2.2.2.1 (am_op am_db am_hc am_bl M pc (.ldc_w idx) ln A sub go jmp) pc := by
  unfold am_cLdcW at h
  split at h
  · exact am_kBad A sub go jmp
  · rename_i t n w
    rw [Bool.or_eq_true, Bool.and_eq_true, Bool.and_eq_true] at h
    rcases h with ⟨e, h⟩ | ⟨e, h⟩
    · have e := Nat.eq_of_beq_eq_true e
      subst e
      exact am_rLdcW (A := A) (sub := sub) (go := go) (jmp := jmp) hF.1 hF.2.1 hF.2.2.2.1 (hF.2.2.2.2.1 _ (am_w_in h)) hd hgo
    · have e := Nat.eq_of_beq_eq_true e
      subst e
      exact am_rLdcFW (A := A) (sub := sub) (go := go) (jmp := jmp) hF.1 hF.2.1 hF.2.2.2.1 (hF.2.2.2.2.1 _ (am_w_in h)) hd hgo
  · cases h
theorem am_kLdc2 (hF : am_Fm p s m args meth c Y M.1.cls M.2.1 M.2.2.1 M.2.2.2.1) {idx : Nat} {ln : List Nat} (h : am_cLdc2 M.1.cls idx ln = true) (hd : decode M.2.1 pc = .ok (.ldc2_w idx, 3)) (hgo : am_Snd p l e R s m args below meth c Q Y ad0 M.2.2.1 c0 q0 M.2.1 M.2.2.2.1 go (pc + 3)) : am_Snd p l e R s m args below meth c Q Y ad0 M.2.2.1 c0 q0 M.2.1 M.2.2.2.1 (am_op am_db am_hc am_bl M pc (.ldc2_w idx) ln A sub go jmp) pc := by
  unfold am_cLdc2 at h
  split at h
  · exact am_kBad A sub go jmp
  · rename_i t n w
    rw [Bool.or_eq_true, Bool.and_eq_true, Bool.and_eq_true] at h
    rcases h with ⟨e, h⟩ | ⟨e, h⟩
    · have e := Nat.eq_of_beq_eq_true e
      subst e
      exact am_rLdcL (A := A) (sub := sub) (go := go) (jmp := jmp) hF.1 hF.2.1 hF.2.2.2.1 (hF.2.2.2.2.1 _ (am_w_in h)) hd hgo
    · have e := Nat.eq_of_beq_eq_true e
      subst e
      exact am_rLdcD (A := A) (sub := sub) (go := go) (jmp := jmp) hF.1 hF.2.1 hF.2.2.2.1 (hF.2.2.2.2.1 _ (am_w_in h)) hd hgo
  · cases h
theorem am_kGet (hG : am_Gl l Y) (hF : am_Fm p s m args meth c Y M.1.cls M.2.1 M.2.2.1 M.2.2.2.1) {idx : Nat} {ln : List Nat} (h : am_cFld M false idx ln = true) (hd : decode M.2.1 pc = .ok (.getfield idx, 3)) (hgo : am_Snd p l e R s m args below meth c Q Y ad0 M.2.2.1 c0 q0 M.2.1 M.2.2.2.1 go (pc + 3)) : am_Snd p l e R s m args below meth c Q Y ad0 M.2.2.1 c0 q0 M.2.1 M.2.2.2.1 (am_op am_db am_hc am_bl M pc (.getfield idx) ln A sub go jmp) pc := by
  unfold am_cFld at h
  split at h
  · exact am_kBad A sub go jmp
  · rename_i ci k w
    split at h
    · rename_i q hq
      simp only [Bool.and_eq_true, decide_eq_true_eq] at h
      exact am_sGet (A := A) (sub := sub) (go := go) (jmp := jmp) hF hG.2.1 hq h.1.1 (am_w_in h.1.2) hd hgo
    · cases h
  · cases h
theorem am_kPut (hG : am_Gl l Y) (hF : am_Fm p s m args meth c Y M.1.cls M.2.1 M.2.2.1 M.2.2.2.1) (hnm : meth.name = M.1.name) {idx : Nat} {ln : List Nat} (h : am_cFld M true idx ln = true) (hd : decode M.2.1 pc = .ok (.putfield idx, 3)) (hgo : am_Snd p l e R s m args below meth c Q Y ad0 M.2.2.1 c0 q0 M.2.1 M.2.2.2.1 go (pc + 3)) : am_Snd p l e R s m args below meth c Q Y ad0 M.2.2.1 c0 q0 M.2.1 M.2.2.2.1 (am_op am_db am_hc am_bl M pc (.putfield idx) ln A sub go jmp) pc := by
  unfold am_cFld at h
  split at h
  · exact am_kBad A sub go jmp
  · rename_i ci k w
    split at h
    · rename_i q hq
      simp only [Bool.and_eq_true, Bool.or_eq_true, Bool.not_true, Bool.false_eq_true, false_or, Bool.not_eq_true', decide_eq_true_eq] at h
      exact am_sPut (A := A) (sub := sub) (go := go) (jmp := jmp) hF hG.2.1 hq h.1.1 (am_w_in h.1.2) (h.2.imp_right fun q => ⟨hnm.trans q.1, q.2⟩) hd hgo
    · cases h
  · cases h
theorem am_kThr (hG : am_Gl l Y) (hF : am_Fm p s m args meth c Y M.1.cls M.2.1 M.2.2.1 M.2.2.2.1) (htab : c.exceptionTable.toList = tableOf M.2.2.2.2.1) (hT : M.2.2.2.2.1 = []) (hfr : 20 ≤ R.frames) (hlr : 400 ≤ R.locals) {idx ei : Nat} (h : am_cThr M pc idx ei = true) (hd : decode M.2.1 pc = .ok (.new idx, 3)) : am_Snd p l e R s m args below meth c Q Y ad0 M.2.2.1 c0 q0 M.2.1 M.2.2.2.1 (am_oThrow pc ei A sub go jmp) pc := by
  unfold am_cThr at h
  split at h
  · cases h
  · rename_i E hE
    rw [Bool.and_eq_true, decide_eq_true_eq] at h
    obtain ⟨d3, h⟩ := h
    have ht0 : c.exceptionTable.toList = [] := by rw [htab, hT]; rfl
    split at h
    · rename_i is h4
      split at h
      · rename_i ic h6
        rw [Bool.and_eq_true, decide_eq_true_eq] at h
        obtain ⟨d9, h⟩ := h
        split at h
        · exact am_sThrow (A := A) (sub := sub) (go := go) (jmp := jmp) hG hF hfr hlr ht0 hE h hd d3 (Or.inl ⟨h4, h6, d9⟩)
        · cases h
      · cases h
    · rename_i is h4
      split at h
      · rename_i ic h6
        rw [Bool.and_eq_true, decide_eq_true_eq] at h
        obtain ⟨d9, h⟩ := h
        split at h
        · exact am_sThrow (A := A) (sub := sub) (go := go) (jmp := jmp) hG hF hfr hlr ht0 hE h hd d3 (Or.inr ⟨h4, h6, d9⟩)
        · cases h
      · cases h
    · cases h
theorem am_bl_all : (List.range 7).all (fun ci => (am_bl[ci]?).isSome) = true := by decide +kernel
theorem am_kNew (hG : am_Gl l Y) (hF : am_Fm p s m args meth c Y M.1.cls M.2.1 M.2.2.1 M.2.2.2.1) (htab : c.exceptionTable.toList = tableOf M.2.2.2.2.1) (hfr : 20 ≤ R.frames) (hlr : 400 ≤ R.locals) {idx : Nat} {ln : List Nat} (h : am_cNew M pc idx ln = true) (hd : decode M.2.1 pc = .ok (.new idx, 3)) (hgo : am_Snd p l e R s m args below meth c Q Y ad0 M.2.2.1 c0 q0 M.2.1 M.2.2.2.1 go (pc + 3)) : am_Snd p l e R s m args below meth c Q Y ad0 M.2.2.1 c0 q0 M.2.1 M.2.2.2.1 (am_op am_db am_hc am_bl M pc (.new idx) ln A sub go jmp) pc := by
  unfold am_cNew at h
  split at h
  · exact am_kBad A sub go jmp
  · rename_i ei
    show am_Snd p l e R s m args below meth c Q Y ad0 M.2.2.1 c0 q0 M.2.1 M.2.2.2.1 ((match M.2.2.2.2.1 with | [] => am_oThrow pc ei | _ => am_oBad) A sub go jmp) pc
    cases hT : M.2.2.2.2.1 with
    | nil =>
      rw [hT] at h
      exact am_kThr hG hF htab hT hfr hlr h hd
    | cons x xs => exact am_kBad A sub go jmp
  · rename_i ci w1 w2 w3
    split at h
    · rename_i q hq
      simp only [Bool.and_eq_true] at h
      have hlt := am_cl_lt hq
      have hbs := List.all_eq_true.mp am_bl_all ci (List.mem_range.mpr hlt)
      obtain ⟨fs, hfs⟩ := Option.isSome_iff_exists.mp hbs
      have e9 : am_op am_db am_hc am_bl M pc (.new idx) [ci, w1, w2, w3] = am_oNew ci fs := by
        have h7 : ci = 0 ∨ ci = 1 ∨ ci = 2 ∨ ci = 3 ∨ ci = 4 ∨ ci = 5 ∨ ci = 6 := by omega
        rcases h7 with rfl | rfl | rfl | rfl | rfl | rfl | rfl <;> simp only [am_op, hfs]
      rw [e9]
      exact am_sNew (A := A) (sub := sub) (go := go) (jmp := jmp) hF hG.2.1 hq hfs (am_w_in h.1.1) (am_w_in h.1.2) (am_w_in h.2) hd hgo
    · cases h
  · cases h
theorem am_kAna (hG : am_Gl l Y) (hF : am_Fm p s m args meth c Y M.1.cls M.2.1 M.2.2.1 M.2.2.2.1) {idx : Nat} {ln : List Nat} (h : am_cAna M.1.cls idx ln = true) (hd : decode M.2.1 pc = .ok (.anewarray idx, 3)) (hgo : am_Snd p l e R s m args below meth c Q Y ad0 M.2.2.1 c0 q0 M.2.1 M.2.2.2.1 go (pc + 3)) : am_Snd p l e R s m args below meth c Q Y ad0 M.2.2.1 c0 q0 M.2.1 M.2.2.2.1 (am_op am_db am_hc am_bl M pc (.anewarray idx) ln A sub go jmp) pc := by
  unfold am_cAna at h
  split at h
  · exact am_kBad A sub go jmp
  · rename_i k w rest
    simp only [Bool.or_eq_true, Bool.and_eq_true] at h
    rcases h with ((⟨e, h⟩ | ⟨e, h⟩) | ⟨e, h⟩) | ⟨e, h⟩ <;> (have e := Nat.eq_of_beq_eq_true e; subst e)
    · exact am_sNewq (A := A) (sub := sub) (go := go) (jmp := jmp) hF hG.2.2.1 (Or.inl ⟨rfl, rfl⟩) (am_w_in h) hd hgo
    · exact am_sNewq (A := A) (sub := sub) (go := go) (jmp := jmp) hF hG.2.2.1 (Or.inr (Or.inl ⟨rfl, rfl⟩)) (am_w_in h) hd hgo
    · exact am_sNewq (A := A) (sub := sub) (go := go) (jmp := jmp) hF hG.2.2.1 (Or.inr (Or.inr ⟨rfl, rfl⟩)) (am_w_in h) hd hgo
    · exact am_sNewA (A := A) (sub := sub) (go := go) (jmp := jmp) hF hG.2.2.1 (am_w_in h) hd hgo
  · cases h
end AMK
end
section
/-! ===== calls that pass their checks ===== -/
section AMKC
variable {p : Program} {l : Launch} {e : Env} {R : Room} {s : State} {m : MethodId} {args : Array Value} {below : List Frame} {meth : Method} {c : Code} {Q : State → Prop} {Y : am_Y} {A : am_A} {ad0 : List Nat} {nL c0 q0 : Nat} {code : ByteArray} {rt : Option FieldType}
variable {sub : Nat → am_G} {go : am_G} {jmp : Nat → am_G} {pc : Nat} {M : am_M}
theorem am_kCatch (hG : am_Gl l Y) (hF : am_Fm p s m args meth c Y M.1.cls M.2.1 M.2.2.1 M.2.2.2.1) (htab : c.exceptionTable.toList = tableOf M.2.2.2.2.1) (htck : am_tck M = true) (hj : ∀ t, am_Snd p l e R s m args below meth c Q Y ad0 M.2.2.1 c0 q0 M.2.1 M.2.2.2.1 (jmp (am_ix t M.2.2.2.2.2)) t) : ∀ (ei t : Nat), (am_tb am_hc M pc)[ei]? = some (some t) → ∃ (pt : Nat) (E : String), am_ex[ei]? = some E ∧ am_Snd p l e R s m args below meth c Q Y ad0 M.2.2.1 c0 q0 M.2.1 M.2.2.2.1 (jmp t) pt ∧ ∀ (H : Heap) (locs : List Loc) (k j : Nat) (ls : Array Slot) (S : List Value) (q : Addr) (ce : Cell), H[q]? = some ce → ce.vm = .none → s.vm.findClass E = some ce.cls → W p l e R s m args below meth c H locs k j Q (F0 m pt ls [.ref q]) → vx_W p l e R s m args below meth c H locs k j Q (F0 m pc ls S) q := fun ei t h => by
  obtain ⟨t0, h1, rfl⟩ := am_tb_ok h
  obtain ⟨E, hE, hc⟩ := am_catch hG hF htab htck h1
  exact ⟨t0, E, hE, hj t0, hc⟩
theorem am_kStat (hG : am_Gl l Y) (hF : am_Fm p s m args meth c Y M.1.cls M.2.1 M.2.2.1 M.2.2.2.1) (htab : c.exceptionTable.toList = tableOf M.2.2.2.2.1) (htck : am_tck M = true) {d : Nat} (hfr : d + 21 ≤ R.frames) (hlr : 100 * d + 500 ≤ R.locals) (hsub : am_SubOK l Y d sub) (hj : ∀ t, am_Snd p l e R s m args below meth c Q Y ad0 M.2.2.1 c0 q0 M.2.1 M.2.2.2.1 (jmp (am_ix t M.2.2.2.2.2)) t) {mi n idx w1 w2 w3 : Nat} {vo : Bool} {M1 : am_M} (hM : am_db[mi]? = some M1) (hl : am_lib3 M.1.cls idx M1.1 w1 w2 w3 = true) (h0 : am_head M1 ∈ am_ws) (hd1 : am_d M1 n = true) (hd : decode M.2.1 pc = .ok (.invokestatic idx, 3)) (hgo : am_Snd p l e R s m args below meth c Q Y ad0 M.2.2.1 c0 q0 M.2.1 M.2.2.2.1 go (pc + 3)) : am_Snd p l e R s m args below meth c Q Y ad0 M.2.2.1 c0 q0 M.2.1 M.2.2.2.1 (am_oCall (am_tb am_hc M pc) pc mi n M1.2.2.1 vo A sub go jmp) pc := by
  obtain ⟨h1, h2, h3⟩ := am_lib3_ok hl
  refine am_sCallS (A := A) (sub := sub) (go := go) (jmp := jmp) fun lo stk h nc ns o _ ho => am_sCallC (chk := fun _ _ => True) hsub hM rfl ?_ hgo (fun e => htab.trans (am_tb_nil e)) (am_kCatch hG hF htab htck hj) lo stk h nc ns o trivial ho
  intro o1 as h ad hmet hn _ H locs k j ls As S hs hp hls hcat r1 r2
  cases hT : M1.2.2.2.2.1 with
  | nil => exact am_rowS hF hfr hlr hT hd1 h0 h1 h2 h3 hd hmet hn (am_St_len hs) (am_pcU2 hF hs hp) hls hcat r1 r2
  | cons x xs => exact am_rowSX hF hfr hlr hT hd1 h0 h1 h2 h3 hd hmet hn (am_St_len hs) (am_pcU2 hF hs hp) hls hcat r1 r2
theorem am_kSt (hG : am_Gl l Y) (hF : am_Fm p s m args meth c Y M.1.cls M.2.1 M.2.2.1 M.2.2.2.1) (hA : am_kn A Y.2.2.1) (htab : c.exceptionTable.toList = tableOf M.2.2.2.2.1) (htck : am_tck M = true) {d : Nat} (hfr : d + 21 ≤ R.frames) (hlr : 100 * d + 500 ≤ R.locals) (hsub : am_SubOK l Y d sub) {b9 : Bool} (hbod : b9 = true → am_BodOK l Y d am_m18) (hj : ∀ t, am_Snd p l e R s m args below meth c Q Y ad0 M.2.2.1 c0 q0 M.2.1 M.2.2.2.1 (jmp (am_ix t M.2.2.2.2.2)) t) {idx : Nat} {ln : List Nat} (h : am_cSt b9 M.1.cls idx ln = true) (hd : decode M.2.1 pc = .ok (.invokestatic idx, 3)) (hgo : am_Snd p l e R s m args below meth c Q Y ad0 M.2.2.1 c0 q0 M.2.1 M.2.2.2.1 go (pc + 3)) : am_Snd p l e R s m args below meth c Q Y ad0 M.2.2.1 c0 q0 M.2.1 M.2.2.2.1 (am_op am_db am_hc am_bl M pc (.invokestatic idx) ln A sub go jmp) pc := by
  unfold am_cSt at h
  split at h
  · exact am_kBad A sub go jmp
  · rename_i mi n w1 w2 w3 w4
    split at h
    · rename_i M1 hM
      simp only [Bool.and_eq_true] at h
      show am_Snd p l e R s m args below meth c Q Y ad0 M.2.2.1 c0 q0 M.2.1 M.2.2.2.1 ((match am_db[mi]? with | some m => am_oCall (am_tb am_hc M pc) pc mi n m.2.2.1 m.2.2.2.1.isNone | none => am_oBad) A sub go jmp) pc
      rw [hM]
      exact am_kStat hG hF htab htck hfr hlr hsub hj hM h.1.1 (am_hd_ok h.2 hM) h.1.2 hd hgo
    · cases h
  · obtain ⟨h1, h2, h3, h4⟩ := am_lib_ok h
    exact am_sAbs (A := A) (sub := sub) (go := go) (jmp := jmp) hA hF (by omega) (by omega) h1 h2 h3 h4 hd hgo
  · obtain ⟨h1, h2, h3, h4⟩ := am_lib_ok h
    exact am_sMin (A := A) (sub := sub) (go := go) (jmp := jmp) hF (by omega) (by omega) h1 h2 h3 h4 hd hgo
  · obtain ⟨h1, h2, h3, h4⟩ := am_lib_ok h
    exact am_sMinL (A := A) (sub := sub) (go := go) (jmp := jmp) hF (by omega) (by omega) h1 h2 h3 h4 hd hgo
  · obtain ⟨h1, h2, h3, h4⟩ := am_lib_ok h
    exact am_sMaxL (A := A) (sub := sub) (go := go) (jmp := jmp) hF (by omega) (by omega) h1 h2 h3 h4 hd hgo
  · obtain ⟨h1, h2, h3, h4⟩ := am_lib_ok h
    exact am_rF2I (A := A) (sub := sub) (go := go) (jmp := jmp) hF (by omega) (by omega) h1 h2 h3 h4 hd hgo
  · obtain ⟨h1, h2, h3, h4⟩ := am_lib_ok h
    exact am_rD2L (A := A) (sub := sub) (go := go) (jmp := jmp) hF (by omega) (by omega) h1 h2 h3 h4 hd hgo
  · rename_i mi n w1 w2 w3 w4
    simp only [Bool.and_eq_true] at h
    obtain ⟨⟨⟨⟨hb9, e1⟩, e2⟩, hl⟩, hd1⟩ := h
    have e1 := Nat.eq_of_beq_eq_true e1
    have e2 := Nat.eq_of_beq_eq_true e2
    subst e1
    subst e2
    have hM : am_db[18]? = some am_m18 := rfl
    obtain ⟨h1, h2, h3⟩ := am_lib3_ok hl
    have h0 : am_head am_m18 ∈ am_ws := am_hd_ok rfl hM
    show am_Snd p l e R s m args below meth c Q Y ad0 M.2.2.1 c0 q0 M.2.1 M.2.2.2.1 ((match am_db[18]? with | some m => am_oBod (am_tb am_hc M pc) pc 18 m.2.2.1 | none => am_oBad) A sub go jmp) pc
    rw [hM]
    exact am_sBod (A := A) (sub := sub) (go := go) (jmp := jmp) hA hF hfr hlr rfl hd1 h0 h1 h2 h3 hd (hbod hb9) (am_kStat hG hF htab htck hfr hlr hsub hj hM hl h0 hd1 hd hgo) hgo
  · cases h
theorem am_kVi (hG : am_Gl l Y) (hF : am_Fm p s m args meth c Y M.1.cls M.2.1 M.2.2.1 M.2.2.2.1) (htab : c.exceptionTable.toList = tableOf M.2.2.2.2.1) (htck : am_tck M = true) {d : Nat} (hfr : d + 21 ≤ R.frames) (hlr : 100 * d + 500 ≤ R.locals) (hsub : am_SubOK l Y d sub) (hj : ∀ t, am_Snd p l e R s m args below meth c Q Y ad0 M.2.2.1 c0 q0 M.2.1 M.2.2.2.1 (jmp (am_ix t M.2.2.2.2.2)) t) {idx : Nat} {ln : List Nat} (h : am_cVi M.1.cls idx ln = true) (hd : decode M.2.1 pc = .ok (.invokevirtual idx, 3)) (hgo : am_Snd p l e R s m args below meth c Q Y ad0 M.2.2.1 c0 q0 M.2.1 M.2.2.2.1 go (pc + 3)) : am_Snd p l e R s m args below meth c Q Y ad0 M.2.2.1 c0 q0 M.2.1 M.2.2.2.1 (am_op am_db am_hc am_bl M pc (.invokevirtual idx) ln A sub go jmp) pc := by
  unfold am_cVi at h
  split at h
  · exact am_kBad A sub go jmp
  · rename_i mi n ci w1 w2 w3 w4 w5
    split at h
    · rename_i M1 q hM hq
      simp only [Bool.and_eq_true, decide_eq_true_eq] at h
      obtain ⟨⟨⟨⟨⟨⟨⟨⟨h5, h6⟩, h7⟩, h8⟩, h1⟩, h2⟩, h3⟩, h4⟩, h0⟩ := h
      obtain ⟨n', rfl⟩ := Nat.exists_eq_succ_of_ne_zero (Nat.pos_iff_ne_zero.mp h5)
      have hT : M1.2.2.2.2.1 = [] := List.isEmpty_iff.mp h7
      show am_Snd p l e R s m args below meth c Q Y ad0 M.2.2.1 c0 q0 M.2.1 M.2.2.2.1 ((match am_db[mi]? with | some m => am_oCallV (am_tb am_hc M pc) pc mi (n' + 1) m.2.2.1 m.2.2.2.1.isNone ci | none => am_oBad) A sub go jmp) pc
      rw [hM]
      refine am_sCallV (A := A) (sub := sub) (go := go) (jmp := jmp) fun lo stk h nc ns o hck ho => am_sCallC (chk := fun stk h => ∃ r k, stk[n' + 1 - 1]? = some r ∧ Nat.beq r.1 10 = true ∧ am_get h r.2.1 = some k ∧ Nat.beq k.1 ci = true) hsub hM rfl ?_ hgo (fun e => htab.trans (am_tb_nil e)) (am_kCatch hG hF htab htck hj) lo stk h nc ns o hck ho
      intro o1 as h ad hmet hn hck H locs k j ls As S hs hp hls hcat r1 r2
      exact am_rowV hF hG.2.1 hfr hlr hq h8 hT h6 (am_hd_ok h0 hM) (am_w_in h1) (am_w_in h2) (am_w_in h4) (am_w_in h3) hd hmet hn hck hs hp hls hcat r1 r2
    · cases h
  · cases h
theorem am_kSp (hG : am_Gl l Y) (hF : am_Fm p s m args meth c Y M.1.cls M.2.1 M.2.2.1 M.2.2.2.1) (htab : c.exceptionTable.toList = tableOf M.2.2.2.2.1) (htck : am_tck M = true) {d : Nat} (hfr : d + 21 ≤ R.frames) (hlr : 100 * d + 500 ≤ R.locals) (hsub : am_SubOK l Y d sub) (hj : ∀ t, am_Snd p l e R s m args below meth c Q Y ad0 M.2.2.1 c0 q0 M.2.1 M.2.2.2.1 (jmp (am_ix t M.2.2.2.2.2)) t) {idx : Nat} {ln : List Nat} (h : am_cSp M.1.cls idx ln = true) (hd : decode M.2.1 pc = .ok (.invokespecial idx, 3)) (hgo : am_Snd p l e R s m args below meth c Q Y ad0 M.2.2.1 c0 q0 M.2.1 M.2.2.2.1 go (pc + 3)) : am_Snd p l e R s m args below meth c Q Y ad0 M.2.2.1 c0 q0 M.2.1 M.2.2.2.1 (am_op am_db am_hc am_bl M pc (.invokespecial idx) ln A sub go jmp) pc := by
  unfold am_cSp at h
  split at h
  · exact am_kBad A sub go jmp
  · rename_i mi n w1 w2 w3 w4
    split at h
    · rename_i M1 hM
      simp only [Bool.and_eq_true, Bool.or_eq_true, decide_eq_true_eq] at h
      obtain ⟨⟨⟨⟨⟨⟨⟨⟨h5, h6⟩, h7⟩, h8⟩, h9⟩, h1⟩, h2⟩, h3⟩, h0⟩ := h
      obtain ⟨n', rfl⟩ := Nat.exists_eq_succ_of_ne_zero (Nat.pos_iff_ne_zero.mp h5)
      have hT : M1.2.2.2.2.1 = [] := List.isEmpty_iff.mp h7
      have hR : M1.2.2.2.1 = none := Option.isNone_iff_eq_none.mp h8
      have h1' : Cond.methodLink M.1.cls idx M1.1 ∈ am_ws ∨ ∃ host, (Cond.methodLinkNest M.1.cls idx M1.1 host).before args s = true := by
        rcases h1 with h1 | h1
        · exact Or.inl (am_w_in h1)
        · exact Or.inr ⟨_, am_wk_ok rfl (hG.2.2.2.1 _ (am_atw_in h1) rfl) hF.2.2.2.2.2.2.2.1⟩
      show am_Snd p l e R s m args below meth c Q Y ad0 M.2.2.1 c0 q0 M.2.1 M.2.2.2.1 ((match am_db[mi]? with | some m => am_oCallI (am_tb am_hc M pc) pc mi (n' + 1) m.2.2.1 m.2.2.2.1.isNone | none => am_oBad) A sub go jmp) pc
      rw [hM]
      refine am_sCallI (A := A) (sub := sub) (go := go) (jmp := jmp) fun lo stk h nc ns o hck ho => am_sCallC (chk := fun stk h => ∃ r, stk[n' + 1 - 1]? = some r ∧ Nat.beq r.1 10 = true) hsub hM rfl ?_ hgo (fun e => htab.trans (am_tb_nil e)) (am_kCatch hG hF htab htck hj) lo stk h nc ns o hck ho
      intro o1 as h ad hmet hn hck H locs k j ls As S hs hp hls hcat r1 r2
      exact am_rowI hF hfr hlr hT hR h9 h6 (am_hd_ok h0 hM) h1' (am_w_in h2) (am_w_in h3) hd hmet hn hck hs hp hls hcat r1 r2
    · cases h
  · simp only [Bool.and_eq_true] at h
    exact am_sObj (A := A) (sub := sub) (go := go) (jmp := jmp) hF (by omega) (by omega) (am_w_in h.1.1) (am_w_in h.1.2) (am_w_in h.2) hd hgo
  · cases h
end AMKC
end
section
/-! ===== an instruction that passes its check is sound ===== -/
def am_cI (b9 : Bool) (M : am_M) (pc : Nat) (i : Instr) (ln : List Nat) : Bool := match i with
  | .bipush n => decide ((Int8.ofInt n).toInt32 = Int32.ofInt n)
  | .sipush n => decide ((Int16.ofInt n).toInt32 = Int32.ofInt n)
  | .ldc idx => am_cLdc M.1.cls idx ln
  | .ldc_w idx => am_cLdcW M.1.cls idx ln
  | .ldc2_w idx => am_cLdc2 M.1.cls idx ln
  | .goto o => decide (0 ≤ (pc : Int) + o)
  | .ifCond _ o => decide (0 ≤ (pc : Int) + o)
  | .if_icmp _ o => decide (0 ≤ (pc : Int) + o)
  | .ifnull o => decide (0 ≤ (pc : Int) + o)
  | .ifnonnull o => decide (0 ≤ (pc : Int) + o)
  | .tableswitch df _ _ os => decide (0 ≤ (pc : Int) + df) && os.toList.all (fun o => decide (0 ≤ (pc : Int) + o))
  | .getfield idx => am_cFld M false idx ln
  | .putfield idx => am_cFld M true idx ln
  | .new idx => am_cNew M pc idx ln
  | .newarray t => decide (t = .int)
  | .anewarray idx => am_cAna M.1.cls idx ln
  | .multianewarray idx n => Nat.beq n 2 && decide (Cond.classLink M.1.cls idx "[[I" ∈ lw_tbl) && goodWord (Cond.classLink M.1.cls idx "[[I")
  | .invokestatic idx => am_cSt b9 M.1.cls idx ln
  | .invokevirtual idx => am_cVi M.1.cls idx ln
  | .invokespecial idx => am_cSp M.1.cls idx ln
  | _ => true
/-- how long it is -/
def am_isz (i : Instr) (n : Nat) : Bool := match i with
  | .bipush _ => Nat.beq n 2
  | .ldc _ => Nat.beq n 2
  | .iload _ => Nat.beq n 2
  | .lload _ => Nat.beq n 2
  | .aload _ => Nat.beq n 2
  | .istore _ => Nat.beq n 2
  | .lstore _ => Nat.beq n 2
  | .astore _ => Nat.beq n 2
  | .newarray _ => Nat.beq n 2
  | .sipush _ => Nat.beq n 3
  | .ldc_w _ => Nat.beq n 3
  | .ldc2_w _ => Nat.beq n 3
  | .iinc _ _ => Nat.beq n 3
  | .goto _ => Nat.beq n 3
  | .ifCond _ _ => Nat.beq n 3
  | .if_icmp _ _ => Nat.beq n 3
  | .ifnull _ => Nat.beq n 3
  | .ifnonnull _ => Nat.beq n 3
  | .tableswitch .. => true
  | .getfield _ => Nat.beq n 3
  | .putfield _ => Nat.beq n 3
  | .new _ => Nat.beq n 3
  | .anewarray _ => Nat.beq n 3
  | .multianewarray _ _ => Nat.beq n 4
  | .invokestatic _ => Nat.beq n 3
  | .invokevirtual _ => Nat.beq n 3
  | .invokespecial _ => Nat.beq n 3
  | _ => Nat.beq n 1
def am_ck (b9 : Bool) (M : am_M) (x : am_I) : Bool := decide (decode M.2.1 x.1 = .ok (x.2.1, x.2.2.1)) && am_isz x.2.1 x.2.2.1 && am_cI b9 M x.1 x.2.1 x.2.2.2
section AMOK
variable {p : Program} {l : Launch} {e : Env} {R : Room} {s : State} {m : MethodId} {args : Array Value} {below : List Frame} {meth : Method} {c : Code} {Q : State → Prop} {Y : am_Y} {A : am_A} {ad0 : List Nat} {nL c0 q0 : Nat} {code : ByteArray} {rt : Option FieldType}
variable {sub : Nat → am_G} {go : am_G} {jmp : Nat → am_G} {pc : Nat} {M : am_M}
theorem am_tgt_ok {pc : Nat} {off : Int} (h : decide (0 ≤ (pc : Int) + off) = true) : (pc : Int) + off = (am_tgt pc off : Int) := (Int.toNat_of_nonneg (of_decide_eq_true h)).symm
theorem am_opOK (hG : am_Gl l Y) (hF : am_Fm p s m args meth c Y M.1.cls M.2.1 M.2.2.1 M.2.2.2.1) (hA : am_kn A Y.2.2.1) (htab : c.exceptionTable.toList = tableOf M.2.2.2.2.1) (htck : am_tck M = true) (hnm : meth.name = M.1.name) {d : Nat} (hfr : d + 21 ≤ R.frames) (hlr : 100 * d + 500 ≤ R.locals) (hsub : am_SubOK l Y d sub) {b9 : Bool} (hbod : b9 = true → am_BodOK l Y d am_m18) (hj : ∀ t, am_Snd p l e R s m args below meth c Q Y ad0 M.2.2.1 c0 q0 M.2.1 M.2.2.2.1 (jmp (am_ix t M.2.2.2.2.2)) t) {i : Instr} {n : Nat} {ln : List Nat} (hd : decode M.2.1 pc = .ok (i, n)) (hz : am_isz i n = true) (h : am_cI b9 M pc i ln = true) (hgo : am_Snd p l e R s m args below meth c Q Y ad0 M.2.2.1 c0 q0 M.2.1 M.2.2.2.1 go (pc + n)) : am_Snd p l e R s m args below meth c Q Y ad0 M.2.2.1 c0 q0 M.2.1 M.2.2.2.1 (am_op am_db am_hc am_bl M pc i ln A sub go jmp) pc := by
  have hx := hF.1
  have hb := hF.2.1
  cases i
  case iconst k =>
    have e9 : n = 1 := Nat.eq_of_beq_eq_true hz
    subst e9
    exact am_rIconst (A := A) (sub := sub) (go := go) (jmp := jmp) hx hb hd hgo
  case bipush k =>
    have e9 : n = 2 := Nat.eq_of_beq_eq_true hz
    subst e9
    exact am_rBipush (A := A) (sub := sub) (go := go) (jmp := jmp) hx hb (of_decide_eq_true h) hd hgo
  case sipush k =>
    have e9 : n = 3 := Nat.eq_of_beq_eq_true hz
    subst e9
    exact am_rSipush (A := A) (sub := sub) (go := go) (jmp := jmp) hx hb (of_decide_eq_true h) hd hgo
  case lconst k =>
    have e9 : n = 1 := Nat.eq_of_beq_eq_true hz
    subst e9
    exact am_rLconst (A := A) (sub := sub) (go := go) (jmp := jmp) hx hb hd hgo
  case fconst k =>
    have e9 : n = 1 := Nat.eq_of_beq_eq_true hz
    subst e9
    exact am_rFconst (A := A) (sub := sub) (go := go) (jmp := jmp) hx hb hd hgo
  case dconst k =>
    have e9 : n = 1 := Nat.eq_of_beq_eq_true hz
    subst e9
    exact am_rDconst (A := A) (sub := sub) (go := go) (jmp := jmp) hx hb hd hgo
  case ldc idx =>
    have e9 : n = 2 := Nat.eq_of_beq_eq_true hz
    subst e9
    exact am_kLdc hF h hd hgo
  case ldc_w idx =>
    have e9 : n = 3 := Nat.eq_of_beq_eq_true hz
    subst e9
    exact am_kLdcW hF h hd hgo
  case ldc2_w idx =>
    have e9 : n = 3 := Nat.eq_of_beq_eq_true hz
    subst e9
    exact am_kLdc2 hF h hd hgo
  case iload k =>
    have e9 : n = 2 := Nat.eq_of_beq_eq_true hz
    subst e9
    exact am_rIload (A := A) (sub := sub) (go := go) (jmp := jmp) hx hb hd hgo
  case istore k =>
    have e9 : n = 2 := Nat.eq_of_beq_eq_true hz
    subst e9
    exact am_rIstore (A := A) (sub := sub) (go := go) (jmp := jmp) hx hb hd hgo
  case lload k =>
    have e9 : n = 2 := Nat.eq_of_beq_eq_true hz
    subst e9
    exact am_rLload (A := A) (sub := sub) (go := go) (jmp := jmp) hx hb hd hgo
  case lstore k =>
    have e9 : n = 2 := Nat.eq_of_beq_eq_true hz
    subst e9
    exact am_rLstore (A := A) (sub := sub) (go := go) (jmp := jmp) hx hb hd hgo
  case aload k =>
    have e9 : n = 2 := Nat.eq_of_beq_eq_true hz
    subst e9
    exact am_rAload (A := A) (sub := sub) (go := go) (jmp := jmp) hx hb hd hgo
  case astore k =>
    have e9 : n = 2 := Nat.eq_of_beq_eq_true hz
    subst e9
    exact am_rAstore (A := A) (sub := sub) (go := go) (jmp := jmp) hx hb hd hgo
  case iload_n k =>
    have e9 : n = 1 := Nat.eq_of_beq_eq_true hz
    subst e9
    exact am_rIloadn (A := A) (sub := sub) (go := go) (jmp := jmp) hx hb hd hgo
  case istore_n k =>
    have e9 : n = 1 := Nat.eq_of_beq_eq_true hz
    subst e9
    exact am_rIstoren (A := A) (sub := sub) (go := go) (jmp := jmp) hx hb hd hgo
  case lload_n k =>
    have e9 : n = 1 := Nat.eq_of_beq_eq_true hz
    subst e9
    exact am_rLloadn (A := A) (sub := sub) (go := go) (jmp := jmp) hx hb hd hgo
  case lstore_n k =>
    have e9 : n = 1 := Nat.eq_of_beq_eq_true hz
    subst e9
    exact am_rLstoren (A := A) (sub := sub) (go := go) (jmp := jmp) hx hb hd hgo
  case fload_n k =>
    have e9 : n = 1 := Nat.eq_of_beq_eq_true hz
    subst e9
    exact am_rFloadn (A := A) (sub := sub) (go := go) (jmp := jmp) hx hb hd hgo
  case fstore_n k =>
    have e9 : n = 1 := Nat.eq_of_beq_eq_true hz
    subst e9
    exact am_rFstoren (A := A) (sub := sub) (go := go) (jmp := jmp) hx hb hd hgo
  case dload_n k =>
    have e9 : n = 1 := Nat.eq_of_beq_eq_true hz
    subst e9
    exact am_rDloadn (A := A) (sub := sub) (go := go) (jmp := jmp) hx hb hd hgo
  case dstore_n k =>
    have e9 : n = 1 := Nat.eq_of_beq_eq_true hz
    subst e9
    exact am_rDstoren (A := A) (sub := sub) (go := go) (jmp := jmp) hx hb hd hgo
  case aload_n k =>
    have e9 : n = 1 := Nat.eq_of_beq_eq_true hz
    subst e9
    exact am_rAloadn (A := A) (sub := sub) (go := go) (jmp := jmp) hx hb hd hgo
  case astore_n k =>
    have e9 : n = 1 := Nat.eq_of_beq_eq_true hz
    subst e9
    exact am_rAstoren (A := A) (sub := sub) (go := go) (jmp := jmp) hx hb hd hgo
  case iinc k z =>
    have e9 : n = 3 := Nat.eq_of_beq_eq_true hz
    subst e9
    exact am_rIinc (A := A) (sub := sub) (go := go) (jmp := jmp) hx hb hA hd hgo
  case iadd =>
    have e9 : n = 1 := Nat.eq_of_beq_eq_true hz
    subst e9
    exact am_rIadd (A := A) (sub := sub) (go := go) (jmp := jmp) hx hb hA hd hgo
  case isub =>
    have e9 : n = 1 := Nat.eq_of_beq_eq_true hz
    subst e9
    exact am_rIsub (A := A) (sub := sub) (go := go) (jmp := jmp) hx hb hA hd hgo
  case imul =>
    have e9 : n = 1 := Nat.eq_of_beq_eq_true hz
    subst e9
    exact am_rImul (A := A) (sub := sub) (go := go) (jmp := jmp) hx hb hA hd hgo
  case idiv =>
    have e9 : n = 1 := Nat.eq_of_beq_eq_true hz
    subst e9
    exact am_rIdiv (A := A) (sub := sub) (go := go) (jmp := jmp) hx hb hA hd hgo
  case irem =>
    have e9 : n = 1 := Nat.eq_of_beq_eq_true hz
    subst e9
    exact am_rIrem (A := A) (sub := sub) (go := go) (jmp := jmp) hx hb hA hd hgo
  case ior =>
    have e9 : n = 1 := Nat.eq_of_beq_eq_true hz
    subst e9
    exact am_rIor (A := A) (sub := sub) (go := go) (jmp := jmp) hx hb hd hgo
  case ishl =>
    have e9 : n = 1 := Nat.eq_of_beq_eq_true hz
    subst e9
    exact am_rIshl (A := A) (sub := sub) (go := go) (jmp := jmp) hx hb hd hgo
  case i2c =>
    have e9 : n = 1 := Nat.eq_of_beq_eq_true hz
    subst e9
    exact am_rI2c (A := A) (sub := sub) (go := go) (jmp := jmp) hx hb hd hgo
  case i2l =>
    have e9 : n = 1 := Nat.eq_of_beq_eq_true hz
    subst e9
    exact am_rI2l (A := A) (sub := sub) (go := go) (jmp := jmp) hx hb hd hgo
  case i2f =>
    have e9 : n = 1 := Nat.eq_of_beq_eq_true hz
    subst e9
    exact am_rI2f (A := A) (sub := sub) (go := go) (jmp := jmp) hx hb hd hgo
  case i2d =>
    have e9 : n = 1 := Nat.eq_of_beq_eq_true hz
    subst e9
    exact am_rI2d (A := A) (sub := sub) (go := go) (jmp := jmp) hx hb hd hgo
  case l2i =>
    have e9 : n = 1 := Nat.eq_of_beq_eq_true hz
    subst e9
    exact am_rL2i (A := A) (sub := sub) (go := go) (jmp := jmp) hx hb hd hgo
  case ladd =>
    have e9 : n = 1 := Nat.eq_of_beq_eq_true hz
    subst e9
    exact am_rLadd (A := A) (sub := sub) (go := go) (jmp := jmp) hx hb hd hgo
  case lsub =>
    have e9 : n = 1 := Nat.eq_of_beq_eq_true hz
    subst e9
    exact am_rLsub (A := A) (sub := sub) (go := go) (jmp := jmp) hx hb hd hgo
  case lmul =>
    have e9 : n = 1 := Nat.eq_of_beq_eq_true hz
    subst e9
    exact am_rLmul (A := A) (sub := sub) (go := go) (jmp := jmp) hx hb hd hgo
  case lor =>
    have e9 : n = 1 := Nat.eq_of_beq_eq_true hz
    subst e9
    exact am_rLor (A := A) (sub := sub) (go := go) (jmp := jmp) hx hb hd hgo
  case lshl =>
    have e9 : n = 1 := Nat.eq_of_beq_eq_true hz
    subst e9
    exact am_rLshl (A := A) (sub := sub) (go := go) (jmp := jmp) hx hb hd hgo
  case lcmp =>
    have e9 : n = 1 := Nat.eq_of_beq_eq_true hz
    subst e9
    exact am_rLcmp (A := A) (sub := sub) (go := go) (jmp := jmp) hx hb hd hgo
  case fdiv =>
    have e9 : n = 1 := Nat.eq_of_beq_eq_true hz
    subst e9
    exact am_rFdiv (A := A) (sub := sub) (go := go) (jmp := jmp) hx hb hd hgo
  case fmul =>
    have e9 : n = 1 := Nat.eq_of_beq_eq_true hz
    subst e9
    exact am_rFmul (A := A) (sub := sub) (go := go) (jmp := jmp) hx hb hd hgo
  case fsub =>
    have e9 : n = 1 := Nat.eq_of_beq_eq_true hz
    subst e9
    exact am_rFsub (A := A) (sub := sub) (go := go) (jmp := jmp) hx hb hd hgo
  case f2i =>
    have e9 : n = 1 := Nat.eq_of_beq_eq_true hz
    subst e9
    exact am_rF2i (A := A) (sub := sub) (go := go) (jmp := jmp) hx hb hd hgo
  case f2d =>
    have e9 : n = 1 := Nat.eq_of_beq_eq_true hz
    subst e9
    exact am_rF2d (A := A) (sub := sub) (go := go) (jmp := jmp) hx hb hd hgo
  case dadd =>
    have e9 : n = 1 := Nat.eq_of_beq_eq_true hz
    subst e9
    exact am_rDadd (A := A) (sub := sub) (go := go) (jmp := jmp) hx hb hd hgo
  case dsub =>
    have e9 : n = 1 := Nat.eq_of_beq_eq_true hz
    subst e9
    exact am_rDsub (A := A) (sub := sub) (go := go) (jmp := jmp) hx hb hd hgo
  case dmul =>
    have e9 : n = 1 := Nat.eq_of_beq_eq_true hz
    subst e9
    exact am_rDmul (A := A) (sub := sub) (go := go) (jmp := jmp) hx hb hd hgo
  case d2l =>
    have e9 : n = 1 := Nat.eq_of_beq_eq_true hz
    subst e9
    exact am_rD2l (A := A) (sub := sub) (go := go) (jmp := jmp) hx hb hd hgo
  case dup =>
    have e9 : n = 1 := Nat.eq_of_beq_eq_true hz
    subst e9
    exact am_rDup (A := A) (sub := sub) (go := go) (jmp := jmp) hx hb hd hgo
  case dup2 =>
    have e9 : n = 1 := Nat.eq_of_beq_eq_true hz
    subst e9
    exact am_rDup2 (A := A) (sub := sub) (go := go) (jmp := jmp) hx hb hd hgo
  case fcmp q =>
    have e9 : n = 1 := Nat.eq_of_beq_eq_true hz
    subst e9
    exact am_rFcmp (A := A) (sub := sub) (go := go) (jmp := jmp) hx hb hd hgo
  case ddiv =>
    have e9 : n = 1 := Nat.eq_of_beq_eq_true hz
    subst e9
    exact am_rDdiv (A := A) (sub := sub) (go := go) (jmp := jmp) hx hb hA hd hgo
  case dcmp q =>
    have e9 : n = 1 := Nat.eq_of_beq_eq_true hz
    subst e9
    exact am_rDcmp (A := A) (sub := sub) (go := go) (jmp := jmp) hx hb hA hd hgo
  case goto off =>
    have e9 : n = 3 := Nat.eq_of_beq_eq_true hz
    subst e9
    exact am_rGoto (A := A) (sub := sub) (go := go) (jmp := jmp) hx hb (am_tgt_ok h) hd (hj _)
  case ifCond q off =>
    have e9 : n = 3 := Nat.eq_of_beq_eq_true hz
    subst e9
    cases q
    · exact am_rIf1eq (A := A) (sub := sub) (go := go) (jmp := jmp) hx hb hA (am_tgt_ok h) hd hgo (hj _)
    · exact am_rIf1ne (A := A) (sub := sub) (go := go) (jmp := jmp) hx hb hA (am_tgt_ok h) hd hgo (hj _)
    · exact am_rIf1lt (A := A) (sub := sub) (go := go) (jmp := jmp) hx hb hA (am_tgt_ok h) hd hgo (hj _)
    · exact am_rIf1ge (A := A) (sub := sub) (go := go) (jmp := jmp) hx hb hA (am_tgt_ok h) hd hgo (hj _)
    · exact am_rIf1gt (A := A) (sub := sub) (go := go) (jmp := jmp) hx hb hA (am_tgt_ok h) hd hgo (hj _)
    · exact am_rIf1le (A := A) (sub := sub) (go := go) (jmp := jmp) hx hb hA (am_tgt_ok h) hd hgo (hj _)
  case if_icmp q off =>
    have e9 : n = 3 := Nat.eq_of_beq_eq_true hz
    subst e9
    cases q
    · exact am_rIf2eq (A := A) (sub := sub) (go := go) (jmp := jmp) hx hb hA (am_tgt_ok h) hd hgo (hj _)
    · exact am_rIf2ne (A := A) (sub := sub) (go := go) (jmp := jmp) hx hb hA (am_tgt_ok h) hd hgo (hj _)
    · exact am_rIf2lt (A := A) (sub := sub) (go := go) (jmp := jmp) hx hb hA (am_tgt_ok h) hd hgo (hj _)
    · exact am_rIf2ge (A := A) (sub := sub) (go := go) (jmp := jmp) hx hb hA (am_tgt_ok h) hd hgo (hj _)
    · exact am_rIf2gt (A := A) (sub := sub) (go := go) (jmp := jmp) hx hb hA (am_tgt_ok h) hd hgo (hj _)
    · exact am_rIf2le (A := A) (sub := sub) (go := go) (jmp := jmp) hx hb hA (am_tgt_ok h) hd hgo (hj _)
  case ifnull off =>
    have e9 : n = 3 := Nat.eq_of_beq_eq_true hz
    subst e9
    exact am_rIfnull (A := A) (sub := sub) (go := go) (jmp := jmp) hx hb (am_tgt_ok h) hd hgo (hj _)
  case ifnonnull off =>
    have e9 : n = 3 := Nat.eq_of_beq_eq_true hz
    subst e9
    exact am_rIfnonnull (A := A) (sub := sub) (go := go) (jmp := jmp) hx hb (am_tgt_ok h) hd hgo (hj _)
  case tableswitch df lw hg os =>
    have h2 : decide (0 ≤ (pc : Int) + df) = true ∧ os.toList.all (fun o => decide (0 ≤ (pc : Int) + o)) = true := by
      rw [← Bool.and_eq_true]
      exact h
    exact am_rSwitch (go := go) (A := A) (sub := sub) (jmp := jmp) (ix := fun o => am_ix (am_tgt pc o) M.2.2.2.2.2) hx hb (fun o _ => hj _) (of_decide_eq_true h2.1) h2.2 hd
  case getfield idx =>
    have e9 : n = 3 := Nat.eq_of_beq_eq_true hz
    subst e9
    exact am_kGet hG hF h hd hgo
  case putfield idx =>
    have e9 : n = 3 := Nat.eq_of_beq_eq_true hz
    subst e9
    exact am_kPut hG hF hnm h hd hgo
  case new idx =>
    have e9 : n = 3 := Nat.eq_of_beq_eq_true hz
    subst e9
    exact am_kNew hG hF htab (by omega) (by omega) h hd hgo
  case newarray t =>
    have e9 : n = 2 := Nat.eq_of_beq_eq_true hz
    subst e9
    have e8 : t = .int := of_decide_eq_true h
    subst e8
    exact am_sNewa (A := A) (sub := sub) (go := go) (jmp := jmp) hF am_arrInt hd hgo
  case anewarray idx =>
    have e9 : n = 3 := Nat.eq_of_beq_eq_true hz
    subst e9
    exact am_kAna hG hF h hd hgo
  case multianewarray idx k =>
    have e9 : n = 4 := Nat.eq_of_beq_eq_true hz
    subst e9
    have h2 : (Nat.beq k 2 = true ∧ decide (Cond.classLink M.1.cls idx "[[I" ∈ lw_tbl) = true) ∧ goodWord (Cond.classLink M.1.cls idx "[[I") = true := by
      rw [← Bool.and_eq_true, ← Bool.and_eq_true]
      exact h
    have e8 := Nat.eq_of_beq_eq_true h2.1.1
    subst e8
    exact am_sMulti (A := A) (sub := sub) (go := go) (jmp := jmp) hF hG.2.2.1 (List.mem_filter.mpr ⟨of_decide_eq_true h2.1.2, h2.2⟩) am_arrInt hd hgo
  case iaload =>
    have e9 : n = 1 := Nat.eq_of_beq_eq_true hz
    subst e9
    exact am_sIald (A := A) (sub := sub) (go := go) (jmp := jmp) hF hd hgo
  case aaload =>
    have e9 : n = 1 := Nat.eq_of_beq_eq_true hz
    subst e9
    exact am_sAald (A := A) (sub := sub) (go := go) (jmp := jmp) hF hd hgo
  case iastore =>
    have e9 : n = 1 := Nat.eq_of_beq_eq_true hz
    subst e9
    exact am_sIast (A := A) (sub := sub) (go := go) (jmp := jmp) hF hd hgo
  case aastore =>
    have e9 : n = 1 := Nat.eq_of_beq_eq_true hz
    subst e9
    exact am_sAast (A := A) (sub := sub) (go := go) (jmp := jmp) hF hG.2.1 hd hgo
  case invokestatic idx =>
    have e9 : n = 3 := Nat.eq_of_beq_eq_true hz
    subst e9
    exact am_kSt hG hF hA htab htck hfr hlr hsub hbod hj h hd hgo
  case invokevirtual idx =>
    have e9 : n = 3 := Nat.eq_of_beq_eq_true hz
    subst e9
    exact am_kVi hG hF htab htck hfr hlr hsub hj h hd hgo
  case invokespecial idx =>
    have e9 : n = 3 := Nat.eq_of_beq_eq_true hz
    subst e9
    exact am_kSp hG hF htab htck hfr hlr hsub hj h hd hgo
  case return_ =>
    have e9 : n = 1 := Nat.eq_of_beq_eq_true hz
    subst e9
    show am_Snd p l e R s m args below meth c Q Y ad0 M.2.2.1 c0 q0 M.2.1 M.2.2.2.1 ((match M.2.2.2.1 with | none => am_oRet0 pc | some _ => am_oBad) A sub go jmp) pc
    cases hr : M.2.2.2.1 with
    | none => exact am_sRet0 (A := A) (sub := sub) (go := go) (jmp := jmp) rfl hd
    | some t => exact am_sBad (A := A) (sub := sub) (go := go) (jmp := jmp)
  case ireturn =>
    have e9 : n = 1 := Nat.eq_of_beq_eq_true hz
    subst e9
    show am_Snd p l e R s m args below meth c Q Y ad0 M.2.2.1 c0 q0 M.2.1 M.2.2.2.1 ((match M.2.2.2.1 with | some rt => am_oRet pc am_tI rt | none => am_oBad) A sub go jmp) pc
    cases hr : M.2.2.2.1 with
    | some t => exact am_sRet (A := A) (sub := sub) (go := go) (jmp := jmp) rfl fun v hv => Or.inl ⟨hv, hd⟩
    | none => exact am_sBad (A := A) (sub := sub) (go := go) (jmp := jmp)
  case lreturn =>
    have e9 : n = 1 := Nat.eq_of_beq_eq_true hz
    subst e9
    show am_Snd p l e R s m args below meth c Q Y ad0 M.2.2.1 c0 q0 M.2.1 M.2.2.2.1 ((match M.2.2.2.1 with | some rt => am_oRet pc am_tL rt | none => am_oBad) A sub go jmp) pc
    cases hr : M.2.2.2.1 with
    | some t => exact am_sRet (A := A) (sub := sub) (go := go) (jmp := jmp) rfl fun v hv => Or.inr (Or.inl ⟨hv, hd⟩)
    | none => exact am_sBad (A := A) (sub := sub) (go := go) (jmp := jmp)
  case freturn =>
    have e9 : n = 1 := Nat.eq_of_beq_eq_true hz
    subst e9
    show am_Snd p l e R s m args below meth c Q Y ad0 M.2.2.1 c0 q0 M.2.1 M.2.2.2.1 ((match M.2.2.2.1 with | some rt => am_oRet pc am_tF rt | none => am_oBad) A sub go jmp) pc
    cases hr : M.2.2.2.1 with
    | some t => exact am_sRet (A := A) (sub := sub) (go := go) (jmp := jmp) rfl fun v hv => Or.inr (Or.inr (Or.inl ⟨hv, hd⟩))
    | none => exact am_sBad (A := A) (sub := sub) (go := go) (jmp := jmp)
  case dreturn =>
    have e9 : n = 1 := Nat.eq_of_beq_eq_true hz
    subst e9
    show am_Snd p l e R s m args below meth c Q Y ad0 M.2.2.1 c0 q0 M.2.1 M.2.2.2.1 ((match M.2.2.2.1 with | some rt => am_oRet pc am_tD rt | none => am_oBad) A sub go jmp) pc
    cases hr : M.2.2.2.1 with
    | some t => exact am_sRet (A := A) (sub := sub) (go := go) (jmp := jmp) rfl fun v hv => Or.inr (Or.inr (Or.inr (Or.inl ⟨hv, hd⟩)))
    | none => exact am_sBad (A := A) (sub := sub) (go := go) (jmp := jmp)
  case areturn =>
    have e9 : n = 1 := Nat.eq_of_beq_eq_true hz
    subst e9
    show am_Snd p l e R s m args below meth c Q Y ad0 M.2.2.1 c0 q0 M.2.1 M.2.2.2.1 ((match M.2.2.2.1 with | some rt => am_oRet pc am_tR rt | none => am_oBad) A sub go jmp) pc
    cases hr : M.2.2.2.1 with
    | some t => exact am_sRet (A := A) (sub := sub) (go := go) (jmp := jmp) rfl fun v hv => Or.inr (Or.inr (Or.inr (Or.inr ⟨hv, hd⟩)))
    | none => exact am_sBad (A := A) (sub := sub) (go := go) (jmp := jmp)
  all_goals exact am_kBad A sub go jmp
end AMOK
end
section
/-! ===== a method that passes its check: its runs are sound ===== -/
theorem am_dr_eq {α : Type} (l : List α) : ∀ k, am_dr l k = l.drop k := by
  induction l with
  | nil => intro k; cases k <;> rfl
  | cons a t ih =>
    intro k
    cases k with
    | zero => rfl
    | succ k => exact ih k
def am_seq : List am_I → Bool
  | [] => true
  | [_] => true
  | x :: y :: r => Nat.beq y.1 (x.1 + x.2.2.1) && am_seq (y :: r)
theorem am_seq_ok : ∀ {l : List am_I} {k : Nat} {x y : am_I}, am_seq l = true → l[k]? = some x → l[k + 1]? = some y → y.1 = x.1 + x.2.2.1
  | [], _, _, _, _, h, _ => by cases h
  | [a], 0, _, _, _, _, h => by cases h
  | [a], k + 1, _, _, _, h, _ => by cases h
  | a :: b :: r, 0, x, y, h, h1, h2 => by
    cases h1
    cases h2
    unfold am_seq at h
    rw [Bool.and_eq_true] at h
    exact Nat.eq_of_beq_eq_true h.1
  | a :: b :: r, k + 1, x, y, h, h1, h2 => by
    unfold am_seq at h
    rw [Bool.and_eq_true] at h
    exact am_seq_ok (l := b :: r) (k := k) h.2 h1 h2
theorem am_ix_ok : ∀ {l : List am_I} {t : Nat} {x : am_I}, l[am_ix t l]? = some x → x.1 = t
  | [], _, _, h => by cases h
  | a :: r, t, x, h => by
    unfold am_ix at h
    cases hq : Nat.beq a.1 t with
    | true =>
      rw [hq] at h
      cases h
      exact Nat.eq_of_beq_eq_true hq
    | false =>
      rw [hq] at h
      exact am_ix_ok (l := r) h
/-- a method's check -/
def am_mck (b9 : Bool) (M : am_M) : Bool := M.2.2.2.2.2.all (am_ck b9 M) && am_seq M.2.2.2.2.2 && am_tck M && (match M.2.2.2.2.2 with
  | x :: _ => Nat.beq x.1 0
  | [] => true)
section AMRUN
variable {p : Program} {l : Launch} {e : Env} {R : Room} {s : State} {m : MethodId} {args : Array Value} {below : List Frame} {meth : Method} {c : Code} {Q : State → Prop} {Y : am_Y} {A : am_A} {ad0 : List Nat} {nL c0 q0 : Nat} {code : ByteArray} {rt : Option FieldType}
variable {sub : Nat → am_G} {M : am_M}
theorem am_runOK (hG : am_Gl l Y) (hF : am_Fm p s m args meth c Y M.1.cls M.2.1 M.2.2.1 M.2.2.2.1) (hA : am_kn A Y.2.2.1) (htab : c.exceptionTable.toList = tableOf M.2.2.2.2.1) (hnm : meth.name = M.1.name) {d : Nat} (hfr : d + 21 ≤ R.frames) (hlr : 100 * d + 500 ≤ R.locals) (hsub : am_SubOK l Y d sub) {b9 : Bool} (hbod : b9 = true → am_BodOK l Y d am_m18) (hck : am_mck b9 M = true) : ∀ (n k pc : Nat), (∀ x, M.2.2.2.2.2[k]? = some x → x.1 = pc) → am_Snd p l e R s m args below meth c Q Y ad0 M.2.2.1 c0 q0 M.2.1 M.2.2.2.1 (am_runP A sub (am_comp am_db am_hc am_bl M) n (am_dr (am_comp am_db am_hc am_bl M) k)) pc := by
  simp only [am_mck, Bool.and_eq_true] at hck
  obtain ⟨⟨⟨hall, hseq⟩, htck⟩, -⟩ := hck
  have hat : ∀ k : Nat, am_dr (am_comp am_db am_hc am_bl M) k = (M.2.2.2.2.2.drop k).map (fun q => (q.1, am_op am_db am_hc am_bl M q.1 q.2.1 q.2.2.2)) := fun k => by
    rw [am_dr_eq]
    unfold am_comp
    rw [List.map_drop]
  intro n
  induction n with
  | zero =>
    intro k pc hpc lo stk h nc ns o ho
    rw [hat k] at ho
    cases hk : M.2.2.2.2.2.drop k with
    | nil =>
      rw [hk] at ho
      cases ho
    | cons x tl =>
      rw [hk] at ho
      cases ho
      have hx0 : M.2.2.2.2.2[k]? = some x := by
        have h1 := congrArg (fun l => l[0]?) hk
        rw [List.getElem?_drop] at h1
        exact h1
      have e := hpc x hx0
      refine ⟨Nat.le_refl _, Nat.le_refl _, ⟨fun q => (by cases q), fun q => (by cases q), fun q => (by cases q)⟩, fun ad H locs ls S hp hlo hs r1 r2 hkt => ?_⟩
      rw [← e]
      exact (hkt ad H locs ls S (am_le_rf ad) hp hlo hs).1 (show _ ≠ 2 from fun q => by cases q)
  | succ n ih =>
    intro k pc hpc
    rw [hat k]
    cases hk : M.2.2.2.2.2.drop k with
    | nil => exact fun lo stk h nc ns o ho => by cases ho
    | cons x tl =>
      have hx0 : M.2.2.2.2.2[k]? = some x := by
        have h1 := congrArg (fun l => l[0]?) hk
        rw [List.getElem?_drop] at h1
        exact h1
      have e := hpc x hx0
      subst e
      have htl : tl = M.2.2.2.2.2.drop (k + 1) := by
        rw [← List.drop_drop, hk]
        rfl
      have hc := List.all_eq_true.mp hall x (List.mem_of_getElem? hx0)
      simp only [am_ck, Bool.and_eq_true, decide_eq_true_eq] at hc
      show am_Snd p l e R s m args below meth c Q Y ad0 M.2.2.1 c0 q0 M.2.1 M.2.2.2.1 (am_op am_db am_hc am_bl M x.1 x.2.1 x.2.2.2 A sub (am_runP A sub (am_comp am_db am_hc am_bl M) n (tl.map (fun q => (q.1, am_op am_db am_hc am_bl M q.1 q.2.1 q.2.2.2)))) (fun t => am_runP A sub (am_comp am_db am_hc am_bl M) n (am_dr (am_comp am_db am_hc am_bl M) t))) x.1
      refine am_opOK hG hF hA htab htck hnm hfr hlr hsub hbod (fun t => ?_) hc.1.1 hc.1.2 hc.2 ?_
      · exact ih _ t fun y hy => am_ix_ok hy
      · rw [htl, ← hat]
        exact ih (k + 1) _ fun y hy => am_seq_ok hseq hx0 hy
end AMRUN
end
section
/-! ===== every method that the runs reach passes its check (laid by wip/p46/gen30.py) ===== -/
theorem am_mk0_0 : am_i0_0.all (am_ck true am_m0) = true := by decide +kernel
theorem am_mk0_1 : am_i0_1.all (am_ck true am_m0) = true := by decide +kernel
theorem am_mk0 : am_mck true am_m0 = true := by
  have h : am_m0.2.2.2.2.2.all (am_ck true am_m0) = true := by
    show (am_i0_0 ++ (am_i0_1)).all _ = true
    simp only [List.all_append, am_mk0_0, am_mk0_1, Bool.and_self]
  have h2 : (am_seq am_m0.2.2.2.2.2 && am_tck am_m0 && (match am_m0.2.2.2.2.2 with | x :: _ => Nat.beq x.1 0 | [] => true)) = true := by decide +kernel
  unfold am_mck
  rw [h, Bool.true_and]
  exact h2
theorem am_mk1_0 : am_i1_0.all (am_ck true am_m1) = true := by decide +kernel
theorem am_mk1 : am_mck true am_m1 = true := by
  have h : am_m1.2.2.2.2.2.all (am_ck true am_m1) = true := by
    show (am_i1_0).all _ = true
    simp only [List.all_append, am_mk1_0, Bool.and_self]
  have h2 : (am_seq am_m1.2.2.2.2.2 && am_tck am_m1 && (match am_m1.2.2.2.2.2 with | x :: _ => Nat.beq x.1 0 | [] => true)) = true := by decide +kernel
  unfold am_mck
  rw [h, Bool.true_and]
  exact h2
theorem am_mk2_0 : am_i2_0.all (am_ck true am_m2) = true := by decide +kernel
theorem am_mk2 : am_mck true am_m2 = true := by
  have h : am_m2.2.2.2.2.2.all (am_ck true am_m2) = true := by
    show (am_i2_0).all _ = true
    simp only [List.all_append, am_mk2_0, Bool.and_self]
  have h2 : (am_seq am_m2.2.2.2.2.2 && am_tck am_m2 && (match am_m2.2.2.2.2.2 with | x :: _ => Nat.beq x.1 0 | [] => true)) = true := by decide +kernel
  unfold am_mck
  rw [h, Bool.true_and]
  exact h2
theorem am_mk3_0 : am_i3_0.all (am_ck true am_m3) = true := by decide +kernel
theorem am_mk3 : am_mck true am_m3 = true := by
  have h : am_m3.2.2.2.2.2.all (am_ck true am_m3) = true := by
    show (am_i3_0).all _ = true
    simp only [List.all_append, am_mk3_0, Bool.and_self]
  have h2 : (am_seq am_m3.2.2.2.2.2 && am_tck am_m3 && (match am_m3.2.2.2.2.2 with | x :: _ => Nat.beq x.1 0 | [] => true)) = true := by decide +kernel
  unfold am_mck
  rw [h, Bool.true_and]
  exact h2
theorem am_mk4_0 : am_i4_0.all (am_ck true am_m4) = true := by decide +kernel
theorem am_mk4 : am_mck true am_m4 = true := by
  have h : am_m4.2.2.2.2.2.all (am_ck true am_m4) = true := by
    show (am_i4_0).all _ = true
    simp only [List.all_append, am_mk4_0, Bool.and_self]
  have h2 : (am_seq am_m4.2.2.2.2.2 && am_tck am_m4 && (match am_m4.2.2.2.2.2 with | x :: _ => Nat.beq x.1 0 | [] => true)) = true := by decide +kernel
  unfold am_mck
  rw [h, Bool.true_and]
  exact h2
theorem am_mk5_0 : am_i5_0.all (am_ck true am_m5) = true := by decide +kernel
theorem am_mk5 : am_mck true am_m5 = true := by
  have h : am_m5.2.2.2.2.2.all (am_ck true am_m5) = true := by
    show (am_i5_0).all _ = true
    simp only [List.all_append, am_mk5_0, Bool.and_self]
  have h2 : (am_seq am_m5.2.2.2.2.2 && am_tck am_m5 && (match am_m5.2.2.2.2.2 with | x :: _ => Nat.beq x.1 0 | [] => true)) = true := by decide +kernel
  unfold am_mck
  rw [h, Bool.true_and]
  exact h2
theorem am_mk6_0 : am_i6_0.all (am_ck true am_m6) = true := by decide +kernel
theorem am_mk6 : am_mck true am_m6 = true := by
  have h : am_m6.2.2.2.2.2.all (am_ck true am_m6) = true := by
    show (am_i6_0).all _ = true
    simp only [List.all_append, am_mk6_0, Bool.and_self]
  have h2 : (am_seq am_m6.2.2.2.2.2 && am_tck am_m6 && (match am_m6.2.2.2.2.2 with | x :: _ => Nat.beq x.1 0 | [] => true)) = true := by decide +kernel
  unfold am_mck
  rw [h, Bool.true_and]
  exact h2
theorem am_mk7_0 : am_i7_0.all (am_ck true am_m7) = true := by decide +kernel
theorem am_mk7 : am_mck true am_m7 = true := by
  have h : am_m7.2.2.2.2.2.all (am_ck true am_m7) = true := by
    show (am_i7_0).all _ = true
    simp only [List.all_append, am_mk7_0, Bool.and_self]
  have h2 : (am_seq am_m7.2.2.2.2.2 && am_tck am_m7 && (match am_m7.2.2.2.2.2 with | x :: _ => Nat.beq x.1 0 | [] => true)) = true := by decide +kernel
  unfold am_mck
  rw [h, Bool.true_and]
  exact h2
theorem am_mk8_0 : am_i8_0.all (am_ck true am_m8) = true := by decide +kernel
theorem am_mk8 : am_mck true am_m8 = true := by
  have h : am_m8.2.2.2.2.2.all (am_ck true am_m8) = true := by
    show (am_i8_0).all _ = true
    simp only [List.all_append, am_mk8_0, Bool.and_self]
  have h2 : (am_seq am_m8.2.2.2.2.2 && am_tck am_m8 && (match am_m8.2.2.2.2.2 with | x :: _ => Nat.beq x.1 0 | [] => true)) = true := by decide +kernel
  unfold am_mck
  rw [h, Bool.true_and]
  exact h2
theorem am_mk9_0 : am_i9_0.all (am_ck true am_m9) = true := by decide +kernel
theorem am_mk9 : am_mck true am_m9 = true := by
  have h : am_m9.2.2.2.2.2.all (am_ck true am_m9) = true := by
    show (am_i9_0).all _ = true
    simp only [List.all_append, am_mk9_0, Bool.and_self]
  have h2 : (am_seq am_m9.2.2.2.2.2 && am_tck am_m9 && (match am_m9.2.2.2.2.2 with | x :: _ => Nat.beq x.1 0 | [] => true)) = true := by decide +kernel
  unfold am_mck
  rw [h, Bool.true_and]
  exact h2
theorem am_mk10_0 : am_i10_0.all (am_ck true am_m10) = true := by decide +kernel
theorem am_mk10 : am_mck true am_m10 = true := by
  have h : am_m10.2.2.2.2.2.all (am_ck true am_m10) = true := by
    show (am_i10_0).all _ = true
    simp only [List.all_append, am_mk10_0, Bool.and_self]
  have h2 : (am_seq am_m10.2.2.2.2.2 && am_tck am_m10 && (match am_m10.2.2.2.2.2 with | x :: _ => Nat.beq x.1 0 | [] => true)) = true := by decide +kernel
  unfold am_mck
  rw [h, Bool.true_and]
  exact h2
theorem am_mk11_0 : am_i11_0.all (am_ck true am_m11) = true := by decide +kernel
theorem am_mk11 : am_mck true am_m11 = true := by
  have h : am_m11.2.2.2.2.2.all (am_ck true am_m11) = true := by
    show (am_i11_0).all _ = true
    simp only [List.all_append, am_mk11_0, Bool.and_self]
  have h2 : (am_seq am_m11.2.2.2.2.2 && am_tck am_m11 && (match am_m11.2.2.2.2.2 with | x :: _ => Nat.beq x.1 0 | [] => true)) = true := by decide +kernel
  unfold am_mck
  rw [h, Bool.true_and]
  exact h2
theorem am_mk12_0 : am_i12_0.all (am_ck true am_m12) = true := by decide +kernel
theorem am_mk12 : am_mck true am_m12 = true := by
  have h : am_m12.2.2.2.2.2.all (am_ck true am_m12) = true := by
    show (am_i12_0).all _ = true
    simp only [List.all_append, am_mk12_0, Bool.and_self]
  have h2 : (am_seq am_m12.2.2.2.2.2 && am_tck am_m12 && (match am_m12.2.2.2.2.2 with | x :: _ => Nat.beq x.1 0 | [] => true)) = true := by decide +kernel
  unfold am_mck
  rw [h, Bool.true_and]
  exact h2
theorem am_mk13_0 : am_i13_0.all (am_ck true am_m13) = true := by decide +kernel
theorem am_mk13 : am_mck true am_m13 = true := by
  have h : am_m13.2.2.2.2.2.all (am_ck true am_m13) = true := by
    show (am_i13_0).all _ = true
    simp only [List.all_append, am_mk13_0, Bool.and_self]
  have h2 : (am_seq am_m13.2.2.2.2.2 && am_tck am_m13 && (match am_m13.2.2.2.2.2 with | x :: _ => Nat.beq x.1 0 | [] => true)) = true := by decide +kernel
  unfold am_mck
  rw [h, Bool.true_and]
  exact h2
theorem am_mk14_0 : am_i14_0.all (am_ck true am_m14) = true := by decide +kernel
theorem am_mk14 : am_mck true am_m14 = true := by
  have h : am_m14.2.2.2.2.2.all (am_ck true am_m14) = true := by
    show (am_i14_0).all _ = true
    simp only [List.all_append, am_mk14_0, Bool.and_self]
  have h2 : (am_seq am_m14.2.2.2.2.2 && am_tck am_m14 && (match am_m14.2.2.2.2.2 with | x :: _ => Nat.beq x.1 0 | [] => true)) = true := by decide +kernel
  unfold am_mck
  rw [h, Bool.true_and]
  exact h2
theorem am_mk15_0 : am_i15_0.all (am_ck true am_m15) = true := by decide +kernel
theorem am_mk15 : am_mck true am_m15 = true := by
  have h : am_m15.2.2.2.2.2.all (am_ck true am_m15) = true := by
    show (am_i15_0).all _ = true
    simp only [List.all_append, am_mk15_0, Bool.and_self]
  have h2 : (am_seq am_m15.2.2.2.2.2 && am_tck am_m15 && (match am_m15.2.2.2.2.2 with | x :: _ => Nat.beq x.1 0 | [] => true)) = true := by decide +kernel
  unfold am_mck
  rw [h, Bool.true_and]
  exact h2
theorem am_mk16_0 : am_i16_0.all (am_ck true am_m16) = true := by decide +kernel
theorem am_mk16 : am_mck true am_m16 = true := by
  have h : am_m16.2.2.2.2.2.all (am_ck true am_m16) = true := by
    show (am_i16_0).all _ = true
    simp only [List.all_append, am_mk16_0, Bool.and_self]
  have h2 : (am_seq am_m16.2.2.2.2.2 && am_tck am_m16 && (match am_m16.2.2.2.2.2 with | x :: _ => Nat.beq x.1 0 | [] => true)) = true := by decide +kernel
  unfold am_mck
  rw [h, Bool.true_and]
  exact h2
theorem am_mk17_0 : am_i17_0.all (am_ck true am_m17) = true := by decide +kernel
theorem am_mk17 : am_mck true am_m17 = true := by
  have h : am_m17.2.2.2.2.2.all (am_ck true am_m17) = true := by
    show (am_i17_0).all _ = true
    simp only [List.all_append, am_mk17_0, Bool.and_self]
  have h2 : (am_seq am_m17.2.2.2.2.2 && am_tck am_m17 && (match am_m17.2.2.2.2.2 with | x :: _ => Nat.beq x.1 0 | [] => true)) = true := by decide +kernel
  unfold am_mck
  rw [h, Bool.true_and]
  exact h2
theorem am_mk18_0 : am_i18_0.all (am_ck false am_m18) = true := by decide +kernel
theorem am_mk18 : am_mck false am_m18 = true := by
  have h : am_m18.2.2.2.2.2.all (am_ck false am_m18) = true := by
    show (am_i18_0).all _ = true
    simp only [List.all_append, am_mk18_0, Bool.and_self]
  have h2 : (am_seq am_m18.2.2.2.2.2 && am_tck am_m18 && (match am_m18.2.2.2.2.2 with | x :: _ => Nat.beq x.1 0 | [] => true)) = true := by decide +kernel
  unfold am_mck
  rw [h, Bool.true_and]
  exact h2
theorem am_mk19_0 : am_i19_0.all (am_ck true am_m19) = true := by decide +kernel
theorem am_mk19_1 : am_i19_1.all (am_ck true am_m19) = true := by decide +kernel
theorem am_mk19 : am_mck true am_m19 = true := by
  have h : am_m19.2.2.2.2.2.all (am_ck true am_m19) = true := by
    show (am_i19_0 ++ (am_i19_1)).all _ = true
    simp only [List.all_append, am_mk19_0, am_mk19_1, Bool.and_self]
  have h2 : (am_seq am_m19.2.2.2.2.2 && am_tck am_m19 && (match am_m19.2.2.2.2.2 with | x :: _ => Nat.beq x.1 0 | [] => true)) = true := by decide +kernel
  unfold am_mck
  rw [h, Bool.true_and]
  exact h2
theorem am_mk20_0 : am_i20_0.all (am_ck true am_m20) = true := by decide +kernel
theorem am_mk20 : am_mck true am_m20 = true := by
  have h : am_m20.2.2.2.2.2.all (am_ck true am_m20) = true := by
    show (am_i20_0).all _ = true
    simp only [List.all_append, am_mk20_0, Bool.and_self]
  have h2 : (am_seq am_m20.2.2.2.2.2 && am_tck am_m20 && (match am_m20.2.2.2.2.2 with | x :: _ => Nat.beq x.1 0 | [] => true)) = true := by decide +kernel
  unfold am_mck
  rw [h, Bool.true_and]
  exact h2
theorem am_mk21_0 : am_i21_0.all (am_ck true am_m21) = true := by decide +kernel
theorem am_mk21 : am_mck true am_m21 = true := by
  have h : am_m21.2.2.2.2.2.all (am_ck true am_m21) = true := by
    show (am_i21_0).all _ = true
    simp only [List.all_append, am_mk21_0, Bool.and_self]
  have h2 : (am_seq am_m21.2.2.2.2.2 && am_tck am_m21 && (match am_m21.2.2.2.2.2 with | x :: _ => Nat.beq x.1 0 | [] => true)) = true := by decide +kernel
  unfold am_mck
  rw [h, Bool.true_and]
  exact h2
theorem am_mk22_0 : am_i22_0.all (am_ck true am_m22) = true := by decide +kernel
theorem am_mk22 : am_mck true am_m22 = true := by
  have h : am_m22.2.2.2.2.2.all (am_ck true am_m22) = true := by
    show (am_i22_0).all _ = true
    simp only [List.all_append, am_mk22_0, Bool.and_self]
  have h2 : (am_seq am_m22.2.2.2.2.2 && am_tck am_m22 && (match am_m22.2.2.2.2.2 with | x :: _ => Nat.beq x.1 0 | [] => true)) = true := by decide +kernel
  unfold am_mck
  rw [h, Bool.true_and]
  exact h2
theorem am_mk23_0 : am_i23_0.all (am_ck true am_m23) = true := by decide +kernel
theorem am_mk23 : am_mck true am_m23 = true := by
  have h : am_m23.2.2.2.2.2.all (am_ck true am_m23) = true := by
    show (am_i23_0).all _ = true
    simp only [List.all_append, am_mk23_0, Bool.and_self]
  have h2 : (am_seq am_m23.2.2.2.2.2 && am_tck am_m23 && (match am_m23.2.2.2.2.2 with | x :: _ => Nat.beq x.1 0 | [] => true)) = true := by decide +kernel
  unfold am_mck
  rw [h, Bool.true_and]
  exact h2
theorem am_mk24_0 : am_i24_0.all (am_ck true am_m24) = true := by decide +kernel
theorem am_mk24 : am_mck true am_m24 = true := by
  have h : am_m24.2.2.2.2.2.all (am_ck true am_m24) = true := by
    show (am_i24_0).all _ = true
    simp only [List.all_append, am_mk24_0, Bool.and_self]
  have h2 : (am_seq am_m24.2.2.2.2.2 && am_tck am_m24 && (match am_m24.2.2.2.2.2 with | x :: _ => Nat.beq x.1 0 | [] => true)) = true := by decide +kernel
  unfold am_mck
  rw [h, Bool.true_and]
  exact h2
theorem am_mk25_0 : am_i25_0.all (am_ck true am_m25) = true := by decide +kernel
theorem am_mk25 : am_mck true am_m25 = true := by
  have h : am_m25.2.2.2.2.2.all (am_ck true am_m25) = true := by
    show (am_i25_0).all _ = true
    simp only [List.all_append, am_mk25_0, Bool.and_self]
  have h2 : (am_seq am_m25.2.2.2.2.2 && am_tck am_m25 && (match am_m25.2.2.2.2.2 with | x :: _ => Nat.beq x.1 0 | [] => true)) = true := by decide +kernel
  unfold am_mck
  rw [h, Bool.true_and]
  exact h2
theorem am_mk26_0 : am_i26_0.all (am_ck true am_m26) = true := by decide +kernel
theorem am_mk26_1 : am_i26_1.all (am_ck true am_m26) = true := by decide +kernel
theorem am_mk26_2 : am_i26_2.all (am_ck true am_m26) = true := by decide +kernel
theorem am_mk26_3 : am_i26_3.all (am_ck true am_m26) = true := by decide +kernel
theorem am_mk26 : am_mck true am_m26 = true := by
  have h : am_m26.2.2.2.2.2.all (am_ck true am_m26) = true := by
    show (am_i26_0 ++ (am_i26_1 ++ (am_i26_2 ++ (am_i26_3)))).all _ = true
    simp only [List.all_append, am_mk26_0, am_mk26_1, am_mk26_2, am_mk26_3, Bool.and_self]
  have h2 : (am_seq am_m26.2.2.2.2.2 && am_tck am_m26 && (match am_m26.2.2.2.2.2 with | x :: _ => Nat.beq x.1 0 | [] => true)) = true := by decide +kernel
  unfold am_mck
  rw [h, Bool.true_and]
  exact h2
theorem am_mk27_0 : am_i27_0.all (am_ck true am_m27) = true := by decide +kernel
theorem am_mk27 : am_mck true am_m27 = true := by
  have h : am_m27.2.2.2.2.2.all (am_ck true am_m27) = true := by
    show (am_i27_0).all _ = true
    simp only [List.all_append, am_mk27_0, Bool.and_self]
  have h2 : (am_seq am_m27.2.2.2.2.2 && am_tck am_m27 && (match am_m27.2.2.2.2.2 with | x :: _ => Nat.beq x.1 0 | [] => true)) = true := by decide +kernel
  unfold am_mck
  rw [h, Bool.true_and]
  exact h2
theorem am_mk28_0 : am_i28_0.all (am_ck true am_m28) = true := by decide +kernel
theorem am_mk28 : am_mck true am_m28 = true := by
  have h : am_m28.2.2.2.2.2.all (am_ck true am_m28) = true := by
    show (am_i28_0).all _ = true
    simp only [List.all_append, am_mk28_0, Bool.and_self]
  have h2 : (am_seq am_m28.2.2.2.2.2 && am_tck am_m28 && (match am_m28.2.2.2.2.2 with | x :: _ => Nat.beq x.1 0 | [] => true)) = true := by decide +kernel
  unfold am_mck
  rw [h, Bool.true_and]
  exact h2
theorem am_mk29_0 : am_i29_0.all (am_ck true am_m29) = true := by decide +kernel
theorem am_mk29 : am_mck true am_m29 = true := by
  have h : am_m29.2.2.2.2.2.all (am_ck true am_m29) = true := by
    show (am_i29_0).all _ = true
    simp only [List.all_append, am_mk29_0, Bool.and_self]
  have h2 : (am_seq am_m29.2.2.2.2.2 && am_tck am_m29 && (match am_m29.2.2.2.2.2 with | x :: _ => Nat.beq x.1 0 | [] => true)) = true := by decide +kernel
  unfold am_mck
  rw [h, Bool.true_and]
  exact h2
theorem am_mk30_0 : am_i30_0.all (am_ck true am_m30) = true := by decide +kernel
theorem am_mk30 : am_mck true am_m30 = true := by
  have h : am_m30.2.2.2.2.2.all (am_ck true am_m30) = true := by
    show (am_i30_0).all _ = true
    simp only [List.all_append, am_mk30_0, Bool.and_self]
  have h2 : (am_seq am_m30.2.2.2.2.2 && am_tck am_m30 && (match am_m30.2.2.2.2.2 with | x :: _ => Nat.beq x.1 0 | [] => true)) = true := by decide +kernel
  unfold am_mck
  rw [h, Bool.true_and]
  exact h2
theorem am_mk31_0 : am_i31_0.all (am_ck true am_m31) = true := by decide +kernel
theorem am_mk31 : am_mck true am_m31 = true := by
  have h : am_m31.2.2.2.2.2.all (am_ck true am_m31) = true := by
    show (am_i31_0).all _ = true
    simp only [List.all_append, am_mk31_0, Bool.and_self]
  have h2 : (am_seq am_m31.2.2.2.2.2 && am_tck am_m31 && (match am_m31.2.2.2.2.2 with | x :: _ => Nat.beq x.1 0 | [] => true)) = true := by decide +kernel
  unfold am_mck
  rw [h, Bool.true_and]
  exact h2
theorem am_mk32_0 : am_i32_0.all (am_ck true am_m32) = true := by decide +kernel
theorem am_mk32 : am_mck true am_m32 = true := by
  have h : am_m32.2.2.2.2.2.all (am_ck true am_m32) = true := by
    show (am_i32_0).all _ = true
    simp only [List.all_append, am_mk32_0, Bool.and_self]
  have h2 : (am_seq am_m32.2.2.2.2.2 && am_tck am_m32 && (match am_m32.2.2.2.2.2 with | x :: _ => Nat.beq x.1 0 | [] => true)) = true := by decide +kernel
  unfold am_mck
  rw [h, Bool.true_and]
  exact h2
theorem am_mk33_0 : am_i33_0.all (am_ck true am_m33) = true := by decide +kernel
theorem am_mk33 : am_mck true am_m33 = true := by
  have h : am_m33.2.2.2.2.2.all (am_ck true am_m33) = true := by
    show (am_i33_0).all _ = true
    simp only [List.all_append, am_mk33_0, Bool.and_self]
  have h2 : (am_seq am_m33.2.2.2.2.2 && am_tck am_m33 && (match am_m33.2.2.2.2.2 with | x :: _ => Nat.beq x.1 0 | [] => true)) = true := by decide +kernel
  unfold am_mck
  rw [h, Bool.true_and]
  exact h2
theorem am_mk34_0 : am_i34_0.all (am_ck true am_m34) = true := by decide +kernel
theorem am_mk34 : am_mck true am_m34 = true := by
  have h : am_m34.2.2.2.2.2.all (am_ck true am_m34) = true := by
    show (am_i34_0).all _ = true
    simp only [List.all_append, am_mk34_0, Bool.and_self]
  have h2 : (am_seq am_m34.2.2.2.2.2 && am_tck am_m34 && (match am_m34.2.2.2.2.2 with | x :: _ => Nat.beq x.1 0 | [] => true)) = true := by decide +kernel
  unfold am_mck
  rw [h, Bool.true_and]
  exact h2
theorem am_mk35_0 : am_i35_0.all (am_ck true am_m35) = true := by decide +kernel
theorem am_mk35 : am_mck true am_m35 = true := by
  have h : am_m35.2.2.2.2.2.all (am_ck true am_m35) = true := by
    show (am_i35_0).all _ = true
    simp only [List.all_append, am_mk35_0, Bool.and_self]
  have h2 : (am_seq am_m35.2.2.2.2.2 && am_tck am_m35 && (match am_m35.2.2.2.2.2 with | x :: _ => Nat.beq x.1 0 | [] => true)) = true := by decide +kernel
  unfold am_mck
  rw [h, Bool.true_and]
  exact h2
theorem am_mk36_0 : am_i36_0.all (am_ck true am_m36) = true := by decide +kernel
theorem am_mk36 : am_mck true am_m36 = true := by
  have h : am_m36.2.2.2.2.2.all (am_ck true am_m36) = true := by
    show (am_i36_0).all _ = true
    simp only [List.all_append, am_mk36_0, Bool.and_self]
  have h2 : (am_seq am_m36.2.2.2.2.2 && am_tck am_m36 && (match am_m36.2.2.2.2.2 with | x :: _ => Nat.beq x.1 0 | [] => true)) = true := by decide +kernel
  unfold am_mck
  rw [h, Bool.true_and]
  exact h2
theorem am_mk37_0 : am_i37_0.all (am_ck true am_m37) = true := by decide +kernel
theorem am_mk37 : am_mck true am_m37 = true := by
  have h : am_m37.2.2.2.2.2.all (am_ck true am_m37) = true := by
    show (am_i37_0).all _ = true
    simp only [List.all_append, am_mk37_0, Bool.and_self]
  have h2 : (am_seq am_m37.2.2.2.2.2 && am_tck am_m37 && (match am_m37.2.2.2.2.2 with | x :: _ => Nat.beq x.1 0 | [] => true)) = true := by decide +kernel
  unfold am_mck
  rw [h, Bool.true_and]
  exact h2
theorem am_mk38_0 : am_i38_0.all (am_ck true am_m38) = true := by decide +kernel
theorem am_mk38 : am_mck true am_m38 = true := by
  have h : am_m38.2.2.2.2.2.all (am_ck true am_m38) = true := by
    show (am_i38_0).all _ = true
    simp only [List.all_append, am_mk38_0, Bool.and_self]
  have h2 : (am_seq am_m38.2.2.2.2.2 && am_tck am_m38 && (match am_m38.2.2.2.2.2 with | x :: _ => Nat.beq x.1 0 | [] => true)) = true := by decide +kernel
  unfold am_mck
  rw [h, Bool.true_and]
  exact h2
theorem am_mk39_0 : am_i39_0.all (am_ck true am_m39) = true := by decide +kernel
theorem am_mk39 : am_mck true am_m39 = true := by
  have h : am_m39.2.2.2.2.2.all (am_ck true am_m39) = true := by
    show (am_i39_0).all _ = true
    simp only [List.all_append, am_mk39_0, Bool.and_self]
  have h2 : (am_seq am_m39.2.2.2.2.2 && am_tck am_m39 && (match am_m39.2.2.2.2.2 with | x :: _ => Nat.beq x.1 0 | [] => true)) = true := by decide +kernel
  unfold am_mck
  rw [h, Bool.true_and]
  exact h2
theorem am_mk40_0 : am_i40_0.all (am_ck true am_m40) = true := by decide +kernel
theorem am_mk40 : am_mck true am_m40 = true := by
  have h : am_m40.2.2.2.2.2.all (am_ck true am_m40) = true := by
    show (am_i40_0).all _ = true
    simp only [List.all_append, am_mk40_0, Bool.and_self]
  have h2 : (am_seq am_m40.2.2.2.2.2 && am_tck am_m40 && (match am_m40.2.2.2.2.2 with | x :: _ => Nat.beq x.1 0 | [] => true)) = true := by decide +kernel
  unfold am_mck
  rw [h, Bool.true_and]
  exact h2
theorem am_mk41_0 : am_i41_0.all (am_ck true am_m41) = true := by decide +kernel
theorem am_mk41 : am_mck true am_m41 = true := by
  have h : am_m41.2.2.2.2.2.all (am_ck true am_m41) = true := by
    show (am_i41_0).all _ = true
    simp only [List.all_append, am_mk41_0, Bool.and_self]
  have h2 : (am_seq am_m41.2.2.2.2.2 && am_tck am_m41 && (match am_m41.2.2.2.2.2 with | x :: _ => Nat.beq x.1 0 | [] => true)) = true := by decide +kernel
  unfold am_mck
  rw [h, Bool.true_and]
  exact h2
theorem am_mk42_0 : am_i42_0.all (am_ck true am_m42) = true := by decide +kernel
theorem am_mk42 : am_mck true am_m42 = true := by
  have h : am_m42.2.2.2.2.2.all (am_ck true am_m42) = true := by
    show (am_i42_0).all _ = true
    simp only [List.all_append, am_mk42_0, Bool.and_self]
  have h2 : (am_seq am_m42.2.2.2.2.2 && am_tck am_m42 && (match am_m42.2.2.2.2.2 with | x :: _ => Nat.beq x.1 0 | [] => true)) = true := by decide +kernel
  unfold am_mck
  rw [h, Bool.true_and]
  exact h2
theorem am_mk43_0 : am_i43_0.all (am_ck true am_m43) = true := by decide +kernel
theorem am_mk43 : am_mck true am_m43 = true := by
  have h : am_m43.2.2.2.2.2.all (am_ck true am_m43) = true := by
    show (am_i43_0).all _ = true
    simp only [List.all_append, am_mk43_0, Bool.and_self]
  have h2 : (am_seq am_m43.2.2.2.2.2 && am_tck am_m43 && (match am_m43.2.2.2.2.2 with | x :: _ => Nat.beq x.1 0 | [] => true)) = true := by decide +kernel
  unfold am_mck
  rw [h, Bool.true_and]
  exact h2
theorem am_mk44_0 : am_i44_0.all (am_ck true am_m44) = true := by decide +kernel
theorem am_mk44 : am_mck true am_m44 = true := by
  have h : am_m44.2.2.2.2.2.all (am_ck true am_m44) = true := by
    show (am_i44_0).all _ = true
    simp only [List.all_append, am_mk44_0, Bool.and_self]
  have h2 : (am_seq am_m44.2.2.2.2.2 && am_tck am_m44 && (match am_m44.2.2.2.2.2 with | x :: _ => Nat.beq x.1 0 | [] => true)) = true := by decide +kernel
  unfold am_mck
  rw [h, Bool.true_and]
  exact h2
theorem am_mk45_0 : am_i45_0.all (am_ck true am_m45) = true := by decide +kernel
theorem am_mk45 : am_mck true am_m45 = true := by
  have h : am_m45.2.2.2.2.2.all (am_ck true am_m45) = true := by
    show (am_i45_0).all _ = true
    simp only [List.all_append, am_mk45_0, Bool.and_self]
  have h2 : (am_seq am_m45.2.2.2.2.2 && am_tck am_m45 && (match am_m45.2.2.2.2.2 with | x :: _ => Nat.beq x.1 0 | [] => true)) = true := by decide +kernel
  unfold am_mck
  rw [h, Bool.true_and]
  exact h2
theorem am_mk46_0 : am_i46_0.all (am_ck true am_m46) = true := by decide +kernel
theorem am_mk46 : am_mck true am_m46 = true := by
  have h : am_m46.2.2.2.2.2.all (am_ck true am_m46) = true := by
    show (am_i46_0).all _ = true
    simp only [List.all_append, am_mk46_0, Bool.and_self]
  have h2 : (am_seq am_m46.2.2.2.2.2 && am_tck am_m46 && (match am_m46.2.2.2.2.2 with | x :: _ => Nat.beq x.1 0 | [] => true)) = true := by decide +kernel
  unfold am_mck
  rw [h, Bool.true_and]
  exact h2
theorem am_mk48_0 : am_i48_0.all (am_ck true am_m48) = true := by decide +kernel
theorem am_mk48 : am_mck true am_m48 = true := by
  have h : am_m48.2.2.2.2.2.all (am_ck true am_m48) = true := by
    show (am_i48_0).all _ = true
    simp only [List.all_append, am_mk48_0, Bool.and_self]
  have h2 : (am_seq am_m48.2.2.2.2.2 && am_tck am_m48 && (match am_m48.2.2.2.2.2 with | x :: _ => Nat.beq x.1 0 | [] => true)) = true := by decide +kernel
  unfold am_mck
  rw [h, Bool.true_and]
  exact h2
theorem am_mk49_0 : am_i49_0.all (am_ck true am_m49) = true := by decide +kernel
theorem am_mk49_1 : am_i49_1.all (am_ck true am_m49) = true := by decide +kernel
theorem am_mk49 : am_mck true am_m49 = true := by
  have h : am_m49.2.2.2.2.2.all (am_ck true am_m49) = true := by
    show (am_i49_0 ++ (am_i49_1)).all _ = true
    simp only [List.all_append, am_mk49_0, am_mk49_1, Bool.and_self]
  have h2 : (am_seq am_m49.2.2.2.2.2 && am_tck am_m49 && (match am_m49.2.2.2.2.2 with | x :: _ => Nat.beq x.1 0 | [] => true)) = true := by decide +kernel
  unfold am_mck
  rw [h, Bool.true_and]
  exact h2
theorem am_mk50_0 : am_i50_0.all (am_ck true am_m50) = true := by decide +kernel
theorem am_mk50 : am_mck true am_m50 = true := by
  have h : am_m50.2.2.2.2.2.all (am_ck true am_m50) = true := by
    show (am_i50_0).all _ = true
    simp only [List.all_append, am_mk50_0, Bool.and_self]
  have h2 : (am_seq am_m50.2.2.2.2.2 && am_tck am_m50 && (match am_m50.2.2.2.2.2 with | x :: _ => Nat.beq x.1 0 | [] => true)) = true := by decide +kernel
  unfold am_mck
  rw [h, Bool.true_and]
  exact h2
theorem am_mk51_0 : am_i51_0.all (am_ck true am_m51) = true := by decide +kernel
theorem am_mk51 : am_mck true am_m51 = true := by
  have h : am_m51.2.2.2.2.2.all (am_ck true am_m51) = true := by
    show (am_i51_0).all _ = true
    simp only [List.all_append, am_mk51_0, Bool.and_self]
  have h2 : (am_seq am_m51.2.2.2.2.2 && am_tck am_m51 && (match am_m51.2.2.2.2.2 with | x :: _ => Nat.beq x.1 0 | [] => true)) = true := by decide +kernel
  unfold am_mck
  rw [h, Bool.true_and]
  exact h2
theorem am_mk52_0 : am_i52_0.all (am_ck true am_m52) = true := by decide +kernel
theorem am_mk52 : am_mck true am_m52 = true := by
  have h : am_m52.2.2.2.2.2.all (am_ck true am_m52) = true := by
    show (am_i52_0).all _ = true
    simp only [List.all_append, am_mk52_0, Bool.and_self]
  have h2 : (am_seq am_m52.2.2.2.2.2 && am_tck am_m52 && (match am_m52.2.2.2.2.2 with | x :: _ => Nat.beq x.1 0 | [] => true)) = true := by decide +kernel
  unfold am_mck
  rw [h, Bool.true_and]
  exact h2
theorem am_mk53_0 : am_i53_0.all (am_ck true am_m53) = true := by decide +kernel
theorem am_mk53 : am_mck true am_m53 = true := by
  have h : am_m53.2.2.2.2.2.all (am_ck true am_m53) = true := by
    show (am_i53_0).all _ = true
    simp only [List.all_append, am_mk53_0, Bool.and_self]
  have h2 : (am_seq am_m53.2.2.2.2.2 && am_tck am_m53 && (match am_m53.2.2.2.2.2 with | x :: _ => Nat.beq x.1 0 | [] => true)) = true := by decide +kernel
  unfold am_mck
  rw [h, Bool.true_and]
  exact h2
theorem am_mk54_0 : am_i54_0.all (am_ck true am_m54) = true := by decide +kernel
theorem am_mk54 : am_mck true am_m54 = true := by
  have h : am_m54.2.2.2.2.2.all (am_ck true am_m54) = true := by
    show (am_i54_0).all _ = true
    simp only [List.all_append, am_mk54_0, Bool.and_self]
  have h2 : (am_seq am_m54.2.2.2.2.2 && am_tck am_m54 && (match am_m54.2.2.2.2.2 with | x :: _ => Nat.beq x.1 0 | [] => true)) = true := by decide +kernel
  unfold am_mck
  rw [h, Bool.true_and]
  exact h2
theorem am_mk55_0 : am_i55_0.all (am_ck true am_m55) = true := by decide +kernel
theorem am_mk55 : am_mck true am_m55 = true := by
  have h : am_m55.2.2.2.2.2.all (am_ck true am_m55) = true := by
    show (am_i55_0).all _ = true
    simp only [List.all_append, am_mk55_0, Bool.and_self]
  have h2 : (am_seq am_m55.2.2.2.2.2 && am_tck am_m55 && (match am_m55.2.2.2.2.2 with | x :: _ => Nat.beq x.1 0 | [] => true)) = true := by decide +kernel
  unfold am_mck
  rw [h, Bool.true_and]
  exact h2
theorem am_mk56_0 : am_i56_0.all (am_ck true am_m56) = true := by decide +kernel
theorem am_mk56 : am_mck true am_m56 = true := by
  have h : am_m56.2.2.2.2.2.all (am_ck true am_m56) = true := by
    show (am_i56_0).all _ = true
    simp only [List.all_append, am_mk56_0, Bool.and_self]
  have h2 : (am_seq am_m56.2.2.2.2.2 && am_tck am_m56 && (match am_m56.2.2.2.2.2 with | x :: _ => Nat.beq x.1 0 | [] => true)) = true := by decide +kernel
  unfold am_mck
  rw [h, Bool.true_and]
  exact h2
theorem am_mk57_0 : am_i57_0.all (am_ck true am_m57) = true := by decide +kernel
theorem am_mk57 : am_mck true am_m57 = true := by
  have h : am_m57.2.2.2.2.2.all (am_ck true am_m57) = true := by
    show (am_i57_0).all _ = true
    simp only [List.all_append, am_mk57_0, Bool.and_self]
  have h2 : (am_seq am_m57.2.2.2.2.2 && am_tck am_m57 && (match am_m57.2.2.2.2.2 with | x :: _ => Nat.beq x.1 0 | [] => true)) = true := by decide +kernel
  unfold am_mck
  rw [h, Bool.true_and]
  exact h2
theorem am_mk58_0 : am_i58_0.all (am_ck true am_m58) = true := by decide +kernel
theorem am_mk58_1 : am_i58_1.all (am_ck true am_m58) = true := by decide +kernel
theorem am_mk58 : am_mck true am_m58 = true := by
  have h : am_m58.2.2.2.2.2.all (am_ck true am_m58) = true := by
    show (am_i58_0 ++ (am_i58_1)).all _ = true
    simp only [List.all_append, am_mk58_0, am_mk58_1, Bool.and_self]
  have h2 : (am_seq am_m58.2.2.2.2.2 && am_tck am_m58 && (match am_m58.2.2.2.2.2 with | x :: _ => Nat.beq x.1 0 | [] => true)) = true := by decide +kernel
  unfold am_mck
  rw [h, Bool.true_and]
  exact h2
theorem am_mk59_0 : am_i59_0.all (am_ck true am_m59) = true := by decide +kernel
theorem am_mk59 : am_mck true am_m59 = true := by
  have h : am_m59.2.2.2.2.2.all (am_ck true am_m59) = true := by
    show (am_i59_0).all _ = true
    simp only [List.all_append, am_mk59_0, Bool.and_self]
  have h2 : (am_seq am_m59.2.2.2.2.2 && am_tck am_m59 && (match am_m59.2.2.2.2.2 with | x :: _ => Nat.beq x.1 0 | [] => true)) = true := by decide +kernel
  unfold am_mck
  rw [h, Bool.true_and]
  exact h2
theorem am_mk60_0 : am_i60_0.all (am_ck true am_m60) = true := by decide +kernel
theorem am_mk60 : am_mck true am_m60 = true := by
  have h : am_m60.2.2.2.2.2.all (am_ck true am_m60) = true := by
    show (am_i60_0).all _ = true
    simp only [List.all_append, am_mk60_0, Bool.and_self]
  have h2 : (am_seq am_m60.2.2.2.2.2 && am_tck am_m60 && (match am_m60.2.2.2.2.2 with | x :: _ => Nat.beq x.1 0 | [] => true)) = true := by decide +kernel
  unfold am_mck
  rw [h, Bool.true_and]
  exact h2
theorem am_mk61_0 : am_i61_0.all (am_ck true am_m61) = true := by decide +kernel
theorem am_mk61 : am_mck true am_m61 = true := by
  have h : am_m61.2.2.2.2.2.all (am_ck true am_m61) = true := by
    show (am_i61_0).all _ = true
    simp only [List.all_append, am_mk61_0, Bool.and_self]
  have h2 : (am_seq am_m61.2.2.2.2.2 && am_tck am_m61 && (match am_m61.2.2.2.2.2 with | x :: _ => Nat.beq x.1 0 | [] => true)) = true := by decide +kernel
  unfold am_mck
  rw [h, Bool.true_and]
  exact h2
theorem am_mk62_0 : am_i62_0.all (am_ck true am_m62) = true := by decide +kernel
theorem am_mk62_1 : am_i62_1.all (am_ck true am_m62) = true := by decide +kernel
theorem am_mk62 : am_mck true am_m62 = true := by
  have h : am_m62.2.2.2.2.2.all (am_ck true am_m62) = true := by
    show (am_i62_0 ++ (am_i62_1)).all _ = true
    simp only [List.all_append, am_mk62_0, am_mk62_1, Bool.and_self]
  have h2 : (am_seq am_m62.2.2.2.2.2 && am_tck am_m62 && (match am_m62.2.2.2.2.2 with | x :: _ => Nat.beq x.1 0 | [] => true)) = true := by decide +kernel
  unfold am_mck
  rw [h, Bool.true_and]
  exact h2
theorem am_mk63_0 : am_i63_0.all (am_ck true am_m63) = true := by decide +kernel
theorem am_mk63 : am_mck true am_m63 = true := by
  have h : am_m63.2.2.2.2.2.all (am_ck true am_m63) = true := by
    show (am_i63_0).all _ = true
    simp only [List.all_append, am_mk63_0, Bool.and_self]
  have h2 : (am_seq am_m63.2.2.2.2.2 && am_tck am_m63 && (match am_m63.2.2.2.2.2 with | x :: _ => Nat.beq x.1 0 | [] => true)) = true := by decide +kernel
  unfold am_mck
  rw [h, Bool.true_and]
  exact h2
theorem am_mk64_0 : am_i64_0.all (am_ck true am_m64) = true := by decide +kernel
theorem am_mk64 : am_mck true am_m64 = true := by
  have h : am_m64.2.2.2.2.2.all (am_ck true am_m64) = true := by
    show (am_i64_0).all _ = true
    simp only [List.all_append, am_mk64_0, Bool.and_self]
  have h2 : (am_seq am_m64.2.2.2.2.2 && am_tck am_m64 && (match am_m64.2.2.2.2.2 with | x :: _ => Nat.beq x.1 0 | [] => true)) = true := by decide +kernel
  unfold am_mck
  rw [h, Bool.true_and]
  exact h2
theorem am_mk65_0 : am_i65_0.all (am_ck true am_m65) = true := by decide +kernel
theorem am_mk65 : am_mck true am_m65 = true := by
  have h : am_m65.2.2.2.2.2.all (am_ck true am_m65) = true := by
    show (am_i65_0).all _ = true
    simp only [List.all_append, am_mk65_0, Bool.and_self]
  have h2 : (am_seq am_m65.2.2.2.2.2 && am_tck am_m65 && (match am_m65.2.2.2.2.2 with | x :: _ => Nat.beq x.1 0 | [] => true)) = true := by decide +kernel
  unfold am_mck
  rw [h, Bool.true_and]
  exact h2
theorem am_mk66_0 : am_i66_0.all (am_ck true am_m66) = true := by decide +kernel
theorem am_mk66 : am_mck true am_m66 = true := by
  have h : am_m66.2.2.2.2.2.all (am_ck true am_m66) = true := by
    show (am_i66_0).all _ = true
    simp only [List.all_append, am_mk66_0, Bool.and_self]
  have h2 : (am_seq am_m66.2.2.2.2.2 && am_tck am_m66 && (match am_m66.2.2.2.2.2 with | x :: _ => Nat.beq x.1 0 | [] => true)) = true := by decide +kernel
  unfold am_mck
  rw [h, Bool.true_and]
  exact h2
theorem am_mk70_0 : am_i70_0.all (am_ck true am_m70) = true := by decide +kernel
theorem am_mk70 : am_mck true am_m70 = true := by
  have h : am_m70.2.2.2.2.2.all (am_ck true am_m70) = true := by
    show (am_i70_0).all _ = true
    simp only [List.all_append, am_mk70_0, Bool.and_self]
  have h2 : (am_seq am_m70.2.2.2.2.2 && am_tck am_m70 && (match am_m70.2.2.2.2.2 with | x :: _ => Nat.beq x.1 0 | [] => true)) = true := by decide +kernel
  unfold am_mck
  rw [h, Bool.true_and]
  exact h2
theorem am_mk71_0 : am_i71_0.all (am_ck true am_m71) = true := by decide +kernel
theorem am_mk71 : am_mck true am_m71 = true := by
  have h : am_m71.2.2.2.2.2.all (am_ck true am_m71) = true := by
    show (am_i71_0).all _ = true
    simp only [List.all_append, am_mk71_0, Bool.and_self]
  have h2 : (am_seq am_m71.2.2.2.2.2 && am_tck am_m71 && (match am_m71.2.2.2.2.2 with | x :: _ => Nat.beq x.1 0 | [] => true)) = true := by decide +kernel
  unfold am_mck
  rw [h, Bool.true_and]
  exact h2
theorem am_mk72_0 : am_i72_0.all (am_ck true am_m72) = true := by decide +kernel
theorem am_mk72 : am_mck true am_m72 = true := by
  have h : am_m72.2.2.2.2.2.all (am_ck true am_m72) = true := by
    show (am_i72_0).all _ = true
    simp only [List.all_append, am_mk72_0, Bool.and_self]
  have h2 : (am_seq am_m72.2.2.2.2.2 && am_tck am_m72 && (match am_m72.2.2.2.2.2 with | x :: _ => Nat.beq x.1 0 | [] => true)) = true := by decide +kernel
  unfold am_mck
  rw [h, Bool.true_and]
  exact h2
theorem am_mk73_0 : am_i73_0.all (am_ck true am_m73) = true := by decide +kernel
theorem am_mk73 : am_mck true am_m73 = true := by
  have h : am_m73.2.2.2.2.2.all (am_ck true am_m73) = true := by
    show (am_i73_0).all _ = true
    simp only [List.all_append, am_mk73_0, Bool.and_self]
  have h2 : (am_seq am_m73.2.2.2.2.2 && am_tck am_m73 && (match am_m73.2.2.2.2.2 with | x :: _ => Nat.beq x.1 0 | [] => true)) = true := by decide +kernel
  unfold am_mck
  rw [h, Bool.true_and]
  exact h2
theorem am_mk74_0 : am_i74_0.all (am_ck true am_m74) = true := by decide +kernel
theorem am_mk74 : am_mck true am_m74 = true := by
  have h : am_m74.2.2.2.2.2.all (am_ck true am_m74) = true := by
    show (am_i74_0).all _ = true
    simp only [List.all_append, am_mk74_0, Bool.and_self]
  have h2 : (am_seq am_m74.2.2.2.2.2 && am_tck am_m74 && (match am_m74.2.2.2.2.2 with | x :: _ => Nat.beq x.1 0 | [] => true)) = true := by decide +kernel
  unfold am_mck
  rw [h, Bool.true_and]
  exact h2
theorem am_mk75_0 : am_i75_0.all (am_ck true am_m75) = true := by decide +kernel
theorem am_mk75 : am_mck true am_m75 = true := by
  have h : am_m75.2.2.2.2.2.all (am_ck true am_m75) = true := by
    show (am_i75_0).all _ = true
    simp only [List.all_append, am_mk75_0, Bool.and_self]
  have h2 : (am_seq am_m75.2.2.2.2.2 && am_tck am_m75 && (match am_m75.2.2.2.2.2 with | x :: _ => Nat.beq x.1 0 | [] => true)) = true := by decide +kernel
  unfold am_mck
  rw [h, Bool.true_and]
  exact h2
theorem am_mk76_0 : am_i76_0.all (am_ck true am_m76) = true := by decide +kernel
theorem am_mk76 : am_mck true am_m76 = true := by
  have h : am_m76.2.2.2.2.2.all (am_ck true am_m76) = true := by
    show (am_i76_0).all _ = true
    simp only [List.all_append, am_mk76_0, Bool.and_self]
  have h2 : (am_seq am_m76.2.2.2.2.2 && am_tck am_m76 && (match am_m76.2.2.2.2.2 with | x :: _ => Nat.beq x.1 0 | [] => true)) = true := by decide +kernel
  unfold am_mck
  rw [h, Bool.true_and]
  exact h2
theorem am_mk77_0 : am_i77_0.all (am_ck true am_m77) = true := by decide +kernel
theorem am_mk77 : am_mck true am_m77 = true := by
  have h : am_m77.2.2.2.2.2.all (am_ck true am_m77) = true := by
    show (am_i77_0).all _ = true
    simp only [List.all_append, am_mk77_0, Bool.and_self]
  have h2 : (am_seq am_m77.2.2.2.2.2 && am_tck am_m77 && (match am_m77.2.2.2.2.2 with | x :: _ => Nat.beq x.1 0 | [] => true)) = true := by decide +kernel
  unfold am_mck
  rw [h, Bool.true_and]
  exact h2
theorem am_mk79_0 : am_i79_0.all (am_ck true am_m79) = true := by decide +kernel
theorem am_mk79 : am_mck true am_m79 = true := by
  have h : am_m79.2.2.2.2.2.all (am_ck true am_m79) = true := by
    show (am_i79_0).all _ = true
    simp only [List.all_append, am_mk79_0, Bool.and_self]
  have h2 : (am_seq am_m79.2.2.2.2.2 && am_tck am_m79 && (match am_m79.2.2.2.2.2 with | x :: _ => Nat.beq x.1 0 | [] => true)) = true := by decide +kernel
  unfold am_mck
  rw [h, Bool.true_and]
  exact h2
theorem am_mk80_0 : am_i80_0.all (am_ck true am_m80) = true := by decide +kernel
theorem am_mk80 : am_mck true am_m80 = true := by
  have h : am_m80.2.2.2.2.2.all (am_ck true am_m80) = true := by
    show (am_i80_0).all _ = true
    simp only [List.all_append, am_mk80_0, Bool.and_self]
  have h2 : (am_seq am_m80.2.2.2.2.2 && am_tck am_m80 && (match am_m80.2.2.2.2.2 with | x :: _ => Nat.beq x.1 0 | [] => true)) = true := by decide +kernel
  unfold am_mck
  rw [h, Bool.true_and]
  exact h2
theorem am_mk83_0 : am_i83_0.all (am_ck true am_m83) = true := by decide +kernel
theorem am_mk83 : am_mck true am_m83 = true := by
  have h : am_m83.2.2.2.2.2.all (am_ck true am_m83) = true := by
    show (am_i83_0).all _ = true
    simp only [List.all_append, am_mk83_0, Bool.and_self]
  have h2 : (am_seq am_m83.2.2.2.2.2 && am_tck am_m83 && (match am_m83.2.2.2.2.2 with | x :: _ => Nat.beq x.1 0 | [] => true)) = true := by decide +kernel
  unfold am_mck
  rw [h, Bool.true_and]
  exact h2
theorem am_mk84_0 : am_i84_0.all (am_ck true am_m84) = true := by decide +kernel
theorem am_mk84 : am_mck true am_m84 = true := by
  have h : am_m84.2.2.2.2.2.all (am_ck true am_m84) = true := by
    show (am_i84_0).all _ = true
    simp only [List.all_append, am_mk84_0, Bool.and_self]
  have h2 : (am_seq am_m84.2.2.2.2.2 && am_tck am_m84 && (match am_m84.2.2.2.2.2 with | x :: _ => Nat.beq x.1 0 | [] => true)) = true := by decide +kernel
  unfold am_mck
  rw [h, Bool.true_and]
  exact h2
theorem am_mk85_0 : am_i85_0.all (am_ck true am_m85) = true := by decide +kernel
theorem am_mk85 : am_mck true am_m85 = true := by
  have h : am_m85.2.2.2.2.2.all (am_ck true am_m85) = true := by
    show (am_i85_0).all _ = true
    simp only [List.all_append, am_mk85_0, Bool.and_self]
  have h2 : (am_seq am_m85.2.2.2.2.2 && am_tck am_m85 && (match am_m85.2.2.2.2.2 with | x :: _ => Nat.beq x.1 0 | [] => true)) = true := by decide +kernel
  unfold am_mck
  rw [h, Bool.true_and]
  exact h2
theorem am_mk86_0 : am_i86_0.all (am_ck true am_m86) = true := by decide +kernel
theorem am_mk86 : am_mck true am_m86 = true := by
  have h : am_m86.2.2.2.2.2.all (am_ck true am_m86) = true := by
    show (am_i86_0).all _ = true
    simp only [List.all_append, am_mk86_0, Bool.and_self]
  have h2 : (am_seq am_m86.2.2.2.2.2 && am_tck am_m86 && (match am_m86.2.2.2.2.2 with | x :: _ => Nat.beq x.1 0 | [] => true)) = true := by decide +kernel
  unfold am_mck
  rw [h, Bool.true_and]
  exact h2
theorem am_mk87_0 : am_i87_0.all (am_ck true am_m87) = true := by decide +kernel
theorem am_mk87 : am_mck true am_m87 = true := by
  have h : am_m87.2.2.2.2.2.all (am_ck true am_m87) = true := by
    show (am_i87_0).all _ = true
    simp only [List.all_append, am_mk87_0, Bool.and_self]
  have h2 : (am_seq am_m87.2.2.2.2.2 && am_tck am_m87 && (match am_m87.2.2.2.2.2 with | x :: _ => Nat.beq x.1 0 | [] => true)) = true := by decide +kernel
  unfold am_mck
  rw [h, Bool.true_and]
  exact h2
theorem am_mk88_0 : am_i88_0.all (am_ck true am_m88) = true := by decide +kernel
theorem am_mk88 : am_mck true am_m88 = true := by
  have h : am_m88.2.2.2.2.2.all (am_ck true am_m88) = true := by
    show (am_i88_0).all _ = true
    simp only [List.all_append, am_mk88_0, Bool.and_self]
  have h2 : (am_seq am_m88.2.2.2.2.2 && am_tck am_m88 && (match am_m88.2.2.2.2.2 with | x :: _ => Nat.beq x.1 0 | [] => true)) = true := by decide +kernel
  unfold am_mck
  rw [h, Bool.true_and]
  exact h2
theorem am_mk89_0 : am_i89_0.all (am_ck true am_m89) = true := by decide +kernel
theorem am_mk89 : am_mck true am_m89 = true := by
  have h : am_m89.2.2.2.2.2.all (am_ck true am_m89) = true := by
    show (am_i89_0).all _ = true
    simp only [List.all_append, am_mk89_0, Bool.and_self]
  have h2 : (am_seq am_m89.2.2.2.2.2 && am_tck am_m89 && (match am_m89.2.2.2.2.2 with | x :: _ => Nat.beq x.1 0 | [] => true)) = true := by decide +kernel
  unfold am_mck
  rw [h, Bool.true_and]
  exact h2
theorem am_mk90_0 : am_i90_0.all (am_ck true am_m90) = true := by decide +kernel
theorem am_mk90 : am_mck true am_m90 = true := by
  have h : am_m90.2.2.2.2.2.all (am_ck true am_m90) = true := by
    show (am_i90_0).all _ = true
    simp only [List.all_append, am_mk90_0, Bool.and_self]
  have h2 : (am_seq am_m90.2.2.2.2.2 && am_tck am_m90 && (match am_m90.2.2.2.2.2 with | x :: _ => Nat.beq x.1 0 | [] => true)) = true := by decide +kernel
  unfold am_mck
  rw [h, Bool.true_and]
  exact h2
theorem am_mk91_0 : am_i91_0.all (am_ck true am_m91) = true := by decide +kernel
theorem am_mk91 : am_mck true am_m91 = true := by
  have h : am_m91.2.2.2.2.2.all (am_ck true am_m91) = true := by
    show (am_i91_0).all _ = true
    simp only [List.all_append, am_mk91_0, Bool.and_self]
  have h2 : (am_seq am_m91.2.2.2.2.2 && am_tck am_m91 && (match am_m91.2.2.2.2.2 with | x :: _ => Nat.beq x.1 0 | [] => true)) = true := by decide +kernel
  unfold am_mck
  rw [h, Bool.true_and]
  exact h2
theorem am_mk92_0 : am_i92_0.all (am_ck true am_m92) = true := by decide +kernel
theorem am_mk92 : am_mck true am_m92 = true := by
  have h : am_m92.2.2.2.2.2.all (am_ck true am_m92) = true := by
    show (am_i92_0).all _ = true
    simp only [List.all_append, am_mk92_0, Bool.and_self]
  have h2 : (am_seq am_m92.2.2.2.2.2 && am_tck am_m92 && (match am_m92.2.2.2.2.2 with | x :: _ => Nat.beq x.1 0 | [] => true)) = true := by decide +kernel
  unfold am_mck
  rw [h, Bool.true_and]
  exact h2
theorem am_mk93_0 : am_i93_0.all (am_ck true am_m93) = true := by decide +kernel
theorem am_mk93 : am_mck true am_m93 = true := by
  have h : am_m93.2.2.2.2.2.all (am_ck true am_m93) = true := by
    show (am_i93_0).all _ = true
    simp only [List.all_append, am_mk93_0, Bool.and_self]
  have h2 : (am_seq am_m93.2.2.2.2.2 && am_tck am_m93 && (match am_m93.2.2.2.2.2 with | x :: _ => Nat.beq x.1 0 | [] => true)) = true := by decide +kernel
  unfold am_mck
  rw [h, Bool.true_and]
  exact h2
theorem am_mk94_0 : am_i94_0.all (am_ck true am_m94) = true := by decide +kernel
theorem am_mk94 : am_mck true am_m94 = true := by
  have h : am_m94.2.2.2.2.2.all (am_ck true am_m94) = true := by
    show (am_i94_0).all _ = true
    simp only [List.all_append, am_mk94_0, Bool.and_self]
  have h2 : (am_seq am_m94.2.2.2.2.2 && am_tck am_m94 && (match am_m94.2.2.2.2.2 with | x :: _ => Nat.beq x.1 0 | [] => true)) = true := by decide +kernel
  unfold am_mck
  rw [h, Bool.true_and]
  exact h2
theorem am_mk95_0 : am_i95_0.all (am_ck true am_m95) = true := by decide +kernel
theorem am_mk95_1 : am_i95_1.all (am_ck true am_m95) = true := by decide +kernel
theorem am_mk95 : am_mck true am_m95 = true := by
  have h : am_m95.2.2.2.2.2.all (am_ck true am_m95) = true := by
    show (am_i95_0 ++ (am_i95_1)).all _ = true
    simp only [List.all_append, am_mk95_0, am_mk95_1, Bool.and_self]
  have h2 : (am_seq am_m95.2.2.2.2.2 && am_tck am_m95 && (match am_m95.2.2.2.2.2 with | x :: _ => Nat.beq x.1 0 | [] => true)) = true := by decide +kernel
  unfold am_mck
  rw [h, Bool.true_and]
  exact h2
theorem am_mk97_0 : am_i97_0.all (am_ck true am_m97) = true := by decide +kernel
theorem am_mk97 : am_mck true am_m97 = true := by
  have h : am_m97.2.2.2.2.2.all (am_ck true am_m97) = true := by
    show (am_i97_0).all _ = true
    simp only [List.all_append, am_mk97_0, Bool.and_self]
  have h2 : (am_seq am_m97.2.2.2.2.2 && am_tck am_m97 && (match am_m97.2.2.2.2.2 with | x :: _ => Nat.beq x.1 0 | [] => true)) = true := by decide +kernel
  unfold am_mck
  rw [h, Bool.true_and]
  exact h2
theorem am_mk98_0 : am_i98_0.all (am_ck true am_m98) = true := by decide +kernel
theorem am_mk98 : am_mck true am_m98 = true := by
  have h : am_m98.2.2.2.2.2.all (am_ck true am_m98) = true := by
    show (am_i98_0).all _ = true
    simp only [List.all_append, am_mk98_0, Bool.and_self]
  have h2 : (am_seq am_m98.2.2.2.2.2 && am_tck am_m98 && (match am_m98.2.2.2.2.2 with | x :: _ => Nat.beq x.1 0 | [] => true)) = true := by decide +kernel
  unfold am_mck
  rw [h, Bool.true_and]
  exact h2
theorem am_mk99_0 : am_i99_0.all (am_ck true am_m99) = true := by decide +kernel
theorem am_mk99 : am_mck true am_m99 = true := by
  have h : am_m99.2.2.2.2.2.all (am_ck true am_m99) = true := by
    show (am_i99_0).all _ = true
    simp only [List.all_append, am_mk99_0, Bool.and_self]
  have h2 : (am_seq am_m99.2.2.2.2.2 && am_tck am_m99 && (match am_m99.2.2.2.2.2 with | x :: _ => Nat.beq x.1 0 | [] => true)) = true := by decide +kernel
  unfold am_mck
  rw [h, Bool.true_and]
  exact h2
theorem am_mk104_0 : am_i104_0.all (am_ck true am_m104) = true := by decide +kernel
theorem am_mk104 : am_mck true am_m104 = true := by
  have h : am_m104.2.2.2.2.2.all (am_ck true am_m104) = true := by
    show (am_i104_0).all _ = true
    simp only [List.all_append, am_mk104_0, Bool.and_self]
  have h2 : (am_seq am_m104.2.2.2.2.2 && am_tck am_m104 && (match am_m104.2.2.2.2.2 with | x :: _ => Nat.beq x.1 0 | [] => true)) = true := by decide +kernel
  unfold am_mck
  rw [h, Bool.true_and]
  exact h2
theorem am_mk105_0 : am_i105_0.all (am_ck true am_m105) = true := by decide +kernel
theorem am_mk105 : am_mck true am_m105 = true := by
  have h : am_m105.2.2.2.2.2.all (am_ck true am_m105) = true := by
    show (am_i105_0).all _ = true
    simp only [List.all_append, am_mk105_0, Bool.and_self]
  have h2 : (am_seq am_m105.2.2.2.2.2 && am_tck am_m105 && (match am_m105.2.2.2.2.2 with | x :: _ => Nat.beq x.1 0 | [] => true)) = true := by decide +kernel
  unfold am_mck
  rw [h, Bool.true_and]
  exact h2
theorem am_mk107_0 : am_i107_0.all (am_ck true am_m107) = true := by decide +kernel
theorem am_mk107 : am_mck true am_m107 = true := by
  have h : am_m107.2.2.2.2.2.all (am_ck true am_m107) = true := by
    show (am_i107_0).all _ = true
    simp only [List.all_append, am_mk107_0, Bool.and_self]
  have h2 : (am_seq am_m107.2.2.2.2.2 && am_tck am_m107 && (match am_m107.2.2.2.2.2 with | x :: _ => Nat.beq x.1 0 | [] => true)) = true := by decide +kernel
  unfold am_mck
  rw [h, Bool.true_and]
  exact h2
theorem am_mk108_0 : am_i108_0.all (am_ck true am_m108) = true := by decide +kernel
theorem am_mk108 : am_mck true am_m108 = true := by
  have h : am_m108.2.2.2.2.2.all (am_ck true am_m108) = true := by
    show (am_i108_0).all _ = true
    simp only [List.all_append, am_mk108_0, Bool.and_self]
  have h2 : (am_seq am_m108.2.2.2.2.2 && am_tck am_m108 && (match am_m108.2.2.2.2.2 with | x :: _ => Nat.beq x.1 0 | [] => true)) = true := by decide +kernel
  unfold am_mck
  rw [h, Bool.true_and]
  exact h2
theorem am_mk109_0 : am_i109_0.all (am_ck true am_m109) = true := by decide +kernel
theorem am_mk109 : am_mck true am_m109 = true := by
  have h : am_m109.2.2.2.2.2.all (am_ck true am_m109) = true := by
    show (am_i109_0).all _ = true
    simp only [List.all_append, am_mk109_0, Bool.and_self]
  have h2 : (am_seq am_m109.2.2.2.2.2 && am_tck am_m109 && (match am_m109.2.2.2.2.2 with | x :: _ => Nat.beq x.1 0 | [] => true)) = true := by decide +kernel
  unfold am_mck
  rw [h, Bool.true_and]
  exact h2
theorem am_mk110_0 : am_i110_0.all (am_ck true am_m110) = true := by decide +kernel
theorem am_mk110 : am_mck true am_m110 = true := by
  have h : am_m110.2.2.2.2.2.all (am_ck true am_m110) = true := by
    show (am_i110_0).all _ = true
    simp only [List.all_append, am_mk110_0, Bool.and_self]
  have h2 : (am_seq am_m110.2.2.2.2.2 && am_tck am_m110 && (match am_m110.2.2.2.2.2 with | x :: _ => Nat.beq x.1 0 | [] => true)) = true := by decide +kernel
  unfold am_mck
  rw [h, Bool.true_and]
  exact h2
theorem am_mk111_0 : am_i111_0.all (am_ck true am_m111) = true := by decide +kernel
theorem am_mk111 : am_mck true am_m111 = true := by
  have h : am_m111.2.2.2.2.2.all (am_ck true am_m111) = true := by
    show (am_i111_0).all _ = true
    simp only [List.all_append, am_mk111_0, Bool.and_self]
  have h2 : (am_seq am_m111.2.2.2.2.2 && am_tck am_m111 && (match am_m111.2.2.2.2.2 with | x :: _ => Nat.beq x.1 0 | [] => true)) = true := by decide +kernel
  unfold am_mck
  rw [h, Bool.true_and]
  exact h2
theorem am_mk112_0 : am_i112_0.all (am_ck true am_m112) = true := by decide +kernel
theorem am_mk112 : am_mck true am_m112 = true := by
  have h : am_m112.2.2.2.2.2.all (am_ck true am_m112) = true := by
    show (am_i112_0).all _ = true
    simp only [List.all_append, am_mk112_0, Bool.and_self]
  have h2 : (am_seq am_m112.2.2.2.2.2 && am_tck am_m112 && (match am_m112.2.2.2.2.2 with | x :: _ => Nat.beq x.1 0 | [] => true)) = true := by decide +kernel
  unfold am_mck
  rw [h, Bool.true_and]
  exact h2
theorem am_mk113_0 : am_i113_0.all (am_ck true am_m113) = true := by decide +kernel
theorem am_mk113_1 : am_i113_1.all (am_ck true am_m113) = true := by decide +kernel
theorem am_mk113_2 : am_i113_2.all (am_ck true am_m113) = true := by decide +kernel
theorem am_mk113_3 : am_i113_3.all (am_ck true am_m113) = true := by decide +kernel
theorem am_mk113_4 : am_i113_4.all (am_ck true am_m113) = true := by decide +kernel
theorem am_mk113_5 : am_i113_5.all (am_ck true am_m113) = true := by decide +kernel
theorem am_mk113_6 : am_i113_6.all (am_ck true am_m113) = true := by decide +kernel
theorem am_mk113 : am_mck true am_m113 = true := by
  have h : am_m113.2.2.2.2.2.all (am_ck true am_m113) = true := by
    show (am_i113_0 ++ (am_i113_1 ++ (am_i113_2 ++ (am_i113_3 ++ (am_i113_4 ++ (am_i113_5 ++ (am_i113_6))))))).all _ = true
    simp only [List.all_append, am_mk113_0, am_mk113_1, am_mk113_2, am_mk113_3, am_mk113_4, am_mk113_5, am_mk113_6, Bool.and_self]
  have h2 : (am_seq am_m113.2.2.2.2.2 && am_tck am_m113 && (match am_m113.2.2.2.2.2 with | x :: _ => Nat.beq x.1 0 | [] => true)) = true := by decide +kernel
  unfold am_mck
  rw [h, Bool.true_and]
  exact h2
theorem am_mk114_0 : am_i114_0.all (am_ck true am_m114) = true := by decide +kernel
theorem am_mk114 : am_mck true am_m114 = true := by
  have h : am_m114.2.2.2.2.2.all (am_ck true am_m114) = true := by
    show (am_i114_0).all _ = true
    simp only [List.all_append, am_mk114_0, Bool.and_self]
  have h2 : (am_seq am_m114.2.2.2.2.2 && am_tck am_m114 && (match am_m114.2.2.2.2.2 with | x :: _ => Nat.beq x.1 0 | [] => true)) = true := by decide +kernel
  unfold am_mck
  rw [h, Bool.true_and]
  exact h2
theorem am_mk115_0 : am_i115_0.all (am_ck true am_m115) = true := by decide +kernel
theorem am_mk115 : am_mck true am_m115 = true := by
  have h : am_m115.2.2.2.2.2.all (am_ck true am_m115) = true := by
    show (am_i115_0).all _ = true
    simp only [List.all_append, am_mk115_0, Bool.and_self]
  have h2 : (am_seq am_m115.2.2.2.2.2 && am_tck am_m115 && (match am_m115.2.2.2.2.2 with | x :: _ => Nat.beq x.1 0 | [] => true)) = true := by decide +kernel
  unfold am_mck
  rw [h, Bool.true_and]
  exact h2
theorem am_mk116_0 : am_i116_0.all (am_ck true am_m116) = true := by decide +kernel
theorem am_mk116 : am_mck true am_m116 = true := by
  have h : am_m116.2.2.2.2.2.all (am_ck true am_m116) = true := by
    show (am_i116_0).all _ = true
    simp only [List.all_append, am_mk116_0, Bool.and_self]
  have h2 : (am_seq am_m116.2.2.2.2.2 && am_tck am_m116 && (match am_m116.2.2.2.2.2 with | x :: _ => Nat.beq x.1 0 | [] => true)) = true := by decide +kernel
  unfold am_mck
  rw [h, Bool.true_and]
  exact h2
theorem am_mk117_0 : am_i117_0.all (am_ck true am_m117) = true := by decide +kernel
theorem am_mk117_1 : am_i117_1.all (am_ck true am_m117) = true := by decide +kernel
theorem am_mk117_2 : am_i117_2.all (am_ck true am_m117) = true := by decide +kernel
theorem am_mk117 : am_mck true am_m117 = true := by
  have h : am_m117.2.2.2.2.2.all (am_ck true am_m117) = true := by
    show (am_i117_0 ++ (am_i117_1 ++ (am_i117_2))).all _ = true
    simp only [List.all_append, am_mk117_0, am_mk117_1, am_mk117_2, Bool.and_self]
  have h2 : (am_seq am_m117.2.2.2.2.2 && am_tck am_m117 && (match am_m117.2.2.2.2.2 with | x :: _ => Nat.beq x.1 0 | [] => true)) = true := by decide +kernel
  unfold am_mck
  rw [h, Bool.true_and]
  exact h2
theorem am_mk118_0 : am_i118_0.all (am_ck true am_m118) = true := by decide +kernel
theorem am_mk118 : am_mck true am_m118 = true := by
  have h : am_m118.2.2.2.2.2.all (am_ck true am_m118) = true := by
    show (am_i118_0).all _ = true
    simp only [List.all_append, am_mk118_0, Bool.and_self]
  have h2 : (am_seq am_m118.2.2.2.2.2 && am_tck am_m118 && (match am_m118.2.2.2.2.2 with | x :: _ => Nat.beq x.1 0 | [] => true)) = true := by decide +kernel
  unfold am_mck
  rw [h, Bool.true_and]
  exact h2
theorem am_mk119_0 : am_i119_0.all (am_ck true am_m119) = true := by decide +kernel
theorem am_mk119_1 : am_i119_1.all (am_ck true am_m119) = true := by decide +kernel
theorem am_mk119_2 : am_i119_2.all (am_ck true am_m119) = true := by decide +kernel
theorem am_mk119_3 : am_i119_3.all (am_ck true am_m119) = true := by decide +kernel
theorem am_mk119_4 : am_i119_4.all (am_ck true am_m119) = true := by decide +kernel
theorem am_mk119_5 : am_i119_5.all (am_ck true am_m119) = true := by decide +kernel
theorem am_mk119 : am_mck true am_m119 = true := by
  have h : am_m119.2.2.2.2.2.all (am_ck true am_m119) = true := by
    show (am_i119_0 ++ (am_i119_1 ++ (am_i119_2 ++ (am_i119_3 ++ (am_i119_4 ++ (am_i119_5)))))).all _ = true
    simp only [List.all_append, am_mk119_0, am_mk119_1, am_mk119_2, am_mk119_3, am_mk119_4, am_mk119_5, Bool.and_self]
  have h2 : (am_seq am_m119.2.2.2.2.2 && am_tck am_m119 && (match am_m119.2.2.2.2.2 with | x :: _ => Nat.beq x.1 0 | [] => true)) = true := by decide +kernel
  unfold am_mck
  rw [h, Bool.true_and]
  exact h2
theorem am_mk120_0 : am_i120_0.all (am_ck true am_m120) = true := by decide +kernel
theorem am_mk120_1 : am_i120_1.all (am_ck true am_m120) = true := by decide +kernel
theorem am_mk120_2 : am_i120_2.all (am_ck true am_m120) = true := by decide +kernel
theorem am_mk120_3 : am_i120_3.all (am_ck true am_m120) = true := by decide +kernel
theorem am_mk120_4 : am_i120_4.all (am_ck true am_m120) = true := by decide +kernel
theorem am_mk120_5 : am_i120_5.all (am_ck true am_m120) = true := by decide +kernel
theorem am_mk120_6 : am_i120_6.all (am_ck true am_m120) = true := by decide +kernel
theorem am_mk120_7 : am_i120_7.all (am_ck true am_m120) = true := by decide +kernel
theorem am_mk120_8 : am_i120_8.all (am_ck true am_m120) = true := by decide +kernel
theorem am_mk120_9 : am_i120_9.all (am_ck true am_m120) = true := by decide +kernel
theorem am_mk120_10 : am_i120_10.all (am_ck true am_m120) = true := by decide +kernel
theorem am_mk120_11 : am_i120_11.all (am_ck true am_m120) = true := by decide +kernel
theorem am_mk120_12 : am_i120_12.all (am_ck true am_m120) = true := by decide +kernel
theorem am_mk120_13 : am_i120_13.all (am_ck true am_m120) = true := by decide +kernel
theorem am_mk120_14 : am_i120_14.all (am_ck true am_m120) = true := by decide +kernel
theorem am_mk120_15 : am_i120_15.all (am_ck true am_m120) = true := by decide +kernel
theorem am_mk120_16 : am_i120_16.all (am_ck true am_m120) = true := by decide +kernel
theorem am_mk120_17 : am_i120_17.all (am_ck true am_m120) = true := by decide +kernel
theorem am_mk120_18 : am_i120_18.all (am_ck true am_m120) = true := by decide +kernel
theorem am_mk120_19 : am_i120_19.all (am_ck true am_m120) = true := by decide +kernel
theorem am_mk120 : am_mck true am_m120 = true := by
  have h : am_m120.2.2.2.2.2.all (am_ck true am_m120) = true := by
    show (am_i120_0 ++ (am_i120_1 ++ (am_i120_2 ++ (am_i120_3 ++ (am_i120_4 ++ (am_i120_5 ++ (am_i120_6 ++ (am_i120_7 ++ (am_i120_8 ++ (am_i120_9 ++ (am_i120_10 ++ (am_i120_11 ++ (am_i120_12 ++ (am_i120_13 ++ (am_i120_14 ++ (am_i120_15 ++ (am_i120_16 ++ (am_i120_17 ++ (am_i120_18 ++ (am_i120_19)))))))))))))))))))).all _ = true
    simp only [List.all_append, am_mk120_0, am_mk120_1, am_mk120_2, am_mk120_3, am_mk120_4, am_mk120_5, am_mk120_6, am_mk120_7, am_mk120_8, am_mk120_9, am_mk120_10, am_mk120_11, am_mk120_12, am_mk120_13, am_mk120_14, am_mk120_15, am_mk120_16, am_mk120_17, am_mk120_18, am_mk120_19, Bool.and_self]
  have h2 : (am_seq am_m120.2.2.2.2.2 && am_tck am_m120 && (match am_m120.2.2.2.2.2 with | x :: _ => Nat.beq x.1 0 | [] => true)) = true := by decide +kernel
  unfold am_mck
  rw [h, Bool.true_and]
  exact h2
theorem am_mk121_0 : am_i121_0.all (am_ck true am_m121) = true := by decide +kernel
theorem am_mk121 : am_mck true am_m121 = true := by
  have h : am_m121.2.2.2.2.2.all (am_ck true am_m121) = true := by
    show (am_i121_0).all _ = true
    simp only [List.all_append, am_mk121_0, Bool.and_self]
  have h2 : (am_seq am_m121.2.2.2.2.2 && am_tck am_m121 && (match am_m121.2.2.2.2.2 with | x :: _ => Nat.beq x.1 0 | [] => true)) = true := by decide +kernel
  unfold am_mck
  rw [h, Bool.true_and]
  exact h2
theorem am_mk122_0 : am_i122_0.all (am_ck true am_m122) = true := by decide +kernel
theorem am_mk122 : am_mck true am_m122 = true := by
  have h : am_m122.2.2.2.2.2.all (am_ck true am_m122) = true := by
    show (am_i122_0).all _ = true
    simp only [List.all_append, am_mk122_0, Bool.and_self]
  have h2 : (am_seq am_m122.2.2.2.2.2 && am_tck am_m122 && (match am_m122.2.2.2.2.2 with | x :: _ => Nat.beq x.1 0 | [] => true)) = true := by decide +kernel
  unfold am_mck
  rw [h, Bool.true_and]
  exact h2
theorem am_mk123_0 : am_i123_0.all (am_ck true am_m123) = true := by decide +kernel
theorem am_mk123 : am_mck true am_m123 = true := by
  have h : am_m123.2.2.2.2.2.all (am_ck true am_m123) = true := by
    show (am_i123_0).all _ = true
    simp only [List.all_append, am_mk123_0, Bool.and_self]
  have h2 : (am_seq am_m123.2.2.2.2.2 && am_tck am_m123 && (match am_m123.2.2.2.2.2 with | x :: _ => Nat.beq x.1 0 | [] => true)) = true := by decide +kernel
  unfold am_mck
  rw [h, Bool.true_and]
  exact h2
theorem am_mk124_0 : am_i124_0.all (am_ck true am_m124) = true := by decide +kernel
theorem am_mk124 : am_mck true am_m124 = true := by
  have h : am_m124.2.2.2.2.2.all (am_ck true am_m124) = true := by
    show (am_i124_0).all _ = true
    simp only [List.all_append, am_mk124_0, Bool.and_self]
  have h2 : (am_seq am_m124.2.2.2.2.2 && am_tck am_m124 && (match am_m124.2.2.2.2.2 with | x :: _ => Nat.beq x.1 0 | [] => true)) = true := by decide +kernel
  unfold am_mck
  rw [h, Bool.true_and]
  exact h2
end
section
/-! ===== the compiled text is the program (laid by wip/p46/gen31.py) ===== -/
set_option maxRecDepth 200000 in
theorem am_cm0_0 : am_p0_0 = am_i0_0.map (fun q => (q.1, am_op am_db am_hc am_bl am_m0 q.1 q.2.1 q.2.2.2)) := rfl
set_option maxRecDepth 200000 in
theorem am_cm0_1 : am_p0_1 = am_i0_1.map (fun q => (q.1, am_op am_db am_hc am_bl am_m0 q.1 q.2.1 q.2.2.2)) := rfl
theorem am_cm0 : am_p0 = am_comp am_db am_hc am_bl am_m0 := by
  show am_p0_0 ++ (am_p0_1) = (am_i0_0 ++ (am_i0_1)).map (fun q => (q.1, am_op am_db am_hc am_bl am_m0 q.1 q.2.1 q.2.2.2))
  rw [am_cm0_0, am_cm0_1]
  simp only [List.map_append]
set_option maxRecDepth 200000 in
theorem am_cm1_0 : am_p1_0 = am_i1_0.map (fun q => (q.1, am_op am_db am_hc am_bl am_m1 q.1 q.2.1 q.2.2.2)) := rfl
theorem am_cm1 : am_p1 = am_comp am_db am_hc am_bl am_m1 := by
  show am_p1_0 = (am_i1_0).map (fun q => (q.1, am_op am_db am_hc am_bl am_m1 q.1 q.2.1 q.2.2.2))
  rw [am_cm1_0]
set_option maxRecDepth 200000 in
theorem am_cm2_0 : am_p2_0 = am_i2_0.map (fun q => (q.1, am_op am_db am_hc am_bl am_m2 q.1 q.2.1 q.2.2.2)) := rfl
theorem am_cm2 : am_p2 = am_comp am_db am_hc am_bl am_m2 := by
  show am_p2_0 = (am_i2_0).map (fun q => (q.1, am_op am_db am_hc am_bl am_m2 q.1 q.2.1 q.2.2.2))
  rw [am_cm2_0]
set_option maxRecDepth 200000 in
theorem am_cm3_0 : am_p3_0 = am_i3_0.map (fun q => (q.1, am_op am_db am_hc am_bl am_m3 q.1 q.2.1 q.2.2.2)) := rfl
theorem am_cm3 : am_p3 = am_comp am_db am_hc am_bl am_m3 := by
  show am_p3_0 = (am_i3_0).map (fun q => (q.1, am_op am_db am_hc am_bl am_m3 q.1 q.2.1 q.2.2.2))
  rw [am_cm3_0]
set_option maxRecDepth 200000 in
theorem am_cm4_0 : am_p4_0 = am_i4_0.map (fun q => (q.1, am_op am_db am_hc am_bl am_m4 q.1 q.2.1 q.2.2.2)) := rfl
theorem am_cm4 : am_p4 = am_comp am_db am_hc am_bl am_m4 := by
  show am_p4_0 = (am_i4_0).map (fun q => (q.1, am_op am_db am_hc am_bl am_m4 q.1 q.2.1 q.2.2.2))
  rw [am_cm4_0]
set_option maxRecDepth 200000 in
theorem am_cm5_0 : am_p5_0 = am_i5_0.map (fun q => (q.1, am_op am_db am_hc am_bl am_m5 q.1 q.2.1 q.2.2.2)) := rfl
theorem am_cm5 : am_p5 = am_comp am_db am_hc am_bl am_m5 := by
  show am_p5_0 = (am_i5_0).map (fun q => (q.1, am_op am_db am_hc am_bl am_m5 q.1 q.2.1 q.2.2.2))
  rw [am_cm5_0]
set_option maxRecDepth 200000 in
theorem am_cm6_0 : am_p6_0 = am_i6_0.map (fun q => (q.1, am_op am_db am_hc am_bl am_m6 q.1 q.2.1 q.2.2.2)) := rfl
theorem am_cm6 : am_p6 = am_comp am_db am_hc am_bl am_m6 := by
  show am_p6_0 = (am_i6_0).map (fun q => (q.1, am_op am_db am_hc am_bl am_m6 q.1 q.2.1 q.2.2.2))
  rw [am_cm6_0]
set_option maxRecDepth 200000 in
theorem am_cm7_0 : am_p7_0 = am_i7_0.map (fun q => (q.1, am_op am_db am_hc am_bl am_m7 q.1 q.2.1 q.2.2.2)) := rfl
theorem am_cm7 : am_p7 = am_comp am_db am_hc am_bl am_m7 := by
  show am_p7_0 = (am_i7_0).map (fun q => (q.1, am_op am_db am_hc am_bl am_m7 q.1 q.2.1 q.2.2.2))
  rw [am_cm7_0]
set_option maxRecDepth 200000 in
theorem am_cm8_0 : am_p8_0 = am_i8_0.map (fun q => (q.1, am_op am_db am_hc am_bl am_m8 q.1 q.2.1 q.2.2.2)) := rfl
theorem am_cm8 : am_p8 = am_comp am_db am_hc am_bl am_m8 := by
  show am_p8_0 = (am_i8_0).map (fun q => (q.1, am_op am_db am_hc am_bl am_m8 q.1 q.2.1 q.2.2.2))
  rw [am_cm8_0]
set_option maxRecDepth 200000 in
theorem am_cm9_0 : am_p9_0 = am_i9_0.map (fun q => (q.1, am_op am_db am_hc am_bl am_m9 q.1 q.2.1 q.2.2.2)) := rfl
theorem am_cm9 : am_p9 = am_comp am_db am_hc am_bl am_m9 := by
  show am_p9_0 = (am_i9_0).map (fun q => (q.1, am_op am_db am_hc am_bl am_m9 q.1 q.2.1 q.2.2.2))
  rw [am_cm9_0]
set_option maxRecDepth 200000 in
theorem am_cm10_0 : am_p10_0 = am_i10_0.map (fun q => (q.1, am_op am_db am_hc am_bl am_m10 q.1 q.2.1 q.2.2.2)) := rfl
theorem am_cm10 : am_p10 = am_comp am_db am_hc am_bl am_m10 := by
  show am_p10_0 = (am_i10_0).map (fun q => (q.1, am_op am_db am_hc am_bl am_m10 q.1 q.2.1 q.2.2.2))
  rw [am_cm10_0]
set_option maxRecDepth 200000 in
theorem am_cm11_0 : am_p11_0 = am_i11_0.map (fun q => (q.1, am_op am_db am_hc am_bl am_m11 q.1 q.2.1 q.2.2.2)) := rfl
theorem am_cm11 : am_p11 = am_comp am_db am_hc am_bl am_m11 := by
  show am_p11_0 = (am_i11_0).map (fun q => (q.1, am_op am_db am_hc am_bl am_m11 q.1 q.2.1 q.2.2.2))
  rw [am_cm11_0]
set_option maxRecDepth 200000 in
theorem am_cm12_0 : am_p12_0 = am_i12_0.map (fun q => (q.1, am_op am_db am_hc am_bl am_m12 q.1 q.2.1 q.2.2.2)) := rfl
theorem am_cm12 : am_p12 = am_comp am_db am_hc am_bl am_m12 := by
  show am_p12_0 = (am_i12_0).map (fun q => (q.1, am_op am_db am_hc am_bl am_m12 q.1 q.2.1 q.2.2.2))
  rw [am_cm12_0]
set_option maxRecDepth 200000 in
theorem am_cm13_0 : am_p13_0 = am_i13_0.map (fun q => (q.1, am_op am_db am_hc am_bl am_m13 q.1 q.2.1 q.2.2.2)) := rfl
theorem am_cm13 : am_p13 = am_comp am_db am_hc am_bl am_m13 := by
  show am_p13_0 = (am_i13_0).map (fun q => (q.1, am_op am_db am_hc am_bl am_m13 q.1 q.2.1 q.2.2.2))
  rw [am_cm13_0]
set_option maxRecDepth 200000 in
theorem am_cm14_0 : am_p14_0 = am_i14_0.map (fun q => (q.1, am_op am_db am_hc am_bl am_m14 q.1 q.2.1 q.2.2.2)) := rfl
theorem am_cm14 : am_p14 = am_comp am_db am_hc am_bl am_m14 := by
  show am_p14_0 = (am_i14_0).map (fun q => (q.1, am_op am_db am_hc am_bl am_m14 q.1 q.2.1 q.2.2.2))
  rw [am_cm14_0]
set_option maxRecDepth 200000 in
theorem am_cm15_0 : am_p15_0 = am_i15_0.map (fun q => (q.1, am_op am_db am_hc am_bl am_m15 q.1 q.2.1 q.2.2.2)) := rfl
theorem am_cm15 : am_p15 = am_comp am_db am_hc am_bl am_m15 := by
  show am_p15_0 = (am_i15_0).map (fun q => (q.1, am_op am_db am_hc am_bl am_m15 q.1 q.2.1 q.2.2.2))
  rw [am_cm15_0]
set_option maxRecDepth 200000 in
theorem am_cm16_0 : am_p16_0 = am_i16_0.map (fun q => (q.1, am_op am_db am_hc am_bl am_m16 q.1 q.2.1 q.2.2.2)) := rfl
theorem am_cm16 : am_p16 = am_comp am_db am_hc am_bl am_m16 := by
  show am_p16_0 = (am_i16_0).map (fun q => (q.1, am_op am_db am_hc am_bl am_m16 q.1 q.2.1 q.2.2.2))
  rw [am_cm16_0]
set_option maxRecDepth 200000 in
theorem am_cm17_0 : am_p17_0 = am_i17_0.map (fun q => (q.1, am_op am_db am_hc am_bl am_m17 q.1 q.2.1 q.2.2.2)) := rfl
theorem am_cm17 : am_p17 = am_comp am_db am_hc am_bl am_m17 := by
  show am_p17_0 = (am_i17_0).map (fun q => (q.1, am_op am_db am_hc am_bl am_m17 q.1 q.2.1 q.2.2.2))
  rw [am_cm17_0]
set_option maxRecDepth 200000 in
theorem am_cm18_0 : am_p18_0 = am_i18_0.map (fun q => (q.1, am_op am_db am_hc am_bl am_m18 q.1 q.2.1 q.2.2.2)) := rfl
theorem am_cm18 : am_p18 = am_comp am_db am_hc am_bl am_m18 := by
  show am_p18_0 = (am_i18_0).map (fun q => (q.1, am_op am_db am_hc am_bl am_m18 q.1 q.2.1 q.2.2.2))
  rw [am_cm18_0]
set_option maxRecDepth 200000 in
theorem am_cm19_0 : am_p19_0 = am_i19_0.map (fun q => (q.1, am_op am_db am_hc am_bl am_m19 q.1 q.2.1 q.2.2.2)) := rfl
set_option maxRecDepth 200000 in
theorem am_cm19_1 : am_p19_1 = am_i19_1.map (fun q => (q.1, am_op am_db am_hc am_bl am_m19 q.1 q.2.1 q.2.2.2)) := rfl
theorem am_cm19 : am_p19 = am_comp am_db am_hc am_bl am_m19 := by
  show am_p19_0 ++ (am_p19_1) = (am_i19_0 ++ (am_i19_1)).map (fun q => (q.1, am_op am_db am_hc am_bl am_m19 q.1 q.2.1 q.2.2.2))
  rw [am_cm19_0, am_cm19_1]
  simp only [List.map_append]
set_option maxRecDepth 200000 in
theorem am_cm20_0 : am_p20_0 = am_i20_0.map (fun q => (q.1, am_op am_db am_hc am_bl am_m20 q.1 q.2.1 q.2.2.2)) := rfl
theorem am_cm20 : am_p20 = am_comp am_db am_hc am_bl am_m20 := by
  show am_p20_0 = (am_i20_0).map (fun q => (q.1, am_op am_db am_hc am_bl am_m20 q.1 q.2.1 q.2.2.2))
  rw [am_cm20_0]
set_option maxRecDepth 200000 in
theorem am_cm21_0 : am_p21_0 = am_i21_0.map (fun q => (q.1, am_op am_db am_hc am_bl am_m21 q.1 q.2.1 q.2.2.2)) := rfl
theorem am_cm21 : am_p21 = am_comp am_db am_hc am_bl am_m21 := by
  show am_p21_0 = (am_i21_0).map (fun q => (q.1, am_op am_db am_hc am_bl am_m21 q.1 q.2.1 q.2.2.2))
  rw [am_cm21_0]
set_option maxRecDepth 200000 in
theorem am_cm22_0 : am_p22_0 = am_i22_0.map (fun q => (q.1, am_op am_db am_hc am_bl am_m22 q.1 q.2.1 q.2.2.2)) := rfl
theorem am_cm22 : am_p22 = am_comp am_db am_hc am_bl am_m22 := by
  show am_p22_0 = (am_i22_0).map (fun q => (q.1, am_op am_db am_hc am_bl am_m22 q.1 q.2.1 q.2.2.2))
  rw [am_cm22_0]
set_option maxRecDepth 200000 in
theorem am_cm23_0 : am_p23_0 = am_i23_0.map (fun q => (q.1, am_op am_db am_hc am_bl am_m23 q.1 q.2.1 q.2.2.2)) := rfl
theorem am_cm23 : am_p23 = am_comp am_db am_hc am_bl am_m23 := by
  show am_p23_0 = (am_i23_0).map (fun q => (q.1, am_op am_db am_hc am_bl am_m23 q.1 q.2.1 q.2.2.2))
  rw [am_cm23_0]
set_option maxRecDepth 200000 in
theorem am_cm24_0 : am_p24_0 = am_i24_0.map (fun q => (q.1, am_op am_db am_hc am_bl am_m24 q.1 q.2.1 q.2.2.2)) := rfl
theorem am_cm24 : am_p24 = am_comp am_db am_hc am_bl am_m24 := by
  show am_p24_0 = (am_i24_0).map (fun q => (q.1, am_op am_db am_hc am_bl am_m24 q.1 q.2.1 q.2.2.2))
  rw [am_cm24_0]
set_option maxRecDepth 200000 in
theorem am_cm25_0 : am_p25_0 = am_i25_0.map (fun q => (q.1, am_op am_db am_hc am_bl am_m25 q.1 q.2.1 q.2.2.2)) := rfl
theorem am_cm25 : am_p25 = am_comp am_db am_hc am_bl am_m25 := by
  show am_p25_0 = (am_i25_0).map (fun q => (q.1, am_op am_db am_hc am_bl am_m25 q.1 q.2.1 q.2.2.2))
  rw [am_cm25_0]
set_option maxRecDepth 200000 in
theorem am_cm26_0 : am_p26_0 = am_i26_0.map (fun q => (q.1, am_op am_db am_hc am_bl am_m26 q.1 q.2.1 q.2.2.2)) := rfl
set_option maxRecDepth 200000 in
theorem am_cm26_1 : am_p26_1 = am_i26_1.map (fun q => (q.1, am_op am_db am_hc am_bl am_m26 q.1 q.2.1 q.2.2.2)) := rfl
set_option maxRecDepth 200000 in
theorem am_cm26_2 : am_p26_2 = am_i26_2.map (fun q => (q.1, am_op am_db am_hc am_bl am_m26 q.1 q.2.1 q.2.2.2)) := rfl
set_option maxRecDepth 200000 in
theorem am_cm26_3 : am_p26_3 = am_i26_3.map (fun q => (q.1, am_op am_db am_hc am_bl am_m26 q.1 q.2.1 q.2.2.2)) := rfl
theorem am_cm26 : am_p26 = am_comp am_db am_hc am_bl am_m26 := by
  show am_p26_0 ++ (am_p26_1 ++ (am_p26_2 ++ (am_p26_3))) = (am_i26_0 ++ (am_i26_1 ++ (am_i26_2 ++ (am_i26_3)))).map (fun q => (q.1, am_op am_db am_hc am_bl am_m26 q.1 q.2.1 q.2.2.2))
  rw [am_cm26_0, am_cm26_1, am_cm26_2, am_cm26_3]
  simp only [List.map_append]
set_option maxRecDepth 200000 in
theorem am_cm27_0 : am_p27_0 = am_i27_0.map (fun q => (q.1, am_op am_db am_hc am_bl am_m27 q.1 q.2.1 q.2.2.2)) := rfl
theorem am_cm27 : am_p27 = am_comp am_db am_hc am_bl am_m27 := by
  show am_p27_0 = (am_i27_0).map (fun q => (q.1, am_op am_db am_hc am_bl am_m27 q.1 q.2.1 q.2.2.2))
  rw [am_cm27_0]
set_option maxRecDepth 200000 in
theorem am_cm28_0 : am_p28_0 = am_i28_0.map (fun q => (q.1, am_op am_db am_hc am_bl am_m28 q.1 q.2.1 q.2.2.2)) := rfl
theorem am_cm28 : am_p28 = am_comp am_db am_hc am_bl am_m28 := by
  show am_p28_0 = (am_i28_0).map (fun q => (q.1, am_op am_db am_hc am_bl am_m28 q.1 q.2.1 q.2.2.2))
  rw [am_cm28_0]
set_option maxRecDepth 200000 in
theorem am_cm29_0 : am_p29_0 = am_i29_0.map (fun q => (q.1, am_op am_db am_hc am_bl am_m29 q.1 q.2.1 q.2.2.2)) := rfl
theorem am_cm29 : am_p29 = am_comp am_db am_hc am_bl am_m29 := by
  show am_p29_0 = (am_i29_0).map (fun q => (q.1, am_op am_db am_hc am_bl am_m29 q.1 q.2.1 q.2.2.2))
  rw [am_cm29_0]
set_option maxRecDepth 200000 in
theorem am_cm30_0 : am_p30_0 = am_i30_0.map (fun q => (q.1, am_op am_db am_hc am_bl am_m30 q.1 q.2.1 q.2.2.2)) := rfl
theorem am_cm30 : am_p30 = am_comp am_db am_hc am_bl am_m30 := by
  show am_p30_0 = (am_i30_0).map (fun q => (q.1, am_op am_db am_hc am_bl am_m30 q.1 q.2.1 q.2.2.2))
  rw [am_cm30_0]
set_option maxRecDepth 200000 in
theorem am_cm31_0 : am_p31_0 = am_i31_0.map (fun q => (q.1, am_op am_db am_hc am_bl am_m31 q.1 q.2.1 q.2.2.2)) := rfl
theorem am_cm31 : am_p31 = am_comp am_db am_hc am_bl am_m31 := by
  show am_p31_0 = (am_i31_0).map (fun q => (q.1, am_op am_db am_hc am_bl am_m31 q.1 q.2.1 q.2.2.2))
  rw [am_cm31_0]
set_option maxRecDepth 200000 in
theorem am_cm32_0 : am_p32_0 = am_i32_0.map (fun q => (q.1, am_op am_db am_hc am_bl am_m32 q.1 q.2.1 q.2.2.2)) := rfl
theorem am_cm32 : am_p32 = am_comp am_db am_hc am_bl am_m32 := by
  show am_p32_0 = (am_i32_0).map (fun q => (q.1, am_op am_db am_hc am_bl am_m32 q.1 q.2.1 q.2.2.2))
  rw [am_cm32_0]
set_option maxRecDepth 200000 in
theorem am_cm33_0 : am_p33_0 = am_i33_0.map (fun q => (q.1, am_op am_db am_hc am_bl am_m33 q.1 q.2.1 q.2.2.2)) := rfl
theorem am_cm33 : am_p33 = am_comp am_db am_hc am_bl am_m33 := by
  show am_p33_0 = (am_i33_0).map (fun q => (q.1, am_op am_db am_hc am_bl am_m33 q.1 q.2.1 q.2.2.2))
  rw [am_cm33_0]
set_option maxRecDepth 200000 in
theorem am_cm34_0 : am_p34_0 = am_i34_0.map (fun q => (q.1, am_op am_db am_hc am_bl am_m34 q.1 q.2.1 q.2.2.2)) := rfl
theorem am_cm34 : am_p34 = am_comp am_db am_hc am_bl am_m34 := by
  show am_p34_0 = (am_i34_0).map (fun q => (q.1, am_op am_db am_hc am_bl am_m34 q.1 q.2.1 q.2.2.2))
  rw [am_cm34_0]
set_option maxRecDepth 200000 in
theorem am_cm35_0 : am_p35_0 = am_i35_0.map (fun q => (q.1, am_op am_db am_hc am_bl am_m35 q.1 q.2.1 q.2.2.2)) := rfl
theorem am_cm35 : am_p35 = am_comp am_db am_hc am_bl am_m35 := by
  show am_p35_0 = (am_i35_0).map (fun q => (q.1, am_op am_db am_hc am_bl am_m35 q.1 q.2.1 q.2.2.2))
  rw [am_cm35_0]
set_option maxRecDepth 200000 in
theorem am_cm36_0 : am_p36_0 = am_i36_0.map (fun q => (q.1, am_op am_db am_hc am_bl am_m36 q.1 q.2.1 q.2.2.2)) := rfl
theorem am_cm36 : am_p36 = am_comp am_db am_hc am_bl am_m36 := by
  show am_p36_0 = (am_i36_0).map (fun q => (q.1, am_op am_db am_hc am_bl am_m36 q.1 q.2.1 q.2.2.2))
  rw [am_cm36_0]
set_option maxRecDepth 200000 in
theorem am_cm37_0 : am_p37_0 = am_i37_0.map (fun q => (q.1, am_op am_db am_hc am_bl am_m37 q.1 q.2.1 q.2.2.2)) := rfl
theorem am_cm37 : am_p37 = am_comp am_db am_hc am_bl am_m37 := by
  show am_p37_0 = (am_i37_0).map (fun q => (q.1, am_op am_db am_hc am_bl am_m37 q.1 q.2.1 q.2.2.2))
  rw [am_cm37_0]
set_option maxRecDepth 200000 in
theorem am_cm38_0 : am_p38_0 = am_i38_0.map (fun q => (q.1, am_op am_db am_hc am_bl am_m38 q.1 q.2.1 q.2.2.2)) := rfl
theorem am_cm38 : am_p38 = am_comp am_db am_hc am_bl am_m38 := by
  show am_p38_0 = (am_i38_0).map (fun q => (q.1, am_op am_db am_hc am_bl am_m38 q.1 q.2.1 q.2.2.2))
  rw [am_cm38_0]
set_option maxRecDepth 200000 in
theorem am_cm39_0 : am_p39_0 = am_i39_0.map (fun q => (q.1, am_op am_db am_hc am_bl am_m39 q.1 q.2.1 q.2.2.2)) := rfl
theorem am_cm39 : am_p39 = am_comp am_db am_hc am_bl am_m39 := by
  show am_p39_0 = (am_i39_0).map (fun q => (q.1, am_op am_db am_hc am_bl am_m39 q.1 q.2.1 q.2.2.2))
  rw [am_cm39_0]
set_option maxRecDepth 200000 in
theorem am_cm40_0 : am_p40_0 = am_i40_0.map (fun q => (q.1, am_op am_db am_hc am_bl am_m40 q.1 q.2.1 q.2.2.2)) := rfl
theorem am_cm40 : am_p40 = am_comp am_db am_hc am_bl am_m40 := by
  show am_p40_0 = (am_i40_0).map (fun q => (q.1, am_op am_db am_hc am_bl am_m40 q.1 q.2.1 q.2.2.2))
  rw [am_cm40_0]
set_option maxRecDepth 200000 in
theorem am_cm41_0 : am_p41_0 = am_i41_0.map (fun q => (q.1, am_op am_db am_hc am_bl am_m41 q.1 q.2.1 q.2.2.2)) := rfl
theorem am_cm41 : am_p41 = am_comp am_db am_hc am_bl am_m41 := by
  show am_p41_0 = (am_i41_0).map (fun q => (q.1, am_op am_db am_hc am_bl am_m41 q.1 q.2.1 q.2.2.2))
  rw [am_cm41_0]
set_option maxRecDepth 200000 in
theorem am_cm42_0 : am_p42_0 = am_i42_0.map (fun q => (q.1, am_op am_db am_hc am_bl am_m42 q.1 q.2.1 q.2.2.2)) := rfl
theorem am_cm42 : am_p42 = am_comp am_db am_hc am_bl am_m42 := by
  show am_p42_0 = (am_i42_0).map (fun q => (q.1, am_op am_db am_hc am_bl am_m42 q.1 q.2.1 q.2.2.2))
  rw [am_cm42_0]
set_option maxRecDepth 200000 in
theorem am_cm43_0 : am_p43_0 = am_i43_0.map (fun q => (q.1, am_op am_db am_hc am_bl am_m43 q.1 q.2.1 q.2.2.2)) := rfl
theorem am_cm43 : am_p43 = am_comp am_db am_hc am_bl am_m43 := by
  show am_p43_0 = (am_i43_0).map (fun q => (q.1, am_op am_db am_hc am_bl am_m43 q.1 q.2.1 q.2.2.2))
  rw [am_cm43_0]
set_option maxRecDepth 200000 in
theorem am_cm44_0 : am_p44_0 = am_i44_0.map (fun q => (q.1, am_op am_db am_hc am_bl am_m44 q.1 q.2.1 q.2.2.2)) := rfl
theorem am_cm44 : am_p44 = am_comp am_db am_hc am_bl am_m44 := by
  show am_p44_0 = (am_i44_0).map (fun q => (q.1, am_op am_db am_hc am_bl am_m44 q.1 q.2.1 q.2.2.2))
  rw [am_cm44_0]
set_option maxRecDepth 200000 in
theorem am_cm45_0 : am_p45_0 = am_i45_0.map (fun q => (q.1, am_op am_db am_hc am_bl am_m45 q.1 q.2.1 q.2.2.2)) := rfl
theorem am_cm45 : am_p45 = am_comp am_db am_hc am_bl am_m45 := by
  show am_p45_0 = (am_i45_0).map (fun q => (q.1, am_op am_db am_hc am_bl am_m45 q.1 q.2.1 q.2.2.2))
  rw [am_cm45_0]
set_option maxRecDepth 200000 in
theorem am_cm46_0 : am_p46_0 = am_i46_0.map (fun q => (q.1, am_op am_db am_hc am_bl am_m46 q.1 q.2.1 q.2.2.2)) := rfl
theorem am_cm46 : am_p46 = am_comp am_db am_hc am_bl am_m46 := by
  show am_p46_0 = (am_i46_0).map (fun q => (q.1, am_op am_db am_hc am_bl am_m46 q.1 q.2.1 q.2.2.2))
  rw [am_cm46_0]
set_option maxRecDepth 200000 in
theorem am_cm48_0 : am_p48_0 = am_i48_0.map (fun q => (q.1, am_op am_db am_hc am_bl am_m48 q.1 q.2.1 q.2.2.2)) := rfl
theorem am_cm48 : am_p48 = am_comp am_db am_hc am_bl am_m48 := by
  show am_p48_0 = (am_i48_0).map (fun q => (q.1, am_op am_db am_hc am_bl am_m48 q.1 q.2.1 q.2.2.2))
  rw [am_cm48_0]
set_option maxRecDepth 200000 in
theorem am_cm49_0 : am_p49_0 = am_i49_0.map (fun q => (q.1, am_op am_db am_hc am_bl am_m49 q.1 q.2.1 q.2.2.2)) := rfl
set_option maxRecDepth 200000 in
theorem am_cm49_1 : am_p49_1 = am_i49_1.map (fun q => (q.1, am_op am_db am_hc am_bl am_m49 q.1 q.2.1 q.2.2.2)) := rfl
theorem am_cm49 : am_p49 = am_comp am_db am_hc am_bl am_m49 := by
  show am_p49_0 ++ (am_p49_1) = (am_i49_0 ++ (am_i49_1)).map (fun q => (q.1, am_op am_db am_hc am_bl am_m49 q.1 q.2.1 q.2.2.2))
  rw [am_cm49_0, am_cm49_1]
  simp only [List.map_append]
set_option maxRecDepth 200000 in
theorem am_cm50_0 : am_p50_0 = am_i50_0.map (fun q => (q.1, am_op am_db am_hc am_bl am_m50 q.1 q.2.1 q.2.2.2)) := rfl
theorem am_cm50 : am_p50 = am_comp am_db am_hc am_bl am_m50 := by
  show am_p50_0 = (am_i50_0).map (fun q => (q.1, am_op am_db am_hc am_bl am_m50 q.1 q.2.1 q.2.2.2))
  rw [am_cm50_0]
set_option maxRecDepth 200000 in
theorem am_cm51_0 : am_p51_0 = am_i51_0.map (fun q => (q.1, am_op am_db am_hc am_bl am_m51 q.1 q.2.1 q.2.2.2)) := rfl
theorem am_cm51 : am_p51 = am_comp am_db am_hc am_bl am_m51 := by
  show am_p51_0 = (am_i51_0).map (fun q => (q.1, am_op am_db am_hc am_bl am_m51 q.1 q.2.1 q.2.2.2))
  rw [am_cm51_0]
set_option maxRecDepth 200000 in
theorem am_cm52_0 : am_p52_0 = am_i52_0.map (fun q => (q.1, am_op am_db am_hc am_bl am_m52 q.1 q.2.1 q.2.2.2)) := rfl
theorem am_cm52 : am_p52 = am_comp am_db am_hc am_bl am_m52 := by
  show am_p52_0 = (am_i52_0).map (fun q => (q.1, am_op am_db am_hc am_bl am_m52 q.1 q.2.1 q.2.2.2))
  rw [am_cm52_0]
set_option maxRecDepth 200000 in
theorem am_cm53_0 : am_p53_0 = am_i53_0.map (fun q => (q.1, am_op am_db am_hc am_bl am_m53 q.1 q.2.1 q.2.2.2)) := rfl
theorem am_cm53 : am_p53 = am_comp am_db am_hc am_bl am_m53 := by
  show am_p53_0 = (am_i53_0).map (fun q => (q.1, am_op am_db am_hc am_bl am_m53 q.1 q.2.1 q.2.2.2))
  rw [am_cm53_0]
set_option maxRecDepth 200000 in
theorem am_cm54_0 : am_p54_0 = am_i54_0.map (fun q => (q.1, am_op am_db am_hc am_bl am_m54 q.1 q.2.1 q.2.2.2)) := rfl
theorem am_cm54 : am_p54 = am_comp am_db am_hc am_bl am_m54 := by
  show am_p54_0 = (am_i54_0).map (fun q => (q.1, am_op am_db am_hc am_bl am_m54 q.1 q.2.1 q.2.2.2))
  rw [am_cm54_0]
set_option maxRecDepth 200000 in
theorem am_cm55_0 : am_p55_0 = am_i55_0.map (fun q => (q.1, am_op am_db am_hc am_bl am_m55 q.1 q.2.1 q.2.2.2)) := rfl
theorem am_cm55 : am_p55 = am_comp am_db am_hc am_bl am_m55 := by
  show am_p55_0 = (am_i55_0).map (fun q => (q.1, am_op am_db am_hc am_bl am_m55 q.1 q.2.1 q.2.2.2))
  rw [am_cm55_0]
set_option maxRecDepth 200000 in
theorem am_cm56_0 : am_p56_0 = am_i56_0.map (fun q => (q.1, am_op am_db am_hc am_bl am_m56 q.1 q.2.1 q.2.2.2)) := rfl
theorem am_cm56 : am_p56 = am_comp am_db am_hc am_bl am_m56 := by
  show am_p56_0 = (am_i56_0).map (fun q => (q.1, am_op am_db am_hc am_bl am_m56 q.1 q.2.1 q.2.2.2))
  rw [am_cm56_0]
set_option maxRecDepth 200000 in
theorem am_cm57_0 : am_p57_0 = am_i57_0.map (fun q => (q.1, am_op am_db am_hc am_bl am_m57 q.1 q.2.1 q.2.2.2)) := rfl
theorem am_cm57 : am_p57 = am_comp am_db am_hc am_bl am_m57 := by
  show am_p57_0 = (am_i57_0).map (fun q => (q.1, am_op am_db am_hc am_bl am_m57 q.1 q.2.1 q.2.2.2))
  rw [am_cm57_0]
set_option maxRecDepth 200000 in
theorem am_cm58_0 : am_p58_0 = am_i58_0.map (fun q => (q.1, am_op am_db am_hc am_bl am_m58 q.1 q.2.1 q.2.2.2)) := rfl
set_option maxRecDepth 200000 in
theorem am_cm58_1 : am_p58_1 = am_i58_1.map (fun q => (q.1, am_op am_db am_hc am_bl am_m58 q.1 q.2.1 q.2.2.2)) := rfl
theorem am_cm58 : am_p58 = am_comp am_db am_hc am_bl am_m58 := by
  show am_p58_0 ++ (am_p58_1) = (am_i58_0 ++ (am_i58_1)).map (fun q => (q.1, am_op am_db am_hc am_bl am_m58 q.1 q.2.1 q.2.2.2))
  rw [am_cm58_0, am_cm58_1]
  simp only [List.map_append]
set_option maxRecDepth 200000 in
theorem am_cm59_0 : am_p59_0 = am_i59_0.map (fun q => (q.1, am_op am_db am_hc am_bl am_m59 q.1 q.2.1 q.2.2.2)) := rfl
theorem am_cm59 : am_p59 = am_comp am_db am_hc am_bl am_m59 := by
  show am_p59_0 = (am_i59_0).map (fun q => (q.1, am_op am_db am_hc am_bl am_m59 q.1 q.2.1 q.2.2.2))
  rw [am_cm59_0]
set_option maxRecDepth 200000 in
theorem am_cm60_0 : am_p60_0 = am_i60_0.map (fun q => (q.1, am_op am_db am_hc am_bl am_m60 q.1 q.2.1 q.2.2.2)) := rfl
theorem am_cm60 : am_p60 = am_comp am_db am_hc am_bl am_m60 := by
  show am_p60_0 = (am_i60_0).map (fun q => (q.1, am_op am_db am_hc am_bl am_m60 q.1 q.2.1 q.2.2.2))
  rw [am_cm60_0]
set_option maxRecDepth 200000 in
theorem am_cm61_0 : am_p61_0 = am_i61_0.map (fun q => (q.1, am_op am_db am_hc am_bl am_m61 q.1 q.2.1 q.2.2.2)) := rfl
theorem am_cm61 : am_p61 = am_comp am_db am_hc am_bl am_m61 := by
  show am_p61_0 = (am_i61_0).map (fun q => (q.1, am_op am_db am_hc am_bl am_m61 q.1 q.2.1 q.2.2.2))
  rw [am_cm61_0]
set_option maxRecDepth 200000 in
theorem am_cm62_0 : am_p62_0 = am_i62_0.map (fun q => (q.1, am_op am_db am_hc am_bl am_m62 q.1 q.2.1 q.2.2.2)) := rfl
set_option maxRecDepth 200000 in
theorem am_cm62_1 : am_p62_1 = am_i62_1.map (fun q => (q.1, am_op am_db am_hc am_bl am_m62 q.1 q.2.1 q.2.2.2)) := rfl
theorem am_cm62 : am_p62 = am_comp am_db am_hc am_bl am_m62 := by
  show am_p62_0 ++ (am_p62_1) = (am_i62_0 ++ (am_i62_1)).map (fun q => (q.1, am_op am_db am_hc am_bl am_m62 q.1 q.2.1 q.2.2.2))
  rw [am_cm62_0, am_cm62_1]
  simp only [List.map_append]
set_option maxRecDepth 200000 in
theorem am_cm63_0 : am_p63_0 = am_i63_0.map (fun q => (q.1, am_op am_db am_hc am_bl am_m63 q.1 q.2.1 q.2.2.2)) := rfl
theorem am_cm63 : am_p63 = am_comp am_db am_hc am_bl am_m63 := by
  show am_p63_0 = (am_i63_0).map (fun q => (q.1, am_op am_db am_hc am_bl am_m63 q.1 q.2.1 q.2.2.2))
  rw [am_cm63_0]
set_option maxRecDepth 200000 in
theorem am_cm64_0 : am_p64_0 = am_i64_0.map (fun q => (q.1, am_op am_db am_hc am_bl am_m64 q.1 q.2.1 q.2.2.2)) := rfl
theorem am_cm64 : am_p64 = am_comp am_db am_hc am_bl am_m64 := by
  show am_p64_0 = (am_i64_0).map (fun q => (q.1, am_op am_db am_hc am_bl am_m64 q.1 q.2.1 q.2.2.2))
  rw [am_cm64_0]
set_option maxRecDepth 200000 in
theorem am_cm65_0 : am_p65_0 = am_i65_0.map (fun q => (q.1, am_op am_db am_hc am_bl am_m65 q.1 q.2.1 q.2.2.2)) := rfl
theorem am_cm65 : am_p65 = am_comp am_db am_hc am_bl am_m65 := by
  show am_p65_0 = (am_i65_0).map (fun q => (q.1, am_op am_db am_hc am_bl am_m65 q.1 q.2.1 q.2.2.2))
  rw [am_cm65_0]
set_option maxRecDepth 200000 in
theorem am_cm66_0 : am_p66_0 = am_i66_0.map (fun q => (q.1, am_op am_db am_hc am_bl am_m66 q.1 q.2.1 q.2.2.2)) := rfl
theorem am_cm66 : am_p66 = am_comp am_db am_hc am_bl am_m66 := by
  show am_p66_0 = (am_i66_0).map (fun q => (q.1, am_op am_db am_hc am_bl am_m66 q.1 q.2.1 q.2.2.2))
  rw [am_cm66_0]
set_option maxRecDepth 200000 in
theorem am_cm70_0 : am_p70_0 = am_i70_0.map (fun q => (q.1, am_op am_db am_hc am_bl am_m70 q.1 q.2.1 q.2.2.2)) := rfl
theorem am_cm70 : am_p70 = am_comp am_db am_hc am_bl am_m70 := by
  show am_p70_0 = (am_i70_0).map (fun q => (q.1, am_op am_db am_hc am_bl am_m70 q.1 q.2.1 q.2.2.2))
  rw [am_cm70_0]
set_option maxRecDepth 200000 in
theorem am_cm71_0 : am_p71_0 = am_i71_0.map (fun q => (q.1, am_op am_db am_hc am_bl am_m71 q.1 q.2.1 q.2.2.2)) := rfl
theorem am_cm71 : am_p71 = am_comp am_db am_hc am_bl am_m71 := by
  show am_p71_0 = (am_i71_0).map (fun q => (q.1, am_op am_db am_hc am_bl am_m71 q.1 q.2.1 q.2.2.2))
  rw [am_cm71_0]
set_option maxRecDepth 200000 in
theorem am_cm72_0 : am_p72_0 = am_i72_0.map (fun q => (q.1, am_op am_db am_hc am_bl am_m72 q.1 q.2.1 q.2.2.2)) := rfl
theorem am_cm72 : am_p72 = am_comp am_db am_hc am_bl am_m72 := by
  show am_p72_0 = (am_i72_0).map (fun q => (q.1, am_op am_db am_hc am_bl am_m72 q.1 q.2.1 q.2.2.2))
  rw [am_cm72_0]
set_option maxRecDepth 200000 in
theorem am_cm73_0 : am_p73_0 = am_i73_0.map (fun q => (q.1, am_op am_db am_hc am_bl am_m73 q.1 q.2.1 q.2.2.2)) := rfl
theorem am_cm73 : am_p73 = am_comp am_db am_hc am_bl am_m73 := by
  show am_p73_0 = (am_i73_0).map (fun q => (q.1, am_op am_db am_hc am_bl am_m73 q.1 q.2.1 q.2.2.2))
  rw [am_cm73_0]
set_option maxRecDepth 200000 in
theorem am_cm74_0 : am_p74_0 = am_i74_0.map (fun q => (q.1, am_op am_db am_hc am_bl am_m74 q.1 q.2.1 q.2.2.2)) := rfl
theorem am_cm74 : am_p74 = am_comp am_db am_hc am_bl am_m74 := by
  show am_p74_0 = (am_i74_0).map (fun q => (q.1, am_op am_db am_hc am_bl am_m74 q.1 q.2.1 q.2.2.2))
  rw [am_cm74_0]
set_option maxRecDepth 200000 in
theorem am_cm75_0 : am_p75_0 = am_i75_0.map (fun q => (q.1, am_op am_db am_hc am_bl am_m75 q.1 q.2.1 q.2.2.2)) := rfl
theorem am_cm75 : am_p75 = am_comp am_db am_hc am_bl am_m75 := by
  show am_p75_0 = (am_i75_0).map (fun q => (q.1, am_op am_db am_hc am_bl am_m75 q.1 q.2.1 q.2.2.2))
  rw [am_cm75_0]
set_option maxRecDepth 200000 in
theorem am_cm76_0 : am_p76_0 = am_i76_0.map (fun q => (q.1, am_op am_db am_hc am_bl am_m76 q.1 q.2.1 q.2.2.2)) := rfl
theorem am_cm76 : am_p76 = am_comp am_db am_hc am_bl am_m76 := by
  show am_p76_0 = (am_i76_0).map (fun q => (q.1, am_op am_db am_hc am_bl am_m76 q.1 q.2.1 q.2.2.2))
  rw [am_cm76_0]
set_option maxRecDepth 200000 in
theorem am_cm77_0 : am_p77_0 = am_i77_0.map (fun q => (q.1, am_op am_db am_hc am_bl am_m77 q.1 q.2.1 q.2.2.2)) := rfl
theorem am_cm77 : am_p77 = am_comp am_db am_hc am_bl am_m77 := by
  show am_p77_0 = (am_i77_0).map (fun q => (q.1, am_op am_db am_hc am_bl am_m77 q.1 q.2.1 q.2.2.2))
  rw [am_cm77_0]
set_option maxRecDepth 200000 in
theorem am_cm79_0 : am_p79_0 = am_i79_0.map (fun q => (q.1, am_op am_db am_hc am_bl am_m79 q.1 q.2.1 q.2.2.2)) := rfl
theorem am_cm79 : am_p79 = am_comp am_db am_hc am_bl am_m79 := by
  show am_p79_0 = (am_i79_0).map (fun q => (q.1, am_op am_db am_hc am_bl am_m79 q.1 q.2.1 q.2.2.2))
  rw [am_cm79_0]
set_option maxRecDepth 200000 in
theorem am_cm80_0 : am_p80_0 = am_i80_0.map (fun q => (q.1, am_op am_db am_hc am_bl am_m80 q.1 q.2.1 q.2.2.2)) := rfl
theorem am_cm80 : am_p80 = am_comp am_db am_hc am_bl am_m80 := by
  show am_p80_0 = (am_i80_0).map (fun q => (q.1, am_op am_db am_hc am_bl am_m80 q.1 q.2.1 q.2.2.2))
  rw [am_cm80_0]
set_option maxRecDepth 200000 in
theorem am_cm83_0 : am_p83_0 = am_i83_0.map (fun q => (q.1, am_op am_db am_hc am_bl am_m83 q.1 q.2.1 q.2.2.2)) := rfl
theorem am_cm83 : am_p83 = am_comp am_db am_hc am_bl am_m83 := by
  show am_p83_0 = (am_i83_0).map (fun q => (q.1, am_op am_db am_hc am_bl am_m83 q.1 q.2.1 q.2.2.2))
  rw [am_cm83_0]
set_option maxRecDepth 200000 in
theorem am_cm84_0 : am_p84_0 = am_i84_0.map (fun q => (q.1, am_op am_db am_hc am_bl am_m84 q.1 q.2.1 q.2.2.2)) := rfl
theorem am_cm84 : am_p84 = am_comp am_db am_hc am_bl am_m84 := by
  show am_p84_0 = (am_i84_0).map (fun q => (q.1, am_op am_db am_hc am_bl am_m84 q.1 q.2.1 q.2.2.2))
  rw [am_cm84_0]
set_option maxRecDepth 200000 in
theorem am_cm85_0 : am_p85_0 = am_i85_0.map (fun q => (q.1, am_op am_db am_hc am_bl am_m85 q.1 q.2.1 q.2.2.2)) := rfl
theorem am_cm85 : am_p85 = am_comp am_db am_hc am_bl am_m85 := by
  show am_p85_0 = (am_i85_0).map (fun q => (q.1, am_op am_db am_hc am_bl am_m85 q.1 q.2.1 q.2.2.2))
  rw [am_cm85_0]
set_option maxRecDepth 200000 in
theorem am_cm86_0 : am_p86_0 = am_i86_0.map (fun q => (q.1, am_op am_db am_hc am_bl am_m86 q.1 q.2.1 q.2.2.2)) := rfl
theorem am_cm86 : am_p86 = am_comp am_db am_hc am_bl am_m86 := by
  show am_p86_0 = (am_i86_0).map (fun q => (q.1, am_op am_db am_hc am_bl am_m86 q.1 q.2.1 q.2.2.2))
  rw [am_cm86_0]
set_option maxRecDepth 200000 in
theorem am_cm87_0 : am_p87_0 = am_i87_0.map (fun q => (q.1, am_op am_db am_hc am_bl am_m87 q.1 q.2.1 q.2.2.2)) := rfl
theorem am_cm87 : am_p87 = am_comp am_db am_hc am_bl am_m87 := by
  show am_p87_0 = (am_i87_0).map (fun q => (q.1, am_op am_db am_hc am_bl am_m87 q.1 q.2.1 q.2.2.2))
  rw [am_cm87_0]
set_option maxRecDepth 200000 in
theorem am_cm88_0 : am_p88_0 = am_i88_0.map (fun q => (q.1, am_op am_db am_hc am_bl am_m88 q.1 q.2.1 q.2.2.2)) := rfl
theorem am_cm88 : am_p88 = am_comp am_db am_hc am_bl am_m88 := by
  show am_p88_0 = (am_i88_0).map (fun q => (q.1, am_op am_db am_hc am_bl am_m88 q.1 q.2.1 q.2.2.2))
  rw [am_cm88_0]
set_option maxRecDepth 200000 in
theorem am_cm89_0 : am_p89_0 = am_i89_0.map (fun q => (q.1, am_op am_db am_hc am_bl am_m89 q.1 q.2.1 q.2.2.2)) := rfl
theorem am_cm89 : am_p89 = am_comp am_db am_hc am_bl am_m89 := by
  show am_p89_0 = (am_i89_0).map (fun q => (q.1, am_op am_db am_hc am_bl am_m89 q.1 q.2.1 q.2.2.2))
  rw [am_cm89_0]
set_option maxRecDepth 200000 in
theorem am_cm90_0 : am_p90_0 = am_i90_0.map (fun q => (q.1, am_op am_db am_hc am_bl am_m90 q.1 q.2.1 q.2.2.2)) := rfl
theorem am_cm90 : am_p90 = am_comp am_db am_hc am_bl am_m90 := by
  show am_p90_0 = (am_i90_0).map (fun q => (q.1, am_op am_db am_hc am_bl am_m90 q.1 q.2.1 q.2.2.2))
  rw [am_cm90_0]
set_option maxRecDepth 200000 in
theorem am_cm91_0 : am_p91_0 = am_i91_0.map (fun q => (q.1, am_op am_db am_hc am_bl am_m91 q.1 q.2.1 q.2.2.2)) := rfl
theorem am_cm91 : am_p91 = am_comp am_db am_hc am_bl am_m91 := by
  show am_p91_0 = (am_i91_0).map (fun q => (q.1, am_op am_db am_hc am_bl am_m91 q.1 q.2.1 q.2.2.2))
  rw [am_cm91_0]
set_option maxRecDepth 200000 in
theorem am_cm92_0 : am_p92_0 = am_i92_0.map (fun q => (q.1, am_op am_db am_hc am_bl am_m92 q.1 q.2.1 q.2.2.2)) := rfl
theorem am_cm92 : am_p92 = am_comp am_db am_hc am_bl am_m92 := by
  show am_p92_0 = (am_i92_0).map (fun q => (q.1, am_op am_db am_hc am_bl am_m92 q.1 q.2.1 q.2.2.2))
  rw [am_cm92_0]
set_option maxRecDepth 200000 in
theorem am_cm93_0 : am_p93_0 = am_i93_0.map (fun q => (q.1, am_op am_db am_hc am_bl am_m93 q.1 q.2.1 q.2.2.2)) := rfl
theorem am_cm93 : am_p93 = am_comp am_db am_hc am_bl am_m93 := by
  show am_p93_0 = (am_i93_0).map (fun q => (q.1, am_op am_db am_hc am_bl am_m93 q.1 q.2.1 q.2.2.2))
  rw [am_cm93_0]
set_option maxRecDepth 200000 in
theorem am_cm94_0 : am_p94_0 = am_i94_0.map (fun q => (q.1, am_op am_db am_hc am_bl am_m94 q.1 q.2.1 q.2.2.2)) := rfl
theorem am_cm94 : am_p94 = am_comp am_db am_hc am_bl am_m94 := by
  show am_p94_0 = (am_i94_0).map (fun q => (q.1, am_op am_db am_hc am_bl am_m94 q.1 q.2.1 q.2.2.2))
  rw [am_cm94_0]
set_option maxRecDepth 200000 in
theorem am_cm95_0 : am_p95_0 = am_i95_0.map (fun q => (q.1, am_op am_db am_hc am_bl am_m95 q.1 q.2.1 q.2.2.2)) := rfl
set_option maxRecDepth 200000 in
theorem am_cm95_1 : am_p95_1 = am_i95_1.map (fun q => (q.1, am_op am_db am_hc am_bl am_m95 q.1 q.2.1 q.2.2.2)) := rfl
theorem am_cm95 : am_p95 = am_comp am_db am_hc am_bl am_m95 := by
  show am_p95_0 ++ (am_p95_1) = (am_i95_0 ++ (am_i95_1)).map (fun q => (q.1, am_op am_db am_hc am_bl am_m95 q.1 q.2.1 q.2.2.2))
  rw [am_cm95_0, am_cm95_1]
  simp only [List.map_append]
set_option maxRecDepth 200000 in
theorem am_cm97_0 : am_p97_0 = am_i97_0.map (fun q => (q.1, am_op am_db am_hc am_bl am_m97 q.1 q.2.1 q.2.2.2)) := rfl
theorem am_cm97 : am_p97 = am_comp am_db am_hc am_bl am_m97 := by
  show am_p97_0 = (am_i97_0).map (fun q => (q.1, am_op am_db am_hc am_bl am_m97 q.1 q.2.1 q.2.2.2))
  rw [am_cm97_0]
set_option maxRecDepth 200000 in
theorem am_cm98_0 : am_p98_0 = am_i98_0.map (fun q => (q.1, am_op am_db am_hc am_bl am_m98 q.1 q.2.1 q.2.2.2)) := rfl
theorem am_cm98 : am_p98 = am_comp am_db am_hc am_bl am_m98 := by
  show am_p98_0 = (am_i98_0).map (fun q => (q.1, am_op am_db am_hc am_bl am_m98 q.1 q.2.1 q.2.2.2))
  rw [am_cm98_0]
set_option maxRecDepth 200000 in
theorem am_cm99_0 : am_p99_0 = am_i99_0.map (fun q => (q.1, am_op am_db am_hc am_bl am_m99 q.1 q.2.1 q.2.2.2)) := rfl
theorem am_cm99 : am_p99 = am_comp am_db am_hc am_bl am_m99 := by
  show am_p99_0 = (am_i99_0).map (fun q => (q.1, am_op am_db am_hc am_bl am_m99 q.1 q.2.1 q.2.2.2))
  rw [am_cm99_0]
set_option maxRecDepth 200000 in
theorem am_cm104_0 : am_p104_0 = am_i104_0.map (fun q => (q.1, am_op am_db am_hc am_bl am_m104 q.1 q.2.1 q.2.2.2)) := rfl
theorem am_cm104 : am_p104 = am_comp am_db am_hc am_bl am_m104 := by
  show am_p104_0 = (am_i104_0).map (fun q => (q.1, am_op am_db am_hc am_bl am_m104 q.1 q.2.1 q.2.2.2))
  rw [am_cm104_0]
set_option maxRecDepth 200000 in
theorem am_cm105_0 : am_p105_0 = am_i105_0.map (fun q => (q.1, am_op am_db am_hc am_bl am_m105 q.1 q.2.1 q.2.2.2)) := rfl
theorem am_cm105 : am_p105 = am_comp am_db am_hc am_bl am_m105 := by
  show am_p105_0 = (am_i105_0).map (fun q => (q.1, am_op am_db am_hc am_bl am_m105 q.1 q.2.1 q.2.2.2))
  rw [am_cm105_0]
set_option maxRecDepth 200000 in
theorem am_cm107_0 : am_p107_0 = am_i107_0.map (fun q => (q.1, am_op am_db am_hc am_bl am_m107 q.1 q.2.1 q.2.2.2)) := rfl
theorem am_cm107 : am_p107 = am_comp am_db am_hc am_bl am_m107 := by
  show am_p107_0 = (am_i107_0).map (fun q => (q.1, am_op am_db am_hc am_bl am_m107 q.1 q.2.1 q.2.2.2))
  rw [am_cm107_0]
set_option maxRecDepth 200000 in
theorem am_cm108_0 : am_p108_0 = am_i108_0.map (fun q => (q.1, am_op am_db am_hc am_bl am_m108 q.1 q.2.1 q.2.2.2)) := rfl
theorem am_cm108 : am_p108 = am_comp am_db am_hc am_bl am_m108 := by
  show am_p108_0 = (am_i108_0).map (fun q => (q.1, am_op am_db am_hc am_bl am_m108 q.1 q.2.1 q.2.2.2))
  rw [am_cm108_0]
set_option maxRecDepth 200000 in
theorem am_cm109_0 : am_p109_0 = am_i109_0.map (fun q => (q.1, am_op am_db am_hc am_bl am_m109 q.1 q.2.1 q.2.2.2)) := rfl
theorem am_cm109 : am_p109 = am_comp am_db am_hc am_bl am_m109 := by
  show am_p109_0 = (am_i109_0).map (fun q => (q.1, am_op am_db am_hc am_bl am_m109 q.1 q.2.1 q.2.2.2))
  rw [am_cm109_0]
set_option maxRecDepth 200000 in
theorem am_cm110_0 : am_p110_0 = am_i110_0.map (fun q => (q.1, am_op am_db am_hc am_bl am_m110 q.1 q.2.1 q.2.2.2)) := rfl
theorem am_cm110 : am_p110 = am_comp am_db am_hc am_bl am_m110 := by
  show am_p110_0 = (am_i110_0).map (fun q => (q.1, am_op am_db am_hc am_bl am_m110 q.1 q.2.1 q.2.2.2))
  rw [am_cm110_0]
set_option maxRecDepth 200000 in
theorem am_cm111_0 : am_p111_0 = am_i111_0.map (fun q => (q.1, am_op am_db am_hc am_bl am_m111 q.1 q.2.1 q.2.2.2)) := rfl
theorem am_cm111 : am_p111 = am_comp am_db am_hc am_bl am_m111 := by
  show am_p111_0 = (am_i111_0).map (fun q => (q.1, am_op am_db am_hc am_bl am_m111 q.1 q.2.1 q.2.2.2))
  rw [am_cm111_0]
set_option maxRecDepth 200000 in
theorem am_cm112_0 : am_p112_0 = am_i112_0.map (fun q => (q.1, am_op am_db am_hc am_bl am_m112 q.1 q.2.1 q.2.2.2)) := rfl
theorem am_cm112 : am_p112 = am_comp am_db am_hc am_bl am_m112 := by
  show am_p112_0 = (am_i112_0).map (fun q => (q.1, am_op am_db am_hc am_bl am_m112 q.1 q.2.1 q.2.2.2))
  rw [am_cm112_0]
set_option maxRecDepth 200000 in
theorem am_cm113_0 : am_p113_0 = am_i113_0.map (fun q => (q.1, am_op am_db am_hc am_bl am_m113 q.1 q.2.1 q.2.2.2)) := rfl
set_option maxRecDepth 200000 in
theorem am_cm113_1 : am_p113_1 = am_i113_1.map (fun q => (q.1, am_op am_db am_hc am_bl am_m113 q.1 q.2.1 q.2.2.2)) := rfl
set_option maxRecDepth 200000 in
theorem am_cm113_2 : am_p113_2 = am_i113_2.map (fun q => (q.1, am_op am_db am_hc am_bl am_m113 q.1 q.2.1 q.2.2.2)) := rfl
set_option maxRecDepth 200000 in
theorem am_cm113_3 : am_p113_3 = am_i113_3.map (fun q => (q.1, am_op am_db am_hc am_bl am_m113 q.1 q.2.1 q.2.2.2)) := rfl
set_option maxRecDepth 200000 in
theorem am_cm113_4 : am_p113_4 = am_i113_4.map (fun q => (q.1, am_op am_db am_hc am_bl am_m113 q.1 q.2.1 q.2.2.2)) := rfl
set_option maxRecDepth 200000 in
theorem am_cm113_5 : am_p113_5 = am_i113_5.map (fun q => (q.1, am_op am_db am_hc am_bl am_m113 q.1 q.2.1 q.2.2.2)) := rfl
set_option maxRecDepth 200000 in
theorem am_cm113_6 : am_p113_6 = am_i113_6.map (fun q => (q.1, am_op am_db am_hc am_bl am_m113 q.1 q.2.1 q.2.2.2)) := rfl
theorem am_cm113 : am_p113 = am_comp am_db am_hc am_bl am_m113 := by
  show am_p113_0 ++ (am_p113_1 ++ (am_p113_2 ++ (am_p113_3 ++ (am_p113_4 ++ (am_p113_5 ++ (am_p113_6)))))) = (am_i113_0 ++ (am_i113_1 ++ (am_i113_2 ++ (am_i113_3 ++ (am_i113_4 ++ (am_i113_5 ++ (am_i113_6))))))).map (fun q => (q.1, am_op am_db am_hc am_bl am_m113 q.1 q.2.1 q.2.2.2))
  rw [am_cm113_0, am_cm113_1, am_cm113_2, am_cm113_3, am_cm113_4, am_cm113_5, am_cm113_6]
  simp only [List.map_append]
set_option maxRecDepth 200000 in
theorem am_cm114_0 : am_p114_0 = am_i114_0.map (fun q => (q.1, am_op am_db am_hc am_bl am_m114 q.1 q.2.1 q.2.2.2)) := rfl
theorem am_cm114 : am_p114 = am_comp am_db am_hc am_bl am_m114 := by
  show am_p114_0 = (am_i114_0).map (fun q => (q.1, am_op am_db am_hc am_bl am_m114 q.1 q.2.1 q.2.2.2))
  rw [am_cm114_0]
set_option maxRecDepth 200000 in
theorem am_cm115_0 : am_p115_0 = am_i115_0.map (fun q => (q.1, am_op am_db am_hc am_bl am_m115 q.1 q.2.1 q.2.2.2)) := rfl
theorem am_cm115 : am_p115 = am_comp am_db am_hc am_bl am_m115 := by
  show am_p115_0 = (am_i115_0).map (fun q => (q.1, am_op am_db am_hc am_bl am_m115 q.1 q.2.1 q.2.2.2))
  rw [am_cm115_0]
set_option maxRecDepth 200000 in
theorem am_cm116_0 : am_p116_0 = am_i116_0.map (fun q => (q.1, am_op am_db am_hc am_bl am_m116 q.1 q.2.1 q.2.2.2)) := rfl
theorem am_cm116 : am_p116 = am_comp am_db am_hc am_bl am_m116 := by
  show am_p116_0 = (am_i116_0).map (fun q => (q.1, am_op am_db am_hc am_bl am_m116 q.1 q.2.1 q.2.2.2))
  rw [am_cm116_0]
set_option maxRecDepth 200000 in
theorem am_cm117_0 : am_p117_0 = am_i117_0.map (fun q => (q.1, am_op am_db am_hc am_bl am_m117 q.1 q.2.1 q.2.2.2)) := rfl
set_option maxRecDepth 200000 in
theorem am_cm117_1 : am_p117_1 = am_i117_1.map (fun q => (q.1, am_op am_db am_hc am_bl am_m117 q.1 q.2.1 q.2.2.2)) := rfl
set_option maxRecDepth 200000 in
theorem am_cm117_2 : am_p117_2 = am_i117_2.map (fun q => (q.1, am_op am_db am_hc am_bl am_m117 q.1 q.2.1 q.2.2.2)) := rfl
theorem am_cm117 : am_p117 = am_comp am_db am_hc am_bl am_m117 := by
  show am_p117_0 ++ (am_p117_1 ++ (am_p117_2)) = (am_i117_0 ++ (am_i117_1 ++ (am_i117_2))).map (fun q => (q.1, am_op am_db am_hc am_bl am_m117 q.1 q.2.1 q.2.2.2))
  rw [am_cm117_0, am_cm117_1, am_cm117_2]
  simp only [List.map_append]
set_option maxRecDepth 200000 in
theorem am_cm118_0 : am_p118_0 = am_i118_0.map (fun q => (q.1, am_op am_db am_hc am_bl am_m118 q.1 q.2.1 q.2.2.2)) := rfl
theorem am_cm118 : am_p118 = am_comp am_db am_hc am_bl am_m118 := by
  show am_p118_0 = (am_i118_0).map (fun q => (q.1, am_op am_db am_hc am_bl am_m118 q.1 q.2.1 q.2.2.2))
  rw [am_cm118_0]
set_option maxRecDepth 200000 in
theorem am_cm119_0 : am_p119_0 = am_i119_0.map (fun q => (q.1, am_op am_db am_hc am_bl am_m119 q.1 q.2.1 q.2.2.2)) := rfl
set_option maxRecDepth 200000 in
theorem am_cm119_1 : am_p119_1 = am_i119_1.map (fun q => (q.1, am_op am_db am_hc am_bl am_m119 q.1 q.2.1 q.2.2.2)) := rfl
set_option maxRecDepth 200000 in
theorem am_cm119_2 : am_p119_2 = am_i119_2.map (fun q => (q.1, am_op am_db am_hc am_bl am_m119 q.1 q.2.1 q.2.2.2)) := rfl
set_option maxRecDepth 200000 in
theorem am_cm119_3 : am_p119_3 = am_i119_3.map (fun q => (q.1, am_op am_db am_hc am_bl am_m119 q.1 q.2.1 q.2.2.2)) := rfl
set_option maxRecDepth 200000 in
theorem am_cm119_4 : am_p119_4 = am_i119_4.map (fun q => (q.1, am_op am_db am_hc am_bl am_m119 q.1 q.2.1 q.2.2.2)) := rfl
set_option maxRecDepth 200000 in
theorem am_cm119_5 : am_p119_5 = am_i119_5.map (fun q => (q.1, am_op am_db am_hc am_bl am_m119 q.1 q.2.1 q.2.2.2)) := rfl
theorem am_cm119 : am_p119 = am_comp am_db am_hc am_bl am_m119 := by
  show am_p119_0 ++ (am_p119_1 ++ (am_p119_2 ++ (am_p119_3 ++ (am_p119_4 ++ (am_p119_5))))) = (am_i119_0 ++ (am_i119_1 ++ (am_i119_2 ++ (am_i119_3 ++ (am_i119_4 ++ (am_i119_5)))))).map (fun q => (q.1, am_op am_db am_hc am_bl am_m119 q.1 q.2.1 q.2.2.2))
  rw [am_cm119_0, am_cm119_1, am_cm119_2, am_cm119_3, am_cm119_4, am_cm119_5]
  simp only [List.map_append]
set_option maxRecDepth 200000 in
theorem am_cm120_0 : am_p120_0 = am_i120_0.map (fun q => (q.1, am_op am_db am_hc am_bl am_m120 q.1 q.2.1 q.2.2.2)) := rfl
set_option maxRecDepth 200000 in
theorem am_cm120_1 : am_p120_1 = am_i120_1.map (fun q => (q.1, am_op am_db am_hc am_bl am_m120 q.1 q.2.1 q.2.2.2)) := rfl
set_option maxRecDepth 200000 in
theorem am_cm120_2 : am_p120_2 = am_i120_2.map (fun q => (q.1, am_op am_db am_hc am_bl am_m120 q.1 q.2.1 q.2.2.2)) := rfl
set_option maxRecDepth 200000 in
theorem am_cm120_3 : am_p120_3 = am_i120_3.map (fun q => (q.1, am_op am_db am_hc am_bl am_m120 q.1 q.2.1 q.2.2.2)) := rfl
set_option maxRecDepth 200000 in
theorem am_cm120_4 : am_p120_4 = am_i120_4.map (fun q => (q.1, am_op am_db am_hc am_bl am_m120 q.1 q.2.1 q.2.2.2)) := rfl
set_option maxRecDepth 200000 in
theorem am_cm120_5 : am_p120_5 = am_i120_5.map (fun q => (q.1, am_op am_db am_hc am_bl am_m120 q.1 q.2.1 q.2.2.2)) := rfl
set_option maxRecDepth 200000 in
theorem am_cm120_6 : am_p120_6 = am_i120_6.map (fun q => (q.1, am_op am_db am_hc am_bl am_m120 q.1 q.2.1 q.2.2.2)) := rfl
set_option maxRecDepth 200000 in
theorem am_cm120_7 : am_p120_7 = am_i120_7.map (fun q => (q.1, am_op am_db am_hc am_bl am_m120 q.1 q.2.1 q.2.2.2)) := rfl
set_option maxRecDepth 200000 in
theorem am_cm120_8 : am_p120_8 = am_i120_8.map (fun q => (q.1, am_op am_db am_hc am_bl am_m120 q.1 q.2.1 q.2.2.2)) := rfl
set_option maxRecDepth 200000 in
theorem am_cm120_9 : am_p120_9 = am_i120_9.map (fun q => (q.1, am_op am_db am_hc am_bl am_m120 q.1 q.2.1 q.2.2.2)) := rfl
set_option maxRecDepth 200000 in
theorem am_cm120_10 : am_p120_10 = am_i120_10.map (fun q => (q.1, am_op am_db am_hc am_bl am_m120 q.1 q.2.1 q.2.2.2)) := rfl
set_option maxRecDepth 200000 in
theorem am_cm120_11 : am_p120_11 = am_i120_11.map (fun q => (q.1, am_op am_db am_hc am_bl am_m120 q.1 q.2.1 q.2.2.2)) := rfl
set_option maxRecDepth 200000 in
theorem am_cm120_12 : am_p120_12 = am_i120_12.map (fun q => (q.1, am_op am_db am_hc am_bl am_m120 q.1 q.2.1 q.2.2.2)) := rfl
set_option maxRecDepth 200000 in
theorem am_cm120_13 : am_p120_13 = am_i120_13.map (fun q => (q.1, am_op am_db am_hc am_bl am_m120 q.1 q.2.1 q.2.2.2)) := rfl
set_option maxRecDepth 200000 in
theorem am_cm120_14 : am_p120_14 = am_i120_14.map (fun q => (q.1, am_op am_db am_hc am_bl am_m120 q.1 q.2.1 q.2.2.2)) := rfl
set_option maxRecDepth 200000 in
theorem am_cm120_15 : am_p120_15 = am_i120_15.map (fun q => (q.1, am_op am_db am_hc am_bl am_m120 q.1 q.2.1 q.2.2.2)) := rfl
set_option maxRecDepth 200000 in
theorem am_cm120_16 : am_p120_16 = am_i120_16.map (fun q => (q.1, am_op am_db am_hc am_bl am_m120 q.1 q.2.1 q.2.2.2)) := rfl
set_option maxRecDepth 200000 in
theorem am_cm120_17 : am_p120_17 = am_i120_17.map (fun q => (q.1, am_op am_db am_hc am_bl am_m120 q.1 q.2.1 q.2.2.2)) := rfl
set_option maxRecDepth 200000 in
theorem am_cm120_18 : am_p120_18 = am_i120_18.map (fun q => (q.1, am_op am_db am_hc am_bl am_m120 q.1 q.2.1 q.2.2.2)) := rfl
set_option maxRecDepth 200000 in
theorem am_cm120_19 : am_p120_19 = am_i120_19.map (fun q => (q.1, am_op am_db am_hc am_bl am_m120 q.1 q.2.1 q.2.2.2)) := rfl
theorem am_cm120 : am_p120 = am_comp am_db am_hc am_bl am_m120 := by
  show am_p120_0 ++ (am_p120_1 ++ (am_p120_2 ++ (am_p120_3 ++ (am_p120_4 ++ (am_p120_5 ++ (am_p120_6 ++ (am_p120_7 ++ (am_p120_8 ++ (am_p120_9 ++ (am_p120_10 ++ (am_p120_11 ++ (am_p120_12 ++ (am_p120_13 ++ (am_p120_14 ++ (am_p120_15 ++ (am_p120_16 ++ (am_p120_17 ++ (am_p120_18 ++ (am_p120_19))))))))))))))))))) = (am_i120_0 ++ (am_i120_1 ++ (am_i120_2 ++ (am_i120_3 ++ (am_i120_4 ++ (am_i120_5 ++ (am_i120_6 ++ (am_i120_7 ++ (am_i120_8 ++ (am_i120_9 ++ (am_i120_10 ++ (am_i120_11 ++ (am_i120_12 ++ (am_i120_13 ++ (am_i120_14 ++ (am_i120_15 ++ (am_i120_16 ++ (am_i120_17 ++ (am_i120_18 ++ (am_i120_19)))))))))))))))))))).map (fun q => (q.1, am_op am_db am_hc am_bl am_m120 q.1 q.2.1 q.2.2.2))
  rw [am_cm120_0, am_cm120_1, am_cm120_2, am_cm120_3, am_cm120_4, am_cm120_5, am_cm120_6, am_cm120_7, am_cm120_8, am_cm120_9, am_cm120_10, am_cm120_11, am_cm120_12, am_cm120_13, am_cm120_14, am_cm120_15, am_cm120_16, am_cm120_17, am_cm120_18, am_cm120_19]
  simp only [List.map_append]
set_option maxRecDepth 200000 in
theorem am_cm121_0 : am_p121_0 = am_i121_0.map (fun q => (q.1, am_op am_db am_hc am_bl am_m121 q.1 q.2.1 q.2.2.2)) := rfl
theorem am_cm121 : am_p121 = am_comp am_db am_hc am_bl am_m121 := by
  show am_p121_0 = (am_i121_0).map (fun q => (q.1, am_op am_db am_hc am_bl am_m121 q.1 q.2.1 q.2.2.2))
  rw [am_cm121_0]
set_option maxRecDepth 200000 in
theorem am_cm122_0 : am_p122_0 = am_i122_0.map (fun q => (q.1, am_op am_db am_hc am_bl am_m122 q.1 q.2.1 q.2.2.2)) := rfl
theorem am_cm122 : am_p122 = am_comp am_db am_hc am_bl am_m122 := by
  show am_p122_0 = (am_i122_0).map (fun q => (q.1, am_op am_db am_hc am_bl am_m122 q.1 q.2.1 q.2.2.2))
  rw [am_cm122_0]
set_option maxRecDepth 200000 in
theorem am_cm123_0 : am_p123_0 = am_i123_0.map (fun q => (q.1, am_op am_db am_hc am_bl am_m123 q.1 q.2.1 q.2.2.2)) := rfl
theorem am_cm123 : am_p123 = am_comp am_db am_hc am_bl am_m123 := by
  show am_p123_0 = (am_i123_0).map (fun q => (q.1, am_op am_db am_hc am_bl am_m123 q.1 q.2.1 q.2.2.2))
  rw [am_cm123_0]
set_option maxRecDepth 200000 in
theorem am_cm124_0 : am_p124_0 = am_i124_0.map (fun q => (q.1, am_op am_db am_hc am_bl am_m124 q.1 q.2.1 q.2.2.2)) := rfl
theorem am_cm124 : am_p124 = am_comp am_db am_hc am_bl am_m124 := by
  show am_p124_0 = (am_i124_0).map (fun q => (q.1, am_op am_db am_hc am_bl am_m124 q.1 q.2.1 q.2.2.2))
  rw [am_cm124_0]
end
section
/-! ===== callees are sound, at every depth (laid by wip/p46/gen32.py) ===== -/
/-! a method whose class may have entries for others of its methods -/
section AMOFW
variable {l : Launch} {y : MethodName} {ws ws' : List Cond} {rm : Room} {Pc : Array Value → State → Prop} {Qc : Array Value → State → Outcome → State → Prop} {XC : String → State → State → Prop} {mc ms : Nat} {free : Addr → Prop} {cc : ByteArray} {maxL : Nat} {ret : Option FieldType}
theorem am_ofW (hy : plainFor y = true) (hw : ws = Cond.code y cc maxL ret :: ws')
    (body : ∀ (p : Program) (e : Env) (s : State) (m : MethodId) (args : Array Value) (below : List Frame) (meth : Method) (c : Code) (s₁ : State), BodyLoose p l y (headSpec ws rm) cc maxL ret e s m args below meth c s₁ → c.maxLocals = maxL → Pc args s →
      W p l e (headSpec ws rm).room s m args below meth c s.heap [] 0 0 (vx_MQ below Qc XC args s mc ms free) (entryFrame m args maxL)) : vx_Met l y ws rm Pc Qc XC mc ms free := by
  refine MetFree.of_bodySF (code := cc) (maxLocals := maxL) (ret := ret) hy (fun args s m h hn => ?_) (fun p e s m args below meth c s₁ B hml hP _ => ?_)
  · obtain ⟨meth, c, k1, k2, k3, k4, k5, k6, -, -⟩ := Cond.code_spec hn (atoms_spec (ws := ws) h _ (by rw [hw]; exact List.mem_cons_self))
    exact ⟨meth, c, k1, k2, k3, k4, k5, k6⟩
  · obtain ⟨t, q1, o, q2, q3, q4⟩ := body p e s m args below meth c s₁ B hml hP s₁ (by rw [B.state]; rfl) (Stand.of_body B)
    exact ⟨t, o, q1, q2, q3, q4⟩
theorem am_ofWH {hh : List (Nat × Nat × Nat × Nat)} (hy : plainFor y = true) (hw : ws = Cond.codeWith y cc maxL ret hh :: ws')
    (body : ∀ (p : Program) (e : Env) (s : State) (m : MethodId) (args : Array Value) (below : List Frame) (meth : Method) (c : Code) (s₁ : State), BodyLoose p l y (headSpec ws rm) cc maxL ret e s m args below meth c s₁ → c.maxLocals = maxL → Pc args s →
      W p l e (headSpec ws rm).room s m args below meth c s.heap [] 0 0 (vx_MQ below Qc XC args s mc ms free) (entryFrame m args maxL)) : vx_Met l y ws rm Pc Qc XC mc ms free := by
  refine MetFree.of_bodySF (code := cc) (maxLocals := maxL) (ret := ret) hy (fun args s m h hn => ?_) (fun p e s m args below meth c s₁ B hml hP _ => ?_)
  · obtain ⟨m9, meth, c, hn9, k1, k2, k3, k4, -, k5, k6, -⟩ := Cond.codeWith_spec (atoms_spec (ws := ws) h _ (by rw [hw]; exact List.mem_cons_self))
    cases hn.symm.trans hn9
    exact ⟨meth, c, k1, k2, k3, k4, k5, k6⟩
  · obtain ⟨t, q1, o, q2, q3, q4⟩ := body p e s m args below meth c s₁ B hml hP s₁ (by rw [B.state]; rfl) (Stand.of_body B)
    exact ⟨t, o, q1, q2, q3, q4⟩
end AMOFW
/-- the callee's contract, out of the soundness of its run -/
theorem am_callee9 {l : Launch} {Y : am_Y} {M : am_M} {d : Nat} {g : am_G} {as lo1 : List am_V} {h : am_H} {o : am_O} (hpl : plainFor M.1 = true) (hpad : am_pad am_un0 (am_lay as) M.2.2.1 = some lo1) (hrun : g lo1 [] h 0 0 = some o) (ho : o.1 ≤ 2)
    (hsnd : ∀ (ad : List Nat) (p : Program) (e : Env) (s : State) (m : MethodId) (args : Array Value) (below : List Frame) (meth : Method) (c : Code) (Q : State → Prop), am_Fm p s m args meth c Y M.1.cls M.2.1 M.2.2.1 M.2.2.2.1 → c.exceptionTable.toList = tableOf M.2.2.2.2.1 → meth.name = M.1.name → am_Snd p l e (am_rm d o.2.2.2.2.2.2.1 o.2.2.2.2.2.2.2) s m args below meth c Q Y ad M.2.2.1 0 0 M.2.1 M.2.2.2.1 g 0) (ad : List Nat) :
    vx_Met l M.1 (am_head M :: am_ws) (am_rm d o.2.2.2.2.2.2.1 o.2.2.2.2.2.2.2) (am_Pc Y ad as h) (am_Qc Y ad o) (am_XC Y ad o) o.2.2.2.2.2.2.1 o.2.2.2.2.2.2.2 (fun q => Y.1.heap.size ≤ q) := by
  have body : ∀ (p : Program) (e : Env) (s : State) (m : MethodId) (args : Array Value) (below : List Frame) (meth : Method) (c : Code) (s₁ : State), BodyLoose p l M.1 (headSpec (am_head M :: am_ws) (am_rm d o.2.2.2.2.2.2.1 o.2.2.2.2.2.2.2)) M.2.1 M.2.2.1 M.2.2.2.1 e s m args below meth c s₁ → c.maxLocals = M.2.2.1 → am_Pc Y ad as h args s →
      W p l e (headSpec (am_head M :: am_ws) (am_rm d o.2.2.2.2.2.2.1 o.2.2.2.2.2.2.2)).room s m args below meth c s.heap [] 0 0 (vx_MQ below (am_Qc Y ad o) (am_XC Y ad o) args s o.2.2.2.2.2.2.1 o.2.2.2.2.2.2.2 (fun q => Y.1.heap.size ≤ q)) (entryFrame m args M.2.2.1) := by
    intro p e s m args below meth c s₁ B hml hP
    obtain ⟨⟨vs, hvs, rfl⟩, hW, hold, hsz, hrep⟩ := hP
    have hts0 := atoms_spec (ws := am_head M :: am_ws) B.pre
    have hF : am_Fm p s m vs.toArray meth c Y M.1.cls M.2.1 M.2.2.1 M.2.2.2.1 := ⟨B.exec, B.bytes, hml, findClass_of_methodNamed B.named, fun w hw => hts0 w (List.mem_cons_of_mem _ hw), B.notSynchronized, B.returns, hW, hold, hsz⟩
    have htab := am_tabOf B (hts0 _ List.mem_cons_self)
    obtain ⟨g1, g2, g3, g4⟩ := hsnd ad p e s m vs.toArray below meth c (vx_MQ below (am_Qc Y ad o) (am_XC Y ad o) vs.toArray s o.2.2.2.2.2.2.1 o.2.2.2.2.2.2.2 (fun q => Y.1.heap.size ≤ q)) hF htab (name_of_methodNamed B.named B.method).1 lo1 [] h 0 0 o hrun
    obtain ⟨e1, e2, e3⟩ := am_entry hvs hpad
    have hlo : am_Lo Y ad M.2.2.1 lo1 (lg_sl vs ++ List.replicate (M.2.2.1 - (lg_sl vs).length) Slot.unset).toArray := ⟨e2, lv_args 0 vs, lv_entry vs e1, fun i v hv hn => by
      obtain ⟨V, j1, j2⟩ := e3 0 i v hv hn
      rw [Nat.zero_add] at j2
      exact ⟨V, j1, j2⟩⟩
    rw [lg_entry_eq]
    refine g4 ad s.heap [] _ [] (am_HP_start hrep) hlo trivial (by show 0 + _ ≤ o.2.2.2.2.2.2.1; omega) (by show 0 + _ ≤ o.2.2.2.2.2.2.2; omega) ?_
    intro ad' H' locs' ls' S' hle hp' hlo' hs'
    obtain ⟨q0, q1, q2⟩ := g3
    have hx := hF.1
    have hb := hF.2.1
    have hr := hF.2.2.2.2.2.2.1
    have hlocks := hF.2.2.2.2.2.1
    have hz1 : 0 + o.2.2.2.2.2.2.1 = o.2.2.2.2.2.2.1 := Nat.zero_add _
    have hz2 : 0 + o.2.2.2.2.2.2.2 = o.2.2.2.2.2.2.2 := Nat.zero_add _
    refine ⟨fun hk => ?_, fun hk E hE => ⟨fun q ce pc' hce hcv hcl => ?_, am_Qc Y ad o, am_XC Y ad o, _, _, rfl, by omega, by omega, fun t h1 h2 h3 => ⟨hk, hE, ad', hle, am_HP_nil (am_HP_grow hp' h2 h3)⟩⟩⟩
    · rw [hz1, hz2]
      refine vx_ret ?_
      rcases (show o.1 = 0 ∨ o.1 = 1 by omega) with k | k
      · obtain ⟨k1, k2, k3⟩ := q0 k
        rw [k1] at hs'
        have e0 := am_St_nil hs'
        subst e0
        exact W.vret hx hb (hr.trans k3) (fun t' ht _ => ⟨ad', hle, by rw [ht]; exact am_HP_nil hp', Or.inl ⟨k, rfl⟩⟩) hp'.2.2.2.1 k2 hlocks
      · obtain ⟨k1, t, k2, k3, k4⟩ := q1 k
        rw [k1] at hs'
        obtain ⟨V, S2, rfl, j1, j2⟩ := am_St_cons hs'
        have e0 := am_St_nil j2
        subst e0
        obtain ⟨n1, n2⟩ := am_fit_ok k3 j1
        have hend : ∀ t' : State, t'.heap = H' → s.WarmedH t'.vm → am_Qc Y ad o vs.toArray s (.returned (some V)) t' := fun t' ht _ => ⟨ad', hle, by rw [ht]; exact am_HP_nil hp', Or.inr ⟨k, V, j1, rfl⟩⟩
        have hr2 : meth.sig.returnType = some t := hr.trans k2
        rcases k4 with ⟨z1, z2⟩ | ⟨z1, z2⟩ | ⟨z1, z2⟩ | ⟨z1, z2⟩ | ⟨z1, z2⟩
        · obtain ⟨x, rfl⟩ := am_tI_ok j1 z1
          exact W.zret hx hb hr2 n1 hend hp'.2.2.2.1 z2 hlocks
        · obtain ⟨x, rfl⟩ := am_tL_ok j1 z1
          have et : t = .long := by
            cases t <;> first | rfl | (exfalso; simp [fits] at n2)
          subst et
          exact W.lret hx hb hr2 hend hp'.2.2.2.1 z2 hlocks
        · obtain ⟨x, rfl⟩ := am_tF_ok j1 z1
          have et : t = .float := by
            cases t <;> first | rfl | (exfalso; simp [fits] at n2)
          subst et
          exact W.fret hx hb hr2 hend hp'.2.2.2.1 z2 hlocks
        · obtain ⟨x, rfl⟩ := am_tD_ok j1 z1
          have et : t = .double := by
            cases t <;> first | rfl | (exfalso; simp [fits] at n2)
          subst et
          exact W.dret hx hb hr2 hend hp'.2.2.2.1 z2 hlocks
        · obtain ⟨x, rfl⟩ := am_tR_ok j1 z1
          have et : (∃ n, t = .object n) ∨ ∃ t2, t = .array t2 := by
            cases t with
            | object n => exact Or.inl ⟨n, rfl⟩
            | array n => exact Or.inr ⟨n, rfl⟩
            | _ => exfalso; simp [fits] at n2
          exact W.aret hx hb hr2 et (Or.inr ⟨x, rfl⟩) hend hp'.2.2.2.1 z2 hlocks
    · exact vx_out (E := E) (fun x hx2 => by rw [q2 hk] at hx2; cases hx2) hlocks hce hcv hcl (fun t h1 h2 => ⟨hk, hE, ad', hle, by rw [h1]; exact am_HP_nil hp'⟩) hp'.2.2.2.1 (by omega) (by omega)
  cases htb : M.2.2.2.2.1 with
  | nil => exact am_ofW (cc := M.2.1) (maxL := M.2.2.1) (ret := M.2.2.2.1) (ws' := am_ws) hpl (by unfold am_head; rw [htb]) (fun p e s m args below meth c s₁ B hml hP => body p e s m args below meth c s₁ B hml hP)
  | cons x xs => exact am_ofWH (cc := M.2.1) (maxL := M.2.2.1) (ret := M.2.2.2.1) (ws' := am_ws) (hh := x :: xs) hpl (by unfold am_head; rw [htb]) (fun p e s m args below meth c s₁ B hml hP => body p e s m args below meth c s₁ B hml hP)

def am_all2 (P : am_M → am_P → Prop) : List am_M → List am_P → Prop
  | a :: as, b :: bs => P a b ∧ am_all2 P as bs
  | _, _ => True
theorem am_all2_cons {P : am_M → am_P → Prop} {a : am_M} {b : am_P} {as : List am_M} {bs : List am_P} (h : P a b) (h2 : am_all2 P as bs) : am_all2 P (a :: as) (b :: bs) := And.intro h h2
theorem am_all2_at {P : am_M → am_P → Prop} : ∀ {as : List am_M} {bs : List am_P} {i : Nat} {a : am_M} {b : am_P}, am_all2 P as bs → as[i]? = some a → bs[i]? = some b → P a b
  | [], _, _, _, _, _, h, _ => by cases h
  | _ :: _, [], _, _, _, _, _, h => by cases h
  | x :: as, y :: bs, 0, _, _, h, h1, h2 => by
    cases h1
    cases h2
    exact (show P x y ∧ am_all2 P as bs from h).1
  | x :: as, y :: bs, i + 1, _, _, h, h1, h2 => am_all2_at (as := as) (bs := bs) (i := i) (show P x y ∧ am_all2 P as bs from h).2 h1 h2
def am_Good (M : am_M) (c : am_P) : Prop := c = [] ∨ ((∃ b9, am_mck b9 M = true) ∧ c = am_comp am_db am_hc am_bl M ∧ plainFor M.1 = true)
theorem am_goodAll : am_all2 am_Good am_db am_codes := by
  show am_all2 am_Good [am_m0, am_m1, am_m2, am_m3, am_m4, am_m5, am_m6, am_m7, am_m8, am_m9, am_m10, am_m11, am_m12, am_m13, am_m14, am_m15, am_m16, am_m17, am_m18, am_m19, am_m20, am_m21, am_m22, am_m23, am_m24, am_m25, am_m26, am_m27, am_m28, am_m29, am_m30, am_m31, am_m32, am_m33, am_m34, am_m35, am_m36, am_m37, am_m38, am_m39, am_m40, am_m41, am_m42, am_m43, am_m44, am_m45, am_m46, am_m47, am_m48, am_m49, am_m50, am_m51, am_m52, am_m53, am_m54, am_m55, am_m56, am_m57, am_m58, am_m59, am_m60, am_m61, am_m62, am_m63, am_m64, am_m65, am_m66, am_m67, am_m68, am_m69, am_m70, am_m71, am_m72, am_m73, am_m74, am_m75, am_m76, am_m77, am_m78, am_m79, am_m80, am_m81, am_m82, am_m83, am_m84, am_m85, am_m86, am_m87, am_m88, am_m89, am_m90, am_m91, am_m92, am_m93, am_m94, am_m95, am_m96, am_m97, am_m98, am_m99, am_m100, am_m101, am_m102, am_m103, am_m104, am_m105, am_m106, am_m107, am_m108, am_m109, am_m110, am_m111, am_m112, am_m113, am_m114, am_m115, am_m116, am_m117, am_m118, am_m119, am_m120, am_m121, am_m122, am_m123, am_m124] [am_p0, am_p1, am_p2, am_p3, am_p4, am_p5, am_p6, am_p7, am_p8, am_p9, am_p10, am_p11, am_p12, am_p13, am_p14, am_p15, am_p16, am_p17, am_p18, am_p19, am_p20, am_p21, am_p22, am_p23, am_p24, am_p25, am_p26, am_p27, am_p28, am_p29, am_p30, am_p31, am_p32, am_p33, am_p34, am_p35, am_p36, am_p37, am_p38, am_p39, am_p40, am_p41, am_p42, am_p43, am_p44, am_p45, am_p46, [], am_p48, am_p49, am_p50, am_p51, am_p52, am_p53, am_p54, am_p55, am_p56, am_p57, am_p58, am_p59, am_p60, am_p61, am_p62, am_p63, am_p64, am_p65, am_p66, [], [], [], am_p70, am_p71, am_p72, am_p73, am_p74, am_p75, am_p76, am_p77, [], am_p79, am_p80, [], [], am_p83, am_p84, am_p85, am_p86, am_p87, am_p88, am_p89, am_p90, am_p91, am_p92, am_p93, am_p94, am_p95, [], am_p97, am_p98, am_p99, [], [], [], [], am_p104, am_p105, [], am_p107, am_p108, am_p109, am_p110, am_p111, am_p112, am_p113, am_p114, am_p115, am_p116, am_p117, am_p118, am_p119, am_p120, am_p121, am_p122, am_p123, am_p124]
  refine am_all2_cons (Or.inr ⟨⟨_, am_mk0⟩, am_cm0, by decide +kernel⟩) ?_
  refine am_all2_cons (Or.inr ⟨⟨_, am_mk1⟩, am_cm1, by decide +kernel⟩) ?_
  refine am_all2_cons (Or.inr ⟨⟨_, am_mk2⟩, am_cm2, by decide +kernel⟩) ?_
  refine am_all2_cons (Or.inr ⟨⟨_, am_mk3⟩, am_cm3, by decide +kernel⟩) ?_
  refine am_all2_cons (Or.inr ⟨⟨_, am_mk4⟩, am_cm4, by decide +kernel⟩) ?_
  refine am_all2_cons (Or.inr ⟨⟨_, am_mk5⟩, am_cm5, by decide +kernel⟩) ?_
  refine am_all2_cons (Or.inr ⟨⟨_, am_mk6⟩, am_cm6, by decide +kernel⟩) ?_
  refine am_all2_cons (Or.inr ⟨⟨_, am_mk7⟩, am_cm7, by decide +kernel⟩) ?_
  refine am_all2_cons (Or.inr ⟨⟨_, am_mk8⟩, am_cm8, by decide +kernel⟩) ?_
  refine am_all2_cons (Or.inr ⟨⟨_, am_mk9⟩, am_cm9, by decide +kernel⟩) ?_
  refine am_all2_cons (Or.inr ⟨⟨_, am_mk10⟩, am_cm10, by decide +kernel⟩) ?_
  refine am_all2_cons (Or.inr ⟨⟨_, am_mk11⟩, am_cm11, by decide +kernel⟩) ?_
  refine am_all2_cons (Or.inr ⟨⟨_, am_mk12⟩, am_cm12, by decide +kernel⟩) ?_
  refine am_all2_cons (Or.inr ⟨⟨_, am_mk13⟩, am_cm13, by decide +kernel⟩) ?_
  refine am_all2_cons (Or.inr ⟨⟨_, am_mk14⟩, am_cm14, by decide +kernel⟩) ?_
  refine am_all2_cons (Or.inr ⟨⟨_, am_mk15⟩, am_cm15, by decide +kernel⟩) ?_
  refine am_all2_cons (Or.inr ⟨⟨_, am_mk16⟩, am_cm16, by decide +kernel⟩) ?_
  refine am_all2_cons (Or.inr ⟨⟨_, am_mk17⟩, am_cm17, by decide +kernel⟩) ?_
  refine am_all2_cons (Or.inr ⟨⟨_, am_mk18⟩, am_cm18, by decide +kernel⟩) ?_
  refine am_all2_cons (Or.inr ⟨⟨_, am_mk19⟩, am_cm19, by decide +kernel⟩) ?_
  refine am_all2_cons (Or.inr ⟨⟨_, am_mk20⟩, am_cm20, by decide +kernel⟩) ?_
  refine am_all2_cons (Or.inr ⟨⟨_, am_mk21⟩, am_cm21, by decide +kernel⟩) ?_
  refine am_all2_cons (Or.inr ⟨⟨_, am_mk22⟩, am_cm22, by decide +kernel⟩) ?_
  refine am_all2_cons (Or.inr ⟨⟨_, am_mk23⟩, am_cm23, by decide +kernel⟩) ?_
  refine am_all2_cons (Or.inr ⟨⟨_, am_mk24⟩, am_cm24, by decide +kernel⟩) ?_
  refine am_all2_cons (Or.inr ⟨⟨_, am_mk25⟩, am_cm25, by decide +kernel⟩) ?_
  refine am_all2_cons (Or.inr ⟨⟨_, am_mk26⟩, am_cm26, by decide +kernel⟩) ?_
  refine am_all2_cons (Or.inr ⟨⟨_, am_mk27⟩, am_cm27, by decide +kernel⟩) ?_
  refine am_all2_cons (Or.inr ⟨⟨_, am_mk28⟩, am_cm28, by decide +kernel⟩) ?_
  refine am_all2_cons (Or.inr ⟨⟨_, am_mk29⟩, am_cm29, by decide +kernel⟩) ?_
  refine am_all2_cons (Or.inr ⟨⟨_, am_mk30⟩, am_cm30, by decide +kernel⟩) ?_
  refine am_all2_cons (Or.inr ⟨⟨_, am_mk31⟩, am_cm31, by decide +kernel⟩) ?_
  refine am_all2_cons (Or.inr ⟨⟨_, am_mk32⟩, am_cm32, by decide +kernel⟩) ?_
  refine am_all2_cons (Or.inr ⟨⟨_, am_mk33⟩, am_cm33, by decide +kernel⟩) ?_
  refine am_all2_cons (Or.inr ⟨⟨_, am_mk34⟩, am_cm34, by decide +kernel⟩) ?_
  refine am_all2_cons (Or.inr ⟨⟨_, am_mk35⟩, am_cm35, by decide +kernel⟩) ?_
  refine am_all2_cons (Or.inr ⟨⟨_, am_mk36⟩, am_cm36, by decide +kernel⟩) ?_
  refine am_all2_cons (Or.inr ⟨⟨_, am_mk37⟩, am_cm37, by decide +kernel⟩) ?_
  refine am_all2_cons (Or.inr ⟨⟨_, am_mk38⟩, am_cm38, by decide +kernel⟩) ?_
  refine am_all2_cons (Or.inr ⟨⟨_, am_mk39⟩, am_cm39, by decide +kernel⟩) ?_
  refine am_all2_cons (Or.inr ⟨⟨_, am_mk40⟩, am_cm40, by decide +kernel⟩) ?_
  refine am_all2_cons (Or.inr ⟨⟨_, am_mk41⟩, am_cm41, by decide +kernel⟩) ?_
  refine am_all2_cons (Or.inr ⟨⟨_, am_mk42⟩, am_cm42, by decide +kernel⟩) ?_
  refine am_all2_cons (Or.inr ⟨⟨_, am_mk43⟩, am_cm43, by decide +kernel⟩) ?_
  refine am_all2_cons (Or.inr ⟨⟨_, am_mk44⟩, am_cm44, by decide +kernel⟩) ?_
  refine am_all2_cons (Or.inr ⟨⟨_, am_mk45⟩, am_cm45, by decide +kernel⟩) ?_
  refine am_all2_cons (Or.inr ⟨⟨_, am_mk46⟩, am_cm46, by decide +kernel⟩) ?_
  refine am_all2_cons (Or.inl rfl) ?_
  refine am_all2_cons (Or.inr ⟨⟨_, am_mk48⟩, am_cm48, by decide +kernel⟩) ?_
  refine am_all2_cons (Or.inr ⟨⟨_, am_mk49⟩, am_cm49, by decide +kernel⟩) ?_
  refine am_all2_cons (Or.inr ⟨⟨_, am_mk50⟩, am_cm50, by decide +kernel⟩) ?_
  refine am_all2_cons (Or.inr ⟨⟨_, am_mk51⟩, am_cm51, by decide +kernel⟩) ?_
  refine am_all2_cons (Or.inr ⟨⟨_, am_mk52⟩, am_cm52, by decide +kernel⟩) ?_
  refine am_all2_cons (Or.inr ⟨⟨_, am_mk53⟩, am_cm53, by decide +kernel⟩) ?_
  refine am_all2_cons (Or.inr ⟨⟨_, am_mk54⟩, am_cm54, by decide +kernel⟩) ?_
  refine am_all2_cons (Or.inr ⟨⟨_, am_mk55⟩, am_cm55, by decide +kernel⟩) ?_
  refine am_all2_cons (Or.inr ⟨⟨_, am_mk56⟩, am_cm56, by decide +kernel⟩) ?_
  refine am_all2_cons (Or.inr ⟨⟨_, am_mk57⟩, am_cm57, by decide +kernel⟩) ?_
  refine am_all2_cons (Or.inr ⟨⟨_, am_mk58⟩, am_cm58, by decide +kernel⟩) ?_
  refine am_all2_cons (Or.inr ⟨⟨_, am_mk59⟩, am_cm59, by decide +kernel⟩) ?_
  refine am_all2_cons (Or.inr ⟨⟨_, am_mk60⟩, am_cm60, by decide +kernel⟩) ?_
  refine am_all2_cons (Or.inr ⟨⟨_, am_mk61⟩, am_cm61, by decide +kernel⟩) ?_
  refine am_all2_cons (Or.inr ⟨⟨_, am_mk62⟩, am_cm62, by decide +kernel⟩) ?_
  refine am_all2_cons (Or.inr ⟨⟨_, am_mk63⟩, am_cm63, by decide +kernel⟩) ?_
  refine am_all2_cons (Or.inr ⟨⟨_, am_mk64⟩, am_cm64, by decide +kernel⟩) ?_
  refine am_all2_cons (Or.inr ⟨⟨_, am_mk65⟩, am_cm65, by decide +kernel⟩) ?_
  refine am_all2_cons (Or.inr ⟨⟨_, am_mk66⟩, am_cm66, by decide +kernel⟩) ?_
  refine am_all2_cons (Or.inl rfl) ?_
  refine am_all2_cons (Or.inl rfl) ?_
  refine am_all2_cons (Or.inl rfl) ?_
  refine am_all2_cons (Or.inr ⟨⟨_, am_mk70⟩, am_cm70, by decide +kernel⟩) ?_
  refine am_all2_cons (Or.inr ⟨⟨_, am_mk71⟩, am_cm71, by decide +kernel⟩) ?_
  refine am_all2_cons (Or.inr ⟨⟨_, am_mk72⟩, am_cm72, by decide +kernel⟩) ?_
  refine am_all2_cons (Or.inr ⟨⟨_, am_mk73⟩, am_cm73, by decide +kernel⟩) ?_
  refine am_all2_cons (Or.inr ⟨⟨_, am_mk74⟩, am_cm74, by decide +kernel⟩) ?_
  refine am_all2_cons (Or.inr ⟨⟨_, am_mk75⟩, am_cm75, by decide +kernel⟩) ?_
  refine am_all2_cons (Or.inr ⟨⟨_, am_mk76⟩, am_cm76, by decide +kernel⟩) ?_
  refine am_all2_cons (Or.inr ⟨⟨_, am_mk77⟩, am_cm77, by decide +kernel⟩) ?_
  refine am_all2_cons (Or.inl rfl) ?_
  refine am_all2_cons (Or.inr ⟨⟨_, am_mk79⟩, am_cm79, by decide +kernel⟩) ?_
  refine am_all2_cons (Or.inr ⟨⟨_, am_mk80⟩, am_cm80, by decide +kernel⟩) ?_
  refine am_all2_cons (Or.inl rfl) ?_
  refine am_all2_cons (Or.inl rfl) ?_
  refine am_all2_cons (Or.inr ⟨⟨_, am_mk83⟩, am_cm83, by decide +kernel⟩) ?_
  refine am_all2_cons (Or.inr ⟨⟨_, am_mk84⟩, am_cm84, by decide +kernel⟩) ?_
  refine am_all2_cons (Or.inr ⟨⟨_, am_mk85⟩, am_cm85, by decide +kernel⟩) ?_
  refine am_all2_cons (Or.inr ⟨⟨_, am_mk86⟩, am_cm86, by decide +kernel⟩) ?_
  refine am_all2_cons (Or.inr ⟨⟨_, am_mk87⟩, am_cm87, by decide +kernel⟩) ?_
  refine am_all2_cons (Or.inr ⟨⟨_, am_mk88⟩, am_cm88, by decide +kernel⟩) ?_
  refine am_all2_cons (Or.inr ⟨⟨_, am_mk89⟩, am_cm89, by decide +kernel⟩) ?_
  refine am_all2_cons (Or.inr ⟨⟨_, am_mk90⟩, am_cm90, by decide +kernel⟩) ?_
  refine am_all2_cons (Or.inr ⟨⟨_, am_mk91⟩, am_cm91, by decide +kernel⟩) ?_
  refine am_all2_cons (Or.inr ⟨⟨_, am_mk92⟩, am_cm92, by decide +kernel⟩) ?_
  refine am_all2_cons (Or.inr ⟨⟨_, am_mk93⟩, am_cm93, by decide +kernel⟩) ?_
  refine am_all2_cons (Or.inr ⟨⟨_, am_mk94⟩, am_cm94, by decide +kernel⟩) ?_
  refine am_all2_cons (Or.inr ⟨⟨_, am_mk95⟩, am_cm95, by decide +kernel⟩) ?_
  refine am_all2_cons (Or.inl rfl) ?_
  refine am_all2_cons (Or.inr ⟨⟨_, am_mk97⟩, am_cm97, by decide +kernel⟩) ?_
  refine am_all2_cons (Or.inr ⟨⟨_, am_mk98⟩, am_cm98, by decide +kernel⟩) ?_
  refine am_all2_cons (Or.inr ⟨⟨_, am_mk99⟩, am_cm99, by decide +kernel⟩) ?_
  refine am_all2_cons (Or.inl rfl) ?_
  refine am_all2_cons (Or.inl rfl) ?_
  refine am_all2_cons (Or.inl rfl) ?_
  refine am_all2_cons (Or.inl rfl) ?_
  refine am_all2_cons (Or.inr ⟨⟨_, am_mk104⟩, am_cm104, by decide +kernel⟩) ?_
  refine am_all2_cons (Or.inr ⟨⟨_, am_mk105⟩, am_cm105, by decide +kernel⟩) ?_
  refine am_all2_cons (Or.inl rfl) ?_
  refine am_all2_cons (Or.inr ⟨⟨_, am_mk107⟩, am_cm107, by decide +kernel⟩) ?_
  refine am_all2_cons (Or.inr ⟨⟨_, am_mk108⟩, am_cm108, by decide +kernel⟩) ?_
  refine am_all2_cons (Or.inr ⟨⟨_, am_mk109⟩, am_cm109, by decide +kernel⟩) ?_
  refine am_all2_cons (Or.inr ⟨⟨_, am_mk110⟩, am_cm110, by decide +kernel⟩) ?_
  refine am_all2_cons (Or.inr ⟨⟨_, am_mk111⟩, am_cm111, by decide +kernel⟩) ?_
  refine am_all2_cons (Or.inr ⟨⟨_, am_mk112⟩, am_cm112, by decide +kernel⟩) ?_
  refine am_all2_cons (Or.inr ⟨⟨_, am_mk113⟩, am_cm113, by decide +kernel⟩) ?_
  refine am_all2_cons (Or.inr ⟨⟨_, am_mk114⟩, am_cm114, by decide +kernel⟩) ?_
  refine am_all2_cons (Or.inr ⟨⟨_, am_mk115⟩, am_cm115, by decide +kernel⟩) ?_
  refine am_all2_cons (Or.inr ⟨⟨_, am_mk116⟩, am_cm116, by decide +kernel⟩) ?_
  refine am_all2_cons (Or.inr ⟨⟨_, am_mk117⟩, am_cm117, by decide +kernel⟩) ?_
  refine am_all2_cons (Or.inr ⟨⟨_, am_mk118⟩, am_cm118, by decide +kernel⟩) ?_
  refine am_all2_cons (Or.inr ⟨⟨_, am_mk119⟩, am_cm119, by decide +kernel⟩) ?_
  refine am_all2_cons (Or.inr ⟨⟨_, am_mk120⟩, am_cm120, by decide +kernel⟩) ?_
  refine am_all2_cons (Or.inr ⟨⟨_, am_mk121⟩, am_cm121, by decide +kernel⟩) ?_
  refine am_all2_cons (Or.inr ⟨⟨_, am_mk122⟩, am_cm122, by decide +kernel⟩) ?_
  refine am_all2_cons (Or.inr ⟨⟨_, am_mk123⟩, am_cm123, by decide +kernel⟩) ?_
  refine am_all2_cons (Or.inr ⟨⟨_, am_mk124⟩, am_cm124, by decide +kernel⟩) ?_
  exact trivial
theorem am_dr_0 {α : Type} (l : List α) : am_dr l 0 = l := by rw [am_dr_eq, List.drop_zero]
theorem am_mck_0 {b9 : Bool} {M : am_M} (h : am_mck b9 M = true) : ∀ x, M.2.2.2.2.2[0]? = some x → x.1 = 0 := by
  simp only [am_mck, Bool.and_eq_true] at h
  intro x hx
  have h2 := h.2
  cases hM : M.2.2.2.2.2 with
  | nil => rw [hM] at hx; cases hx
  | cons y ys =>
    rw [hM] at hx h2
    cases hx
    exact Nat.eq_of_beq_eq_true h2
def am_A0 : am_A := ([], [], [])
noncomputable def am_none : Nat → am_G := fun _ _ _ _ _ _ => none
theorem am_kn0 (X : List Int) : am_kn am_A0 X := ⟨trivial, fun e he => (by cases he), fun e he => (by cases he)⟩
def am_bodC (b : Nat) (r : Option am_O) : Bool := match r with
  | some o => Nat.beq o.1 1 && (Nat.beq o.2.1.1 1 && (Nat.beq o.2.1.2.1 b && (List.isEmpty o.2.1.2.2 && (Nat.beq o.2.2.2.2.2.2.1 0 && Nat.beq o.2.2.2.2.2.2.2 0))))
  | none => false
theorem am_bodC_ok {b : Nat} {r : Option am_O} (h : am_bodC b r = true) : ∃ o, r = some o ∧ o.1 = 1 ∧ o.2.1 = (1, b, []) ∧ o.2.2.2.2.2.2.1 = 0 ∧ o.2.2.2.2.2.2.2 = 0 := by
  cases r with
  | none => cases h
  | some o =>
    simp only [am_bodC, Bool.and_eq_true] at h
    obtain ⟨a1, a2, a3, a4, a5, a6⟩ := h
    exact ⟨o, rfl, Nat.eq_of_beq_eq_true a1, Prod.ext (Nat.eq_of_beq_eq_true a2) (Prod.ext (Nat.eq_of_beq_eq_true a3) (List.isEmpty_iff.mp a4)), Nat.eq_of_beq_eq_true a5, Nat.eq_of_beq_eq_true a6⟩
def am_bodL (b : Nat) : List am_V := [(3, b, []), am_un0, am_un0, am_un0, am_un0, am_un0, am_un0]
theorem am_bodP (b : Nat) : am_pad am_un0 (am_lay [(3, b, [])]) am_m18.2.2.1 = some (am_bodL b) := by
  have e1 : am_lay [(3, b, [])] = [(3, b, []), am_un0] := by
    first
      | rfl
      | with_unfolding_all rfl
      | simp [am_lay, am_c2, am_if]
  have e2 : am_m18.2.2.1 = 7 := by
    first
      | rfl
      | with_unfolding_all rfl
  rw [e1, e2]
  unfold am_bodL
  first
    | rfl
    | with_unfolding_all rfl
    | simp [am_pad, am_ob, am_rep]
noncomputable def am_bodG : am_G := am_runP am_A0 am_none am_p18 400 am_p18
theorem am_bodT_1 : (List.range 100).all (fun k => [4607182418800017408, 4611686018427387904, 4613937818241073152, 4616189618054758400].all (fun n => am_bodC (am_bits (k : Int) n).toNat (am_bodG (am_bodL (am_bits (k : Int) n).toNat) [] am_h0 0 0))) = true := by decide +kernel
theorem am_bodT_2 : (List.range 101).all (fun k => [4607182418800017408, 4611686018427387904, 4613937818241073152, 4616189618054758400].all (fun n => am_bodC (am_bits ((k + 100 : Nat) : Int) n).toNat (am_bodG (am_bodL (am_bits ((k + 100 : Nat) : Int) n).toNat) [] am_h0 0 0))) = true := by decide +kernel
theorem am_bodT_ok {k n : Nat} (hk : k ≤ 200) (hn : am_d14 n = true) : am_bodC (am_bits (k : Int) n).toNat (am_bodG (am_bodL (am_bits (k : Int) n).toNat) [] am_h0 0 0) = true := by
  by_cases h : k < 100
  · exact List.all_eq_true.mp (List.all_eq_true.mp am_bodT_1 k (List.mem_range.mpr h)) n (am_d14_mem hn)
  · have h1 := List.all_eq_true.mp (List.all_eq_true.mp am_bodT_2 (k - 100) (List.mem_range.mpr (by omega))) n (am_d14_mem hn)
    rw [Nat.sub_add_cancel (by omega)] at h1
    exact h1
theorem am_rm_ok (d a b : Nat) : d + 21 ≤ (am_rm (d + 1) a b).frames ∧ 100 * d + 500 ≤ (am_rm (d + 1) a b).locals := by
  have e1 : (am_rm (d + 1) a b).frames = d + 1 + 20 := rfl
  have e2 : (am_rm (d + 1) a b).locals = 100 * (d + 1) + 400 := rfl
  rw [e1, e2]
  omega
theorem am_subNone (l : Launch) (Y : am_Y) (d : Nat) : am_SubOK l Y d am_none := fun mi M as lo1 h o _ _ hr => by cases hr
theorem am_bodOK {l : Launch} {Y : am_Y} (hG : am_Gl l Y) (d : Nat) : am_BodOK l Y (d + 1) am_m18 := by
  intro k n hk hn
  obtain ⟨o, hrun, e1, e2, e3, e4⟩ := am_bodC_ok (am_bodT_ok hk hn)
  refine ⟨o, e1, e2, e3, e4, am_callee9 (g := am_bodG) (by decide +kernel) (am_bodP _) hrun (by omega) (fun ad p e s m args below meth c Q hF htab hnm => ?_) []⟩
  have h2 := am_rm_ok d o.2.2.2.2.2.2.1 o.2.2.2.2.2.2.2
  have h3 := am_runOK (Q := Q) (ad0 := ad) (c0 := 0) (q0 := 0) (e := e) (below := below) hG hF (am_kn0 Y.2.2.1) htab hnm h2.1 h2.2 (am_subNone l Y d) (b9 := false) (fun q => by cases q) am_mk18 400 0 0 (am_mck_0 am_mk18)
  rw [am_dr_0, ← am_cm18] at h3
  exact h3
theorem am_subOK {l : Launch} {Y : am_Y} {A : am_A} (hG : am_Gl l Y) (hA : am_kn A Y.2.2.1) (F : Nat) : ∀ d : Nat, am_SubOK l Y (d + 1) (am_sub A F am_codes d)
  | 0 => fun mi M as lo1 h o _ _ hr => by cases hr
  | d + 1 => fun mi M as lo1 h o hM hpad hr ho ad => by
    have ih := am_subOK hG hA F d
    have hr2 : (match am_nth am_codes mi with
      | some c => am_runP A (am_sub A F am_codes d) c F c
      | none => fun _ _ _ _ _ => none) lo1 [] h 0 0 = some o := hr
    rw [am_nth_eq] at hr2
    cases hc : am_codes[mi]? with
    | none => rw [hc] at hr2; cases hr2
    | some c =>
      rw [hc] at hr2
      rcases am_all2_at am_goodAll hM hc with rfl | ⟨⟨b9, hck⟩, rfl, hpl⟩
      · cases F <;> cases hr2
      · refine am_callee9 (g := am_runP A (am_sub A F am_codes d) (am_comp am_db am_hc am_bl M) F (am_comp am_db am_hc am_bl M)) hpl hpad hr2 ho (fun ad p e s m args below meth c Q hF htab hnm => ?_) ad
        have h2 := am_rm_ok (d + 1) o.2.2.2.2.2.2.1 o.2.2.2.2.2.2.2
        have h3 := am_runOK (Q := Q) (ad0 := ad) (c0 := 0) (q0 := 0) (e := e) (below := below) hG hF hA htab hnm h2.1 h2.2 ih (b9 := b9) (fun _ => am_bodOK hG d) hck F 0 0 (am_mck_0 hck)
        rw [am_dr_0] at h3
        exact h3
end
section
/-! ===== what holds at the law's entry ===== -/
theorem am_gInst : am_cl.all (fun q => decide (Cond.instantiable q.1 q.2.2 ∈ lw_tbl)) = true := by decide +kernel
theorem am_gStr : am_strs.all (fun q => decide (q.1 = RX6) && decide (Cond.stringRef q.1 q.2.1 q.2.2 ∈ lw_tbl)) = true := by decide +kernel
theorem am_gNc : (List.range 6).all (fun i => (List.range 6).all (fun j => Nat.beq i j || (match am_ex[i]?, am_ex[j]? with
    | some E, some F => decide (Cond.not (.castable E F) ∈ flatC (Jvm.Cond.and given_1 narrow_1))
    | _, _ => false))) = true := by decide +kernel
theorem am_gThr : Cond.initialized "java/lang/Throwable" ∈ lw_tbl := by decide +kernel
theorem am_gU : Cond.isRef (.static Bundle.tN "UNASSIGNED_STACK" Bundle.steD) ∈ flatC (Jvm.Cond.and given_1 narrow_1) := by decide +kernel
theorem am_gN : Cond.isRef (.static Bundle.tN "SUPPRESSED_SENTINEL" Bundle.listD) ∈ flatC (Jvm.Cond.and given_1 narrow_1) := by decide +kernel
theorem am_exLt {i : Nat} {E : String} (h : am_ex[i]? = some E) : i < 6 := (List.getElem?_eq_some_iff.mp h).1
theorem am_gKl {s : State} {args : Array Value} (hts : ∀ w ∈ lw_tbl, w.before args s = true) : ∃ D : va_G, ∀ (k : Nat) (q : vw_C), am_cl[k]? = some q → u_Kn s q.1 q.2.1 q.2.2 (D.1 k) (D.2 k) := by
  have h1 : ∀ k : Nat, ∃ r : ClassId × (Nat → Nat), ∀ q : vw_C, am_cl[k]? = some q → u_Kn s q.1 q.2.1 q.2.2 r.1 r.2 := by
    intro k
    cases hq : am_cl[k]? with
    | none => exact ⟨(0, fun _ => 0), fun q h => by cases h⟩
    | some q =>
      have hm := List.all_eq_true.mp am_gInst q (List.mem_of_getElem? hq)
      obtain ⟨cC, iS, h⟩ := u_known (ws := am_ws) (fun w hw => hts w (List.mem_filter.mp hw).1) (am_lay_in k q hq) (hts _ (of_decide_eq_true hm))
      exact ⟨(cC, iS), fun q' h' => by cases h'; exact h⟩
  obtain ⟨f, hf⟩ := Classical.axiomOfChoice h1
  exact ⟨(fun k => (f k).1, fun k => (f k).2), hf⟩
theorem am_glob {l : Launch} (hflags : l.flags = flags0) {s : State} {args : Array Value} (hW : s.WarmedH s.vm) (hts : ∀ w ∈ lw_tbl, w.before args s = true) (hgv : (Jvm.Cond.and given_1 narrow_1).before args s = true) : ∃ D : va_G, ∀ (X : List Int) (b : Nat), am_Gl l (s, D, X, b) := by
  obtain ⟨D, hD⟩ := am_gKl hts
  have hs := flat_of_before _ hgv
  refine ⟨D, fun X b => ⟨?_, hD, ⟨va_AO.of (hts _ (am_atw_in (i := 56) rfl)), va_AO.of (hts _ (am_atw_in (i := 58) rfl)), va_AO.of (hts _ (am_atw_in (i := 66) rfl)), (hts _ (am_atw_in (i := 161) rfl) : (Cond.arrayOver (.array .int)).before args s = true)⟩, fun w hw hk => ?_, ?_, ?_, fun q hq => ?_, fun i j E F hij hE hF => ?_⟩⟩
  · unfold Launch.stackTraces
    rw [hflags]
    decide
  · have h0 := hts w hw
    unfold am_wk at hk
    rw [Bool.or_eq_true] at hk
    rcases hk with h | h
    · exact word_at hW (good_of_word h) h0
    · split at h
      · exact h0
      · exact h0
      · exact h0
      · cases h
  · exact vx_Zqof (hts _ (am_atw_in (i := 408) rfl)) (hts _ am_gThr) (hs _ am_gU) (fun a h1 h2 => absurd h1 (Nat.not_lt.mpr h2))
  · exact vx_Zqof (hts _ (am_atw_in (i := 410) rfl)) (hts _ am_gThr) (hs _ am_gN) (fun a h1 h2 => absurd h1 (Nat.not_lt.mpr h2))
  · have h1 := List.all_eq_true.mp am_gStr q hq
    rw [Bool.and_eq_true, decide_eq_true_eq, decide_eq_true_eq] at h1
    have h2 := hts _ h1.2
    have h3 : s.vm.findClass RX6 = some (D.1 6) := (hD 6 _ rfl).2.1
    obtain ⟨k, cf, i, a, -, -, -, -, -, h4⟩ := Cond.stringRef_spec (args := #[]) (first := s) (o := none) (idx := []) (by rw [h1.1]; exact h3) h2
    exact ⟨a, vk_R.of h2 h4⟩
  · have h1 := List.all_eq_true.mp (List.all_eq_true.mp am_gNc i (List.mem_range.mpr (am_exLt hE))) j (List.mem_range.mpr (am_exLt hF))
    rw [Bool.or_eq_true] at h1
    rcases h1 with h1 | h1
    · exact absurd (Nat.eq_of_beq_eq_true h1) hij
    · rw [hE, hF] at h1
      exact va_Nc.of (hs _ (of_decide_eq_true h1))
end
section
/-! ===== one run, then another from where it stopped ===== -/
noncomputable def am_then (pc1 : Nat) (g1 g2 : am_G) : am_G := fun lo stk h nc ns => am_ob (g1 lo stk h nc ns) (fun o => am_if (am_and (Nat.beq o.1 3) (Nat.beq o.2.2.1 pc1)) (g2 o.2.2.2.1 o.2.2.2.2.1 o.2.2.2.2.2.1 o.2.2.2.2.2.2.1 o.2.2.2.2.2.2.2) none)
theorem am_then_eq {pc1 : Nat} {g1 g2 : am_G} {lo stk : List am_V} {h : am_H} {nc ns : Nat} {o1 : am_O} {r : Option am_O} (e1 : g1 lo stk h nc ns = some o1) (e2 : am_and (Nat.beq o1.1 3) (Nat.beq o1.2.2.1 pc1) = true) (e3 : g2 o1.2.2.2.1 o1.2.2.2.2.1 o1.2.2.2.2.2.1 o1.2.2.2.2.2.2.1 o1.2.2.2.2.2.2.2 = r) : am_then pc1 g1 g2 lo stk h nc ns = r := by
  unfold am_then
  rw [e1]
  show am_if (am_and (Nat.beq o1.1 3) (Nat.beq o1.2.2.1 pc1)) _ none = r
  rw [e2]
  exact e3
section AMTHEN
variable {p : Program} {l : Launch} {e : Env} {R : Room} {s : State} {m : MethodId} {args : Array Value} {below : List Frame} {meth : Method} {c : Code} {Q : State → Prop} {Y : am_Y} {A : am_A} {ad0 : List Nat} {nL c0 q0 : Nat} {code : ByteArray} {rt : Option FieldType}
theorem am_sThen {g1 g2 : am_G} {pc pc1 : Nat} (h1 : am_Snd p l e R s m args below meth c Q Y ad0 nL c0 q0 code rt g1 pc) (h2 : am_Snd p l e R s m args below meth c Q Y ad0 nL c0 q0 code rt g2 pc1) : am_Snd p l e R s m args below meth c Q Y ad0 nL c0 q0 code rt (am_then pc1 g1 g2) pc := by
  intro lo stk h nc ns o ho
  obtain ⟨o1, e1, ho1⟩ := am_ob_some ho
  obtain ⟨hc, ho2⟩ := am_if_some ho1
  rw [am_and_t] at hc
  have k3 := am_tag hc.1
  have kp := am_tag hc.2
  obtain ⟨a1, a2, -, a4⟩ := h1 lo stk h nc ns o1 e1
  obtain ⟨b1, b2, b3, b4⟩ := h2 _ _ _ _ _ o ho2
  refine ⟨by omega, by omega, b3, fun ad H locs ls S hp hlo hs r1 r2 hk => ?_⟩
  refine a4 ad H locs ls S hp hlo hs (by omega) (by omega) fun ad' H' locs' ls' S' l1 hp' hlo' hs' => ⟨fun _ => ?_, fun q => by omega⟩
  rw [kp]
  exact b4 ad' H' locs' ls' S' hp' hlo' hs' r1 r2 (am_Kont_le hk l1)
end AMTHEN
/-- callees of which some are known by what they come to -/
noncomputable def am_with (ks : List (Nat × am_G)) (sub : Nat → am_G) (mi : Nat) : am_G := List.rec (motive := fun _ => am_G) (sub mi) (fun x _ ih => am_if (Nat.beq x.1 mi) x.2 ih) ks
theorem am_with_ok {l : Launch} {Y : am_Y} {d : Nat} {sub : Nat → am_G} (hs : am_SubOK l Y d sub) : ∀ {ks : List (Nat × am_G)}, (∀ x ∈ ks, ∀ (M : am_M) (as lo1 : List am_V) (h : am_H) (o : am_O), am_db[x.1]? = some M → am_pad am_un0 (am_lay as) M.2.2.1 = some lo1 → x.2 lo1 [] h 0 0 = some o → o.1 ≤ 2 → ∀ ad : List Nat, vx_Met l M.1 (am_head M :: am_ws) (am_rm d o.2.2.2.2.2.2.1 o.2.2.2.2.2.2.2) (am_Pc Y ad as h) (am_Qc Y ad o) (am_XC Y ad o) o.2.2.2.2.2.2.1 o.2.2.2.2.2.2.2 (fun q => Y.1.heap.size ≤ q)) → am_SubOK l Y d (am_with ks sub)
  | [], _ => hs
  | x :: xs, hk => fun mi M as lo1 h o hM hpad hr ho ad => by
    have ih := am_with_ok hs (ks := xs) (fun y hy => hk y (List.mem_cons_of_mem _ hy))
    have hr2 : (am_if (Nat.beq x.1 mi) x.2 (am_with xs sub mi)) lo1 [] h 0 0 = some o := hr
    cases hq : Nat.beq x.1 mi with
    | true =>
      rw [hq] at hr2
      have e := am_tag hq
      subst e
      exact hk x List.mem_cons_self M as lo1 h o hM hpad hr2 ho ad
    | false =>
      rw [hq] at hr2
      exact ih mi M as lo1 h o hM hpad hr2 ho ad
end
