/-! ===== rows by instruction: the pure ones ===== -/
theorem am_tg0 {Y : am_Y} {ad : List Nat} {u : am_V} {U : Value} (h : Nat.beq u.1 0 = true) (k : am_V1 Y ad u U) : U = .int (Int32.ofNat u.2.1) := by
  obtain ⟨t, n, f⟩ := u
  have e := am_tag h
  dsimp only at e
  subst e
  exact k
theorem am_tg1 {Y : am_Y} {ad : List Nat} {u : am_V} {U : Value} (h : Nat.beq u.1 1 = true) (k : am_V1 Y ad u U) : U = .long (Int64.ofNat u.2.1) := by
  obtain ⟨t, n, f⟩ := u
  have e := am_tag h
  dsimp only at e
  subst e
  exact k
theorem am_tg2 {Y : am_Y} {ad : List Nat} {u : am_V} {U : Value} (h : Nat.beq u.1 2 = true) (k : am_V1 Y ad u U) : U = .float (UInt32.ofNat u.2.1) := by
  obtain ⟨t, n, f⟩ := u
  have e := am_tag h
  dsimp only at e
  subst e
  exact k
theorem am_tg3 {Y : am_Y} {ad : List Nat} {u : am_V} {U : Value} (h : Nat.beq u.1 3 = true) (k : am_V1 Y ad u U) : U = .double (UInt64.ofNat u.2.1) := by
  obtain ⟨t, n, f⟩ := u
  have e := am_tag h
  dsimp only at e
  subst e
  exact k
theorem am_bif_some {α : Type} {b : Bool} {t : Option α} {r : α} (h : (bif b then t else none) = some r) : b = true ∧ t = some r := by
  cases b with
  | true => exact ⟨rfl, h⟩
  | false => cases h
theorem am_tI_98 : ∀ v : am_V, am_tI v = true → v.1 ≠ 98 := fun v h e => by
  rcases am_or_t.mp h with q | q <;> (rw [e] at q; cases q)
theorem am_tL_98 : ∀ v : am_V, am_tL v = true → v.1 ≠ 98 := fun v h e => by
  rcases am_or_t.mp h with q | q <;> (rw [e] at q; cases q)
theorem am_tF_98 : ∀ v : am_V, am_tF v = true → v.1 ≠ 98 := fun v h e => by
  have q : Nat.beq v.1 2 = true := h
  rw [e] at q
  cases q
theorem am_tD_98 : ∀ v : am_V, am_tD v = true → v.1 ≠ 98 := fun v h e => by
  rcases am_or_t.mp h with q | q
  · rw [e] at q; cases q
  · rcases am_or_t.mp q with q | q <;> (rw [e] at q; cases q)
theorem am_tR_98 : ∀ v : am_V, am_tR v = true → v.1 ≠ 98 := fun v h e => by
  rcases am_or_t.mp h with q | q
  · rw [e] at q; cases q
  · rcases am_or_t.mp q with q | q <;> (rw [e] at q; cases q)
theorem am_tA_98 : ∀ v : am_V, am_tA v = true → v.1 ≠ 98 := fun v h e => by
  rcases am_or_t.mp h with q | q
  · exact am_tR_98 v q e
  · rw [e] at q; cases q
section AMROWP
variable {p : Program} {l : Launch} {e : Env} {R : Room} {s : State} {m : MethodId} {args : Array Value} {below : List Frame} {meth : Method} {c : Code} {Q : State → Prop} {Y : am_Y} {A : am_A} {ad0 : List Nat} {nL c0 q0 : Nat} {code : ByteArray} {rt : Option FieldType}
variable {sub : Nat → am_G} {go : am_G} {jmp : Nat → am_G} {pc : Nat} {own : String}
theorem am_rIconst (hx : p.tables.exec = exec) (hb : c.code = code) {n : Int} (hd : decode code pc = .ok (.iconst n, 1)) (hgo : am_Snd p l e R s m args below meth c Q Y ad0 nL c0 q0 code rt go (pc + 1)) : am_Snd p l e R s m args below meth c Q Y ad0 nL c0 q0 code rt (am_oPush (am_int n) A sub go jmp) pc := am_sPush hgo fun ad H locs k j ls S => ⟨_, am_R_i n, fun h => lv_iconst hx hb hd rfl h⟩
theorem am_rBipush (hx : p.tables.exec = exec) (hb : c.code = code) {n : Int} (hv : (Int8.ofInt n).toInt32 = Int32.ofInt n) (hd : decode code pc = .ok (.bipush n, 2)) (hgo : am_Snd p l e R s m args below meth c Q Y ad0 nL c0 q0 code rt go (pc + 2)) : am_Snd p l e R s m args below meth c Q Y ad0 nL c0 q0 code rt (am_oPush (am_int n) A sub go jmp) pc := am_sPush hgo fun ad H locs k j ls S => ⟨_, am_R_i n, fun h => lv_bipush hx hb hd hv h⟩
theorem am_rSipush (hx : p.tables.exec = exec) (hb : c.code = code) {n : Int} (hv : (Int16.ofInt n).toInt32 = Int32.ofInt n) (hd : decode code pc = .ok (.sipush n, 3)) (hgo : am_Snd p l e R s m args below meth c Q Y ad0 nL c0 q0 code rt go (pc + 3)) : am_Snd p l e R s m args below meth c Q Y ad0 nL c0 q0 code rt (am_oPush (am_int n) A sub go jmp) pc := am_sPush hgo fun ad H locs k j ls S => ⟨_, am_R_i n, fun h => lv_sipush hx hb hd hv h⟩
theorem am_rLconst (hx : p.tables.exec = exec) (hb : c.code = code) {n : Fin 2} (hd : decode code pc = .ok (.lconst n, 1)) (hgo : am_Snd p l e R s m args below meth c Q Y ad0 nL c0 q0 code rt go (pc + 1)) : am_Snd p l e R s m args below meth c Q Y ad0 nL c0 q0 code rt (am_oPush (1, n.val, []) A sub go jmp) pc := am_sPush hgo fun ad H locs k j ls S => ⟨.long (Int64.ofNat n.val), rfl, fun h => lv_lconst hx hb hd rfl h⟩
theorem am_rFconst (hx : p.tables.exec = exec) (hb : c.code = code) {n : Fin 3} (hd : decode code pc = .ok (.fconst n, 1)) (hgo : am_Snd p l e R s m args below meth c Q Y ad0 nL c0 q0 code rt go (pc + 1)) : am_Snd p l e R s m args below meth c Q Y ad0 nL c0 q0 code rt (am_oPush (am_ofF (match n with | 0 => FP.fconst0 | 1 => FP.fconst1 | 2 => FP.fconst2)) A sub go jmp) pc := by
  match n, hd with
  | 0, hd => exact am_sPush hgo fun ad H locs k j ls S => ⟨_, am_ofF_ok _ _ _ _, fun h => lv_fconst0 hx hb hd h⟩
  | 1, hd => exact am_sPush hgo fun ad H locs k j ls S => ⟨_, am_ofF_ok _ _ _ _, fun h => lv_fconst1 hx hb hd h⟩
  | 2, hd => exact am_sPush hgo fun ad H locs k j ls S => ⟨_, am_ofF_ok _ _ _ _, fun h => lv_fconst2 hx hb hd h⟩
theorem am_rDconst (hx : p.tables.exec = exec) (hb : c.code = code) {n : Fin 2} (hd : decode code pc = .ok (.dconst n, 1)) (hgo : am_Snd p l e R s m args below meth c Q Y ad0 nL c0 q0 code rt go (pc + 1)) : am_Snd p l e R s m args below meth c Q Y ad0 nL c0 q0 code rt (am_oPush (am_ofD (match n with | 0 => FP.dconst0 | 1 => FP.dconst1)) A sub go jmp) pc := by
  match n, hd with
  | 0, hd => exact am_sPush hgo fun ad H locs k j ls S => ⟨_, am_ofD_ok _ _ _ _, fun h => lv_dconst0 hx hb hd h⟩
  | 1, hd => exact am_sPush hgo fun ad H locs k j ls S => ⟨_, am_ofD_ok _ _ _ _, fun h => lv_dconst1 hx hb hd h⟩
theorem am_rLdcI (hx : p.tables.exec = exec) (hb : c.code = code) (hown : s.vm.findClass own = some m.cls) {idx n : Nat} (hw : (Cond.constant own idx (Int32.ofNat n)).before args s = true) (hd : decode code pc = .ok (.ldc idx, 2)) (hgo : am_Snd p l e R s m args below meth c Q Y ad0 nL c0 q0 code rt go (pc + 2)) : am_Snd p l e R s m args below meth c Q Y ad0 nL c0 q0 code rt (am_oPush (0, n, []) A sub go jmp) pc := am_sPush hgo fun ad H locs k j ls S => ⟨.int (Int32.ofNat n), rfl, fun h => lv_ldc hx hb hown hw hd h⟩
theorem am_rLdcF (hx : p.tables.exec = exec) (hb : c.code = code) (hown : s.vm.findClass own = some m.cls) {idx n : Nat} (hw : (Cond.constantFloat own idx (UInt32.ofNat n)).before args s = true) (hd : decode code pc = .ok (.ldc idx, 2)) (hgo : am_Snd p l e R s m args below meth c Q Y ad0 nL c0 q0 code rt go (pc + 2)) : am_Snd p l e R s m args below meth c Q Y ad0 nL c0 q0 code rt (am_oPush (2, n, []) A sub go jmp) pc := am_sPush hgo fun ad H locs k j ls S => ⟨.float (UInt32.ofNat n), rfl, fun h => lv_ldcf hx hb hown hw hd h⟩
theorem am_rLdcW (hx : p.tables.exec = exec) (hb : c.code = code) (hown : s.vm.findClass own = some m.cls) {idx n : Nat} (hw : (Cond.constant own idx (Int32.ofNat n)).before args s = true) (hd : decode code pc = .ok (.ldc_w idx, 3)) (hgo : am_Snd p l e R s m args below meth c Q Y ad0 nL c0 q0 code rt go (pc + 3)) : am_Snd p l e R s m args below meth c Q Y ad0 nL c0 q0 code rt (am_oPush (0, n, []) A sub go jmp) pc := am_sPush hgo fun ad H locs k j ls S => ⟨.int (Int32.ofNat n), rfl, fun h => lv_ldcw hx hb hown hw hd h⟩
theorem am_ldcFW0 {T : State} {locs : List Loc} {cells slots : Nat} (X : Stand p l e R s m args below meth c T locs cells slots) (hexec : p.tables.exec = Jvm.exec) {index : Nat} {v : UInt32} (hown : s.vm.findClass own = some m.cls)
    (hconst : (Cond.constantFloat own index v).before args s = true) {g : JFrame} (hg : g.method = m) (hdg : decode c.code g.pc = .ok (.ldc_w index, 3)) :
    ∀ target, Steps p.tables e below (T.setTop { g with pc := g.pc + 3, stack := .float v :: g.stack }) target → Steps p.tables e below (T.setTop g) target := by
  obtain ⟨k, cf, hk, hcf, hcp⟩ := Cond.constantFloat_spec hown hconst
  obtain ⟨k', hk', he⟩ := X.warmed.alike.2.2 _ _ hk
  intro target hrest
  subst hg
  jvm_step X.here [hexec, hdg, ldc_w.wp_float (s := T) (f := g) X.here.top hk' (by rw [he]; exact hcf) hcp]
  exact hrest
theorem am_rLdcFW (hx : p.tables.exec = exec) (hb : c.code = code) (hown : s.vm.findClass own = some m.cls) {idx n : Nat} (hw : (Cond.constantFloat own idx (UInt32.ofNat n)).before args s = true) (hd : decode code pc = .ok (.ldc_w idx, 3)) (hgo : am_Snd p l e R s m args below meth c Q Y ad0 nL c0 q0 code rt go (pc + 3)) : am_Snd p l e R s m args below meth c Q Y ad0 nL c0 q0 code rt (am_oPush (2, n, []) A sub go jmp) pc := am_sPush hgo fun ad H locs k j ls S => ⟨.float (UInt32.ofNat n), rfl, fun h => by
  intro T hT X
  obtain ⟨t, a, b⟩ := h T hT X
  exact ⟨t, am_ldcFW0 X hx hown hw (g := F0 m pc ls S) rfl (by rw [hb]; exact hd) t a, b⟩⟩
theorem am_rLdcL (hx : p.tables.exec = exec) (hb : c.code = code) (hown : s.vm.findClass own = some m.cls) {idx n : Nat} (hw : (Cond.constantLong own idx (Int64.ofNat n)).before args s = true) (hd : decode code pc = .ok (.ldc2_w idx, 3)) (hgo : am_Snd p l e R s m args below meth c Q Y ad0 nL c0 q0 code rt go (pc + 3)) : am_Snd p l e R s m args below meth c Q Y ad0 nL c0 q0 code rt (am_oPush (1, n, []) A sub go jmp) pc := am_sPush hgo fun ad H locs k j ls S => ⟨.long (Int64.ofNat n), rfl, fun h => lv_ldc2 hx hb hown hw hd h⟩
theorem am_rLdcD (hx : p.tables.exec = exec) (hb : c.code = code) (hown : s.vm.findClass own = some m.cls) {idx n : Nat} (hw : (Cond.constantDouble own idx (UInt64.ofNat n)).before args s = true) (hd : decode code pc = .ok (.ldc2_w idx, 3)) (hgo : am_Snd p l e R s m args below meth c Q Y ad0 nL c0 q0 code rt go (pc + 3)) : am_Snd p l e R s m args below meth c Q Y ad0 nL c0 q0 code rt (am_oPush (3, n, []) A sub go jmp) pc := am_sPush hgo fun ad H locs k j ls S => ⟨.double (UInt64.ofNat n), rfl, fun h => lv_ldc2d hx hb hown hw hd h⟩
theorem am_rIload (hx : p.tables.exec = exec) (hb : c.code = code) {i : Nat} (hd : decode code pc = .ok (.iload i, 2)) (hgo : am_Snd p l e R s m args below meth c Q Y ad0 nL c0 q0 code rt go (pc + 2)) : am_Snd p l e R s m args below meth c Q Y ad0 nL c0 q0 code rt (am_oLoad am_tI i A sub go jmp) pc := am_sLoad am_tI_98 hgo fun ad v V hv hok H locs k n ls S hl h => by
  obtain ⟨x, rfl⟩ := am_tI_ok hv hok
  exact lv_iload hx hb hd hl h
theorem am_rIloadn (hx : p.tables.exec = exec) (hb : c.code = code) {i : Fin 4} (hd : decode code pc = .ok (.iload_n i, 1)) (hgo : am_Snd p l e R s m args below meth c Q Y ad0 nL c0 q0 code rt go (pc + 1)) : am_Snd p l e R s m args below meth c Q Y ad0 nL c0 q0 code rt (am_oLoad am_tI i.val A sub go jmp) pc := am_sLoad am_tI_98 hgo fun ad v V hv hok H locs k n ls S hl h => by
  obtain ⟨x, rfl⟩ := am_tI_ok hv hok
  exact lv_iload_n hx hb hd rfl hl h
theorem am_rIstore (hx : p.tables.exec = exec) (hb : c.code = code) {i : Nat} (hd : decode code pc = .ok (.istore i, 2)) (hgo : am_Snd p l e R s m args below meth c Q Y ad0 nL c0 q0 code rt go (pc + 2)) : am_Snd p l e R s m args below meth c Q Y ad0 nL c0 q0 code rt (am_oStore am_tI i A sub go jmp) pc := am_sStore hgo fun ad v V hv hok H locs k n ls S lv h1 h2 h => by
  obtain ⟨x, rfl⟩ := am_tI_ok hv hok
  exact lv_istore hx hb hd h1 h2 rfl h
theorem am_rIstoren (hx : p.tables.exec = exec) (hb : c.code = code) {i : Fin 4} (hd : decode code pc = .ok (.istore_n i, 1)) (hgo : am_Snd p l e R s m args below meth c Q Y ad0 nL c0 q0 code rt go (pc + 1)) : am_Snd p l e R s m args below meth c Q Y ad0 nL c0 q0 code rt (am_oStore am_tI i.val A sub go jmp) pc := am_sStore hgo fun ad v V hv hok H locs k n ls S lv h1 h2 h => by
  obtain ⟨x, rfl⟩ := am_tI_ok hv hok
  exact lv_istore_n hx hb hd rfl h1 h2 rfl h
theorem am_rLload (hx : p.tables.exec = exec) (hb : c.code = code) {i : Nat} (hd : decode code pc = .ok (.lload i, 2)) (hgo : am_Snd p l e R s m args below meth c Q Y ad0 nL c0 q0 code rt go (pc + 2)) : am_Snd p l e R s m args below meth c Q Y ad0 nL c0 q0 code rt (am_oLoad am_tL i A sub go jmp) pc := am_sLoad am_tL_98 hgo fun ad v V hv hok H locs k n ls S hl h => by
  obtain ⟨x, rfl⟩ := am_tL_ok hv hok
  exact lv_lload hx hb hd hl h
theorem am_rLloadn (hx : p.tables.exec = exec) (hb : c.code = code) {i : Fin 4} (hd : decode code pc = .ok (.lload_n i, 1)) (hgo : am_Snd p l e R s m args below meth c Q Y ad0 nL c0 q0 code rt go (pc + 1)) : am_Snd p l e R s m args below meth c Q Y ad0 nL c0 q0 code rt (am_oLoad am_tL i.val A sub go jmp) pc := am_sLoad am_tL_98 hgo fun ad v V hv hok H locs k n ls S hl h => by
  obtain ⟨x, rfl⟩ := am_tL_ok hv hok
  exact lv_lload_n hx hb hd rfl hl h
theorem am_rLstore (hx : p.tables.exec = exec) (hb : c.code = code) {i : Nat} (hd : decode code pc = .ok (.lstore i, 2)) (hgo : am_Snd p l e R s m args below meth c Q Y ad0 nL c0 q0 code rt go (pc + 2)) : am_Snd p l e R s m args below meth c Q Y ad0 nL c0 q0 code rt (am_oStore2 am_tL i A sub go jmp) pc := am_sStore2 hgo fun ad v V hv hok H locs k n ls S lv h1 h2 h => by
  obtain ⟨x, rfl⟩ := am_tL_ok hv hok
  exact lv_lstore hx hb hd h1 h2 rfl h
theorem am_rLstoren (hx : p.tables.exec = exec) (hb : c.code = code) {i : Fin 4} (hd : decode code pc = .ok (.lstore_n i, 1)) (hgo : am_Snd p l e R s m args below meth c Q Y ad0 nL c0 q0 code rt go (pc + 1)) : am_Snd p l e R s m args below meth c Q Y ad0 nL c0 q0 code rt (am_oStore2 am_tL i.val A sub go jmp) pc := am_sStore2 hgo fun ad v V hv hok H locs k n ls S lv h1 h2 h => by
  obtain ⟨x, rfl⟩ := am_tL_ok hv hok
  exact lv_lstore_n hx hb hd rfl h1 h2 rfl h
theorem am_rFloadn (hx : p.tables.exec = exec) (hb : c.code = code) {i : Fin 4} (hd : decode code pc = .ok (.fload_n i, 1)) (hgo : am_Snd p l e R s m args below meth c Q Y ad0 nL c0 q0 code rt go (pc + 1)) : am_Snd p l e R s m args below meth c Q Y ad0 nL c0 q0 code rt (am_oLoad am_tF i.val A sub go jmp) pc := am_sLoad am_tF_98 hgo fun ad v V hv hok H locs k n ls S hl h => by
  obtain ⟨x, rfl⟩ := am_tF_ok hv hok
  exact lv_fload_n hx hb hd rfl hl h
theorem am_rFstoren (hx : p.tables.exec = exec) (hb : c.code = code) {i : Fin 4} (hd : decode code pc = .ok (.fstore_n i, 1)) (hgo : am_Snd p l e R s m args below meth c Q Y ad0 nL c0 q0 code rt go (pc + 1)) : am_Snd p l e R s m args below meth c Q Y ad0 nL c0 q0 code rt (am_oStore am_tF i.val A sub go jmp) pc := am_sStore hgo fun ad v V hv hok H locs k n ls S lv h1 h2 h => by
  obtain ⟨x, rfl⟩ := am_tF_ok hv hok
  exact lv_fstore_n hx hb hd rfl h1 h2 rfl h
theorem am_rDloadn (hx : p.tables.exec = exec) (hb : c.code = code) {i : Fin 4} (hd : decode code pc = .ok (.dload_n i, 1)) (hgo : am_Snd p l e R s m args below meth c Q Y ad0 nL c0 q0 code rt go (pc + 1)) : am_Snd p l e R s m args below meth c Q Y ad0 nL c0 q0 code rt (am_oLoad am_tD i.val A sub go jmp) pc := am_sLoad am_tD_98 hgo fun ad v V hv hok H locs k n ls S hl h => by
  obtain ⟨x, rfl⟩ := am_tD_ok hv hok
  exact lv_dload_n hx hb hd rfl hl h
theorem am_rDstoren (hx : p.tables.exec = exec) (hb : c.code = code) {i : Fin 4} (hd : decode code pc = .ok (.dstore_n i, 1)) (hgo : am_Snd p l e R s m args below meth c Q Y ad0 nL c0 q0 code rt go (pc + 1)) : am_Snd p l e R s m args below meth c Q Y ad0 nL c0 q0 code rt (am_oStore2 am_tD i.val A sub go jmp) pc := am_sStore2 hgo fun ad v V hv hok H locs k n ls S lv h1 h2 h => by
  obtain ⟨x, rfl⟩ := am_tD_ok hv hok
  exact lv_dstore_n hx hb hd rfl h1 h2 rfl h
theorem am_rAload (hx : p.tables.exec = exec) (hb : c.code = code) {i : Nat} (hd : decode code pc = .ok (.aload i, 2)) (hgo : am_Snd p l e R s m args below meth c Q Y ad0 nL c0 q0 code rt go (pc + 2)) : am_Snd p l e R s m args below meth c Q Y ad0 nL c0 q0 code rt (am_oLoad am_tA i A sub go jmp) pc := am_sLoad am_tA_98 hgo fun ad v V hv hok H locs k n ls S hl h => by
  rcases am_tA_ok hv hok with rfl | ⟨x, rfl⟩
  · exact lv_aloadN hx hb hd hl h
  · exact lv_aload hx hb hd hl h
theorem am_rAloadn (hx : p.tables.exec = exec) (hb : c.code = code) {i : Fin 4} (hd : decode code pc = .ok (.aload_n i, 1)) (hgo : am_Snd p l e R s m args below meth c Q Y ad0 nL c0 q0 code rt go (pc + 1)) : am_Snd p l e R s m args below meth c Q Y ad0 nL c0 q0 code rt (am_oLoad am_tA i.val A sub go jmp) pc := am_sLoad am_tA_98 hgo fun ad v V hv hok H locs k n ls S hl h => by
  rcases am_tA_ok hv hok with rfl | ⟨x, rfl⟩
  · exact lv_aload_nN hx hb hd rfl hl h
  · exact lv_aload_n hx hb hd rfl hl h
theorem am_rAstore (hx : p.tables.exec = exec) (hb : c.code = code) {i : Nat} (hd : decode code pc = .ok (.astore i, 2)) (hgo : am_Snd p l e R s m args below meth c Q Y ad0 nL c0 q0 code rt go (pc + 2)) : am_Snd p l e R s m args below meth c Q Y ad0 nL c0 q0 code rt (am_oStore am_tA i A sub go jmp) pc := am_sStore hgo fun ad v V hv hok H locs k n ls S lv h1 h2 h => by
  rcases am_tA_ok hv hok with rfl | ⟨x, rfl⟩
  · exact lv_astoreN hx hb hd h1 h2 rfl h
  · exact lv_astore hx hb hd h1 h2 rfl h
theorem am_rAstoren (hx : p.tables.exec = exec) (hb : c.code = code) {i : Fin 4} (hd : decode code pc = .ok (.astore_n i, 1)) (hgo : am_Snd p l e R s m args below meth c Q Y ad0 nL c0 q0 code rt go (pc + 1)) : am_Snd p l e R s m args below meth c Q Y ad0 nL c0 q0 code rt (am_oStore am_tA i.val A sub go jmp) pc := am_sStore hgo fun ad v V hv hok H locs k n ls S lv h1 h2 h => by
  rcases am_tA_ok hv hok with rfl | ⟨x, rfl⟩
  · exact lv_astore_nN hx hb hd rfl h1 h2 rfl h
  · exact lv_astore_n hx hb hd rfl h1 h2 rfl h
theorem am_rIinc (hx : p.tables.exec = exec) (hb : c.code = code) (hA : am_kn A Y.2.2.1) {i : Nat} {z : Int} (hd : decode code pc = .ok (.iinc i z, 3)) (hgo : am_Snd p l e R s m args below meth c Q Y ad0 nL c0 q0 code rt go (pc + 3)) : am_Snd p l e R s m args below meth c Q Y ad0 nL c0 q0 code rt (am_oIinc i z A sub go jmp) pc := am_sIinc hA hgo fun H locs k1 n ls S lv j x v h1 h2 h3 h4 h => lv_iinc hx hb hd h1 h3 h4 h2 rfl h
theorem am_rIadd (hx : p.tables.exec = exec) (hb : c.code = code) (hA : am_kn A Y.2.2.1) (hd : decode code pc = .ok (.iadd, 1)) (hgo : am_Snd p l e R s m args below meth c Q Y ad0 nL c0 q0 code rt go (pc + 1)) : am_Snd p l e R s m args below meth c Q Y ad0 nL c0 q0 code rt (am_oBinA am_iadd A sub go jmp) pc := am_sBinA hgo fun ad u v r U V hu hv hr => by
  obtain ⟨x, y, rfl, rfl, e⟩ := am_R_iadd hA hu hv hr
  exact ⟨_, e, fun H locs k n ls S h => lv_iadd hx hb hd h⟩
theorem am_rIsub (hx : p.tables.exec = exec) (hb : c.code = code) (hA : am_kn A Y.2.2.1) (hd : decode code pc = .ok (.isub, 1)) (hgo : am_Snd p l e R s m args below meth c Q Y ad0 nL c0 q0 code rt go (pc + 1)) : am_Snd p l e R s m args below meth c Q Y ad0 nL c0 q0 code rt (am_oBinA am_isub A sub go jmp) pc := am_sBinA hgo fun ad u v r U V hu hv hr => by
  obtain ⟨x, y, rfl, rfl, e⟩ := am_R_isub hA hu hv hr
  exact ⟨_, e, fun H locs k n ls S h => lv_isub hx hb hd h⟩
theorem am_rImul (hx : p.tables.exec = exec) (hb : c.code = code) (hA : am_kn A Y.2.2.1) (hd : decode code pc = .ok (.imul, 1)) (hgo : am_Snd p l e R s m args below meth c Q Y ad0 nL c0 q0 code rt go (pc + 1)) : am_Snd p l e R s m args below meth c Q Y ad0 nL c0 q0 code rt (am_oBinA am_imul A sub go jmp) pc := am_sBinA hgo fun ad u v r U V hu hv hr => by
  obtain ⟨x, y, rfl, rfl, e⟩ := am_R_imul hA hu hv hr
  exact ⟨_, e, fun H locs k n ls S h => lv_imul hx hb hd h⟩
theorem am_rIdiv (hx : p.tables.exec = exec) (hb : c.code = code) (hA : am_kn A Y.2.2.1) (hd : decode code pc = .ok (.idiv, 1)) (hgo : am_Snd p l e R s m args below meth c Q Y ad0 nL c0 q0 code rt go (pc + 1)) : am_Snd p l e R s m args below meth c Q Y ad0 nL c0 q0 code rt (am_oBinA am_idiv A sub go jmp) pc := am_sBinA hgo fun ad u v r U V hu hv hr => by
  obtain ⟨x, y, rfl, rfl, hne, e⟩ := am_R_idiv hA hu hv hr
  exact ⟨_, e, fun H locs k n ls S h => lv_idiv hx hb hd hne h⟩
theorem am_rIrem (hx : p.tables.exec = exec) (hb : c.code = code) (hA : am_kn A Y.2.2.1) (hd : decode code pc = .ok (.irem, 1)) (hgo : am_Snd p l e R s m args below meth c Q Y ad0 nL c0 q0 code rt go (pc + 1)) : am_Snd p l e R s m args below meth c Q Y ad0 nL c0 q0 code rt (am_oBinA am_irem A sub go jmp) pc := am_sBinA hgo fun ad u v r U V hu hv hr => by
  obtain ⟨x, y, rfl, rfl, hne, e⟩ := am_R_irem hA hu hv hr
  exact ⟨_, e, fun H locs k n ls S h => lv_irem hx hb hd hne h⟩
end AMROWP
