/-! ===== rows by instruction: numbers and branches ===== -/
theorem am_n32_ok {r : UInt32} (h : am_n32 r = true) : vf_n32 r := of_decide_eq_true (p := r &&& 0x7fffffff ≤ 0x7f800000) h
theorem am_n64_ok {r : UInt64} (h : am_n64 r = true) : vf_n64 r := of_decide_eq_true (p := r &&& 0x7fffffffffffffff ≤ 0x7ff0000000000000) h
section AMROWN
variable {p : Program} {l : Launch} {e : Env} {R : Room} {s : State} {m : MethodId} {args : Array Value} {below : List Frame} {meth : Method} {c : Code} {Q : State → Prop} {Y : am_Y} {A : am_A} {ad0 : List Nat} {nL c0 q0 : Nat} {code : ByteArray} {rt : Option FieldType}
variable {sub : Nat → am_G} {go : am_G} {jmp : Nat → am_G} {pc : Nat} {own : String}
theorem am_rIor (hx : p.tables.exec = exec) (hb : c.code = code) (hd : decode code pc = .ok (.ior, 1)) (hgo : am_Snd p l e R s m args below meth c Q Y ad0 nL c0 q0 code rt go (pc + 1)) : am_Snd p l e R s m args below meth c Q Y ad0 nL c0 q0 code rt (am_oBin (am_i22 (fun x y => am_ofI (x ||| y))) A sub go jmp) pc := am_sBin hgo fun ad u v r U V hu hv hr => by
  obtain ⟨hk, hr⟩ := am_if_some hr
  obtain ⟨e1, e2⟩ := am_R_k2 hk hu hv
  cases hr
  subst e1
  subst e2
  exact ⟨_, am_ofI_ok _ _ _ _, fun H locs k n ls S h => lv_ior hx hb hd h⟩
theorem am_rIshl (hx : p.tables.exec = exec) (hb : c.code = code) (hd : decode code pc = .ok (.ishl, 1)) (hgo : am_Snd p l e R s m args below meth c Q Y ad0 nL c0 q0 code rt go (pc + 1)) : am_Snd p l e R s m args below meth c Q Y ad0 nL c0 q0 code rt (am_oBin (am_i22 (fun x y => am_ofI (x <<< (y &&& 31)))) A sub go jmp) pc := am_sBin hgo fun ad u v r U V hu hv hr => by
  obtain ⟨hk, hr⟩ := am_if_some hr
  obtain ⟨e1, e2⟩ := am_R_k2 hk hu hv
  cases hr
  subst e1
  subst e2
  exact ⟨_, am_ofI_ok _ _ _ _, fun H locs k n ls S h => lv_ishl hx hb hd h⟩
theorem am_rI2c (hx : p.tables.exec = exec) (hb : c.code = code) (hd : decode code pc = .ok (.i2c, 1)) (hgo : am_Snd p l e R s m args below meth c Q Y ad0 nL c0 q0 code rt go (pc + 1)) : am_Snd p l e R s m args below meth c Q Y ad0 nL c0 q0 code rt (am_oUn (am_i1 (fun x => am_ofI (x.toUInt32 % 65536).toInt32)) A sub go jmp) pc := am_sUn hgo fun ad u r U hu hr => by
  obtain ⟨hk, hr⟩ := am_bif_some hr
  have e := am_tg0 hk hu
  cases hr
  subst e
  exact ⟨_, am_ofI_ok _ _ _ _, fun H locs k n ls S h => lv_i2c hx hb hd rfl h⟩
theorem am_rI2l (hx : p.tables.exec = exec) (hb : c.code = code) (hd : decode code pc = .ok (.i2l, 1)) (hgo : am_Snd p l e R s m args below meth c Q Y ad0 nL c0 q0 code rt go (pc + 1)) : am_Snd p l e R s m args below meth c Q Y ad0 nL c0 q0 code rt (am_oUn (am_i1 (fun x => am_ofL x.toInt64)) A sub go jmp) pc := am_sUn hgo fun ad u r U hu hr => by
  obtain ⟨hk, hr⟩ := am_bif_some hr
  have e := am_tg0 hk hu
  cases hr
  subst e
  exact ⟨_, am_ofL_ok _ _ _ _, fun H locs k n ls S h => lv_i2l hx hb hd rfl h⟩
theorem am_rI2f (hx : p.tables.exec = exec) (hb : c.code = code) (hd : decode code pc = .ok (.i2f, 1)) (hgo : am_Snd p l e R s m args below meth c Q Y ad0 nL c0 q0 code rt go (pc + 1)) : am_Snd p l e R s m args below meth c Q Y ad0 nL c0 q0 code rt (am_oUn (am_i1 (fun x => am_ofF (FP.i2f x))) A sub go jmp) pc := am_sUn hgo fun ad u r U hu hr => by
  obtain ⟨hk, hr⟩ := am_bif_some hr
  have e := am_tg0 hk hu
  cases hr
  subst e
  exact ⟨_, am_ofF_ok _ _ _ _, fun H locs k n ls S h => lv_i2f hx hb hd h⟩
theorem am_rL2i (hx : p.tables.exec = exec) (hb : c.code = code) (hd : decode code pc = .ok (.l2i, 1)) (hgo : am_Snd p l e R s m args below meth c Q Y ad0 nL c0 q0 code rt go (pc + 1)) : am_Snd p l e R s m args below meth c Q Y ad0 nL c0 q0 code rt (am_oUn (am_l1 (fun x => am_ofI x.toInt32)) A sub go jmp) pc := am_sUn hgo fun ad u r U hu hr => by
  obtain ⟨hk, hr⟩ := am_bif_some hr
  have e := am_tg1 hk hu
  cases hr
  subst e
  exact ⟨_, am_ofI_ok _ _ _ _, fun H locs k n ls S h => lv_l2i hx hb hd rfl h⟩
theorem am_rF2i (hx : p.tables.exec = exec) (hb : c.code = code) (hd : decode code pc = .ok (.f2i, 1)) (hgo : am_Snd p l e R s m args below meth c Q Y ad0 nL c0 q0 code rt go (pc + 1)) : am_Snd p l e R s m args below meth c Q Y ad0 nL c0 q0 code rt (am_oUn (am_f1v (fun x => am_ofI (FP.f2i x))) A sub go jmp) pc := am_sUn hgo fun ad u r U hu hr => by
  obtain ⟨hk, hr⟩ := am_bif_some hr
  have e := am_tg2 hk hu
  cases hr
  subst e
  exact ⟨_, am_ofI_ok _ _ _ _, fun H locs k n ls S h => lv_f2i hx hb hd h⟩
theorem am_rD2l (hx : p.tables.exec = exec) (hb : c.code = code) (hd : decode code pc = .ok (.d2l, 1)) (hgo : am_Snd p l e R s m args below meth c Q Y ad0 nL c0 q0 code rt go (pc + 1)) : am_Snd p l e R s m args below meth c Q Y ad0 nL c0 q0 code rt (am_oUn (am_d1v (fun x => am_ofL (FP.d2l x))) A sub go jmp) pc := am_sUn hgo fun ad u r U hu hr => by
  obtain ⟨hk, hr⟩ := am_bif_some hr
  have e := am_tg3 hk hu
  cases hr
  subst e
  exact ⟨_, am_ofL_ok _ _ _ _, fun H locs k n ls S h => lv_d2l hx hb hd h⟩
theorem am_rLadd (hx : p.tables.exec = exec) (hb : c.code = code) (hd : decode code pc = .ok (.ladd, 1)) (hgo : am_Snd p l e R s m args below meth c Q Y ad0 nL c0 q0 code rt go (pc + 1)) : am_Snd p l e R s m args below meth c Q Y ad0 nL c0 q0 code rt (am_oBin (am_l22 (fun x y => am_ofL (x + y))) A sub go jmp) pc := am_sBin hgo fun ad u v r U V hu hv hr => by
  obtain ⟨hk, hr⟩ := am_bif_some hr
  rw [Bool.and_eq_true] at hk
  have e1 := am_tg1 hk.1 hu
  have e2 := am_tg1 hk.2 hv
  cases hr
  subst e1
  subst e2
  exact ⟨_, am_ofL_ok _ _ _ _, fun H locs k n ls S h => lv_ladd hx hb hd h⟩
theorem am_rLsub (hx : p.tables.exec = exec) (hb : c.code = code) (hd : decode code pc = .ok (.lsub, 1)) (hgo : am_Snd p l e R s m args below meth c Q Y ad0 nL c0 q0 code rt go (pc + 1)) : am_Snd p l e R s m args below meth c Q Y ad0 nL c0 q0 code rt (am_oBin (am_l22 (fun x y => am_ofL (x - y))) A sub go jmp) pc := am_sBin hgo fun ad u v r U V hu hv hr => by
  obtain ⟨hk, hr⟩ := am_bif_some hr
  rw [Bool.and_eq_true] at hk
  have e1 := am_tg1 hk.1 hu
  have e2 := am_tg1 hk.2 hv
  cases hr
  subst e1
  subst e2
  exact ⟨_, am_ofL_ok _ _ _ _, fun H locs k n ls S h => lv_lsub hx hb hd h⟩
theorem am_rLmul (hx : p.tables.exec = exec) (hb : c.code = code) (hd : decode code pc = .ok (.lmul, 1)) (hgo : am_Snd p l e R s m args below meth c Q Y ad0 nL c0 q0 code rt go (pc + 1)) : am_Snd p l e R s m args below meth c Q Y ad0 nL c0 q0 code rt (am_oBin (am_l22 (fun x y => am_ofL (x * y))) A sub go jmp) pc := am_sBin hgo fun ad u v r U V hu hv hr => by
  obtain ⟨hk, hr⟩ := am_bif_some hr
  rw [Bool.and_eq_true] at hk
  have e1 := am_tg1 hk.1 hu
  have e2 := am_tg1 hk.2 hv
  cases hr
  subst e1
  subst e2
  exact ⟨_, am_ofL_ok _ _ _ _, fun H locs k n ls S h => lv_lmul hx hb hd h⟩
theorem am_rLor (hx : p.tables.exec = exec) (hb : c.code = code) (hd : decode code pc = .ok (.lor, 1)) (hgo : am_Snd p l e R s m args below meth c Q Y ad0 nL c0 q0 code rt go (pc + 1)) : am_Snd p l e R s m args below meth c Q Y ad0 nL c0 q0 code rt (am_oBin (am_l22 (fun x y => am_ofL (x ||| y))) A sub go jmp) pc := am_sBin hgo fun ad u v r U V hu hv hr => by
  obtain ⟨hk, hr⟩ := am_bif_some hr
  rw [Bool.and_eq_true] at hk
  have e1 := am_tg1 hk.1 hu
  have e2 := am_tg1 hk.2 hv
  cases hr
  subst e1
  subst e2
  exact ⟨_, am_ofL_ok _ _ _ _, fun H locs k n ls S h => lv_lor hx hb hd h⟩
theorem am_rLshl (hx : p.tables.exec = exec) (hb : c.code = code) (hd : decode code pc = .ok (.lshl, 1)) (hgo : am_Snd p l e R s m args below meth c Q Y ad0 nL c0 q0 code rt go (pc + 1)) : am_Snd p l e R s m args below meth c Q Y ad0 nL c0 q0 code rt (am_oBin (am_li (fun x y => am_ofL (x <<< (y.toInt64 &&& 63)))) A sub go jmp) pc := am_sBin hgo fun ad u v r U V hu hv hr => by
  obtain ⟨hk, hr⟩ := am_bif_some hr
  rw [Bool.and_eq_true] at hk
  have e1 := am_tg1 hk.1 hu
  have e2 := am_tg0 hk.2 hv
  cases hr
  subst e1
  subst e2
  exact ⟨_, am_ofL_ok _ _ _ _, fun H locs k n ls S h => lv_lshl hx hb hd rfl h⟩
theorem am_rFcmp (hx : p.tables.exec = exec) (hb : c.code = code) {op : CmpOp} (hd : decode code pc = .ok (.fcmp op, 1)) (hgo : am_Snd p l e R s m args below meth c Q Y ad0 nL c0 q0 code rt go (pc + 1)) : am_Snd p l e R s m args below meth c Q Y ad0 nL c0 q0 code rt (am_oBin (am_fc (fun x y => Op.cmpValue (FP.fcmp x y) op)) A sub go jmp) pc := am_sBin hgo fun ad u v r U V hu hv hr => by
  obtain ⟨hk, hr⟩ := am_bif_some hr
  rw [Bool.and_eq_true] at hk
  have e1 := am_tg2 hk.1 hu
  have e2 := am_tg2 hk.2 hv
  cases hr
  subst e1
  subst e2
  exact ⟨_, am_ofI_ok _ _ _ _, fun H locs k n ls S h => lv_fcmp hx hb hd h⟩
theorem am_rFdiv (hx : p.tables.exec = exec) (hb : c.code = code) (hd : decode code pc = .ok (.fdiv, 1)) (hgo : am_Snd p l e R s m args below meth c Q Y ad0 nL c0 q0 code rt go (pc + 1)) : am_Snd p l e R s m args below meth c Q Y ad0 nL c0 q0 code rt (am_oBin (am_f22 am_n32 FP.fdiv) A sub go jmp) pc := am_sBin hgo fun ad u v r U V hu hv hr => by
  obtain ⟨hk, hr⟩ := am_bif_some hr
  rw [Bool.and_eq_true, Bool.and_eq_true] at hk
  have e1 := am_tg2 hk.1.1 hu
  have e2 := am_tg2 hk.1.2 hv
  cases hr
  subst e1
  subst e2
  exact ⟨_, am_ofF_ok _ _ _ _, fun H locs k n ls S h => lv_fdiv hx hb hd (am_n32_ok hk.2) h⟩
theorem am_rFmul (hx : p.tables.exec = exec) (hb : c.code = code) (hd : decode code pc = .ok (.fmul, 1)) (hgo : am_Snd p l e R s m args below meth c Q Y ad0 nL c0 q0 code rt go (pc + 1)) : am_Snd p l e R s m args below meth c Q Y ad0 nL c0 q0 code rt (am_oBin (am_f22 am_n32 FP.fmul) A sub go jmp) pc := am_sBin hgo fun ad u v r U V hu hv hr => by
  obtain ⟨hk, hr⟩ := am_bif_some hr
  rw [Bool.and_eq_true, Bool.and_eq_true] at hk
  have e1 := am_tg2 hk.1.1 hu
  have e2 := am_tg2 hk.1.2 hv
  cases hr
  subst e1
  subst e2
  exact ⟨_, am_ofF_ok _ _ _ _, fun H locs k n ls S h => lv_fmul hx hb hd (am_n32_ok hk.2) h⟩
theorem am_rFsub (hx : p.tables.exec = exec) (hb : c.code = code) (hd : decode code pc = .ok (.fsub, 1)) (hgo : am_Snd p l e R s m args below meth c Q Y ad0 nL c0 q0 code rt go (pc + 1)) : am_Snd p l e R s m args below meth c Q Y ad0 nL c0 q0 code rt (am_oBin (am_f22 am_n32 FP.fsub) A sub go jmp) pc := am_sBin hgo fun ad u v r U V hu hv hr => by
  obtain ⟨hk, hr⟩ := am_bif_some hr
  rw [Bool.and_eq_true, Bool.and_eq_true] at hk
  have e1 := am_tg2 hk.1.1 hu
  have e2 := am_tg2 hk.1.2 hv
  cases hr
  subst e1
  subst e2
  exact ⟨_, am_ofF_ok _ _ _ _, fun H locs k n ls S h => lv_fsub hx hb hd (am_n32_ok hk.2) h⟩
theorem am_rDadd (hx : p.tables.exec = exec) (hb : c.code = code) (hd : decode code pc = .ok (.dadd, 1)) (hgo : am_Snd p l e R s m args below meth c Q Y ad0 nL c0 q0 code rt go (pc + 1)) : am_Snd p l e R s m args below meth c Q Y ad0 nL c0 q0 code rt (am_oBin (am_d22 am_n64 FP.dadd) A sub go jmp) pc := am_sBin hgo fun ad u v r U V hu hv hr => by
  obtain ⟨hk, hr⟩ := am_bif_some hr
  rw [Bool.and_eq_true, Bool.and_eq_true] at hk
  have e1 := am_tg3 hk.1.1 hu
  have e2 := am_tg3 hk.1.2 hv
  cases hr
  subst e1
  subst e2
  exact ⟨_, am_ofD_ok _ _ _ _, fun H locs k n ls S h => lv_dadd hx hb hd (am_n64_ok hk.2) h⟩
theorem am_rDsub (hx : p.tables.exec = exec) (hb : c.code = code) (hd : decode code pc = .ok (.dsub, 1)) (hgo : am_Snd p l e R s m args below meth c Q Y ad0 nL c0 q0 code rt go (pc + 1)) : am_Snd p l e R s m args below meth c Q Y ad0 nL c0 q0 code rt (am_oBin (am_d22 am_n64 FP.dsub) A sub go jmp) pc := am_sBin hgo fun ad u v r U V hu hv hr => by
  obtain ⟨hk, hr⟩ := am_bif_some hr
  rw [Bool.and_eq_true, Bool.and_eq_true] at hk
  have e1 := am_tg3 hk.1.1 hu
  have e2 := am_tg3 hk.1.2 hv
  cases hr
  subst e1
  subst e2
  exact ⟨_, am_ofD_ok _ _ _ _, fun H locs k n ls S h => lv_dsub hx hb hd (am_n64_ok hk.2) h⟩
theorem am_rDmul (hx : p.tables.exec = exec) (hb : c.code = code) (hd : decode code pc = .ok (.dmul, 1)) (hgo : am_Snd p l e R s m args below meth c Q Y ad0 nL c0 q0 code rt go (pc + 1)) : am_Snd p l e R s m args below meth c Q Y ad0 nL c0 q0 code rt (am_oBin (am_d22 am_n64 FP.dmul) A sub go jmp) pc := am_sBin hgo fun ad u v r U V hu hv hr => by
  obtain ⟨hk, hr⟩ := am_bif_some hr
  rw [Bool.and_eq_true, Bool.and_eq_true] at hk
  have e1 := am_tg3 hk.1.1 hu
  have e2 := am_tg3 hk.1.2 hv
  cases hr
  subst e1
  subst e2
  exact ⟨_, am_ofD_ok _ _ _ _, fun H locs k n ls S h => lv_dmul hx hb hd (am_n64_ok hk.2) h⟩
theorem am_rF2d (hx : p.tables.exec = exec) (hb : c.code = code) (hd : decode code pc = .ok (.f2d, 1)) (hgo : am_Snd p l e R s m args below meth c Q Y ad0 nL c0 q0 code rt go (pc + 1)) : am_Snd p l e R s m args below meth c Q Y ad0 nL c0 q0 code rt (am_oUn am_f2d A sub go jmp) pc := am_sUn hgo fun ad u r U hu hr => by
  obtain ⟨hk, hr⟩ := am_bif_some hr
  rw [Bool.and_eq_true] at hk
  have e := am_tg2 hk.1 hu
  cases hr
  subst e
  exact ⟨_, am_ofD_ok _ _ _ _, fun H locs k n ls S h => lv_f2d hx hb hd (am_n64_ok hk.2) h⟩
theorem am_rI2d (hx : p.tables.exec = exec) (hb : c.code = code) (hd : decode code pc = .ok (.i2d, 1)) (hgo : am_Snd p l e R s m args below meth c Q Y ad0 nL c0 q0 code rt go (pc + 1)) : am_Snd p l e R s m args below meth c Q Y ad0 nL c0 q0 code rt (am_oUn am_i2d A sub go jmp) pc := am_sUn hgo fun ad u r U hu hr => by
  unfold am_i2d at hr
  cases h0 : Nat.beq u.1 0 with
  | true =>
    rw [h0] at hr
    have e := am_tg0 h0 hu
    cases hr
    subst e
    exact ⟨_, am_ofD_ok _ _ _ _, fun H locs k n ls S h => lv_i2d hx hb hd h⟩
  | false =>
    rw [h0] at hr
    obtain ⟨h6, hr⟩ := am_bif_some (show (bif Nat.beq u.1 6 then some (7, 0, u.2.2) else none) = some r from hr)
    obtain ⟨t, n, f⟩ := u
    have e := am_tag h6
    dsimp only at e
    subst e
    cases hr
    have hU : U = .int (am_i (am_ev Y.2.2.1 f)) := hu
    subst hU
    exact ⟨.double (FP.i2d (am_i (am_ev Y.2.2.1 f))), rfl, fun H locs k n ls S h => lv_i2d hx hb hd h⟩
theorem am_dq_n : (List.range 201).all (fun k => [4607182418800017408, 4611686018427387904, 4613937818241073152, 4616189618054758400].all (fun n => am_n64 (FP.ddiv (FP.i2d (am_i (k : Int))) (UInt64.ofNat n)))) = true := by decide +kernel
theorem am_rDdiv (hx : p.tables.exec = exec) (hb : c.code = code) (hA : am_kn A Y.2.2.1) (hd : decode code pc = .ok (.ddiv, 1)) (hgo : am_Snd p l e R s m args below meth c Q Y ad0 nL c0 q0 code rt go (pc + 1)) : am_Snd p l e R s m args below meth c Q Y ad0 nL c0 q0 code rt (am_oBinA am_ddiv A sub go jmp) pc := am_sBinA hgo fun ad u v r U V hu hv hr => by
  unfold am_ddiv at hr
  cases h0 : (Nat.beq u.1 7 && Nat.beq v.1 3 && am_d14 v.2.1) with
  | false =>
    rw [h0] at hr
    obtain ⟨hk, hr⟩ := am_bif_some (show am_d22 am_n64 FP.ddiv u v = some r from hr)
    rw [Bool.and_eq_true, Bool.and_eq_true] at hk
    have e1 := am_tg3 hk.1.1 hu
    have e2 := am_tg3 hk.1.2 hv
    cases hr
    subst e1
    subst e2
    exact ⟨_, am_ofD_ok _ _ _ _, fun H locs k n ls S h => lv_ddiv hx hb hd (am_n64_ok hk.2) h⟩
  | true =>
    rw [h0] at hr
    rw [Bool.and_eq_true, Bool.and_eq_true] at h0
    obtain ⟨t, n, f⟩ := u
    have e := am_tag h0.1.1
    dsimp only at e
    subst e
    have hU : U = .double (FP.i2d (am_i (am_ev Y.2.2.1 f))) := hu
    have e2 := am_tg3 h0.1.2 hv
    subst hU
    subst e2
    cases hl : am_lim A f with
    | none =>
      rw [hl] at hr
      cases hr
    | some q =>
      rw [hl] at hr
      obtain ⟨hk, hr⟩ := am_bif_some (show (bif decide (0 ≤ q.1) && decide (q.2 ≤ 200) then some (9, v.2.1, f) else none) = some r from hr)
      rw [Bool.and_eq_true, decide_eq_true_eq, decide_eq_true_eq] at hk
      obtain ⟨b1, b2⟩ := am_lim_ok hA hl
      cases hr
      refine ⟨.double (am_dq Y.2.2.1 v.2.1 f), rfl, fun H locs k n ls S h => lv_ddiv hx hb hd ?_ h⟩
      have hz : ((am_ev Y.2.2.1 f).toNat : Int) = am_ev Y.2.2.1 f := Int.toNat_of_nonneg (by omega)
      have q1 := List.all_eq_true.mp am_dq_n (am_ev Y.2.2.1 f).toNat (List.mem_range.mpr (by omega))
      rw [hz] at q1
      have q2 := List.all_eq_true.mp q1 v.2.1 (by
        have h4 := h0.2
        simp only [am_d14, Bool.or_eq_true] at h4
        rcases h4 with ((h4 | h4) | h4) | h4 <;> (rw [Nat.eq_of_beq_eq_true h4]; simp))
      exact am_n64_ok q2
theorem am_dq_c : (List.range 201).all (fun k => [4607182418800017408, 4611686018427387904, 4613937818241073152, 4616189618054758400].all (fun n => [CmpOp.g, CmpOp.l].all (fun o => decide (Op.cmpValue (FP.dcmp (FP.ddiv (FP.i2d (am_i (k : Int))) (UInt64.ofNat n)) (FP.ddiv (FP.i2d (am_i (k : Int))) (UInt64.ofNat n))) o = 0)))) = true := by decide +kernel
theorem am_d14_mem {n : Nat} (h : am_d14 n = true) : n ∈ [4607182418800017408, 4611686018427387904, 4613937818241073152, 4616189618054758400] := by
  simp only [am_d14, Bool.or_eq_true] at h
  rcases h with ((h | h) | h) | h <;> (rw [Nat.eq_of_beq_eq_true h]; simp)
theorem am_rDcmp (hx : p.tables.exec = exec) (hb : c.code = code) (hA : am_kn A Y.2.2.1) {op : CmpOp} (hd : decode code pc = .ok (.dcmp op, 1)) (hgo : am_Snd p l e R s m args below meth c Q Y ad0 nL c0 q0 code rt go (pc + 1)) : am_Snd p l e R s m args below meth c Q Y ad0 nL c0 q0 code rt (am_oBinA (am_dcmpA op) A sub go jmp) pc := am_sBinA hgo fun ad u v r U V hu hv hr => by
  unfold am_dcmpA at hr
  cases h0 : (Nat.beq u.1 9 && Nat.beq v.1 9 && Nat.beq u.2.1 v.2.1 && am_feq u.2.2 v.2.2 && am_d14 u.2.1) with
  | false =>
    rw [h0] at hr
    obtain ⟨hk, hr⟩ := am_bif_some (show am_dc (fun x y => Op.cmpValue (FP.dcmp x y) op) u v = some r from hr)
    rw [Bool.and_eq_true] at hk
    have e1 := am_tg3 hk.1 hu
    have e2 := am_tg3 hk.2 hv
    cases hr
    subst e1
    subst e2
    exact ⟨_, am_ofI_ok _ _ _ _, fun H locs k n ls S h => lv_dcmp hx hb hd h⟩
  | true =>
    rw [h0] at hr
    simp only [Bool.and_eq_true] at h0
    obtain ⟨t, n, f⟩ := u
    obtain ⟨t2, n2, f2⟩ := v
    have e := am_tag h0.1.1.1.1
    have e2 := am_tag h0.1.1.1.2
    have e3 := am_tag h0.1.1.2
    have e4 := am_ev_eq Y.2.2.1 _ _ h0.1.2
    dsimp only at e e2 e3 e4
    subst e
    subst e2
    subst e3
    have hU : U = .double (am_dq Y.2.2.1 n f) := hu
    have hV : V = .double (am_dq Y.2.2.1 n f2) := hv
    rw [show am_dq Y.2.2.1 n f2 = am_dq Y.2.2.1 n f by unfold am_dq; rw [e4]] at hV
    subst hU
    subst hV
    cases hl : am_lim A f with
    | none =>
      rw [show am_lim A (9, n, f).2.2 = am_lim A f from rfl, hl] at hr
      cases hr
    | some q =>
      rw [show am_lim A (9, n, f).2.2 = am_lim A f from rfl, hl] at hr
      obtain ⟨hk, hr⟩ := am_bif_some (show (bif decide (0 ≤ q.1) && decide (q.2 ≤ 200) then some (0, 0, []) else none) = some r from hr)
      rw [Bool.and_eq_true, decide_eq_true_eq, decide_eq_true_eq] at hk
      obtain ⟨b1, b2⟩ := am_lim_ok hA hl
      cases hr
      have hz : ((am_ev Y.2.2.1 f).toNat : Int) = am_ev Y.2.2.1 f := Int.toNat_of_nonneg (by omega)
      have q1 := List.all_eq_true.mp am_dq_c (am_ev Y.2.2.1 f).toNat (List.mem_range.mpr (by omega))
      rw [hz] at q1
      have q2 := List.all_eq_true.mp (List.all_eq_true.mp q1 n (am_d14_mem h0.2)) op (by cases op <;> simp)
      refine ⟨.int 0, rfl, fun H locs k n2 ls S h => lv_dcmp hx hb hd ?_⟩
      unfold am_dq
      rw [of_decide_eq_true q2]
      exact h
theorem am_rLcmp (hx : p.tables.exec = exec) (hb : c.code = code) (hd : decode code pc = .ok (.lcmp, 1)) (hgo : am_Snd p l e R s m args below meth c Q Y ad0 nL c0 q0 code rt go (pc + 1)) : am_Snd p l e R s m args below meth c Q Y ad0 nL c0 q0 code rt (am_oBin am_lcmp A sub go jmp) pc := am_sBin hgo fun ad u v r U V hu hv hr => by
  unfold am_lcmp at hr
  cases h0 : (Nat.beq u.1 11 && Nat.beq v.1 11 && Nat.beq u.2.1 v.2.1 && am_feq u.2.2 v.2.2) with
  | false =>
    rw [h0] at hr
    obtain ⟨hk, hr⟩ := am_bif_some (show am_l22 (fun x y => am_ofI (lg_cmp x y)) u v = some r from hr)
    rw [Bool.and_eq_true] at hk
    have e1 := am_tg1 hk.1 hu
    have e2 := am_tg1 hk.2 hv
    cases hr
    subst e1
    subst e2
    exact ⟨_, am_ofI_ok _ _ _ _, fun H locs k n ls S h => W.lcmp hx hb hd h⟩
  | true =>
    rw [h0] at hr
    cases hr
    rw [Bool.and_eq_true, Bool.and_eq_true, Bool.and_eq_true] at h0
    obtain ⟨t, n, f⟩ := u
    obtain ⟨t2, n2, f2⟩ := v
    have e := am_tag h0.1.1.1
    have e2 := am_tag h0.1.1.2
    have e3 := am_tag h0.1.2
    have e4 := am_ev_eq Y.2.2.1 _ _ h0.2
    dsimp only at e e2 e3 e4
    subst e
    subst e2
    subst e3
    have hU : U = .long (am_dq Y.2.2.1 n f).toInt64 := hu
    have hV : V = .long (am_dq Y.2.2.1 n f2).toInt64 := hv
    rw [show am_dq Y.2.2.1 n f2 = am_dq Y.2.2.1 n f by unfold am_dq; rw [e4]] at hV
    subst hU
    subst hV
    refine ⟨.int 0, rfl, fun H locs k n2 ls S h => W.lcmp hx hb hd ?_⟩
    rw [(lg_cmp_eq _ _).mpr rfl]
    exact h
theorem am_rIf1eq (hx : p.tables.exec = exec) (hb : c.code = code) (hA : am_kn A Y.2.2.1) {off : Int} {t pt : Nat} (ht : (pc : Int) + off = (pt : Int)) (hd : decode code pc = .ok (.ifCond .eq off, 3)) (hgo : am_Snd p l e R s m args below meth c Q Y ad0 nL c0 q0 code rt go (pc + 3)) (hj : am_Snd p l e R s m args below meth c Q Y ad0 nL c0 q0 code rt (jmp t) pt) : am_Snd p l e R s m args below meth c Q Y ad0 nL c0 q0 code rt (am_oIf1 am_eq t A sub go jmp) pc := am_sIf1 hgo hj fun ad u U b hu hr H locs k n ls S kt kf => by
  obtain ⟨x, y, ex, ey, e⟩ := am_R_eq (b := Y.2.2.2) (ad := ad) hA hu (am_R_0 0) hr
  subst ex
  have ez : y = 0 := (Value.int.inj ey).symm
  subst ez
  exact lv_if_eq hx hb hd ht (fun q => kt (e.mp q)) (fun q => kf (by cases b with | false => rfl | true => exact absurd (e.mpr rfl) q))
theorem am_rIf1ne (hx : p.tables.exec = exec) (hb : c.code = code) (hA : am_kn A Y.2.2.1) {off : Int} {t pt : Nat} (ht : (pc : Int) + off = (pt : Int)) (hd : decode code pc = .ok (.ifCond .ne off, 3)) (hgo : am_Snd p l e R s m args below meth c Q Y ad0 nL c0 q0 code rt go (pc + 3)) (hj : am_Snd p l e R s m args below meth c Q Y ad0 nL c0 q0 code rt (jmp t) pt) : am_Snd p l e R s m args below meth c Q Y ad0 nL c0 q0 code rt (am_oIf1n am_eq t A sub go jmp) pc := am_sIf1n hgo hj fun ad u U b hu hr H locs k n ls S kt kf => by
  obtain ⟨x, y, ex, ey, e⟩ := am_R_eq (b := Y.2.2.2) (ad := ad) hA hu (am_R_0 0) hr
  subst ex
  have ez : y = 0 := (Value.int.inj ey).symm
  subst ez
  exact lv_if_ne hx hb hd ht (fun q => kt (by cases b with | false => rfl | true => exact absurd (e.mpr rfl) q)) (fun q => kf (e.mp q))
theorem am_rIf1lt (hx : p.tables.exec = exec) (hb : c.code = code) (hA : am_kn A Y.2.2.1) {off : Int} {t pt : Nat} (ht : (pc : Int) + off = (pt : Int)) (hd : decode code pc = .ok (.ifCond .lt off, 3)) (hgo : am_Snd p l e R s m args below meth c Q Y ad0 nL c0 q0 code rt go (pc + 3)) (hj : am_Snd p l e R s m args below meth c Q Y ad0 nL c0 q0 code rt (jmp t) pt) : am_Snd p l e R s m args below meth c Q Y ad0 nL c0 q0 code rt (am_oIf1 am_lt t A sub go jmp) pc := am_sIf1 hgo hj fun ad u U b hu hr H locs k n ls S kt kf => by
  obtain ⟨x, y, ex, ey, e⟩ := am_R_lt (b := Y.2.2.2) (ad := ad) hA hu (am_R_0 0) hr
  subst ex
  have ez : y = 0 := (Value.int.inj ey).symm
  subst ez
  exact lv_if_lt hx hb hd ht (fun q => kt (e.mp q)) (fun q => kf (by cases b with | false => rfl | true => exact absurd (e.mpr rfl) q))
theorem am_rIf1ge (hx : p.tables.exec = exec) (hb : c.code = code) (hA : am_kn A Y.2.2.1) {off : Int} {t pt : Nat} (ht : (pc : Int) + off = (pt : Int)) (hd : decode code pc = .ok (.ifCond .ge off, 3)) (hgo : am_Snd p l e R s m args below meth c Q Y ad0 nL c0 q0 code rt go (pc + 3)) (hj : am_Snd p l e R s m args below meth c Q Y ad0 nL c0 q0 code rt (jmp t) pt) : am_Snd p l e R s m args below meth c Q Y ad0 nL c0 q0 code rt (am_oIf1n am_lt t A sub go jmp) pc := am_sIf1n hgo hj fun ad u U b hu hr H locs k n ls S kt kf => by
  obtain ⟨x, y, ex, ey, e⟩ := am_R_lt (b := Y.2.2.2) (ad := ad) hA hu (am_R_0 0) hr
  subst ex
  have ez : y = 0 := (Value.int.inj ey).symm
  subst ez
  exact lv_if_ge hx hb hd ht (fun q => kt (by cases b with | false => rfl | true => exact absurd (e.mpr rfl) (Int32.not_lt.mpr q))) (fun q => kf (e.mp (Int32.not_le.mp q)))
theorem am_rIf1gt (hx : p.tables.exec = exec) (hb : c.code = code) (hA : am_kn A Y.2.2.1) {off : Int} {t pt : Nat} (ht : (pc : Int) + off = (pt : Int)) (hd : decode code pc = .ok (.ifCond .gt off, 3)) (hgo : am_Snd p l e R s m args below meth c Q Y ad0 nL c0 q0 code rt go (pc + 3)) (hj : am_Snd p l e R s m args below meth c Q Y ad0 nL c0 q0 code rt (jmp t) pt) : am_Snd p l e R s m args below meth c Q Y ad0 nL c0 q0 code rt (am_oIf1 am_gt t A sub go jmp) pc := am_sIf1 hgo hj fun ad u U b hu hr H locs k n ls S kt kf => by
  obtain ⟨y, x, ey, ex, e⟩ := am_R_lt (b := Y.2.2.2) (ad := ad) hA (am_R_0 0) hu hr
  subst ex
  have ez : y = 0 := (Value.int.inj ey).symm
  subst ez
  exact lv_if_gt hx hb hd ht (fun q => kt (e.mp q)) (fun q => kf (by cases b with | false => rfl | true => exact absurd (e.mpr rfl) q))
theorem am_rIf1le (hx : p.tables.exec = exec) (hb : c.code = code) (hA : am_kn A Y.2.2.1) {off : Int} {t pt : Nat} (ht : (pc : Int) + off = (pt : Int)) (hd : decode code pc = .ok (.ifCond .le off, 3)) (hgo : am_Snd p l e R s m args below meth c Q Y ad0 nL c0 q0 code rt go (pc + 3)) (hj : am_Snd p l e R s m args below meth c Q Y ad0 nL c0 q0 code rt (jmp t) pt) : am_Snd p l e R s m args below meth c Q Y ad0 nL c0 q0 code rt (am_oIf1n am_gt t A sub go jmp) pc := am_sIf1n hgo hj fun ad u U b hu hr H locs k n ls S kt kf => by
  obtain ⟨y, x, ey, ex, e⟩ := am_R_lt (b := Y.2.2.2) (ad := ad) hA (am_R_0 0) hu hr
  subst ex
  have ez : y = 0 := (Value.int.inj ey).symm
  subst ez
  exact lv_if_le hx hb hd ht (fun q => kt (by cases b with | false => rfl | true => exact absurd (e.mpr rfl) (Int32.not_lt.mpr q))) (fun q => kf (e.mp (Int32.not_le.mp q)))
theorem am_rIf2eq (hx : p.tables.exec = exec) (hb : c.code = code) (hA : am_kn A Y.2.2.1) {off : Int} {t pt : Nat} (ht : (pc : Int) + off = (pt : Int)) (hd : decode code pc = .ok (.if_icmp .eq off, 3)) (hgo : am_Snd p l e R s m args below meth c Q Y ad0 nL c0 q0 code rt go (pc + 3)) (hj : am_Snd p l e R s m args below meth c Q Y ad0 nL c0 q0 code rt (jmp t) pt) : am_Snd p l e R s m args below meth c Q Y ad0 nL c0 q0 code rt (am_oIf2 am_eq t A sub go jmp) pc := am_sIf2 hgo hj fun ad u v U V b hu hv hr H locs k n ls S kt kf => by
  obtain ⟨x, y, ex, ey, e⟩ := am_R_eq (b := Y.2.2.2) (ad := ad) hA hu hv hr
  subst ex
  subst ey
  exact lv_icmp_eq hx hb hd ht (fun q => kt (e.mp q)) (fun q => kf (by cases b with | false => rfl | true => exact absurd (e.mpr rfl) q))
theorem am_rIf2ne (hx : p.tables.exec = exec) (hb : c.code = code) (hA : am_kn A Y.2.2.1) {off : Int} {t pt : Nat} (ht : (pc : Int) + off = (pt : Int)) (hd : decode code pc = .ok (.if_icmp .ne off, 3)) (hgo : am_Snd p l e R s m args below meth c Q Y ad0 nL c0 q0 code rt go (pc + 3)) (hj : am_Snd p l e R s m args below meth c Q Y ad0 nL c0 q0 code rt (jmp t) pt) : am_Snd p l e R s m args below meth c Q Y ad0 nL c0 q0 code rt (am_oIf2n am_eq t A sub go jmp) pc := am_sIf2n hgo hj fun ad u v U V b hu hv hr H locs k n ls S kt kf => by
  obtain ⟨x, y, ex, ey, e⟩ := am_R_eq (b := Y.2.2.2) (ad := ad) hA hu hv hr
  subst ex
  subst ey
  exact lv_icmp_ne hx hb hd ht (fun q => kt (by cases b with | false => rfl | true => exact absurd (e.mpr rfl) q)) (fun q => kf (e.mp q))
theorem am_rIf2lt (hx : p.tables.exec = exec) (hb : c.code = code) (hA : am_kn A Y.2.2.1) {off : Int} {t pt : Nat} (ht : (pc : Int) + off = (pt : Int)) (hd : decode code pc = .ok (.if_icmp .lt off, 3)) (hgo : am_Snd p l e R s m args below meth c Q Y ad0 nL c0 q0 code rt go (pc + 3)) (hj : am_Snd p l e R s m args below meth c Q Y ad0 nL c0 q0 code rt (jmp t) pt) : am_Snd p l e R s m args below meth c Q Y ad0 nL c0 q0 code rt (am_oIf2 am_lt t A sub go jmp) pc := am_sIf2 hgo hj fun ad u v U V b hu hv hr H locs k n ls S kt kf => by
  obtain ⟨x, y, ex, ey, e⟩ := am_R_lt (b := Y.2.2.2) (ad := ad) hA hu hv hr
  subst ex
  subst ey
  exact lv_icmp_lt hx hb hd ht (fun q => kt (e.mp q)) (fun q => kf (by cases b with | false => rfl | true => exact absurd (e.mpr rfl) q))
theorem am_rIf2ge (hx : p.tables.exec = exec) (hb : c.code = code) (hA : am_kn A Y.2.2.1) {off : Int} {t pt : Nat} (ht : (pc : Int) + off = (pt : Int)) (hd : decode code pc = .ok (.if_icmp .ge off, 3)) (hgo : am_Snd p l e R s m args below meth c Q Y ad0 nL c0 q0 code rt go (pc + 3)) (hj : am_Snd p l e R s m args below meth c Q Y ad0 nL c0 q0 code rt (jmp t) pt) : am_Snd p l e R s m args below meth c Q Y ad0 nL c0 q0 code rt (am_oIf2n am_lt t A sub go jmp) pc := am_sIf2n hgo hj fun ad u v U V b hu hv hr H locs k n ls S kt kf => by
  obtain ⟨x, y, ex, ey, e⟩ := am_R_lt (b := Y.2.2.2) (ad := ad) hA hu hv hr
  subst ex
  subst ey
  exact lv_icmp_ge hx hb hd ht (fun q => kt (by cases b with | false => rfl | true => exact absurd (e.mpr rfl) (Int32.not_lt.mpr q))) (fun q => kf (e.mp (Int32.not_le.mp q)))
theorem am_rIf2gt (hx : p.tables.exec = exec) (hb : c.code = code) (hA : am_kn A Y.2.2.1) {off : Int} {t pt : Nat} (ht : (pc : Int) + off = (pt : Int)) (hd : decode code pc = .ok (.if_icmp .gt off, 3)) (hgo : am_Snd p l e R s m args below meth c Q Y ad0 nL c0 q0 code rt go (pc + 3)) (hj : am_Snd p l e R s m args below meth c Q Y ad0 nL c0 q0 code rt (jmp t) pt) : am_Snd p l e R s m args below meth c Q Y ad0 nL c0 q0 code rt (am_oIf2 am_gt t A sub go jmp) pc := am_sIf2 hgo hj fun ad u v U V b hu hv hr H locs k n ls S kt kf => by
  obtain ⟨y, x, ey, ex, e⟩ := am_R_lt (b := Y.2.2.2) (ad := ad) hA hv hu hr
  subst ex
  subst ey
  exact lv_icmp_gt hx hb hd ht (fun q => kt (e.mp q)) (fun q => kf (by cases b with | false => rfl | true => exact absurd (e.mpr rfl) q))
theorem am_rIf2le (hx : p.tables.exec = exec) (hb : c.code = code) (hA : am_kn A Y.2.2.1) {off : Int} {t pt : Nat} (ht : (pc : Int) + off = (pt : Int)) (hd : decode code pc = .ok (.if_icmp .le off, 3)) (hgo : am_Snd p l e R s m args below meth c Q Y ad0 nL c0 q0 code rt go (pc + 3)) (hj : am_Snd p l e R s m args below meth c Q Y ad0 nL c0 q0 code rt (jmp t) pt) : am_Snd p l e R s m args below meth c Q Y ad0 nL c0 q0 code rt (am_oIf2n am_gt t A sub go jmp) pc := am_sIf2n hgo hj fun ad u v U V b hu hv hr H locs k n ls S kt kf => by
  obtain ⟨y, x, ey, ex, e⟩ := am_R_lt (b := Y.2.2.2) (ad := ad) hA hv hu hr
  subst ex
  subst ey
  exact lv_icmp_le hx hb hd ht (fun q => kt (by cases b with | false => rfl | true => exact absurd (e.mpr rfl) (Int32.not_lt.mpr q))) (fun q => kf (e.mp (Int32.not_le.mp q)))
theorem am_rGoto (hx : p.tables.exec = exec) (hb : c.code = code) {off : Int} {t pt : Nat} (ht : (pc : Int) + off = (pt : Int)) (hd : decode code pc = .ok (.goto off, 3)) (hj : am_Snd p l e R s m args below meth c Q Y ad0 nL c0 q0 code rt (jmp t) pt) : am_Snd p l e R s m args below meth c Q Y ad0 nL c0 q0 code rt (am_oGoto t A sub go jmp) pc := am_sGoto hj fun H locs k n ls S h => lv_goto hx hb hd ht h
theorem am_rIfnull (hx : p.tables.exec = exec) (hb : c.code = code) {off : Int} {t pt : Nat} (ht : (pc : Int) + off = (pt : Int)) (hd : decode code pc = .ok (.ifnull off, 3)) (hgo : am_Snd p l e R s m args below meth c Q Y ad0 nL c0 q0 code rt go (pc + 3)) (hj : am_Snd p l e R s m args below meth c Q Y ad0 nL c0 q0 code rt (jmp t) pt) : am_Snd p l e R s m args below meth c Q Y ad0 nL c0 q0 code rt (am_oNull false t A sub go jmp) pc := am_sNull hgo hj (fun H locs k n ls S h => lv_ifnullN hx hb hd ht h) (fun x H locs k n ls S h => lv_ifnull hx hb hd h)
theorem am_rIfnonnull (hx : p.tables.exec = exec) (hb : c.code = code) {off : Int} {t pt : Nat} (ht : (pc : Int) + off = (pt : Int)) (hd : decode code pc = .ok (.ifnonnull off, 3)) (hgo : am_Snd p l e R s m args below meth c Q Y ad0 nL c0 q0 code rt go (pc + 3)) (hj : am_Snd p l e R s m args below meth c Q Y ad0 nL c0 q0 code rt (jmp t) pt) : am_Snd p l e R s m args below meth c Q Y ad0 nL c0 q0 code rt (am_oNull true t A sub go jmp) pc := am_sNull hgo hj (fun H locs k n ls S h => lv_ifnonnullN hx hb hd h) (fun x H locs k n ls S h => lv_ifnonnull hx hb hd ht h)
theorem am_rDup (hx : p.tables.exec = exec) (hb : c.code = code) (hd : decode code pc = .ok (.dup, 1)) (hgo : am_Snd p l e R s m args below meth c Q Y ad0 nL c0 q0 code rt go (pc + 1)) : am_Snd p l e R s m args below meth c Q Y ad0 nL c0 q0 code rt (am_oDup A sub go jmp) pc := am_sDup hgo fun V hV H locs k n ls S h => lv_dup hx hb hd hV h
theorem am_rDup2 (hx : p.tables.exec = exec) (hb : c.code = code) (hd : decode code pc = .ok (.dup2, 1)) (hgo : am_Snd p l e R s m args below meth c Q Y ad0 nL c0 q0 code rt go (pc + 1)) : am_Snd p l e R s m args below meth c Q Y ad0 nL c0 q0 code rt (am_oDup2 A sub go jmp) pc := am_sDup2 hgo fun V U hV hU H locs k n ls S h => lv_dup2_11 hx hb hd hV hU h
theorem am_si_ok {n : Nat} (h : Nat.blt n 4294967296 = true) : (Int32.ofNat n).toInt = am_si n := by
  have h1 : n < 4294967296 := by
    have := Nat.ble_eq.mp h
    omega
  unfold am_si
  rw [show (Int32.ofNat n).toInt = ((n : Int)).bmod (2 ^ 32) from Int32.toInt_ofNat', Int.bmod_def]
  cases h2 : Nat.blt n 2147483648 with
  | true =>
    have := Nat.ble_eq.mp h2
    show _ = (n : Int)
    rw [if_pos (by omega)]
    omega
  | false =>
    have : ¬ (n + 1 ≤ 2147483648) := fun q => by
      rw [show Nat.blt n 2147483648 = true from Nat.ble_eq.mpr q] at h2
      cases h2
    show _ = (n : Int) - 4294967296
    rw [if_neg (by omega)]
    omega
theorem am_rSwitch (hx : p.tables.exec = exec) (hb : c.code = code) {df lw hg : Int} {os : Array Int} {len : Nat} {ix : Int → Nat} (hj : ∀ o : Int, 0 ≤ (pc : Int) + o → am_Snd p l e R s m args below meth c Q Y ad0 nL c0 q0 code rt (jmp (ix o)) (am_tgt pc o)) (hdf : 0 ≤ (pc : Int) + df) (hos : os.toList.all (fun o => decide (0 ≤ (pc : Int) + o)) = true) (hd : decode code pc = .ok (.tableswitch df lw hg os, len)) : am_Snd p l e R s m args below meth c Q Y ad0 nL c0 q0 code rt (am_oSwitch (ix df) lw hg (os.toList.map ix) A sub go jmp) pc := by
  intro lo stk h nc ns o ho
  obtain ⟨x, rest, rfl, ho1⟩ := am_lc_some ho
  obtain ⟨hc, ho2⟩ := am_if_some ho1
  rw [am_and_t] at hc
  have ez := am_si_ok hc.2
  have htg : ∀ z : Int, 0 ≤ (pc : Int) + z → (pc : Int) + z = (am_tgt pc z : Int) := fun z hz => (Int.toNat_of_nonneg hz).symm
  cases hb2 : (decide (am_si x.2.1 < lw) || decide (hg < am_si x.2.1)) with
  | true =>
    rw [hb2] at ho2
    obtain ⟨g1, g2, g3, g4⟩ := hj df hdf lo rest h nc ns o ho2
    refine ⟨g1, g2, g3, fun ad H locs ls S hp hl hs r1 r2 hk => ?_⟩
    obtain ⟨V, S', rfl, k1, k2⟩ := am_St_cons hs
    have e := am_tg0 hc.1 k1
    subst e
    rw [Bool.or_eq_true, decide_eq_true_eq, decide_eq_true_eq] at hb2
    exact lv_tableOut hx hb hd (by rw [ez]; exact hb2) (htg df hdf) (g4 ad H locs ls S' hp hl k2 r1 r2 hk)
  | false =>
    rw [hb2] at ho2
    obtain ⟨q, hq, ho3⟩ := am_ob_some (show am_ob _ _ = some o from ho2)
    rw [am_nth_eq, List.getElem?_map] at hq
    cases hz : os.toList[(am_si x.2.1 - lw).toNat]? with
    | none =>
      rw [hz] at hq
      cases hq
    | some z =>
      rw [hz] at hq
      have e : ix z = q := Option.some.inj hq
      subst e
      have h0 := of_decide_eq_true (List.all_eq_true.mp hos z (List.mem_of_getElem? hz))
      obtain ⟨g1, g2, g3, g4⟩ := hj z h0 lo rest h nc ns o ho3
      refine ⟨g1, g2, g3, fun ad H locs ls S hp hl hs r1 r2 hk => ?_⟩
      obtain ⟨V, S', rfl, k1, k2⟩ := am_St_cons hs
      have e := am_tg0 hc.1 k1
      subst e
      rw [Bool.or_eq_false_iff, decide_eq_false_iff_not, decide_eq_false_iff_not] at hb2
      exact lv_tableIn hx hb hd (by rw [ez]; exact hb2.1) (by rw [ez]; exact hb2.2) (by rw [ez, ← Array.getElem?_toList]; exact hz) (htg z h0) (g4 ad H locs ls S' hp hl k2 r1 r2 hk)
end AMROWN
