/-! ===== an instruction that passes its check is sound ===== -/
def am_cI (b9 : Bool) (M : am_M) (pc : Nat) (i : Instr) (ln : List Nat) : Bool := match i with
  | .bipush n => decide ((Int8.ofInt n).toInt32 = Int32.ofInt n)
  | .sipush n => decide ((Int16.ofInt n).toInt32 = Int32.ofInt n)
  | .ldc idx => am_cLdc M.1.cls idx ln
  | .ldc_w idx => am_cLdcW M.1.cls idx ln
  | .ldc2_w idx => am_cLdc2 M.1.cls idx ln
  | .goto o => decide (0 ≤ (pc : Int) + o)
  | .ifCond _ o => decide (0 ≤ (pc : Int) + o)
  | .if_icmp _ o => decide (0 ≤ (pc : Int) + o)
  | .ifnull o => decide (0 ≤ (pc : Int) + o)
  | .ifnonnull o => decide (0 ≤ (pc : Int) + o)
  | .tableswitch df _ _ os => decide (0 ≤ (pc : Int) + df) && os.toList.all (fun o => decide (0 ≤ (pc : Int) + o))
  | .getfield idx => am_cFld M false idx ln
  | .putfield idx => am_cFld M true idx ln
  | .new idx => am_cNew M pc idx ln
  | .newarray t => decide (t = .int)
  | .anewarray idx => am_cAna M.1.cls idx ln
  | .multianewarray idx n => Nat.beq n 2 && decide (Cond.classLink M.1.cls idx "[[I" ∈ lw_tbl) && goodWord (Cond.classLink M.1.cls idx "[[I")
  | .invokestatic idx => am_cSt b9 M.1.cls idx ln
  | .invokevirtual idx => am_cVi M.1.cls idx ln
  | .invokespecial idx => am_cSp M.1.cls idx ln
  | _ => true
/-- how long it is -/
def am_isz (i : Instr) (n : Nat) : Bool := match i with
  | .bipush _ => Nat.beq n 2
  | .ldc _ => Nat.beq n 2
  | .iload _ => Nat.beq n 2
  | .lload _ => Nat.beq n 2
  | .aload _ => Nat.beq n 2
  | .istore _ => Nat.beq n 2
  | .lstore _ => Nat.beq n 2
  | .astore _ => Nat.beq n 2
  | .newarray _ => Nat.beq n 2
  | .sipush _ => Nat.beq n 3
  | .ldc_w _ => Nat.beq n 3
  | .ldc2_w _ => Nat.beq n 3
  | .iinc _ _ => Nat.beq n 3
  | .goto _ => Nat.beq n 3
  | .ifCond _ _ => Nat.beq n 3
  | .if_icmp _ _ => Nat.beq n 3
  | .ifnull _ => Nat.beq n 3
  | .ifnonnull _ => Nat.beq n 3
  | .tableswitch .. => true
  | .getfield _ => Nat.beq n 3
  | .putfield _ => Nat.beq n 3
  | .new _ => Nat.beq n 3
  | .anewarray _ => Nat.beq n 3
  | .multianewarray _ _ => Nat.beq n 4
  | .invokestatic _ => Nat.beq n 3
  | .invokevirtual _ => Nat.beq n 3
  | .invokespecial _ => Nat.beq n 3
  | _ => Nat.beq n 1
def am_ck (b9 : Bool) (M : am_M) (x : am_I) : Bool := decide (decode M.2.1 x.1 = .ok (x.2.1, x.2.2.1)) && am_isz x.2.1 x.2.2.1 && am_cI b9 M x.1 x.2.1 x.2.2.2
section AMOK
variable {p : Program} {l : Launch} {e : Env} {R : Room} {s : State} {m : MethodId} {args : Array Value} {below : List Frame} {meth : Method} {c : Code} {Q : State → Prop} {Y : am_Y} {A : am_A} {ad0 : List Nat} {nL c0 q0 : Nat} {code : ByteArray} {rt : Option FieldType}
variable {sub : Nat → am_G} {go : am_G} {jmp : Nat → am_G} {pc : Nat} {M : am_M}
theorem am_tgt_ok {pc : Nat} {off : Int} (h : decide (0 ≤ (pc : Int) + off) = true) : (pc : Int) + off = (am_tgt pc off : Int) := (Int.toNat_of_nonneg (of_decide_eq_true h)).symm
theorem am_opOK (hG : am_Gl l Y) (hF : am_Fm p s m args meth c Y M.1.cls M.2.1 M.2.2.1 M.2.2.2.1) (hA : am_kn A Y.2.2.1) (htab : c.exceptionTable.toList = tableOf M.2.2.2.2.1) (htck : am_tck M = true) (hnm : meth.name = M.1.name) {d : Nat} (hfr : d + 21 ≤ R.frames) (hlr : 100 * d + 500 ≤ R.locals) (hsub : am_SubOK l Y d sub) {b9 : Bool} (hbod : b9 = true → am_BodOK l Y d am_m18) (hj : ∀ t, am_Snd p l e R s m args below meth c Q Y ad0 M.2.2.1 c0 q0 M.2.1 M.2.2.2.1 (jmp (am_ix t M.2.2.2.2.2)) t) {i : Instr} {n : Nat} {ln : List Nat} (hd : decode M.2.1 pc = .ok (i, n)) (hz : am_isz i n = true) (h : am_cI b9 M pc i ln = true) (hgo : am_Snd p l e R s m args below meth c Q Y ad0 M.2.2.1 c0 q0 M.2.1 M.2.2.2.1 go (pc + n)) : am_Snd p l e R s m args below meth c Q Y ad0 M.2.2.1 c0 q0 M.2.1 M.2.2.2.1 (am_op am_db am_hc am_bl M pc i ln A sub go jmp) pc := by
  have hx := hF.1
  have hb := hF.2.1
  cases i
  case iconst k =>
    have e9 : n = 1 := Nat.eq_of_beq_eq_true hz
    subst e9
    exact am_rIconst (A := A) (sub := sub) (go := go) (jmp := jmp) hx hb hd hgo
  case bipush k =>
    have e9 : n = 2 := Nat.eq_of_beq_eq_true hz
    subst e9
    exact am_rBipush (A := A) (sub := sub) (go := go) (jmp := jmp) hx hb (of_decide_eq_true h) hd hgo
  case sipush k =>
    have e9 : n = 3 := Nat.eq_of_beq_eq_true hz
    subst e9
    exact am_rSipush (A := A) (sub := sub) (go := go) (jmp := jmp) hx hb (of_decide_eq_true h) hd hgo
  case lconst k =>
    have e9 : n = 1 := Nat.eq_of_beq_eq_true hz
    subst e9
    exact am_rLconst (A := A) (sub := sub) (go := go) (jmp := jmp) hx hb hd hgo
  case fconst k =>
    have e9 : n = 1 := Nat.eq_of_beq_eq_true hz
    subst e9
    exact am_rFconst (A := A) (sub := sub) (go := go) (jmp := jmp) hx hb hd hgo
  case dconst k =>
    have e9 : n = 1 := Nat.eq_of_beq_eq_true hz
    subst e9
    exact am_rDconst (A := A) (sub := sub) (go := go) (jmp := jmp) hx hb hd hgo
  case ldc idx =>
    have e9 : n = 2 := Nat.eq_of_beq_eq_true hz
    subst e9
    exact am_kLdc hF h hd hgo
  case ldc_w idx =>
    have e9 : n = 3 := Nat.eq_of_beq_eq_true hz
    subst e9
    exact am_kLdcW hF h hd hgo
  case ldc2_w idx =>
    have e9 : n = 3 := Nat.eq_of_beq_eq_true hz
    subst e9
    exact am_kLdc2 hF h hd hgo
  case iload k =>
    have e9 : n = 2 := Nat.eq_of_beq_eq_true hz
    subst e9
    exact am_rIload (A := A) (sub := sub) (go := go) (jmp := jmp) hx hb hd hgo
  case istore k =>
    have e9 : n = 2 := Nat.eq_of_beq_eq_true hz
    subst e9
    exact am_rIstore (A := A) (sub := sub) (go := go) (jmp := jmp) hx hb hd hgo
  case lload k =>
    have e9 : n = 2 := Nat.eq_of_beq_eq_true hz
    subst e9
    exact am_rLload (A := A) (sub := sub) (go := go) (jmp := jmp) hx hb hd hgo
  case lstore k =>
    have e9 : n = 2 := Nat.eq_of_beq_eq_true hz
    subst e9
    exact am_rLstore (A := A) (sub := sub) (go := go) (jmp := jmp) hx hb hd hgo
  case aload k =>
    have e9 : n = 2 := Nat.eq_of_beq_eq_true hz
    subst e9
    exact am_rAload (A := A) (sub := sub) (go := go) (jmp := jmp) hx hb hd hgo
  case astore k =>
    have e9 : n = 2 := Nat.eq_of_beq_eq_true hz
    subst e9
    exact am_rAstore (A := A) (sub := sub) (go := go) (jmp := jmp) hx hb hd hgo
  case iload_n k =>
    have e9 : n = 1 := Nat.eq_of_beq_eq_true hz
    subst e9
    exact am_rIloadn (A := A) (sub := sub) (go := go) (jmp := jmp) hx hb hd hgo
  case istore_n k =>
    have e9 : n = 1 := Nat.eq_of_beq_eq_true hz
    subst e9
    exact am_rIstoren (A := A) (sub := sub) (go := go) (jmp := jmp) hx hb hd hgo
  case lload_n k =>
    have e9 : n = 1 := Nat.eq_of_beq_eq_true hz
    subst e9
    exact am_rLloadn (A := A) (sub := sub) (go := go) (jmp := jmp) hx hb hd hgo
  case lstore_n k =>
    have e9 : n = 1 := Nat.eq_of_beq_eq_true hz
    subst e9
    exact am_rLstoren (A := A) (sub := sub) (go := go) (jmp := jmp) hx hb hd hgo
  case fload_n k =>
    have e9 : n = 1 := Nat.eq_of_beq_eq_true hz
    subst e9
    exact am_rFloadn (A := A) (sub := sub) (go := go) (jmp := jmp) hx hb hd hgo
  case fstore_n k =>
    have e9 : n = 1 := Nat.eq_of_beq_eq_true hz
    subst e9
    exact am_rFstoren (A := A) (sub := sub) (go := go) (jmp := jmp) hx hb hd hgo
  case dload_n k =>
    have e9 : n = 1 := Nat.eq_of_beq_eq_true hz
    subst e9
    exact am_rDloadn (A := A) (sub := sub) (go := go) (jmp := jmp) hx hb hd hgo
  case dstore_n k =>
    have e9 : n = 1 := Nat.eq_of_beq_eq_true hz
    subst e9
    exact am_rDstoren (A := A) (sub := sub) (go := go) (jmp := jmp) hx hb hd hgo
  case aload_n k =>
    have e9 : n = 1 := Nat.eq_of_beq_eq_true hz
    subst e9
    exact am_rAloadn (A := A) (sub := sub) (go := go) (jmp := jmp) hx hb hd hgo
  case astore_n k =>
    have e9 : n = 1 := Nat.eq_of_beq_eq_true hz
    subst e9
    exact am_rAstoren (A := A) (sub := sub) (go := go) (jmp := jmp) hx hb hd hgo
  case iinc k z =>
    have e9 : n = 3 := Nat.eq_of_beq_eq_true hz
    subst e9
    exact am_rIinc (A := A) (sub := sub) (go := go) (jmp := jmp) hx hb hA hd hgo
  case iadd =>
    have e9 : n = 1 := Nat.eq_of_beq_eq_true hz
    subst e9
    exact am_rIadd (A := A) (sub := sub) (go := go) (jmp := jmp) hx hb hA hd hgo
  case isub =>
    have e9 : n = 1 := Nat.eq_of_beq_eq_true hz
    subst e9
    exact am_rIsub (A := A) (sub := sub) (go := go) (jmp := jmp) hx hb hA hd hgo
  case imul =>
    have e9 : n = 1 := Nat.eq_of_beq_eq_true hz
    subst e9
    exact am_rImul (A := A) (sub := sub) (go := go) (jmp := jmp) hx hb hA hd hgo
  case idiv =>
    have e9 : n = 1 := Nat.eq_of_beq_eq_true hz
    subst e9
    exact am_rIdiv (A := A) (sub := sub) (go := go) (jmp := jmp) hx hb hA hd hgo
  case irem =>
    have e9 : n = 1 := Nat.eq_of_beq_eq_true hz
    subst e9
    exact am_rIrem (A := A) (sub := sub) (go := go) (jmp := jmp) hx hb hA hd hgo
  case ior =>
    have e9 : n = 1 := Nat.eq_of_beq_eq_true hz
    subst e9
    exact am_rIor (A := A) (sub := sub) (go := go) (jmp := jmp) hx hb hd hgo
  case ishl =>
    have e9 : n = 1 := Nat.eq_of_beq_eq_true hz
    subst e9
    exact am_rIshl (A := A) (sub := sub) (go := go) (jmp := jmp) hx hb hd hgo
  case i2c =>
    have e9 : n = 1 := Nat.eq_of_beq_eq_true hz
    subst e9
    exact am_rI2c (A := A) (sub := sub) (go := go) (jmp := jmp) hx hb hd hgo
  case i2l =>
    have e9 : n = 1 := Nat.eq_of_beq_eq_true hz
    subst e9
    exact am_rI2l (A := A) (sub := sub) (go := go) (jmp := jmp) hx hb hd hgo
  case i2f =>
    have e9 : n = 1 := Nat.eq_of_beq_eq_true hz
    subst e9
    exact am_rI2f (A := A) (sub := sub) (go := go) (jmp := jmp) hx hb hd hgo
  case i2d =>
    have e9 : n = 1 := Nat.eq_of_beq_eq_true hz
    subst e9
    exact am_rI2d (A := A) (sub := sub) (go := go) (jmp := jmp) hx hb hd hgo
  case l2i =>
    have e9 : n = 1 := Nat.eq_of_beq_eq_true hz
    subst e9
    exact am_rL2i (A := A) (sub := sub) (go := go) (jmp := jmp) hx hb hd hgo
  case ladd =>
    have e9 : n = 1 := Nat.eq_of_beq_eq_true hz
    subst e9
    exact am_rLadd (A := A) (sub := sub) (go := go) (jmp := jmp) hx hb hd hgo
  case lsub =>
    have e9 : n = 1 := Nat.eq_of_beq_eq_true hz
    subst e9
    exact am_rLsub (A := A) (sub := sub) (go := go) (jmp := jmp) hx hb hd hgo
  case lmul =>
    have e9 : n = 1 := Nat.eq_of_beq_eq_true hz
    subst e9
    exact am_rLmul (A := A) (sub := sub) (go := go) (jmp := jmp) hx hb hd hgo
  case lor =>
    have e9 : n = 1 := Nat.eq_of_beq_eq_true hz
    subst e9
    exact am_rLor (A := A) (sub := sub) (go := go) (jmp := jmp) hx hb hd hgo
  case lshl =>
    have e9 : n = 1 := Nat.eq_of_beq_eq_true hz
    subst e9
    exact am_rLshl (A := A) (sub := sub) (go := go) (jmp := jmp) hx hb hd hgo
  case lcmp =>
    have e9 : n = 1 := Nat.eq_of_beq_eq_true hz
    subst e9
    exact am_rLcmp (A := A) (sub := sub) (go := go) (jmp := jmp) hx hb hd hgo
  case fdiv =>
    have e9 : n = 1 := Nat.eq_of_beq_eq_true hz
    subst e9
    exact am_rFdiv (A := A) (sub := sub) (go := go) (jmp := jmp) hx hb hd hgo
  case fmul =>
    have e9 : n = 1 := Nat.eq_of_beq_eq_true hz
    subst e9
    exact am_rFmul (A := A) (sub := sub) (go := go) (jmp := jmp) hx hb hd hgo
  case fsub =>
    have e9 : n = 1 := Nat.eq_of_beq_eq_true hz
    subst e9
    exact am_rFsub (A := A) (sub := sub) (go := go) (jmp := jmp) hx hb hd hgo
  case f2i =>
    have e9 : n = 1 := Nat.eq_of_beq_eq_true hz
    subst e9
    exact am_rF2i (A := A) (sub := sub) (go := go) (jmp := jmp) hx hb hd hgo
  case f2d =>
    have e9 : n = 1 := Nat.eq_of_beq_eq_true hz
    subst e9
    exact am_rF2d (A := A) (sub := sub) (go := go) (jmp := jmp) hx hb hd hgo
  case dadd =>
    have e9 : n = 1 := Nat.eq_of_beq_eq_true hz
    subst e9
    exact am_rDadd (A := A) (sub := sub) (go := go) (jmp := jmp) hx hb hd hgo
  case dsub =>
    have e9 : n = 1 := Nat.eq_of_beq_eq_true hz
    subst e9
    exact am_rDsub (A := A) (sub := sub) (go := go) (jmp := jmp) hx hb hd hgo
  case dmul =>
    have e9 : n = 1 := Nat.eq_of_beq_eq_true hz
    subst e9
    exact am_rDmul (A := A) (sub := sub) (go := go) (jmp := jmp) hx hb hd hgo
  case d2l =>
    have e9 : n = 1 := Nat.eq_of_beq_eq_true hz
    subst e9
    exact am_rD2l (A := A) (sub := sub) (go := go) (jmp := jmp) hx hb hd hgo
  case dup =>
    have e9 : n = 1 := Nat.eq_of_beq_eq_true hz
    subst e9
    exact am_rDup (A := A) (sub := sub) (go := go) (jmp := jmp) hx hb hd hgo
  case dup2 =>
    have e9 : n = 1 := Nat.eq_of_beq_eq_true hz
    subst e9
    exact am_rDup2 (A := A) (sub := sub) (go := go) (jmp := jmp) hx hb hd hgo
  case fcmp q =>
    have e9 : n = 1 := Nat.eq_of_beq_eq_true hz
    subst e9
    exact am_rFcmp (A := A) (sub := sub) (go := go) (jmp := jmp) hx hb hd hgo
  case ddiv =>
    have e9 : n = 1 := Nat.eq_of_beq_eq_true hz
    subst e9
    exact am_rDdiv (A := A) (sub := sub) (go := go) (jmp := jmp) hx hb hA hd hgo
  case dcmp q =>
    have e9 : n = 1 := Nat.eq_of_beq_eq_true hz
    subst e9
    exact am_rDcmp (A := A) (sub := sub) (go := go) (jmp := jmp) hx hb hA hd hgo
  case goto off =>
    have e9 : n = 3 := Nat.eq_of_beq_eq_true hz
    subst e9
    exact am_rGoto (A := A) (sub := sub) (go := go) (jmp := jmp) hx hb (am_tgt_ok h) hd (hj _)
  case ifCond q off =>
    have e9 : n = 3 := Nat.eq_of_beq_eq_true hz
    subst e9
    cases q
    · exact am_rIf1eq (A := A) (sub := sub) (go := go) (jmp := jmp) hx hb hA (am_tgt_ok h) hd hgo (hj _)
    · exact am_rIf1ne (A := A) (sub := sub) (go := go) (jmp := jmp) hx hb hA (am_tgt_ok h) hd hgo (hj _)
    · exact am_rIf1lt (A := A) (sub := sub) (go := go) (jmp := jmp) hx hb hA (am_tgt_ok h) hd hgo (hj _)
    · exact am_rIf1ge (A := A) (sub := sub) (go := go) (jmp := jmp) hx hb hA (am_tgt_ok h) hd hgo (hj _)
    · exact am_rIf1gt (A := A) (sub := sub) (go := go) (jmp := jmp) hx hb hA (am_tgt_ok h) hd hgo (hj _)
    · exact am_rIf1le (A := A) (sub := sub) (go := go) (jmp := jmp) hx hb hA (am_tgt_ok h) hd hgo (hj _)
  case if_icmp q off =>
    have e9 : n = 3 := Nat.eq_of_beq_eq_true hz
    subst e9
    cases q
    · exact am_rIf2eq (A := A) (sub := sub) (go := go) (jmp := jmp) hx hb hA (am_tgt_ok h) hd hgo (hj _)
    · exact am_rIf2ne (A := A) (sub := sub) (go := go) (jmp := jmp) hx hb hA (am_tgt_ok h) hd hgo (hj _)
    · exact am_rIf2lt (A := A) (sub := sub) (go := go) (jmp := jmp) hx hb hA (am_tgt_ok h) hd hgo (hj _)
    · exact am_rIf2ge (A := A) (sub := sub) (go := go) (jmp := jmp) hx hb hA (am_tgt_ok h) hd hgo (hj _)
    · exact am_rIf2gt (A := A) (sub := sub) (go := go) (jmp := jmp) hx hb hA (am_tgt_ok h) hd hgo (hj _)
    · exact am_rIf2le (A := A) (sub := sub) (go := go) (jmp := jmp) hx hb hA (am_tgt_ok h) hd hgo (hj _)
  case ifnull off =>
    have e9 : n = 3 := Nat.eq_of_beq_eq_true hz
    subst e9
    exact am_rIfnull (A := A) (sub := sub) (go := go) (jmp := jmp) hx hb (am_tgt_ok h) hd hgo (hj _)
  case ifnonnull off =>
    have e9 : n = 3 := Nat.eq_of_beq_eq_true hz
    subst e9
    exact am_rIfnonnull (A := A) (sub := sub) (go := go) (jmp := jmp) hx hb (am_tgt_ok h) hd hgo (hj _)
  case tableswitch df lw hg os =>
    have h2 : decide (0 ≤ (pc : Int) + df) = true ∧ os.toList.all (fun o => decide (0 ≤ (pc : Int) + o)) = true := by
      rw [← Bool.and_eq_true]
      exact h
    exact am_rSwitch (go := go) (A := A) (sub := sub) (jmp := jmp) (ix := fun o => am_ix (am_tgt pc o) M.2.2.2.2.2) hx hb (fun o _ => hj _) (of_decide_eq_true h2.1) h2.2 hd
  case getfield idx =>
    have e9 : n = 3 := Nat.eq_of_beq_eq_true hz
    subst e9
    exact am_kGet hG hF h hd hgo
  case putfield idx =>
    have e9 : n = 3 := Nat.eq_of_beq_eq_true hz
    subst e9
    exact am_kPut hG hF hnm h hd hgo
  case new idx =>
    have e9 : n = 3 := Nat.eq_of_beq_eq_true hz
    subst e9
    exact am_kNew hG hF htab (by omega) (by omega) h hd hgo
  case newarray t =>
    have e9 : n = 2 := Nat.eq_of_beq_eq_true hz
    subst e9
    have e8 : t = .int := of_decide_eq_true h
    subst e8
    exact am_sNewa (A := A) (sub := sub) (go := go) (jmp := jmp) hF am_arrInt hd hgo
  case anewarray idx =>
    have e9 : n = 3 := Nat.eq_of_beq_eq_true hz
    subst e9
    exact am_kAna hG hF h hd hgo
  case multianewarray idx k =>
    have e9 : n = 4 := Nat.eq_of_beq_eq_true hz
    subst e9
    have h2 : (Nat.beq k 2 = true ∧ decide (Cond.classLink M.1.cls idx "[[I" ∈ lw_tbl) = true) ∧ goodWord (Cond.classLink M.1.cls idx "[[I") = true := by
      rw [← Bool.and_eq_true, ← Bool.and_eq_true]
      exact h
    have e8 := Nat.eq_of_beq_eq_true h2.1.1
    subst e8
    exact am_sMulti (A := A) (sub := sub) (go := go) (jmp := jmp) hF hG.2.2.1 (List.mem_filter.mpr ⟨of_decide_eq_true h2.1.2, h2.2⟩) am_arrInt hd hgo
  case iaload =>
    have e9 : n = 1 := Nat.eq_of_beq_eq_true hz
    subst e9
    exact am_sIald (A := A) (sub := sub) (go := go) (jmp := jmp) hF hd hgo
  case aaload =>
    have e9 : n = 1 := Nat.eq_of_beq_eq_true hz
    subst e9
    exact am_sAald (A := A) (sub := sub) (go := go) (jmp := jmp) hF hd hgo
  case iastore =>
    have e9 : n = 1 := Nat.eq_of_beq_eq_true hz
    subst e9
    exact am_sIast (A := A) (sub := sub) (go := go) (jmp := jmp) hF hd hgo
  case aastore =>
    have e9 : n = 1 := Nat.eq_of_beq_eq_true hz
    subst e9
    exact am_sAast (A := A) (sub := sub) (go := go) (jmp := jmp) hF hG.2.1 hd hgo
  case invokestatic idx =>
    have e9 : n = 3 := Nat.eq_of_beq_eq_true hz
    subst e9
    exact am_kSt hG hF hA htab htck hfr hlr hsub hbod hj h hd hgo
  case invokevirtual idx =>
    have e9 : n = 3 := Nat.eq_of_beq_eq_true hz
    subst e9
    exact am_kVi hG hF htab htck hfr hlr hsub hj h hd hgo
  case invokespecial idx =>
    have e9 : n = 3 := Nat.eq_of_beq_eq_true hz
    subst e9
    exact am_kSp hG hF htab htck hfr hlr hsub hj h hd hgo
  case return_ =>
    have e9 : n = 1 := Nat.eq_of_beq_eq_true hz
    subst e9
    show am_Snd p l e R s m args below meth c Q Y ad0 M.2.2.1 c0 q0 M.2.1 M.2.2.2.1 ((match M.2.2.2.1 with | none => am_oRet0 pc | some _ => am_oBad) A sub go jmp) pc
    cases hr : M.2.2.2.1 with
    | none => exact am_sRet0 (A := A) (sub := sub) (go := go) (jmp := jmp) rfl hd
    | some t => exact am_sBad (A := A) (sub := sub) (go := go) (jmp := jmp)
  case ireturn =>
    have e9 : n = 1 := Nat.eq_of_beq_eq_true hz
    subst e9
    show am_Snd p l e R s m args below meth c Q Y ad0 M.2.2.1 c0 q0 M.2.1 M.2.2.2.1 ((match M.2.2.2.1 with | some rt => am_oRet pc am_tI rt | none => am_oBad) A sub go jmp) pc
    cases hr : M.2.2.2.1 with
    | some t => exact am_sRet (A := A) (sub := sub) (go := go) (jmp := jmp) rfl fun v hv => Or.inl ⟨hv, hd⟩
    | none => exact am_sBad (A := A) (sub := sub) (go := go) (jmp := jmp)
  case lreturn =>
    have e9 : n = 1 := Nat.eq_of_beq_eq_true hz
    subst e9
    show am_Snd p l e R s m args below meth c Q Y ad0 M.2.2.1 c0 q0 M.2.1 M.2.2.2.1 ((match M.2.2.2.1 with | some rt => am_oRet pc am_tL rt | none => am_oBad) A sub go jmp) pc
    cases hr : M.2.2.2.1 with
    | some t => exact am_sRet (A := A) (sub := sub) (go := go) (jmp := jmp) rfl fun v hv => Or.inr (Or.inl ⟨hv, hd⟩)
    | none => exact am_sBad (A := A) (sub := sub) (go := go) (jmp := jmp)
  case freturn =>
    have e9 : n = 1 := Nat.eq_of_beq_eq_true hz
    subst e9
    show am_Snd p l e R s m args below meth c Q Y ad0 M.2.2.1 c0 q0 M.2.1 M.2.2.2.1 ((match M.2.2.2.1 with | some rt => am_oRet pc am_tF rt | none => am_oBad) A sub go jmp) pc
    cases hr : M.2.2.2.1 with
    | some t => exact am_sRet (A := A) (sub := sub) (go := go) (jmp := jmp) rfl fun v hv => Or.inr (Or.inr (Or.inl ⟨hv, hd⟩))
    | none => exact am_sBad (A := A) (sub := sub) (go := go) (jmp := jmp)
  case dreturn =>
    have e9 : n = 1 := Nat.eq_of_beq_eq_true hz
    subst e9
    show am_Snd p l e R s m args below meth c Q Y ad0 M.2.2.1 c0 q0 M.2.1 M.2.2.2.1 ((match M.2.2.2.1 with | some rt => am_oRet pc am_tD rt | none => am_oBad) A sub go jmp) pc
    cases hr : M.2.2.2.1 with
    | some t => exact am_sRet (A := A) (sub := sub) (go := go) (jmp := jmp) rfl fun v hv => Or.inr (Or.inr (Or.inr (Or.inl ⟨hv, hd⟩)))
    | none => exact am_sBad (A := A) (sub := sub) (go := go) (jmp := jmp)
  case areturn =>
    have e9 : n = 1 := Nat.eq_of_beq_eq_true hz
    subst e9
    show am_Snd p l e R s m args below meth c Q Y ad0 M.2.2.1 c0 q0 M.2.1 M.2.2.2.1 ((match M.2.2.2.1 with | some rt => am_oRet pc am_tR rt | none => am_oBad) A sub go jmp) pc
    cases hr : M.2.2.2.1 with
    | some t => exact am_sRet (A := A) (sub := sub) (go := go) (jmp := jmp) rfl fun v hv => Or.inr (Or.inr (Or.inr (Or.inr ⟨hv, hd⟩)))
    | none => exact am_sBad (A := A) (sub := sub) (go := go) (jmp := jmp)
  all_goals exact am_kBad A sub go jmp
end AMOK
