/-! ===== what makes an instruction's operation sound: checks over the tables ===== -/
def am_isI (i : Instr) (n : Nat) : Bool := decide (i = i) && Nat.beq n n
def am_cLdc (own : String) (idx : Nat) (ln : List Nat) : Bool := match ln with
  | [] => true
  | [t, n, w] => (Nat.beq t 0 && am_w w (Cond.constant own idx (Int32.ofNat n))) || (Nat.beq t 2 && am_w w (Cond.constantFloat own idx (UInt32.ofNat n)))
  | _ => false
def am_cLdcW (own : String) (idx : Nat) (ln : List Nat) : Bool := match ln with
  | [] => true
  | [t, n, w] => Nat.beq t 0 && am_w w (Cond.constant own idx (Int32.ofNat n))
  | _ => false
def am_cLdc2 (own : String) (idx : Nat) (ln : List Nat) : Bool := match ln with
  | [] => true
  | [t, n, w] => (Nat.beq t 1 && am_w w (Cond.constantLong own idx (Int64.ofNat n))) || (Nat.beq t 3 && am_w w (Cond.constantDouble own idx (UInt64.ofNat n)))
  | _ => false
def am_cFld (M : am_M) (put : Bool) (idx : Nat) (ln : List Nat) : Bool := match ln with
  | [] => true
  | [ci, k, w] => (match am_cl[ci]? with
    | some q => decide (k < q.2.2) && am_w w (Cond.fieldLink M.1.cls idx (q.2.1 k).1 (q.2.1 k).2.1 (q.2.1 k).2.2.1) && (!put || (!(q.2.1 k).2.2.2 || (decide (M.1.name = "<init>") && decide ((q.2.1 k).1 = M.1.cls))))
    | none => false)
  | _ => false
def am_txt (own : String) (is : Nat) : Option String := (am_strs.find? (fun q => decide (q.1 = own) && Nat.beq q.2.1 is)).map (fun q => q.2.2)
def am_cThr (M : am_M) (pc idx ei : Nat) : Bool := match am_ex[ei]? with
  | none => false
  | some E => decide (decode M.2.1 (pc + 3) = .ok (.dup, 1)) && (match decode M.2.1 (pc + 4) with
    | .ok (.ldc is, 2) => (match decode M.2.1 (pc + 6) with
      | .ok (.invokespecial ic, 3) => decide (decode M.2.1 (pc + 9) = .ok (.athrow, 1)) && (match am_txt M.1.cls is with
        | some text => am_tw M.1.cls idx is ic E text
        | none => false)
      | _ => false)
    | .ok (.ldc_w is, 3) => (match decode M.2.1 (pc + 7) with
      | .ok (.invokespecial ic, 3) => decide (decode M.2.1 (pc + 10) = .ok (.athrow, 1)) && (match am_txt M.1.cls is with
        | some text => am_tw M.1.cls idx is ic E text
        | none => false)
      | _ => false)
    | _ => false)
def am_cNew (M : am_M) (pc idx : Nat) (ln : List Nat) : Bool := match ln with
  | [] => true
  | [9, ei] => !(M.2.2.2.2.1.isEmpty) || am_cThr M pc idx ei
  | [ci, w1, w2, w3] => (match am_cl[ci]? with
    | some q => am_w w1 (Cond.classLink M.1.cls idx q.1) && am_w w2 (Cond.instantiable q.1 q.2.2) && am_w w3 (Cond.initialized q.1)
    | none => false)
  | _ => false
def am_cAna (own : String) (idx : Nat) (ln : List Nat) : Bool := match ln with
  | [] => true
  | k :: w :: _ => (Nat.beq k 101 && am_w w (Cond.classLink own idx RX5)) || (Nat.beq k 102 && am_w w (Cond.classLink own idx RX2)) || (Nat.beq k 103 && am_w w (Cond.classLink own idx RX1)) || (Nat.beq k 104 && am_w w (Cond.classLink own idx "[I"))
  | _ => false
def am_lib (own : String) (idx : Nat) (y : MethodName) (w1 w2 w3 w4 : Nat) (w : Cond) : Bool := am_w w1 (Cond.methodLink own idx y) && am_w w2 (Cond.static y) && am_w w3 (Cond.initialized y.cls) && am_w w4 w
def am_cSt (b9 : Bool) (own : String) (idx : Nat) (ln : List Nat) : Bool := match ln with
  | [] => true
  | [0, mi, n, w1, w2, w3, w4] => (match am_db[mi]? with
    | some M1 => am_lib own idx M1.1 w1 w2 w3 w4 (am_head M1) && am_d M1 n
    | none => false)
  | [3, w1, w2, w3, w4] => am_lib own idx Lib.Math.abs.name w1 w2 w3 w4 (Cond.code Lib.Math.abs.name Lib.Math.abs.code 1 (some .int))
  | [4, w1, w2, w3, w4] => am_lib own idx Lib.Math.min.name w1 w2 w3 w4 (Cond.code Lib.Math.min.name Lib.Math.min.code 2 (some .int))
  | [5, w1, w2, w3, w4] => am_lib own idx Lib.MathLoose.min_long.x w1 w2 w3 w4 (Cond.code Lib.MathLoose.min_long.x Lib.MathLoose.min_long.code 4 (some .long))
  | [6, w1, w2, w3, w4] => am_lib own idx Lib.MathLoose.max_long.x w1 w2 w3 w4 (Cond.code Lib.MathLoose.max_long.x Lib.MathLoose.max_long.code 4 (some .long))
  | [7, w1, w2, w3, w4] => am_lib own idx ⟨"java/lang/Float", "floatToRawIntBits", "(F)I"⟩ w1 w2 w3 w4 (Cond.native ⟨"java/lang/Float", "floatToRawIntBits", "(F)I"⟩)
  | [8, w1, w2, w3, w4] => am_lib own idx ⟨"java/lang/Double", "doubleToRawLongBits", "(D)J"⟩ w1 w2 w3 w4 (Cond.native ⟨"java/lang/Double", "doubleToRawLongBits", "(D)J"⟩)
  | [9, mi, n, w1, w2, w3, w4] => b9 && Nat.beq mi 18 && Nat.beq n 1 && am_lib own idx am_m18.1 w1 w2 w3 w4 (am_head am_m18) && am_d am_m18 1
  | _ => false
def am_cVi (own : String) (idx : Nat) (ln : List Nat) : Bool := match ln with
  | [] => true
  | [1, mi, n, ci, w1, w2, w3, w4, w5] => (match am_db[mi]?, am_cl[ci]? with
    | some M1, some q => decide (0 < n) && am_d M1 (n - 1) && M1.2.2.2.2.1.isEmpty && decide (q.1 = M1.1.cls) && am_w w1 (Cond.methodLink own idx M1.1) && am_w w2 (Cond.instanceMethod M1.1) && am_w w3 (Cond.selects M1.1.cls M1.1 M1.1) && am_w w4 (Cond.initialized M1.1.cls) && am_w w5 (am_head M1)
    | _, _ => false)
  | _ => false
def am_cSp (own : String) (idx : Nat) (ln : List Nat) : Bool := match ln with
  | [] => true
  | [0, mi, n, w1, w2, w3, w4] => (match am_db[mi]? with
    | some M1 => decide (0 < n) && am_d M1 (n - 1) && M1.2.2.2.2.1.isEmpty && M1.2.2.2.1.isNone && decide (M1.1.name = "<init>") && (am_w w1 (Cond.methodLink own idx M1.1) || decide (lw_tbl[w1]? = some (Cond.methodLinkNest own idx M1.1 "CombCylinder"))) && am_w w2 (Cond.instanceMethod M1.1) && am_w w3 (Cond.initialized M1.1.cls) && am_w w4 (am_head M1)
    | none => false)
  | [2, w1, w2, w3] => am_w w1 (Cond.methodLink own idx Lib.objectInit) && am_w w2 (Cond.instanceMethod Lib.objectInit) && am_w w3 (Cond.code Lib.objectInit ⟨#[0xb1]⟩ 1 none)
  | _ => false
