/-! ===== one step of the abstract machine; 'rec' is the rest of the run ===== -/
noncomputable def am_tI (v : am_V) : Bool := am_or (Nat.beq v.1 0) (Nat.beq v.1 6)
noncomputable def am_tL (v : am_V) : Bool := am_or (Nat.beq v.1 1) (Nat.beq v.1 11)
def am_tF (v : am_V) : Bool := Nat.beq v.1 2
noncomputable def am_tD (v : am_V) : Bool := am_or (Nat.beq v.1 3) (am_or (Nat.beq v.1 7) (Nat.beq v.1 9))
noncomputable def am_tR (v : am_V) : Bool := am_or (Nat.beq v.1 10) (am_or (Nat.beq v.1 8) (Nat.beq v.1 12))
noncomputable def am_tA (v : am_V) : Bool := am_or (am_tR v) (Nat.beq v.1 4)
/-- the classes, their fields' types -/
abbrev am_cl : List vw_C := [(RX0, TX0, 7), (RX1, TX1, 6), (RX2, TX2, 4), (RX3, TX3, 3), (RX4, TX4, 7), (RX5, TX5, 12), (RX6, TX6, 9)]
def am_tys : List (Nat → FieldType) := [tyX0, tyX1, tyX2, tyX3, tyX4, tyX5, tyX6]
def am_ty (ci k : Nat) : FieldType := match am_tys[ci]? with
  | some t => t k
  | none => .int
def am_df (t : FieldType) : am_V := match t with
  | .long => (1, 0, [])
  | .float => (2, 0, [])
  | .double => (3, 0, [])
  | .object _ => (4, 0, [])
  | .array _ => (4, 0, [])
  | _ => (0, 0, [])
/-- a value may be put into a field of that type -/
noncomputable def am_fit (t : FieldType) (v : am_V) : Bool := match t with
  | .int => am_tI v
  | .boolean => am_and (Nat.beq v.1 0) (Nat.blt v.2.1 2)
  | .char => am_and (Nat.beq v.1 0) (Nat.blt v.2.1 65536)
  | .long => am_tL v
  | .float => am_tF v
  | .double => am_tD v
  | .object _ => am_tA v
  | .array _ => am_tA v
  | _ => false
/-- the kinds of arrays: 100 int[], 101 Voice[], 102 Sheet[], 103 Pin[], 104 int[][] -/
def am_at (k : Nat) : Option FieldType := match k with
  | 100 => some .int
  | 101 => some (.object RX5)
  | 102 => some (.object RX2)
  | 103 => some (.object RX1)
  | 104 => some (.array .int)
  | _ => none
/-- what may be put into an array of that kind: the kind of the cell -/
def am_el (k : Nat) : Nat := match k with
  | 101 => 5
  | 102 => 2
  | 103 => 1
  | 104 => 100
  | _ => 999
/-- longs -/
def am_un8 (z : Int) : Nat := (z % 18446744073709551616).toNat
def am_si8 (n : Nat) : Int := bif Nat.blt n 9223372036854775808 then (n : Int) else (n : Int) - 18446744073709551616
def am_ofL (x : Int64) : am_V := (1, x.toBitVec.toNat, [])
def am_ofI (x : Int32) : am_V := (0, x.toBitVec.toNat, [])
def am_ofF (x : UInt32) : am_V := (2, x.toNat, [])
def am_ofD (x : UInt64) : am_V := (3, x.toNat, [])
noncomputable def am_i1 (f : Int32 → am_V) (a : am_V) : Option am_V := bif Nat.beq a.1 0 then some (f (Int32.ofNat a.2.1)) else none
noncomputable def am_i22 (f : Int32 → Int32 → am_V) (a b : am_V) : Option am_V := am_if (am_k2 a b) (some (f (Int32.ofNat a.2.1) (Int32.ofNat b.2.1))) none
noncomputable def am_l1 (f : Int64 → am_V) (a : am_V) : Option am_V := bif Nat.beq a.1 1 then some (f (Int64.ofNat a.2.1)) else none
noncomputable def am_l22 (f : Int64 → Int64 → am_V) (a b : am_V) : Option am_V := bif Nat.beq a.1 1 && Nat.beq b.1 1 then some (f (Int64.ofNat a.2.1) (Int64.ofNat b.2.1)) else none
noncomputable def am_li (f : Int64 → Int32 → am_V) (a b : am_V) : Option am_V := bif Nat.beq a.1 1 && Nat.beq b.1 0 then some (f (Int64.ofNat a.2.1) (Int32.ofNat b.2.1)) else none
noncomputable def am_f1v (f : UInt32 → am_V) (a : am_V) : Option am_V := bif Nat.beq a.1 2 then some (f (UInt32.ofNat a.2.1)) else none
noncomputable def am_f22 (ok : UInt32 → Bool) (f : UInt32 → UInt32 → UInt32) (a b : am_V) : Option am_V := bif Nat.beq a.1 2 && Nat.beq b.1 2 && ok (f (UInt32.ofNat a.2.1) (UInt32.ofNat b.2.1)) then some (am_ofF (f (UInt32.ofNat a.2.1) (UInt32.ofNat b.2.1))) else none
noncomputable def am_fc (f : UInt32 → UInt32 → Int32) (a b : am_V) : Option am_V := bif Nat.beq a.1 2 && Nat.beq b.1 2 then some (am_ofI (f (UInt32.ofNat a.2.1) (UInt32.ofNat b.2.1))) else none
noncomputable def am_d1v (f : UInt64 → am_V) (a : am_V) : Option am_V := bif Nat.beq a.1 3 then some (f (UInt64.ofNat a.2.1)) else none
noncomputable def am_d22 (ok : UInt64 → Bool) (f : UInt64 → UInt64 → UInt64) (a b : am_V) : Option am_V := bif Nat.beq a.1 3 && Nat.beq b.1 3 && ok (f (UInt64.ofNat a.2.1) (UInt64.ofNat b.2.1)) then some (am_ofD (f (UInt64.ofNat a.2.1) (UInt64.ofNat b.2.1))) else none
noncomputable def am_dc (f : UInt64 → UInt64 → Int32) (a b : am_V) : Option am_V := bif Nat.beq a.1 3 && Nat.beq b.1 3 then some (am_ofI (f (UInt64.ofNat a.2.1) (UInt64.ofNat b.2.1))) else none
def am_n32 (r : UInt32) : Bool := decide (r &&& 0x7fffffff ≤ 0x7f800000)
def am_n64 (r : UInt64) : Bool := decide (r &&& 0x7fffffffffffffff ≤ 0x7ff0000000000000)
def am_i2d (a : am_V) : Option am_V := bif Nat.beq a.1 0 then some (am_ofD (FP.i2d (Int32.ofNat a.2.1))) else bif Nat.beq a.1 6 then some (7, 0, a.2.2) else none
def am_f2d (v : am_V) : Option am_V := bif Nat.beq v.1 2 && am_n64 (FP.f2d (UInt32.ofNat v.2.1)) then some (am_ofD (FP.f2d (UInt32.ofNat v.2.1))) else none
/-- the doubles of 1, 2, 3, 4 -/
def am_d14 (n : Nat) : Bool := Nat.beq n 4607182418800017408 || Nat.beq n 4611686018427387904 || Nat.beq n 4613937818241073152 || Nat.beq n 4616189618054758400
noncomputable def am_ddiv (A : am_A) (a b : am_V) : Option am_V := bif Nat.beq a.1 7 && Nat.beq b.1 3 && am_d14 b.2.1 then (match am_lim A a.2.2 with
  | some r => bif decide (0 ≤ r.1) && decide (r.2 ≤ 200) then some (9, b.2.1, a.2.2) else none
  | none => none) else am_d22 am_n64 FP.ddiv a b
noncomputable def am_lcmp (a b : am_V) : Option am_V := bif Nat.beq a.1 11 && Nat.beq b.1 11 && Nat.beq a.2.1 b.2.1 && am_feq a.2.2 b.2.2 then some (0, 0, []) else am_l22 (fun x y => am_ofI (lg_cmp x y)) a b
noncomputable def am_dcmpA (o : CmpOp) (A : am_A) (a b : am_V) : Option am_V := bif Nat.beq a.1 9 && Nat.beq b.1 9 && Nat.beq a.2.1 b.2.1 && am_feq a.2.2 b.2.2 && am_d14 a.2.1 then (match am_lim A a.2.2 with
  | some r => bif decide (0 ≤ r.1) && decide (r.2 ≤ 200) then some (0, 0, []) else none
  | none => none) else am_dc (fun x y => Op.cmpValue (FP.dcmp x y) o) a b
/-- classes of the exceptions by their numbers; in the law's own constant pool -/
def am_ex : List String := ["java/lang/IndexOutOfBoundsException", "java/lang/IllegalArgumentException", "java/lang/IllegalStateException", "java/lang/UnsupportedOperationException", "java/util/NoSuchElementException", "java/lang/ArithmeticException"]
/-- locals, stack, heap, cells, slots -/
abbrev am_G : Type := List am_V → List am_V → am_H → Nat → Nat → Option am_O
/-- an instruction: what is known; the callees; the rest of the run behind it; the run from a pc on -/
abbrev am_F : Type := am_A → (Nat → am_G) → am_G → (Nat → am_G) → am_G
noncomputable def am_len {α : Type} (l : List α) : Nat := List.rec (motive := fun _ => Nat) 0 (fun _ _ ih => Nat.succ ih) l
def am_oBad : am_F := fun _ _ _ _ _ _ _ _ _ => none
def am_oPush (v : am_V) : am_F := fun _ _ go _ lo stk h nc ns => go lo (v :: stk) h nc ns
noncomputable def am_oLoad (ok : am_V → Bool) (k : Nat) : am_F := fun _ _ go _ lo stk h nc ns => am_ob (am_nth lo k) (fun v => am_if (ok v) (go lo (v :: stk) h nc ns) none)
noncomputable def am_oStore (ok : am_V → Bool) (k : Nat) : am_F := fun _ _ go _ lo stk h nc ns => am_lc stk (fun v rest => am_if (am_and (ok v) (am_has lo k)) (go (am_st1 lo k v) rest h nc ns) none)
noncomputable def am_oStore2 (ok : am_V → Bool) (k : Nat) : am_F := fun _ _ go _ lo stk h nc ns => am_lc stk (fun v rest => am_if (am_and (ok v) (am_has lo (k + 1))) (go (am_st2 lo k v) rest h nc ns) none)
noncomputable def am_oBinA (f : am_A → am_V → am_V → Option am_V) : am_F := fun A _ go _ lo stk h nc ns => am_lc stk (fun y r1 => am_lc r1 (fun x rest => am_ob (f A x y) (fun r => go lo (r :: rest) h nc ns)))
noncomputable def am_oBin (f : am_V → am_V → Option am_V) : am_F := fun _ _ go _ lo stk h nc ns => am_lc stk (fun y r1 => am_lc r1 (fun x rest => am_ob (f x y) (fun r => go lo (r :: rest) h nc ns)))
noncomputable def am_oUn (f : am_V → Option am_V) : am_F := fun _ _ go _ lo stk h nc ns => am_lc stk (fun x rest => am_ob (f x) (fun r => go lo (r :: rest) h nc ns))
def am_oGoto (t : Nat) : am_F := fun _ _ _ jmp lo stk h nc ns => jmp t lo stk h nc ns
/-- a jump where f says so; where it says no -/
noncomputable def am_oIf1 (f : am_A → am_V → am_V → Option Bool) (t : Nat) : am_F := fun A _ go jmp lo stk h nc ns => am_lc stk (fun x rest => am_ob (f A x (0, 0, [])) (fun b => am_if b (jmp t lo rest h nc ns) (go lo rest h nc ns)))
noncomputable def am_oIf1n (f : am_A → am_V → am_V → Option Bool) (t : Nat) : am_F := fun A _ go jmp lo stk h nc ns => am_lc stk (fun x rest => am_ob (f A x (0, 0, [])) (fun b => am_if b (go lo rest h nc ns) (jmp t lo rest h nc ns)))
noncomputable def am_oIf2 (f : am_A → am_V → am_V → Option Bool) (t : Nat) : am_F := fun A _ go jmp lo stk h nc ns => am_lc stk (fun y r1 => am_lc r1 (fun x rest => am_ob (f A x y) (fun b => am_if b (jmp t lo rest h nc ns) (go lo rest h nc ns))))
noncomputable def am_oIf2n (f : am_A → am_V → am_V → Option Bool) (t : Nat) : am_F := fun A _ go jmp lo stk h nc ns => am_lc stk (fun y r1 => am_lc r1 (fun x rest => am_ob (f A x y) (fun b => am_if b (go lo rest h nc ns) (jmp t lo rest h nc ns))))
/-- a jump on null (no: on what isn't null) -/
noncomputable def am_oNull (no : Bool) (t : Nat) : am_F := fun _ _ go jmp lo stk h nc ns => am_lc stk (fun x rest => am_if (Nat.beq x.1 4) (am_if no (go lo rest h nc ns) (jmp t lo rest h nc ns)) (am_if (am_tR x) (am_if no (jmp t lo rest h nc ns) (go lo rest h nc ns)) none))
noncomputable def am_oIinc (k : Nat) (z : Int) : am_F := fun A _ go _ lo stk h nc ns => am_ob (am_nth lo k) (fun v => am_ob (am_iadd A v (am_int z)) (fun r => go (am_st1 lo k r) stk h nc ns))
noncomputable def am_oSwitch (df : Nat) (lw hg : Int) (offs : List Nat) : am_F := fun _ _ _ jmp lo stk h nc ns => am_lc stk (fun x rest => am_if (am_and (Nat.beq x.1 0) (Nat.blt x.2.1 4294967296)) (am_if (decide (am_si x.2.1 < lw) || decide (hg < am_si x.2.1)) (jmp df lo rest h nc ns) (am_ob (am_nth offs (am_si x.2.1 - lw).toNat) (fun o => jmp o lo rest h nc ns))) none)
noncomputable def am_oGet (ci k : Nat) : am_F := fun _ _ go _ lo stk h nc ns => am_lc stk (fun r rest => am_if (Nat.beq r.1 10) (am_ob (am_get h r.2.1) (fun c => am_if (Nat.beq c.1 ci) (am_ob (am_nth c.2 k) (fun v => go lo (v :: rest) h nc ns)) none)) none)
noncomputable def am_oPut (ci k : Nat) (ty : FieldType) : am_F := fun _ _ go _ lo stk h nc ns => am_lc stk (fun v r1 => am_lc r1 (fun r rest => am_if (Nat.beq r.1 10) (am_ob (am_get h r.2.1) (fun c => am_if (am_and (Nat.beq c.1 ci) (am_and (am_has c.2 k) (am_fit ty v))) (go lo rest (am_put h r.2.1 (ci, am_set c.2 k v)) nc ns) none)) none))
noncomputable def am_oAld (ref : Bool) : am_F := fun _ _ go _ lo stk h nc ns => am_lc stk (fun i r1 => am_lc r1 (fun r rest => am_if (am_and (Nat.beq r.1 10) (am_and (Nat.beq i.1 0) (Nat.blt i.2.1 2147483648))) (am_ob (am_get h r.2.1) (fun c => am_if (am_if ref (am_and (Nat.blt 100 c.1) (Nat.blt c.1 105)) (Nat.beq c.1 100)) (am_ob (am_nth c.2 i.2.1) (fun v => go lo (v :: rest) h nc ns)) none)) none))
noncomputable def am_oIast : am_F := fun _ _ go _ lo stk h nc ns => am_lc stk (fun v r1 => am_lc r1 (fun i r2 => am_lc r2 (fun r rest => am_if (am_and (Nat.beq r.1 10) (am_and (am_tI v) (am_and (Nat.beq i.1 0) (Nat.blt i.2.1 2147483648)))) (am_ob (am_get h r.2.1) (fun c => am_if (am_and (Nat.beq c.1 100) (am_has c.2 i.2.1)) (go lo rest (am_put h r.2.1 (100, am_set c.2 i.2.1 v)) nc ns) none)) none)))
noncomputable def am_oAast : am_F := fun _ _ go _ lo stk h nc ns => am_lc stk (fun w r1 => am_lc r1 (fun i r2 => am_lc r2 (fun r rest => am_if (am_and (Nat.beq r.1 10) (am_and (Nat.beq w.1 10) (am_and (Nat.beq i.1 0) (Nat.blt i.2.1 2147483648)))) (am_ob (am_get h r.2.1) (fun c => am_ob (am_get h w.2.1) (fun cw => am_if (am_and (am_and (Nat.blt 100 c.1) (Nat.blt c.1 105)) (am_and (Nat.beq cw.1 (am_el c.1)) (am_has c.2 i.2.1))) (go lo rest (am_put h r.2.1 (c.1, am_set c.2 i.2.1 w)) nc ns) none))) none)))
noncomputable def am_oNew (ci : Nat) (fs : List am_V) : am_F := fun _ _ go _ lo stk h nc ns => am_if (am_free h) (go lo ((10, h.1, []) :: stk) (am_new h (ci, fs)) (nc + 1) (ns + am_len fs)) none
noncomputable def am_oNewa (kind : Nat) (v0 : am_V) : am_F := fun _ _ go _ lo stk h nc ns => am_lc stk (fun n rest => am_if (am_and (Nat.beq n.1 0) (am_and (Nat.blt n.2.1 100000) (am_free h))) (go lo ((10, h.1, []) :: rest) (am_new h (kind, am_rep n.2.1 v0)) (nc + 1) (ns + n.2.1)) none)
/-- new int[3][30] -/
noncomputable def am_oMulti : am_F := fun _ _ go _ lo stk h nc ns => am_lc stk (fun y r1 => am_lc r1 (fun x rest => am_if (am_and (am_k2 x y) (am_and (Nat.beq y.2.1 30) (Nat.beq x.2.1 3))) (
    let h1 := am_new h (100, am_rep 30 (0, 0, []))
    let h2 := am_new h1 (100, am_rep 30 (0, 0, []))
    let h3 := am_new h2 (100, am_rep 30 (0, 0, []))
    am_if (am_and (am_free h) (am_and (am_free h1) (am_and (am_free h2) (am_free h3)))) (go lo ((10, h3.1, []) :: rest) (am_new h3 (104, [(10, h.1, []), (10, h1.1, []), (10, h2.1, [])])) (nc + 4) (ns + 93)) none) none))
/-- throw new E(..), out of this method -/
noncomputable def am_oThrow (pc ei : Nat) : am_F := fun _ _ _ _ lo stk h nc ns => am_if (am_sh stk) (some (2, (ei, 0, []), pc, lo, stk, h, nc + 1, ns + 6)) none
/-- where an exception is caught: the first row of the table that covers pc and names its class -/
def am_hnd (hc : List (Nat × Nat)) (ei pc : Nat) : List (Nat × Nat × Nat × Nat) → Option Nat
  | [] => none
  | x :: xs => bif Nat.ble x.1 pc && Nat.blt pc x.2.1 && hc.any (fun q => Nat.beq q.1 x.2.2.2 && Nat.beq q.2 ei) then some x.2.2.1 else am_hnd hc ei pc xs
/-- the place of the instruction at a pc -/
def am_ix (t : Nat) : List am_I → Nat
  | [] => 0
  | x :: xs => bif Nat.beq x.1 t then 0 else am_ix t xs + 1
/-- behind a call: o what it came to, st the stack without what it took; tb: where each exception is caught (the places of the handlers), [] where this method has no table; vo: it returns nothing -/
noncomputable def am_back (tb : List (Option Nat)) (pc : Nat) (vo : Bool) (go : am_G) (jmp : Nat → am_G) (lo st : List am_V) (nc ns : Nat) (o : am_O) : Option am_O :=
  am_if (Nat.beq o.1 1) (am_if vo none (go lo (o.2.1 :: st) o.2.2.2.2.2.1 (nc + o.2.2.2.2.2.2.1) (ns + o.2.2.2.2.2.2.2)))
    (am_if (Nat.beq o.1 0) (am_if vo (go lo st o.2.2.2.2.2.1 (nc + o.2.2.2.2.2.2.1) (ns + o.2.2.2.2.2.2.2)) none)
      (am_if (Nat.beq o.1 2) (match tb with
        | [] => some (2, o.2.1, pc, lo, st, o.2.2.2.2.2.1, nc + o.2.2.2.2.2.2.1, ns + o.2.2.2.2.2.2.2)
        | x :: xs => match (x :: xs)[o.2.1.1]? with
          | some (some t) => jmp t lo [(8, 0, [])] o.2.2.2.2.2.1 (nc + o.2.2.2.2.2.2.1) (ns + o.2.2.2.2.2.2.2)
          | _ => none) none))
/-- a call: mi the method's place, n how many values it takes off the stack (the object too), ml its locals -/
noncomputable def am_oCall (tb : List (Option Nat)) (pc mi n ml : Nat) (vo : Bool) : am_F := fun _ sub go jmp lo stk h nc ns =>
  am_pop n (fun as rest => am_if (am_sh rest) (am_ob (am_pad am_un0 (am_lay as) ml) (fun lo1 => am_ob (sub mi lo1 [] h 0 0) (am_back tb pc vo go jmp lo rest nc ns))) none) stk
/-- .. on an object of the class ci -/
noncomputable def am_oCallV (tb : List (Option Nat)) (pc mi n ml : Nat) (vo : Bool) (ci : Nat) : am_F := fun A sub go jmp lo stk h nc ns => am_ob (am_nth stk (n - 1)) (fun r => am_if (Nat.beq r.1 10) (am_ob (am_get h r.2.1) (fun c => am_if (Nat.beq c.1 ci) (am_oCall tb pc mi n ml vo A sub go jmp lo stk h nc ns) none)) none)
/-- .. of a constructor: what is made stands in the world -/
noncomputable def am_oCallI (tb : List (Option Nat)) (pc mi n ml : Nat) (vo : Bool) : am_F := fun A sub go jmp lo stk h nc ns => am_ob (am_nth stk (n - 1)) (fun r => am_if (Nat.beq r.1 10) (am_oCall tb pc mi n ml vo A sub go jmp lo stk h nc ns) none)
noncomputable def am_oObj : am_F := fun _ _ go _ lo stk h nc ns => am_lc stk (fun r rest => am_if (am_and (Nat.beq r.1 10) (am_sh rest)) (go lo rest h nc ns) none)
noncomputable def am_oAbs : am_F := fun A _ go _ lo stk h nc ns => am_lc stk (fun x rest => am_if (am_sh rest) (am_ob (am_abs A x) (fun r => go lo (r :: rest) h nc ns)) none)
noncomputable def am_oBinS (f : am_V → am_V → Option am_V) : am_F := fun A sub go jmp lo stk h nc ns => am_lc stk (fun _ r1 => am_lc r1 (fun _ rest => am_if (am_sh rest) (am_oBin f A sub go jmp lo stk h nc ns) none))
noncomputable def am_oF2I : am_F := fun _ _ go _ lo stk h nc ns => am_lc stk (fun x rest => am_if (am_and (Nat.beq x.1 2) (am_sh rest)) (go lo (am_ofI (UInt32.ofNat x.2.1).toInt32 :: rest) h nc ns) none)
noncomputable def am_oD2L : am_F := fun _ _ go _ lo stk h nc ns => am_lc stk (fun x rest => am_if (am_sh rest) (am_if (Nat.beq x.1 3) (go lo (am_ofL (UInt64.ofNat x.2.1).toInt64 :: rest) h nc ns) (am_if (Nat.beq x.1 9) (go lo ((11, x.2) :: rest) h nc ns) none)) none)
/-- a quotient that the tables know -/
noncomputable def am_bodg (A : am_A) (x : am_V) : Bool := am_d14 x.2.1 && (match am_lim A x.2.2 with
  | some r => decide (0 ≤ r.1) && decide (r.2 ≤ 200)
  | none => false)
/-- bitsOfDouble -/
noncomputable def am_oBod (tb : List (Option Nat)) (pc mi ml : Nat) : am_F := fun A sub go jmp lo stk h nc ns => am_lc stk (fun x rest => am_if (Nat.beq x.1 9) (am_if (am_and (am_sh rest) (am_bodg A x)) (go lo ((11, x.2) :: rest) h nc ns) none) (am_oCall tb pc mi 1 ml false A sub go jmp lo stk h nc ns))
noncomputable def am_oDup : am_F := fun _ _ go _ lo stk h nc ns => am_lc stk (fun v rest => am_if (am_c2 v) none (go lo (v :: v :: rest) h nc ns))
noncomputable def am_oDup2 : am_F := fun _ _ go _ lo stk h nc ns => am_lc stk (fun v r1 => am_lc r1 (fun w rest => am_if (am_or (am_c2 v) (am_c2 w)) none (go lo (v :: w :: v :: w :: rest) h nc ns)))
def am_oRet0 (pc : Nat) : am_F := fun _ _ _ _ lo stk h nc ns => match stk with
  | [] => some (0, (4, 0, []), pc, lo, stk, h, nc, ns)
  | _ => none
noncomputable def am_oRet (pc : Nat) (ok : am_V → Bool) (rt : FieldType) : am_F := fun _ _ _ _ lo stk h nc ns => am_lc stk (fun v rest => am_if (am_and (List.isEmpty rest) (am_and (ok v) (am_fit rt v))) (some (1, v, pc, lo, stk, h, nc, ns)) none)
/-- where each of the six exceptions is caught, thrown at pc -/
def am_tb (hc : List (Nat × Nat)) (M : am_M) (pc : Nat) : List (Option Nat) := match M.2.2.2.2.1 with
  | [] => []
  | x :: xs => [0, 1, 2, 3, 4, 5].map (fun ei => match am_hnd hc ei pc (x :: xs) with
    | some t => some (am_ix t M.2.2.2.2.2)
    | none => none)
/-- the operation of an instruction of the method M; ln: the places of its words -/
noncomputable def am_op (db : List am_M) (hc : List (Nat × Nat)) (bl : List (List am_V)) (M : am_M) (pc : Nat) (i : Instr) (ln : List Nat) : am_F := match i with
  | .iconst n => am_oPush (am_int n)
  | .bipush n => am_oPush (am_int n)
  | .sipush n => am_oPush (am_int n)
  | .lconst n => am_oPush (1, n.val, [])
  | .fconst n => am_oPush (am_ofF (match n with | 0 => FP.fconst0 | 1 => FP.fconst1 | 2 => FP.fconst2))
  | .dconst n => am_oPush (am_ofD (match n with | 0 => FP.dconst0 | 1 => FP.dconst1))
  | .ldc _ => match ln with
    | t :: n :: _ => am_oPush (t, n, [])
    | _ => am_oBad
  | .ldc_w _ => match ln with
    | t :: n :: _ => am_oPush (t, n, [])
    | _ => am_oBad
  | .ldc2_w _ => match ln with
    | t :: n :: _ => am_oPush (t, n, [])
    | _ => am_oBad
  | .iload k => am_oLoad am_tI k
  | .iload_n k => am_oLoad am_tI k.val
  | .lload k => am_oLoad am_tL k
  | .lload_n k => am_oLoad am_tL k.val
  | .fload_n k => am_oLoad am_tF k.val
  | .dload_n k => am_oLoad am_tD k.val
  | .aload k => am_oLoad am_tA k
  | .aload_n k => am_oLoad am_tA k.val
  | .istore k => am_oStore am_tI k
  | .istore_n k => am_oStore am_tI k.val
  | .fstore_n k => am_oStore am_tF k.val
  | .astore k => am_oStore am_tA k
  | .astore_n k => am_oStore am_tA k.val
  | .lstore k => am_oStore2 am_tL k
  | .lstore_n k => am_oStore2 am_tL k.val
  | .dstore_n k => am_oStore2 am_tD k.val
  | .iinc k z => am_oIinc k z
  | .iadd => am_oBinA am_iadd
  | .isub => am_oBinA am_isub
  | .imul => am_oBinA am_imul
  | .idiv => am_oBinA am_idiv
  | .irem => am_oBinA am_irem
  | .ior => am_oBin (am_i22 (fun x y => am_ofI (x ||| y)))
  | .ishl => am_oBin (am_i22 (fun x y => am_ofI (x <<< (y &&& 31))))
  | .i2c => am_oUn (am_i1 (fun x => am_ofI (x.toUInt32 % 65536).toInt32))
  | .i2l => am_oUn (am_i1 (fun x => am_ofL x.toInt64))
  | .i2f => am_oUn (am_i1 (fun x => am_ofF (FP.i2f x)))
  | .i2d => am_oUn am_i2d
  | .l2i => am_oUn (am_l1 (fun x => am_ofI x.toInt32))
  | .ladd => am_oBin (am_l22 (fun x y => am_ofL (x + y)))
  | .lsub => am_oBin (am_l22 (fun x y => am_ofL (x - y)))
  | .lmul => am_oBin (am_l22 (fun x y => am_ofL (x * y)))
  | .lor => am_oBin (am_l22 (fun x y => am_ofL (x ||| y)))
  | .lshl => am_oBin (am_li (fun x y => am_ofL (x <<< (y.toInt64 &&& 63))))
  | .lcmp => am_oBin am_lcmp
  | .fdiv => am_oBin (am_f22 am_n32 FP.fdiv)
  | .fmul => am_oBin (am_f22 am_n32 FP.fmul)
  | .fsub => am_oBin (am_f22 am_n32 FP.fsub)
  | .fcmp o => am_oBin (am_fc (fun x y => Op.cmpValue (FP.fcmp x y) o))
  | .f2i => am_oUn (am_f1v (fun x => am_ofI (FP.f2i x)))
  | .f2d => am_oUn am_f2d
  | .dadd => am_oBin (am_d22 am_n64 FP.dadd)
  | .dsub => am_oBin (am_d22 am_n64 FP.dsub)
  | .dmul => am_oBin (am_d22 am_n64 FP.dmul)
  | .ddiv => am_oBinA am_ddiv
  | .dcmp o => am_oBinA (am_dcmpA o)
  | .d2l => am_oUn (am_d1v (fun x => am_ofL (FP.d2l x)))
  | .dup => am_oDup
  | .dup2 => am_oDup2
  | .goto o => am_oGoto (am_ix (am_tgt pc o) M.2.2.2.2.2)
  | .ifCond c o => match c with
    | .eq => am_oIf1 am_eq (am_ix (am_tgt pc o) M.2.2.2.2.2)
    | .ne => am_oIf1n am_eq (am_ix (am_tgt pc o) M.2.2.2.2.2)
    | .lt => am_oIf1 am_lt (am_ix (am_tgt pc o) M.2.2.2.2.2)
    | .ge => am_oIf1n am_lt (am_ix (am_tgt pc o) M.2.2.2.2.2)
    | .gt => am_oIf1 am_gt (am_ix (am_tgt pc o) M.2.2.2.2.2)
    | .le => am_oIf1n am_gt (am_ix (am_tgt pc o) M.2.2.2.2.2)
  | .if_icmp c o => match c with
    | .eq => am_oIf2 am_eq (am_ix (am_tgt pc o) M.2.2.2.2.2)
    | .ne => am_oIf2n am_eq (am_ix (am_tgt pc o) M.2.2.2.2.2)
    | .lt => am_oIf2 am_lt (am_ix (am_tgt pc o) M.2.2.2.2.2)
    | .ge => am_oIf2n am_lt (am_ix (am_tgt pc o) M.2.2.2.2.2)
    | .gt => am_oIf2 am_gt (am_ix (am_tgt pc o) M.2.2.2.2.2)
    | .le => am_oIf2n am_gt (am_ix (am_tgt pc o) M.2.2.2.2.2)
  | .ifnull o => am_oNull false (am_ix (am_tgt pc o) M.2.2.2.2.2)
  | .ifnonnull o => am_oNull true (am_ix (am_tgt pc o) M.2.2.2.2.2)
  | .tableswitch df lw hg os => am_oSwitch (am_ix (am_tgt pc df) M.2.2.2.2.2) lw hg (os.toList.map (fun o => am_ix (am_tgt pc o) M.2.2.2.2.2))
  | .getfield _ => match ln with
    | ci :: k :: _ => am_oGet ci k
    | _ => am_oBad
  | .putfield _ => match ln with
    | ci :: k :: _ => am_oPut ci k (am_ty ci k)
    | _ => am_oBad
  | .iaload => am_oAld false
  | .aaload => am_oAld true
  | .iastore => am_oIast
  | .aastore => am_oAast
  | .new _ => match ln with
    | [9, ei] => match M.2.2.2.2.1 with
      | [] => am_oThrow pc ei
      | _ => am_oBad
    | ci :: _ => match bl[ci]? with
      | some fs => am_oNew ci fs
      | none => am_oBad
    | _ => am_oBad
  | .newarray _ => am_oNewa 100 (0, 0, [])
  | .anewarray _ => match ln with
    | k :: _ => am_oNewa k (4, 0, [])
    | _ => am_oBad
  | .multianewarray _ _ => am_oMulti
  | .invokestatic _ => match ln with
    | 0 :: mi :: n :: _ => match db[mi]? with
      | some m => am_oCall (am_tb hc M pc) pc mi n m.2.2.1 m.2.2.2.1.isNone
      | none => am_oBad
    | 3 :: _ => am_oAbs
    | 4 :: _ => am_oBinS (am_i22 (fun x y => am_ofI (if y < x then y else x)))
    | 5 :: _ => am_oBinS (am_l22 (fun x y => am_ofL (if y < x then y else x)))
    | 6 :: _ => am_oBinS (am_l22 (fun x y => am_ofL (if y < x then x else y)))
    | 7 :: _ => am_oF2I
    | 8 :: _ => am_oD2L
    | 9 :: mi :: _ => match db[mi]? with
      | some m => am_oBod (am_tb hc M pc) pc mi m.2.2.1
      | none => am_oBad
    | _ => am_oBad
  | .invokevirtual _ => match ln with
    | 1 :: mi :: n :: ci :: _ => match db[mi]? with
      | some m => am_oCallV (am_tb hc M pc) pc mi n m.2.2.1 m.2.2.2.1.isNone ci
      | none => am_oBad
    | _ => am_oBad
  | .invokespecial _ => match ln with
    | 0 :: mi :: n :: _ => match db[mi]? with
      | some m => am_oCallI (am_tb hc M pc) pc mi n m.2.2.1 m.2.2.2.1.isNone
      | none => am_oBad
    | 2 :: _ => am_oObj
    | _ => am_oBad
  | .return_ => match M.2.2.2.1 with
    | none => am_oRet0 pc
    | some _ => am_oBad
  | .ireturn => match M.2.2.2.1 with
    | some rt => am_oRet pc am_tI rt
    | none => am_oBad
  | .lreturn => match M.2.2.2.1 with
    | some rt => am_oRet pc am_tL rt
    | none => am_oBad
  | .freturn => match M.2.2.2.1 with
    | some rt => am_oRet pc am_tF rt
    | none => am_oBad
  | .dreturn => match M.2.2.2.1 with
    | some rt => am_oRet pc am_tD rt
    | none => am_oBad
  | .areturn => match M.2.2.2.1 with
    | some rt => am_oRet pc am_tR rt
    | none => am_oBad
  | _ => am_oBad
/-- a method's code for the run: pc, operation -/
abbrev am_P : Type := List (Nat × am_F)
noncomputable def am_comp (db : List am_M) (hc : List (Nat × Nat)) (bl : List (List am_V)) (M : am_M) : am_P := M.2.2.2.2.2.map (fun q => (q.1, am_op db hc bl M q.1 q.2.1 q.2.2.2))
noncomputable def am_stepP (A : am_A) (sub : Nat → am_G) (code : am_P) (ih : am_P → am_G) (is : am_P) : am_G := List.rec (motive := fun _ => am_G) (fun _ _ _ _ _ => none) (fun x tl _ => x.2 A sub (ih tl) (fun t => ih (am_dr code t))) is
def am_end (is : am_P) : am_G := fun lo stk h nc ns => match is with
  | [] => none
  | x :: _ => some (3, (4, 0, []), x.1, lo, stk, h, nc, ns)
/-- n steps of a frame's own, from the instructions 'is' of 'code' on -/
noncomputable def am_runP (A : am_A) (sub : Nat → am_G) (code : am_P) (n : Nat) : am_P → am_G :=
  Nat.rec (motive := fun _ => am_P → am_G) am_end (fun _ ih is => am_stepP A sub code ih is) n
/-- the callees at depth d: from the first instruction on, F steps at most -/
noncomputable def am_sub (A : am_A) (F : Nat) (codes : List am_P) (d : Nat) : Nat → am_G :=
  Nat.rec (motive := fun _ => Nat → am_G) (fun _ _ _ _ _ _ => none) (fun _ sub mi => match am_nth codes mi with
    | some c => am_runP A sub c F c
    | none => fun _ _ _ _ _ => none) d
