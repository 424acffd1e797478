/-! ===== one step of the abstract machine; 'rec' is the rest of the run ===== -/
def am_tI (v : am_V) : Bool := Nat.beq v.1 0 || Nat.beq v.1 6
def am_tL (v : am_V) : Bool := Nat.beq v.1 1 || Nat.beq v.1 11
def am_tF (v : am_V) : Bool := Nat.beq v.1 2
def am_tD (v : am_V) : Bool := Nat.beq v.1 3 || Nat.beq v.1 7 || Nat.beq v.1 9
def am_tR (v : am_V) : Bool := Nat.beq v.1 8 || Nat.beq v.1 10 || Nat.beq v.1 12
def am_tA (v : am_V) : Bool := Nat.beq v.1 4 || am_tR v
/-- the classes, their fields' types -/
abbrev am_cl : List vw_C := [(RX0, TX0, 7), (RX1, TX1, 6), (RX2, TX2, 4), (RX3, TX3, 3), (RX4, TX4, 7), (RX5, TX5, 12), (RX6, TX6, 9)]
def am_tys : List (Nat → FieldType) := [tyX0, tyX1, tyX2, tyX3, tyX4, tyX5, tyX6]
def am_ty (ci k : Nat) : FieldType := match am_tys[ci]? with
  | some t => t k
  | none => .int
def am_df (t : FieldType) : am_V := match t with
  | .long => (1, 0, [])
  | .float => (2, 0, [])
  | .double => (3, 0, [])
  | .object _ => (4, 0, [])
  | .array _ => (4, 0, [])
  | _ => (0, 0, [])
/-- a value may be put into a field of that type -/
def am_fit (t : FieldType) (v : am_V) : Bool := match t with
  | .int => am_tI v
  | .boolean => Nat.beq v.1 0 && Nat.blt v.2.1 2
  | .char => Nat.beq v.1 0 && Nat.blt v.2.1 65536
  | .long => am_tL v
  | .float => am_tF v
  | .double => am_tD v
  | .object _ => am_tA v
  | .array _ => am_tA v
  | _ => false
/-- the kinds of arrays: 100 int[], 101 Voice[], 102 Sheet[], 103 Pin[], 104 int[][] -/
def am_at (k : Nat) : Option FieldType := match k with
  | 100 => some .int
  | 101 => some (.object RX5)
  | 102 => some (.object RX2)
  | 103 => some (.object RX1)
  | 104 => some (.array .int)
  | _ => none
/-- what may be put into an array of that kind: the kind of the cell -/
def am_el (k : Nat) : Nat := match k with
  | 101 => 5
  | 102 => 2
  | 103 => 1
  | 104 => 100
  | _ => 999
/-- longs -/
def am_un8 (z : Int) : Nat := (z % 18446744073709551616).toNat
def am_si8 (n : Nat) : Int := bif Nat.blt n 9223372036854775808 then (n : Int) else (n : Int) - 18446744073709551616
def am_ofL (x : Int64) : am_V := (1, x.toBitVec.toNat, [])
def am_ofI (x : Int32) : am_V := (0, x.toBitVec.toNat, [])
def am_ofF (x : UInt32) : am_V := (2, x.toNat, [])
def am_ofD (x : UInt64) : am_V := (3, x.toNat, [])
def am_i1 (f : Int32 → am_V) (a : am_V) : Option am_V := bif Nat.beq a.1 0 then some (f (Int32.ofNat a.2.1)) else none
def am_i22 (f : Int32 → Int32 → am_V) (a b : am_V) : Option am_V := bif am_k2 a b then some (f (Int32.ofNat a.2.1) (Int32.ofNat b.2.1)) else none
def am_l1 (f : Int64 → am_V) (a : am_V) : Option am_V := bif Nat.beq a.1 1 then some (f (Int64.ofNat a.2.1)) else none
def am_l22 (f : Int64 → Int64 → am_V) (a b : am_V) : Option am_V := bif Nat.beq a.1 1 && Nat.beq b.1 1 then some (f (Int64.ofNat a.2.1) (Int64.ofNat b.2.1)) else none
def am_li (f : Int64 → Int32 → am_V) (a b : am_V) : Option am_V := bif Nat.beq a.1 1 && Nat.beq b.1 0 then some (f (Int64.ofNat a.2.1) (Int32.ofNat b.2.1)) else none
def am_f1v (f : UInt32 → am_V) (a : am_V) : Option am_V := bif Nat.beq a.1 2 then some (f (UInt32.ofNat a.2.1)) else none
def am_f22 (ok : UInt32 → Bool) (f : UInt32 → UInt32 → UInt32) (a b : am_V) : Option am_V := bif Nat.beq a.1 2 && Nat.beq b.1 2 && ok (f (UInt32.ofNat a.2.1) (UInt32.ofNat b.2.1)) then some (am_ofF (f (UInt32.ofNat a.2.1) (UInt32.ofNat b.2.1))) else none
def am_fc (f : UInt32 → UInt32 → Int32) (a b : am_V) : Option am_V := bif Nat.beq a.1 2 && Nat.beq b.1 2 then some (am_ofI (f (UInt32.ofNat a.2.1) (UInt32.ofNat b.2.1))) else none
def am_d1v (f : UInt64 → am_V) (a : am_V) : Option am_V := bif Nat.beq a.1 3 then some (f (UInt64.ofNat a.2.1)) else none
def am_d22 (ok : UInt64 → Bool) (f : UInt64 → UInt64 → UInt64) (a b : am_V) : Option am_V := bif Nat.beq a.1 3 && Nat.beq b.1 3 && ok (f (UInt64.ofNat a.2.1) (UInt64.ofNat b.2.1)) then some (am_ofD (f (UInt64.ofNat a.2.1) (UInt64.ofNat b.2.1))) else none
def am_dc (f : UInt64 → UInt64 → Int32) (a b : am_V) : Option am_V := bif Nat.beq a.1 3 && Nat.beq b.1 3 then some (am_ofI (f (UInt64.ofNat a.2.1) (UInt64.ofNat b.2.1))) else none
def am_n32 (r : UInt32) : Bool := decide (r &&& 0x7fffffff ≤ 0x7f800000)
def am_n64 (r : UInt64) : Bool := decide (r &&& 0x7fffffffffffffff ≤ 0x7ff0000000000000)
def am_i2d (a : am_V) : Option am_V := bif Nat.beq a.1 0 then some (am_ofD (FP.i2d (Int32.ofNat a.2.1))) else bif Nat.beq a.1 6 then some (7, 0, a.2.2) else none
/-- the doubles of 1, 2, 3, 4 -/
def am_d14 (n : Nat) : Bool := Nat.beq n 4607182418800017408 || Nat.beq n 4611686018427387904 || Nat.beq n 4613937818241073152 || Nat.beq n 4616189618054758400
def am_ddiv (A : am_A) (a b : am_V) : Option am_V := bif Nat.beq a.1 7 && Nat.beq b.1 3 && am_d14 b.2.1 then (match am_lim A a.2.2 with
  | some r => bif decide (0 ≤ r.1) && decide (r.2 ≤ 200) then some (9, b.2.1, a.2.2) else none
  | none => none) else am_d22 am_n64 FP.ddiv a b
def am_lcmp (a b : am_V) : Option am_V := bif Nat.beq a.1 11 && Nat.beq b.1 11 && Nat.beq a.2.1 b.2.1 && am_feq a.2.2 b.2.2 then some (0, 0, []) else am_l22 (fun x y => am_ofI (lg_cmp x y)) a b
/-- classes of the exceptions by their numbers; in the law's own constant pool -/
def am_ex : List String := ["java/lang/IndexOutOfBoundsException", "java/lang/IllegalArgumentException", "java/lang/IllegalStateException", "java/lang/UnsupportedOperationException", "java/util/NoSuchElementException", "java/lang/ArithmeticException"]
section AMSTEP
variable (A : am_A) (db : List am_M) (hc : List (Nat × Nat)) (sub : am_M → am_S → Option am_O) (rec : am_S → Option am_O) (d : Nat) (M : am_M)
noncomputable def am_oPush (tl : List am_I) (lo stk : List am_V) (h : List am_C) (nc ns : Nat) (v : am_V) : Option am_O := rec (tl, lo, v :: stk, h, nc, ns)
noncomputable def am_oLoad (ok : am_V → Bool) (k : Nat) (tl : List am_I) (lo stk : List am_V) (h : List am_C) (nc ns : Nat) : Option am_O := match am_nth lo k with
  | some v => bif ok v then rec (tl, lo, v :: stk, h, nc, ns) else none
  | none => none
noncomputable def am_oStore (ok : am_V → Bool) (k : Nat) (tl : List am_I) (lo stk : List am_V) (h : List am_C) (nc ns : Nat) : Option am_O := match stk with
  | v :: rest => bif ok v && Nat.blt k (List.length lo) then rec (tl, am_st1 lo k v, rest, h, nc, ns) else none
  | [] => none
noncomputable def am_oStore2 (ok : am_V → Bool) (k : Nat) (tl : List am_I) (lo stk : List am_V) (h : List am_C) (nc ns : Nat) : Option am_O := match stk with
  | v :: rest => bif ok v && Nat.blt (k + 1) (List.length lo) then rec (tl, am_st2 lo k v, rest, h, nc, ns) else none
  | [] => none
noncomputable def am_oBin (f : am_V → am_V → Option am_V) (tl : List am_I) (lo stk : List am_V) (h : List am_C) (nc ns : Nat) : Option am_O := match stk with
  | y :: x :: rest => match f x y with
    | some r => rec (tl, lo, r :: rest, h, nc, ns)
    | none => none
  | _ => none
noncomputable def am_oUn (f : am_V → Option am_V) (tl : List am_I) (lo stk : List am_V) (h : List am_C) (nc ns : Nat) : Option am_O := match stk with
  | x :: rest => match f x with
    | some r => rec (tl, lo, r :: rest, h, nc, ns)
    | none => none
  | _ => none
noncomputable def am_oJump (t : Nat) (lo stk : List am_V) (h : List am_C) (nc ns : Nat) : Option am_O := match am_suf M.2.2.2.2.2 t with
  | [] => none
  | x :: xs => rec (x :: xs, lo, stk, h, nc, ns)
noncomputable def am_oIf (c : Option Bool) (t : Nat) (tl : List am_I) (lo stk : List am_V) (h : List am_C) (nc ns : Nat) : Option am_O := match c with
  | some true => am_oJump rec M t lo stk h nc ns
  | some false => rec (tl, lo, stk, h, nc, ns)
  | none => none
noncomputable def am_oIf1 (c : ClassFile.Cond) (t : Nat) (tl : List am_I) (lo stk : List am_V) (h : List am_C) (nc ns : Nat) : Option am_O := match stk with
  | x :: rest => am_oIf rec M (am_cmp A c x (0, 0, [])) t tl lo rest h nc ns
  | _ => none
noncomputable def am_oIf2 (c : ClassFile.Cond) (t : Nat) (tl : List am_I) (lo stk : List am_V) (h : List am_C) (nc ns : Nat) : Option am_O := match stk with
  | y :: x :: rest => am_oIf rec M (am_cmp A c x y) t tl lo rest h nc ns
  | _ => none
noncomputable def am_oNull (no : Bool) (t : Nat) (tl : List am_I) (lo stk : List am_V) (h : List am_C) (nc ns : Nat) : Option am_O := match stk with
  | x :: rest => bif am_tA x then am_oIf rec M (some (Nat.beq x.1 4 != no)) t tl lo rest h nc ns else none
  | _ => none
noncomputable def am_oIinc (k : Nat) (z : Int) (tl : List am_I) (lo stk : List am_V) (h : List am_C) (nc ns : Nat) : Option am_O := match am_nth lo k with
  | some v => match am_iadd A v (am_int z) with
    | some r => rec (tl, am_st1 lo k r, stk, h, nc, ns)
    | none => none
  | none => none
noncomputable def am_oSwitch (pc : Nat) (dflt lw hg : Int) (offs : Array Int) (lo stk : List am_V) (h : List am_C) (nc ns : Nat) : Option am_O := match stk with
  | x :: rest => bif Nat.beq x.1 0 then (
      bif decide (am_si x.2.1 < lw) || decide (hg < am_si x.2.1) then am_oJump rec M (am_tgt pc dflt) lo rest h nc ns else
      match offs.toList[(am_si x.2.1 - lw).toNat]? with
      | some o => am_oJump rec M (am_tgt pc o) lo rest h nc ns
      | none => none) else none
  | _ => none
noncomputable def am_oGet (ln : List Nat) (tl : List am_I) (lo stk : List am_V) (h : List am_C) (nc ns : Nat) : Option am_O := match ln, stk with
  | ci :: k :: _, (10, a, _) :: rest => match am_nth h a with
    | some c => bif Nat.beq c.1 ci then (match am_nth c.2 k with
      | some v => rec (tl, lo, v :: rest, h, nc, ns)
      | none => none) else none
    | none => none
  | _, _ => none
noncomputable def am_oPut (ln : List Nat) (tl : List am_I) (lo stk : List am_V) (h : List am_C) (nc ns : Nat) : Option am_O := match ln, stk with
  | ci :: k :: _, v :: (10, a, _) :: rest => match am_nth h a with
    | some c => bif Nat.beq c.1 ci && Nat.blt k (List.length c.2) && am_fit (am_ty ci k) v then rec (tl, lo, rest, am_set h a (ci, am_set c.2 k v), nc, ns) else none
    | none => none
  | _, _ => none
noncomputable def am_oAld (ref : Bool) (tl : List am_I) (lo stk : List am_V) (h : List am_C) (nc ns : Nat) : Option am_O := match stk with
  | i :: (10, a, _) :: rest => bif Nat.beq i.1 0 && Nat.blt i.2.1 2147483648 then (match am_nth h a with
    | some c => bif Nat.ble 100 c.1 && (Nat.beq c.1 100 != ref) then (match am_nth c.2 i.2.1 with
      | some v => rec (tl, lo, v :: rest, h, nc, ns)
      | none => none) else none
    | none => none) else none
  | _ => none
noncomputable def am_oIast (tl : List am_I) (lo stk : List am_V) (h : List am_C) (nc ns : Nat) : Option am_O := match stk with
  | v :: i :: (10, a, _) :: rest => bif am_tI v && Nat.beq i.1 0 && Nat.blt i.2.1 2147483648 then (match am_nth h a with
    | some c => bif Nat.beq c.1 100 && Nat.blt i.2.1 (List.length c.2) then rec (tl, lo, rest, am_set h a (100, am_set c.2 i.2.1 v), nc, ns) else none
    | none => none) else none
  | _ => none
noncomputable def am_oAast (tl : List am_I) (lo stk : List am_V) (h : List am_C) (nc ns : Nat) : Option am_O := match stk with
  | (10, w, _) :: i :: (10, a, _) :: rest => bif Nat.beq i.1 0 && Nat.blt i.2.1 2147483648 then (match am_nth h a, am_nth h w with
    | some c, some cw => bif Nat.blt 100 c.1 && Nat.beq cw.1 (am_el c.1) && Nat.blt i.2.1 (List.length c.2) then rec (tl, lo, rest, am_set h a (c.1, am_set c.2 i.2.1 (10, w, [])), nc, ns) else none
    | _, _ => none) else none
  | _ => none
noncomputable def am_oNew (bl : List (List am_V)) (ln : List Nat) (tl : List am_I) (lo stk : List am_V) (h : List am_C) (nc ns : Nat) : Option am_O := match ln with
  | ci :: _ => match am_nth bl ci with
    | some fs => rec (tl, lo, (10, List.length h, []) :: stk, h ++ [(ci, fs)], nc + 1, ns + List.length fs)
    | none => none
  | _ => none
noncomputable def am_oNewa (kind : Nat) (v0 : am_V) (tl : List am_I) (lo stk : List am_V) (h : List am_C) (nc ns : Nat) : Option am_O := match stk with
  | n :: rest => bif Nat.beq n.1 0 && Nat.blt n.2.1 100000 then rec (tl, lo, (10, List.length h, []) :: rest, h ++ [(kind, List.replicate n.2.1 v0)], nc + 1, ns + n.2.1) else none
  | _ => none
/-- new int[a][b] -/
noncomputable def am_oMulti (tl : List am_I) (lo stk : List am_V) (h : List am_C) (nc ns : Nat) : Option am_O := match stk with
  | (0, 30, _) :: (0, 3, _) :: rest => rec (tl, lo, (10, List.length h, []) :: rest, h ++ [(104, [(10, List.length h + 1, []), (10, List.length h + 2, []), (10, List.length h + 3, [])]), (100, List.replicate 30 (0, 0, [])), (100, List.replicate 30 (0, 0, [])), (100, List.replicate 30 (0, 0, []))], nc + 4, ns + 93)
  | _ => none
/-- where an exception is caught: the first row of the table that covers pc and names its class -/
def am_hnd (ei pc : Nat) : List (Nat × Nat × Nat × Nat) → Option Nat
  | [] => none
  | x :: xs => bif Nat.ble x.1 pc && Nat.blt pc x.2.1 && hc.any (fun q => Nat.beq q.1 x.2.2.2 && Nat.beq q.2 ei) then some x.2.2.1 else am_hnd ei pc xs
noncomputable def am_oThrown (pc ei : Nat) (lo : List am_V) (h : List am_C) (nc ns : Nat) (is : List am_I) : Option am_O := match M.2.2.2.2.1 with
  | [] => some (2, (ei, 0, []), (is, lo, [], h, nc, ns))
  | x :: xs => match am_hnd hc ei pc (x :: xs) with
    | some t => am_oJump rec M t lo [(8, 0, [])] h nc ns
    | none => none
/-- a call: mi the method's place, n how many values it takes off the stack (the object too) -/
noncomputable def am_oCall (mi n : Nat) (is : List am_I) (pc : Nat) (tl : List am_I) (lo stk : List am_V) (h : List am_C) (nc ns : Nat) : Option am_O := match am_nth db mi with
  | some M1 =>
    bif Nat.ble n (List.length stk) && Nat.ble (List.length stk) (n + 4) && Nat.ble (List.length (am_lay (stk.take n).reverse)) M1.2.2.1 then (
      match sub M1 (M1.2.2.2.2.2, am_lay (stk.take n).reverse ++ List.replicate (M1.2.2.1 - List.length (am_lay (stk.take n).reverse)) am_un0, [], h, 0, 0) with
      | some (0, _, _, _, _, h1, c1, s1) => bif M1.2.2.2.1.isNone then rec (tl, lo, stk.drop n, h1, nc + c1, ns + s1) else none
      | some (1, v, _, _, _, h1, c1, s1) => bif M1.2.2.2.1.isSome then rec (tl, lo, v :: stk.drop n, h1, nc + c1, ns + s1) else none
      | some (2, e, _, _, _, h1, c1, s1) => am_oThrown hc rec M pc e.1 lo h1 (nc + c1) (ns + s1) is
      | _ => none) else none
  | none => none
/-- the object of a call is of the class ci -/
noncomputable def am_isC (ci n : Nat) (stk : List am_V) (h : List am_C) : Bool := match stk.drop (n - 1) with
  | (10, a, _) :: _ => match am_nth h a with
    | some c => Nat.beq c.1 ci
    | none => false
  | _ => false
noncomputable def am_oInv (ln : List Nat) (is : List am_I) (pc : Nat) (tl : List am_I) (lo stk : List am_V) (h : List am_C) (nc ns : Nat) : Option am_O := match ln with
  | 0 :: mi :: n :: _ => am_oCall db hc sub rec M mi n is pc tl lo stk h nc ns
  | 1 :: mi :: n :: ci :: _ => bif am_isC ci n stk h then am_oCall db hc sub rec M mi n is pc tl lo stk h nc ns else none
  | 2 :: _ => match stk with
    | (10, _, _) :: rest => bif Nat.ble (List.length rest) 4 then rec (tl, lo, rest, h, nc, ns) else none
    | _ => none
  | 3 :: _ => bif Nat.ble (List.length stk) 5 then am_oUn rec (am_abs A) tl lo stk h nc ns else none
  | 4 :: _ => bif Nat.ble (List.length stk) 5 then am_oBin rec (am_i22 (fun x y => am_ofI (if y < x then y else x))) tl lo stk h nc ns else none
  | 5 :: _ => bif Nat.ble (List.length stk) 5 then am_oBin rec (am_l22 (fun x y => am_ofL (if y < x then y else x))) tl lo stk h nc ns else none
  | 6 :: _ => bif Nat.ble (List.length stk) 5 then am_oBin rec (am_l22 (fun x y => am_ofL (if x < y then y else x))) tl lo stk h nc ns else none
  | 7 :: _ => match stk with
    | (2, n, _) :: rest => bif am_n32 (UInt32.ofNat n) && Nat.ble (List.length rest) 4 then rec (tl, lo, am_ofI (UInt32.ofNat n).toInt32 :: rest, h, nc, ns) else none
    | _ => none
  | 8 :: _ => match stk with
    | (3, n, _) :: rest => bif (Nat.beq n 9221120237041090560 || am_n64 (UInt64.ofNat n)) && Nat.ble (List.length rest) 4 then rec (tl, lo, am_ofL (UInt64.ofNat n).toInt64 :: rest, h, nc, ns) else none
    | (9, n, f) :: rest => bif Nat.ble (List.length rest) 4 then rec (tl, lo, (11, n, f) :: rest, h, nc, ns) else none
    | _ => none
  | 9 :: mi :: _ => match stk with
    | (9, n, f) :: rest => bif Nat.ble (List.length rest) 4 && Nat.blt 2 d then rec (tl, lo, (11, n, f) :: rest, h, nc, ns) else none
    | _ => am_oCall db hc sub rec M mi 1 is pc tl lo stk h nc ns
  | _ => none
noncomputable def am_step (bl : List (List am_V)) (st : am_S) : Option am_O := match st with
  | ([], _) => none
  | ((pc, i, len, ln) :: tl, lo, stk, h, nc, ns) => match i with
    | .iconst n => am_oPush rec tl lo stk h nc ns (am_int n)
    | .bipush n => am_oPush rec tl lo stk h nc ns (am_int n)
    | .sipush n => am_oPush rec tl lo stk h nc ns (am_int n)
    | .lconst n => am_oPush rec tl lo stk h nc ns (1, n.val, [])
    | .fconst n => match n with
      | 0 => am_oPush rec tl lo stk h nc ns (am_ofF FP.fconst0)
      | 1 => am_oPush rec tl lo stk h nc ns (am_ofF FP.fconst1)
      | 2 => am_oPush rec tl lo stk h nc ns (am_ofF FP.fconst2)
    | .dconst n => match n with
      | 0 => am_oPush rec tl lo stk h nc ns (am_ofD FP.dconst0)
      | 1 => am_oPush rec tl lo stk h nc ns (am_ofD FP.dconst1)
    | .ldc _ => match ln with
      | t :: n :: _ => am_oPush rec tl lo stk h nc ns (t, n, [])
      | _ => none
    | .ldc_w _ => match ln with
      | t :: n :: _ => am_oPush rec tl lo stk h nc ns (t, n, [])
      | _ => none
    | .ldc2_w _ => match ln with
      | t :: n :: _ => am_oPush rec tl lo stk h nc ns (t, n, [])
      | _ => none
    | .iload k => am_oLoad rec am_tI k tl lo stk h nc ns
    | .iload_n k => am_oLoad rec am_tI k.val tl lo stk h nc ns
    | .lload k => am_oLoad rec am_tL k tl lo stk h nc ns
    | .lload_n k => am_oLoad rec am_tL k.val tl lo stk h nc ns
    | .fload_n k => am_oLoad rec am_tF k.val tl lo stk h nc ns
    | .dload_n k => am_oLoad rec am_tD k.val tl lo stk h nc ns
    | .aload k => am_oLoad rec am_tA k tl lo stk h nc ns
    | .aload_n k => am_oLoad rec am_tA k.val tl lo stk h nc ns
    | .istore k => am_oStore rec am_tI k tl lo stk h nc ns
    | .istore_n k => am_oStore rec am_tI k.val tl lo stk h nc ns
    | .fstore_n k => am_oStore rec am_tF k.val tl lo stk h nc ns
    | .astore k => am_oStore rec am_tA k tl lo stk h nc ns
    | .astore_n k => am_oStore rec am_tA k.val tl lo stk h nc ns
    | .lstore k => am_oStore2 rec am_tL k tl lo stk h nc ns
    | .lstore_n k => am_oStore2 rec am_tL k.val tl lo stk h nc ns
    | .dstore_n k => am_oStore2 rec am_tD k.val tl lo stk h nc ns
    | .iinc k z => am_oIinc A rec k z tl lo stk h nc ns
    | .iadd => am_oBin rec (am_iadd A) tl lo stk h nc ns
    | .isub => am_oBin rec (am_isub A) tl lo stk h nc ns
    | .imul => am_oBin rec (am_imul A) tl lo stk h nc ns
    | .idiv => am_oBin rec (am_idiv A) tl lo stk h nc ns
    | .irem => am_oBin rec (am_irem A) tl lo stk h nc ns
    | .ior => am_oBin rec (am_i22 (fun x y => am_ofI (x ||| y))) tl lo stk h nc ns
    | .ishl => am_oBin rec (am_i22 (fun x y => am_ofI (x <<< (y &&& 31)))) tl lo stk h nc ns
    | .i2c => am_oUn rec (am_i1 (fun x => am_ofI (x.toUInt32 % 65536).toInt32)) tl lo stk h nc ns
    | .i2l => am_oUn rec (am_i1 (fun x => am_ofL x.toInt64)) tl lo stk h nc ns
    | .i2f => am_oUn rec (am_i1 (fun x => am_ofF (FP.i2f x))) tl lo stk h nc ns
    | .i2d => am_oUn rec am_i2d tl lo stk h nc ns
    | .l2i => am_oUn rec (am_l1 (fun x => am_ofI x.toInt32)) tl lo stk h nc ns
    | .ladd => am_oBin rec (am_l22 (fun x y => am_ofL (x + y))) tl lo stk h nc ns
    | .lsub => am_oBin rec (am_l22 (fun x y => am_ofL (x - y))) tl lo stk h nc ns
    | .lmul => am_oBin rec (am_l22 (fun x y => am_ofL (x * y))) tl lo stk h nc ns
    | .lor => am_oBin rec (am_l22 (fun x y => am_ofL (x ||| y))) tl lo stk h nc ns
    | .lshl => am_oBin rec (am_li (fun x y => am_ofL (x <<< (y.toInt64 &&& 63)))) tl lo stk h nc ns
    | .lcmp => am_oBin rec am_lcmp tl lo stk h nc ns
    | .fdiv => am_oBin rec (am_f22 am_n32 FP.fdiv) tl lo stk h nc ns
    | .fmul => am_oBin rec (am_f22 am_n32 FP.fmul) tl lo stk h nc ns
    | .fsub => am_oBin rec (am_f22 am_n32 FP.fsub) tl lo stk h nc ns
    | .fcmp o => am_oBin rec (am_fc (fun x y => Op.cmpValue (FP.fcmp x y) o)) tl lo stk h nc ns
    | .f2i => am_oUn rec (am_f1v (fun x => am_ofI (FP.f2i x))) tl lo stk h nc ns
    | .f2d => am_oUn rec (fun v => bif Nat.beq v.1 2 && am_n64 (FP.f2d (UInt32.ofNat v.2.1)) then some (am_ofD (FP.f2d (UInt32.ofNat v.2.1))) else none) tl lo stk h nc ns
    | .dadd => am_oBin rec (am_d22 am_n64 FP.dadd) tl lo stk h nc ns
    | .dsub => am_oBin rec (am_d22 am_n64 FP.dsub) tl lo stk h nc ns
    | .dmul => am_oBin rec (am_d22 am_n64 FP.dmul) tl lo stk h nc ns
    | .ddiv => am_oBin rec (am_ddiv A) tl lo stk h nc ns
    | .dcmp o => am_oBin rec (am_dc (fun x y => Op.cmpValue (FP.dcmp x y) o)) tl lo stk h nc ns
    | .d2l => am_oUn rec (am_d1v (fun x => am_ofL (FP.d2l x))) tl lo stk h nc ns
    | .dup => match stk with
      | v :: rest => bif am_c2 v then none else rec (tl, lo, v :: v :: rest, h, nc, ns)
      | [] => none
    | .dup2 => match stk with
      | v :: w :: rest => bif am_c2 v || am_c2 w then none else rec (tl, lo, v :: w :: v :: w :: rest, h, nc, ns)
      | _ => none
    | .goto o => am_oJump rec M (am_tgt pc o) lo stk h nc ns
    | .ifCond c o => am_oIf1 A rec M c (am_tgt pc o) tl lo stk h nc ns
    | .if_icmp c o => am_oIf2 A rec M c (am_tgt pc o) tl lo stk h nc ns
    | .ifnull o => am_oNull rec M false (am_tgt pc o) tl lo stk h nc ns
    | .ifnonnull o => am_oNull rec M true (am_tgt pc o) tl lo stk h nc ns
    | .tableswitch df lw hg os => am_oSwitch rec M pc df lw hg os lo stk h nc ns
    | .getfield _ => am_oGet rec ln tl lo stk h nc ns
    | .putfield _ => am_oPut rec ln tl lo stk h nc ns
    | .iaload => am_oAld rec false tl lo stk h nc ns
    | .aaload => am_oAld rec true tl lo stk h nc ns
    | .iastore => am_oIast rec tl lo stk h nc ns
    | .aastore => am_oAast rec tl lo stk h nc ns
    | .new _ => match ln with
      | 9 :: ei :: _ => bif List.isEmpty M.2.2.2.2.1 && Nat.blt ei 6 && Nat.ble (List.length stk) 4 then some (2, (ei, 0, []), ((pc, i, len, ln) :: tl, lo, stk, h, nc + 1, ns + 6)) else none
      | _ => am_oNew rec bl ln tl lo stk h nc ns
    | .newarray _ => am_oNewa rec 100 (0, 0, []) tl lo stk h nc ns
    | .anewarray _ => match ln with
      | k :: _ => am_oNewa rec k (4, 0, []) tl lo stk h nc ns
      | _ => none
    | .multianewarray _ _ => am_oMulti rec tl lo stk h nc ns
    | .invokestatic _ => am_oInv A db hc sub rec d M ln ((pc, i, len, ln) :: tl) pc tl lo stk h nc ns
    | .invokevirtual _ => am_oInv A db hc sub rec d M ln ((pc, i, len, ln) :: tl) pc tl lo stk h nc ns
    | .invokespecial _ => am_oInv A db hc sub rec d M ln ((pc, i, len, ln) :: tl) pc tl lo stk h nc ns
    | .return_ => match stk with
      | [] => some (0, (4, 0, []), ((pc, i, len, ln) :: tl, lo, stk, h, nc, ns))
      | _ => none
    | .ireturn => match stk, M.2.2.2.1 with
      | [v], some rt => bif am_tI v && am_fit rt v then some (1, v, ((pc, i, len, ln) :: tl, lo, stk, h, nc, ns)) else none
      | _, _ => none
    | .lreturn => match stk, M.2.2.2.1 with
      | [v], some rt => bif am_tL v && am_fit rt v then some (1, v, ((pc, i, len, ln) :: tl, lo, stk, h, nc, ns)) else none
      | _, _ => none
    | .freturn => match stk, M.2.2.2.1 with
      | [v], some rt => bif am_tF v && am_fit rt v then some (1, v, ((pc, i, len, ln) :: tl, lo, stk, h, nc, ns)) else none
      | _, _ => none
    | .dreturn => match stk, M.2.2.2.1 with
      | [v], some rt => bif am_tD v && am_fit rt v then some (1, v, ((pc, i, len, ln) :: tl, lo, stk, h, nc, ns)) else none
      | _, _ => none
    | .areturn => match stk, M.2.2.2.1 with
      | [v], some rt => bif am_tR v && am_fit rt v then some (1, v, ((pc, i, len, ln) :: tl, lo, stk, h, nc, ns)) else none
      | _, _ => none
    | _ => none
end AMSTEP
/-- the run of a frame at depth d: n steps of its own at most; a callee runs at the depth below, F steps at most -/
noncomputable def am_run (A : am_A) (db : List am_M) (hc : List (Nat × Nat)) (bl : List (List am_V)) (F : Nat) (d : Nat) : Nat → am_M → am_S → Option am_O :=
  Nat.rec (motive := fun _ => Nat → am_M → am_S → Option am_O) (fun _ _ _ => none) (fun d sub n M st => Nat.rec (motive := fun _ => am_S → Option am_O) (fun st => some (3, (4, 0, []), st)) (fun _ ih st => am_step A db hc (sub F) ih d M bl st) n st) d
theorem am_run_0 {A : am_A} {db : List am_M} {hc : List (Nat × Nat)} {bl : List (List am_V)} {F d : Nat} {M : am_M} {st : am_S} : am_run A db hc bl F (d + 1) 0 M st = some (3, (4, 0, []), st) := rfl
theorem am_run_s {A : am_A} {db : List am_M} {hc : List (Nat × Nat)} {bl : List (List am_V)} {F n d : Nat} {M : am_M} {st : am_S} : am_run A db hc bl F (d + 1) (n + 1) M st = am_step A db hc (am_run A db hc bl F d F) (am_run A db hc bl F (d + 1) n M) d M bl st := rfl
