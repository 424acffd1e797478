/-! ===== an abstract machine over closed data: the walk of a method by computation; its soundness stands in the parts behind =====
A value: (tag, number, form). 0 int (the number mod 2^32), 6 int (the form's), 1 long (mod 2^64), 2 float, 3 double (their bits), 4 null, 8 some reference, 10 the reference to the cell 'number', 12 the script, 98 nothing; 7 the double of the form, 9 that by the double 'number', 11 the bits of that. Odd tags take two words. A form: constant :: coefficients of the unknowns. -/
abbrev am_V : Type := Nat × Nat × List Int
/-- a cell: below 100 an object of that class, its fields; 100 an int array, 101 and on arrays of references -/
abbrev am_C : Type := Nat × List am_V
/-- the heap: how many cells there are; the cells, sixteen to a block, places that are free yet hold (999, []) -/
abbrev am_H : Type := Nat × List (List am_C)
/-- pc, instruction, length, places of the words that it needs -/
abbrev am_I : Type := Nat × Instr × Nat × List Nat
/-- name, code, locals, what it returns, table, instructions -/
abbrev am_M : Type := MethodName × ByteArray × Nat × Option FieldType × List (Nat × Nat × Nat × Nat) × List am_I
/-- what is known of the unknowns: bounds, equal forms, forms with their absolute values -/
abbrev am_A : Type := List (Int × Int) × List (List Int × List Int) × List (List Int × List Int)
/-- what a run comes to: 0 returned, 1 returned a value, 2 threw (the class' number), 3 stopped; the value; at the pc; locals, stack, heap, cells and slots made -/
abbrev am_O : Type := Nat × am_V × Nat × List am_V × List am_V × am_H × Nat × Nat

/-- shorter roads for the kernel: a choice, an Option's and a list's first case -/
noncomputable def am_if {α : Type} (b : Bool) (t e : α) : α := Bool.rec (motive := fun _ => α) e t b
noncomputable def am_ob {α β : Type} (x : Option α) (k : α → Option β) : Option β := Option.rec (motive := fun _ => Option β) none k x
noncomputable def am_lc {α β : Type} (l : List α) (k : α → List α → Option β) : Option β := List.rec (motive := fun _ => Option β) none (fun a t _ => k a t) l
theorem am_if_t {α : Type} (t e : α) : am_if true t e = t := rfl
theorem am_if_f {α : Type} (t e : α) : am_if false t e = e := rfl
theorem am_ob_s {α β : Type} (x : α) (k : α → Option β) : am_ob (some x) k = k x := rfl
theorem am_ob_n {α β : Type} (k : α → Option β) : am_ob none k = none := rfl
theorem am_ob_some {α β : Type} {x : Option α} {k : α → Option β} {r : β} (h : am_ob x k = some r) : ∃ y, x = some y ∧ k y = some r := by
  cases x with
  | none => cases h
  | some y => exact ⟨y, rfl, h⟩
theorem am_lc_some {α β : Type} {l : List α} {k : α → List α → Option β} {r : β} (h : am_lc l k = some r) : ∃ a t, l = a :: t ∧ k a t = some r := by
  cases l with
  | nil => cases h
  | cons a t => exact ⟨a, t, rfl, h⟩
theorem am_if_some {α : Type} {b : Bool} {t : Option α} {r : α} (h : am_if b t none = some r) : b = true ∧ t = some r := by
  cases b with
  | false => cases h
  | true => exact ⟨rfl, h⟩
noncomputable def am_and (a b : Bool) : Bool := Bool.rec (motive := fun _ => Bool) false b a
noncomputable def am_or (a b : Bool) : Bool := Bool.rec (motive := fun _ => Bool) b true a
theorem am_and_t {a b : Bool} : am_and a b = true ↔ a = true ∧ b = true := by cases a <;> cases b <;> simp [am_and]
theorem am_or_t {a b : Bool} : am_or a b = true ↔ a = true ∨ b = true := by cases a <;> cases b <;> simp [am_or]
noncomputable def am_nth {α : Type} (l : List α) (k : Nat) : Option α :=
  List.rec (motive := fun _ => Nat → Option α) (fun _ => none) (fun a _ ih k => Nat.rec (motive := fun _ => Option α) (some a) (fun k _ => ih k) k) l k
noncomputable def am_set {α : Type} (l : List α) (k : Nat) (x : α) : List α :=
  List.rec (motive := fun _ => Nat → List α) (fun _ => []) (fun a t ih k => Nat.rec (motive := fun _ => List α) (x :: t) (fun k _ => a :: ih k) k) l k
noncomputable def am_dr {α : Type} (l : List α) (k : Nat) : List α :=
  List.rec (motive := fun _ => Nat → List α) (fun _ => []) (fun a t ih k => Nat.rec (motive := fun _ => List α) (a :: t) (fun k _ => ih k) k) l k
/-- l has a place k; it has four at most -/
noncomputable def am_has {α : Type} (l : List α) (k : Nat) : Bool := Option.rec (motive := fun _ => Bool) false (fun _ => true) (am_nth l k)
noncomputable def am_sh {α : Type} (l : List α) : Bool := Option.rec (motive := fun _ => Bool) true (fun _ => false) (am_nth l 4)
noncomputable def am_rep {α : Type} (n : Nat) (x : α) : List α := Nat.rec (motive := fun _ => List α) [] (fun _ ih => x :: ih) n
/-- n values off the stack, the deepest first -/
noncomputable def am_pop {α β : Type} (n : Nat) (k : List α → List α → Option β) (stk : List α) : Option β := Nat.rec (motive := fun _ => List α → List α → Option β) k (fun _ ih acc st => am_lc st (fun v rest => ih (v :: acc) rest)) n [] stk
/-- l, filled up to n places -/
noncomputable def am_pad {α : Type} (x : α) (l : List α) (n : Nat) : Option (List α) := List.rec (motive := fun _ => Nat → Option (List α)) (fun n => some (am_rep n x)) (fun v _ ih n => Nat.rec (motive := fun _ => Option (List α)) none (fun m _ => am_ob (ih m) (fun t => some (v :: t))) n) l n
noncomputable def am_get (h : am_H) (a : Nat) : Option am_C := am_ob (am_nth h.2 (Nat.div a 16)) (fun b => am_nth b (Nat.mod a 16))
noncomputable def am_put (h : am_H) (a : Nat) (c : am_C) : am_H := (h.1, Option.rec (motive := fun _ => List (List am_C)) h.2 (fun b => am_set h.2 (Nat.div a 16) (am_set b (Nat.mod a 16) c)) (am_nth h.2 (Nat.div a 16)))
noncomputable def am_new (h : am_H) (c : am_C) : am_H := (h.1 + 1, (am_put h h.1 c).2)
/-- the next place is free -/
noncomputable def am_free (h : am_H) : Bool := Option.rec (motive := fun _ => Bool) false (fun c => Nat.beq c.1 999) (am_get h h.1)
noncomputable def am_h0 : am_H := (0, am_rep 32 (am_rep 16 (999, [])))
theorem am_nth_eq {α : Type} (l : List α) : ∀ k, am_nth l k = l[k]? := by
  induction l with
  | nil => intro k; rfl
  | cons a t ih =>
    intro k
    cases k with
    | zero => rfl
    | succ k => exact (ih k).trans (by simp)
theorem am_set_eq {α : Type} (l : List α) (x : α) : ∀ k, am_set l k x = l.set k x := by
  induction l with
  | nil => intro k; rfl
  | cons a t ih =>
    intro k
    cases k with
    | zero => rfl
    | succ k =>
      show a :: am_set t k x = _
      rw [ih k]
      rfl

-- forms
def am_dot : List Int → List Int → Int
  | c :: cs, x :: xs => c * x + am_dot cs xs
  | _, _ => 0
def am_ev (X : List Int) : List Int → Int
  | [] => 0
  | c :: cs => c + am_dot cs X
def am_fadd : List Int → List Int → List Int
  | [], g => g
  | f, [] => f
  | a :: f, b :: g => (a + b) :: am_fadd f g
def am_fmul (k : Int) (f : List Int) : List Int := f.map (fun c => k * c)
def am_fsub (f g : List Int) : List Int := am_fadd f (am_fmul (-1) g)
def am_zero (f : List Int) : Bool := f.all (fun c => c == 0)
def am_feq (f g : List Int) : Bool := am_zero (am_fsub f g)
def am_rng : List (Int × Int) → List Int → Option (Int × Int)
  | _, [] => some (0, 0)
  | [], c :: cs => if c = 0 then am_rng [] cs else none
  | b :: bs, c :: cs => match am_rng bs cs with
    | none => none
    | some r => if 0 ≤ c then some (r.1 + c * b.1, r.2 + c * b.2) else some (r.1 + c * b.2, r.2 + c * b.1)
def am_lim (A : am_A) : List Int → Option (Int × Int)
  | [] => some (0, 0)
  | c :: cs => match am_rng A.1 cs with
    | none => none
    | some r => some (c + r.1, c + r.2)
def am_rw : List (List Int × List Int) → List Int → List Int
  | [], f => f
  | e :: es, f => bif am_feq f e.1 then e.2 else am_rw es f
def am_look : List (List Int × List Int) → List Int → Option (List Int)
  | [], _ => none
  | e :: es, f => bif am_feq f e.1 then some e.2 else am_look es f
/-- the number mod 2^32 as an Int; an Int mod 2^32 -/
def am_si (n : Nat) : Int := bif Nat.blt n 2147483648 then (n : Int) else (n : Int) - 4294967296
def am_un (z : Int) : Nat := (z % 4294967296).toNat
def am_int (z : Int) : am_V := (0, am_un z, [])
def am_form (v : am_V) : Option (List Int) := bif Nat.beq v.1 0 then some [am_si v.2.1] else bif Nat.beq v.1 6 then some v.2.2 else none
def am_mk (A : am_A) (f : List Int) : am_V := match am_rw A.2.1 f with
  | [] => (0, 0, [])
  | c :: cs => bif am_zero cs then am_int c else (6, 0, c :: cs)
noncomputable def am_k2 (a b : am_V) : Bool := am_and (Nat.beq a.1 0) (Nat.beq b.1 0)
def am_iaddF (A : am_A) (a b : am_V) : Option am_V := match am_form a, am_form b with
  | some f, some g => some (am_mk A (am_fadd f g))
  | _, _ => none
noncomputable def am_iadd (A : am_A) (a b : am_V) : Option am_V := am_if (am_k2 a b) (some (0, (a.2.1 + b.2.1) % 4294967296, [])) (am_iaddF A a b)
def am_isub (A : am_A) (a b : am_V) : Option am_V := match am_form a, am_form b with
  | some f, some g => some (am_mk A (am_fsub f g))
  | _, _ => none
def am_imulF (A : am_A) (a b : am_V) : Option am_V := match am_form a, am_form b with
  | some [c], some g => some (am_mk A (am_fmul c g))
  | some f, some [c] => some (am_mk A (am_fmul c f))
  | _, _ => none
noncomputable def am_imul (A : am_A) (a b : am_V) : Option am_V := am_if (am_k2 a b) (some (0, (a.2.1 * b.2.1) % 4294967296, [])) (am_imulF A a b)

/-- f = f1 + d * g: f1's coefficients aren't divisible -/
def am_f1 (d : Int) (f : List Int) : List Int := f.map (fun c => if c % d = 0 then 0 else c)
def am_fg (d : Int) (f : List Int) : List Int := f.map (fun c => if c % d = 0 then c / d else 0)
def am_qr (A : am_A) (f : List Int) (d : Int) : Option (List Int × List Int) := match f with
  | [] => none
  | c :: cs => match am_lim A f, am_lim A (c % d :: am_f1 d cs) with
    | some r, some r1 => bif decide (0 < d) && decide (d < 2147483648) && decide (0 ≤ r.1) && decide (r.2 < 2147483648) && decide (0 ≤ r1.1) && decide (r1.2 < d) then some (c / d :: am_fg d cs, c % d :: am_f1 d cs) else none
    | _, _ => none
def am_idiv (A : am_A) (a b : am_V) : Option am_V := match am_form a, am_form b with
  | some f, some [d] => match am_qr A f d with
    | some q => some (am_mk A q.1)
    | none => none
  | _, _ => none
def am_irem (A : am_A) (a b : am_V) : Option am_V := match am_form a, am_form b with
  | some f, some [d] => match am_qr A f d with
    | some q => some (am_mk A q.2)
    | none => none
  | _, _ => none
def am_in32 (r : Int × Int) : Bool := decide (-2147483648 ≤ r.1) && decide (r.2 < 2147483648)
/-- a < b -/
def am_ltF (A : am_A) (a b : am_V) : Option Bool := match am_form a, am_form b with
  | some f, some g => match am_lim A f, am_lim A g, am_lim A (am_fsub f g) with
    | some r, some q, some t => bif am_in32 r && am_in32 q then (bif decide (t.2 < 0) then some true else bif decide (0 ≤ t.1) then some false else none) else none
    | _, _, _ => none
  | _, _ => none
noncomputable def am_lt (A : am_A) (a b : am_V) : Option Bool := am_if (am_k2 a b) (some (Nat.blt ((a.2.1 + 2147483648) % 4294967296) ((b.2.1 + 2147483648) % 4294967296))) (am_ltF A a b)
def am_eqF (A : am_A) (a b : am_V) : Option Bool := match am_form a, am_form b with
  | some f, some g => bif am_feq f g then some true else match am_lim A f, am_lim A g, am_lim A (am_fsub f g) with
    | some r, some q, some t => bif am_in32 r && am_in32 q && (decide (t.2 < 0) || decide (0 < t.1)) then some false else none
    | _, _, _ => none
  | _, _ => none
noncomputable def am_eq (A : am_A) (a b : am_V) : Option Bool := am_if (am_k2 a b) (some (Nat.beq (a.2.1 % 4294967296) (b.2.1 % 4294967296))) (am_eqF A a b)
noncomputable def am_gt (A : am_A) (a b : am_V) : Option Bool := am_lt A b a
def am_abs (A : am_A) (a : am_V) : Option am_V := match am_form a with
  | none => none
  | some f => match am_look A.2.2 f with
    | some g => match am_lim A f with
      | some r => bif am_in32 r then some (am_mk A g) else none
      | none => none
    | none => match am_lim A f with
      | some r => bif am_in32 r then (bif decide (0 ≤ r.1) then some (am_mk A f) else bif decide (r.2 < 0) then some (am_mk A (am_fmul (-1) f)) else none) else none
      | none => none
def am_isu (i : am_V) : Bool := Nat.beq i.1 98
/-- words -/
def am_c2 (v : am_V) : Bool := Nat.beq (v.1 % 2) 1
def am_un0 : am_V := (98, 0, [])
noncomputable def am_lay (l : List am_V) : List am_V := List.rec (motive := fun _ => List am_V) [] (fun v _ ih => am_if (am_c2 v) (v :: am_un0 :: ih) (v :: ih)) l
/-- a store of a value of one word: what stood in two words there is gone -/
noncomputable def am_st1 (lo : List am_V) (k : Nat) (v : am_V) : List am_V := Nat.rec (motive := fun _ => List am_V) (am_set lo 0 v) (fun j _ => Option.rec (motive := fun _ => List am_V) (am_set lo (j + 1) v) (fun w => am_if (am_c2 w) (am_set (am_set lo j am_un0) (j + 1) v) (am_set lo (j + 1) v)) (am_nth lo j)) k
noncomputable def am_st2 (lo : List am_V) (k : Nat) (v : am_V) : List am_V := am_set (am_st1 lo k v) (k + 1) am_un0
def am_tgt (pc : Nat) (off : Int) : Nat := ((pc : Int) + off).toNat
