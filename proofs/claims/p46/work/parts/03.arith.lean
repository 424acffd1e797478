/-! ===== what the abstract machine's numbers stand for ===== -/
theorem am_dot_add (f : List Int) : ∀ (g X : List Int), am_dot (am_fadd f g) X = am_dot f X + am_dot g X := by
  induction f with
  | nil => intro g X; simp [am_fadd, am_dot]
  | cons a f ih =>
    intro g X
    cases g with
    | nil => simp [am_fadd, am_dot]
    | cons b g =>
      cases X with
      | nil => simp [am_fadd, am_dot]
      | cons x X =>
        simp only [am_fadd, am_dot, ih g X, Int.add_mul]
        omega
theorem am_dot_mul (k : Int) (f : List Int) : ∀ X, am_dot (am_fmul k f) X = k * am_dot f X := by
  induction f with
  | nil => intro X; simp [am_fmul, am_dot]
  | cons a f ih =>
    intro X
    cases X with
    | nil => simp [am_fmul, am_dot]
    | cons x X =>
      have h := ih X
      simp only [am_fmul] at h
      simp only [am_fmul, List.map_cons, am_dot, h, Int.mul_add, Int.mul_assoc]
theorem am_ev_add (X f g : List Int) : am_ev X (am_fadd f g) = am_ev X f + am_ev X g := by
  cases f with
  | nil => simp [am_fadd, am_ev]
  | cons a f =>
    cases g with
    | nil => simp [am_fadd, am_ev]
    | cons b g =>
      simp only [am_fadd, am_ev, am_dot_add]
      omega
theorem am_ev_mul (X : List Int) (k : Int) (f : List Int) : am_ev X (am_fmul k f) = k * am_ev X f := by
  cases f with
  | nil => simp [am_fmul, am_ev]
  | cons a f =>
    have h := am_dot_mul k f X
    simp only [am_fmul] at h
    simp only [am_fmul, List.map_cons, am_ev, h, Int.mul_add]
theorem am_ev_sub (X f g : List Int) : am_ev X (am_fsub f g) = am_ev X f - am_ev X g := by
  unfold am_fsub
  rw [am_ev_add, am_ev_mul]
  omega
theorem am_dot_zero (f : List Int) : ∀ X, am_zero f = true → am_dot f X = 0 := by
  induction f with
  | nil => intro X _; simp [am_dot]
  | cons a f ih =>
    intro X h
    simp only [am_zero, List.all_cons, Bool.and_eq_true, beq_iff_eq] at h
    cases X with
    | nil => simp [am_dot]
    | cons x X =>
      have h2 : am_zero f = true := h.2
      simp [am_dot, h.1, ih X h2]
theorem am_ev_zero (X f : List Int) (h : am_zero f = true) : am_ev X f = 0 := by
  cases f with
  | nil => rfl
  | cons a f =>
    simp only [am_zero, List.all_cons, Bool.and_eq_true, beq_iff_eq] at h
    have h2 : am_zero f = true := h.2
    simp [am_ev, h.1, am_dot_zero f X h2]
theorem am_ev_eq (X f g : List Int) (h : am_feq f g = true) : am_ev X f = am_ev X g := by
  have h1 := am_ev_zero X _ h
  rw [am_ev_sub] at h1
  omega
/-- the unknowns keep to their bounds -/
def am_bx : List (Int × Int) → List Int → Prop
  | [], _ => True
  | b :: bs, x :: xs => b.1 ≤ x ∧ x ≤ b.2 ∧ am_bx bs xs
  | _ :: _, [] => False
theorem am_rng_ok (cs : List Int) : ∀ (bs : List (Int × Int)) (X : List Int) (r : Int × Int), am_bx bs X → am_rng bs cs = some r → r.1 ≤ am_dot cs X ∧ am_dot cs X ≤ r.2 := by
  induction cs with
  | nil =>
    intro bs X r _ h
    simp only [am_rng, Option.some.injEq] at h
    subst h
    simp [am_dot]
  | cons c cs ih =>
    intro bs X r hb h
    cases bs with
    | nil =>
      simp only [am_rng] at h
      split at h
      · rename_i hc
        subst hc
        cases X with
        | nil =>
          have h2 := ih [] [] r trivial h
          simpa [am_dot] using (show r.1 ≤ 0 ∧ 0 ≤ r.2 by cases cs <;> simpa [am_dot] using h2)
        | cons x X =>
          have h2 := ih [] X r trivial h
          simpa [am_dot] using h2
      · cases h
    | cons b bs =>
      cases X with
      | nil => exact hb.elim
      | cons x X =>
        obtain ⟨h1, h2, h3⟩ := hb
        simp only [am_rng] at h
        cases hr : am_rng bs cs with
        | none => rw [hr] at h; cases h
        | some q =>
          rw [hr] at h
          obtain ⟨k1, k2⟩ := ih bs X q h3 hr
          simp only [am_dot]
          simp only at h
          split at h
          · rename_i hc
            cases h
            have e1 := Int.mul_le_mul_of_nonneg_left h1 hc
            have e2 := Int.mul_le_mul_of_nonneg_left h2 hc
            constructor <;> simp only <;> omega
          · rename_i hc
            cases h
            have hc' : c ≤ 0 := by omega
            have e1 := Int.mul_le_mul_of_nonpos_left hc' h1
            have e2 := Int.mul_le_mul_of_nonpos_left hc' h2
            constructor <;> simp only <;> omega
/-- what is known of the unknowns holds -/
def am_kn (A : am_A) (X : List Int) : Prop := am_bx A.1 X ∧ (∀ e ∈ A.2.1, am_ev X e.1 = am_ev X e.2) ∧ ∀ e ∈ A.2.2, am_ev X e.2 = ((am_ev X e.1).natAbs : Int)
theorem am_lim_ok {A : am_A} {X f : List Int} {r : Int × Int} (hA : am_kn A X) (h : am_lim A f = some r) : r.1 ≤ am_ev X f ∧ am_ev X f ≤ r.2 := by
  cases f with
  | nil =>
    simp only [am_lim, Option.some.injEq] at h
    subst h
    simp [am_ev]
  | cons c cs =>
    simp only [am_lim] at h
    cases hr : am_rng A.1 cs with
    | none => rw [hr] at h; cases h
    | some q =>
      rw [hr] at h
      cases h
      have := am_rng_ok cs A.1 X q hA.1 hr
      simp only [am_ev]
      omega
theorem am_rw_ok {X : List Int} : ∀ (es : List (List Int × List Int)) (f : List Int), (∀ e ∈ es, am_ev X e.1 = am_ev X e.2) → am_ev X (am_rw es f) = am_ev X f := by
  intro es
  induction es with
  | nil => intro f _; rfl
  | cons e es ih =>
    intro f h
    simp only [am_rw]
    cases hq : am_feq f e.1 with
    | true =>
      simp only [cond_true]
      rw [am_ev_eq X _ _ hq, h e List.mem_cons_self]
    | false =>
      simp only [cond_false]
      exact ih f (fun x hx => h x (List.mem_cons_of_mem _ hx))
theorem am_look_ok {X : List Int} : ∀ (es : List (List Int × List Int)) (f g : List Int), (∀ e ∈ es, am_ev X e.2 = ((am_ev X e.1).natAbs : Int)) → am_look es f = some g → am_ev X g = ((am_ev X f).natAbs : Int) := by
  intro es
  induction es with
  | nil => intro f g _ h; cases h
  | cons e es ih =>
    intro f g h hl
    simp only [am_look] at hl
    cases hq : am_feq f e.1 with
    | true =>
      rw [hq] at hl
      simp only [cond_true, Option.some.injEq] at hl
      subst hl
      rw [h e List.mem_cons_self, am_ev_eq X _ _ hq]
    | false =>
      rw [hq] at hl
      simp only [cond_false] at hl
      exact ih f g (fun x hx => h x (List.mem_cons_of_mem _ hx)) hl
-- 32 bits
def am_i (z : Int) : Int32 := Int32.ofInt z
theorem am_bm (z : Int) : z.bmod 4294967296 = if z % 4294967296 < 2147483648 then z % 4294967296 else z % 4294967296 - 4294967296 := by
  rw [Int.bmod_def]
  rfl
theorem am_i_t (z : Int) : (am_i z).toInt = z.bmod 4294967296 := by
  unfold am_i
  rw [Int32.toInt_ofInt]
theorem am_i_ext {x : Int32} {z : Int} (h : x.toInt = z.bmod 4294967296) : x = am_i z := by
  apply Int32.toInt_inj.mp
  rw [h, am_i_t]
theorem am_i_nat (n : Nat) : Int32.ofNat n = am_i (n : Int) := by
  apply am_i_ext
  rw [Int32.toInt_ofNat']
theorem am_i_mod (z : Int) : am_i (z % 4294967296) = am_i z := by
  apply am_i_ext
  rw [am_i_t, am_bm, am_bm]
  split <;> split <;> omega
theorem am_i_un (z : Int) : Int32.ofNat (am_un z) = am_i z := by
  rw [am_i_nat]
  unfold am_un
  rw [Int.toNat_of_nonneg (by omega), am_i_mod]
theorem am_i_si (n : Nat) : Int32.ofNat n = am_i (am_si n) := by
  rw [am_i_nat]
  unfold am_si
  cases h : Nat.blt n 2147483648 with
  | true => rfl
  | false =>
    apply am_i_ext
    rw [am_i_t]
    simp only [cond_false]
    rw [am_bm, am_bm]
    split <;> split <;> omega
theorem am_i_nmod (n : Nat) : Int32.ofNat (n % 4294967296) = Int32.ofNat n := by
  rw [am_i_nat, am_i_nat]
  apply am_i_ext
  rw [am_i_t, am_bm, am_bm]
  split <;> split <;> omega
theorem am_i_add (a b : Int) : am_i a + am_i b = am_i (a + b) := by
  apply am_i_ext
  rw [Int32.toInt_add, am_i_t, am_i_t]
  simp
theorem am_i_sub (a b : Int) : am_i a - am_i b = am_i (a - b) := by
  apply am_i_ext
  rw [Int32.toInt_sub, am_i_t, am_i_t]
  simp
theorem am_i_mul (a b : Int) : am_i a * am_i b = am_i (a * b) := by
  apply am_i_ext
  rw [Int32.toInt_mul, am_i_t, am_i_t]
  simp
theorem am_i_in {z : Int} (h1 : -2147483648 ≤ z) (h2 : z < 2147483648) : (am_i z).toInt = z := by
  rw [am_i_t, am_bm]
  split <;> omega
theorem am_i_div {a d : Int} (h1 : 0 ≤ a) (h2 : a < 2147483648) (h3 : 0 < d) (h4 : d < 2147483648) : am_i a / am_i d = am_i (a / d) := by
  apply am_i_ext
  rw [Int32.toInt_div, am_i_in (by omega) h2, am_i_in (by omega) h4, Int.tdiv_eq_ediv_of_nonneg h1]
theorem am_i_lt {a b : Int} (h1 : -2147483648 ≤ a) (h2 : a < 2147483648) (h3 : -2147483648 ≤ b) (h4 : b < 2147483648) : am_i a < am_i b ↔ a < b := by
  rw [Int32.lt_iff_toInt_lt, am_i_in h1 h2, am_i_in h3 h4]
theorem am_i_eq {a b : Int} (h1 : -2147483648 ≤ a) (h2 : a < 2147483648) (h3 : -2147483648 ≤ b) (h4 : b < 2147483648) : am_i a = am_i b ↔ a = b := by
  rw [← Int32.toInt_inj, am_i_in h1 h2, am_i_in h3 h4]
theorem am_n_lt (a b : Nat) : Int32.ofNat a < Int32.ofNat b ↔ Nat.blt ((a + 2147483648) % 4294967296) ((b + 2147483648) % 4294967296) = true := by
  rw [Int32.lt_iff_toInt_lt, am_i_nat, am_i_nat, am_i_t, am_i_t, Nat.blt_eq, am_bm, am_bm]
  split <;> split <;> omega
theorem am_n_eq (a b : Nat) : Int32.ofNat a = Int32.ofNat b ↔ Nat.beq (a % 4294967296) (b % 4294967296) = true := by
  rw [← Int32.toInt_inj, am_i_nat, am_i_nat, am_i_t, am_i_t, Nat.beq_eq, am_bm, am_bm]
  split <;> split <;> omega
