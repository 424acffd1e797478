/-! ===== a value of the abstract machine and a value of the machine: X the unknowns, b the script's cell, ad the cells' addresses ===== -/
def am_dq (X : List Int) (n : Nat) (f : List Int) : UInt64 := FP.ddiv (FP.i2d (am_i (am_ev X f))) (UInt64.ofNat n)
def am_R (X : List Int) (b : Nat) (ad : List Nat) (v : am_V) (V : Value) : Prop := match v.1 with
  | 0 => V = .int (Int32.ofNat v.2.1)
  | 1 => V = .long (Int64.ofNat v.2.1)
  | 2 => V = .float (UInt32.ofNat v.2.1)
  | 3 => V = .double (UInt64.ofNat v.2.1)
  | 4 => V = .null
  | 6 => V = .int (am_i (am_ev X v.2.2))
  | 7 => V = .double (FP.i2d (am_i (am_ev X v.2.2)))
  | 8 => ∃ a, V = .ref a
  | 9 => V = .double (am_dq X v.2.1 v.2.2)
  | 10 => ∃ a, ad[v.2.1]? = some a ∧ V = .ref a
  | 11 => V = .long (am_dq X v.2.1 v.2.2).toInt64
  | 12 => V = .ref b
  | _ => False
theorem am_R_grow {X : List Int} {b : Nat} {ad ad' : List Nat} {v : am_V} {V : Value} (h : am_R X b ad v V) (hp : ∀ (k a : Nat), ad[k]? = some a → ad'[k]? = some a) : am_R X b ad' v V := by
  obtain ⟨t, n, f⟩ := v
  unfold am_R at h ⊢
  split at h <;> simp_all
  obtain ⟨a, h1, h2⟩ := h
  exact ⟨a, hp _ _ h1, h2⟩
section AMV
variable {X : List Int} {b : Nat} {ad : List Nat} {A : am_A}
theorem am_R_int {v : am_V} {V : Value} {f : List Int} (h : am_R X b ad v V) (hf : am_form v = some f) : V = .int (am_i (am_ev X f)) := by
  obtain ⟨t, n, g⟩ := v
  unfold am_form at hf
  cases h0 : Nat.beq t 0 with
  | true =>
    simp only [h0, am_if_t, cond_true, Option.some.injEq] at hf
    have ht : t = 0 := Nat.eq_of_beq_eq_true h0
    subst ht
    subst hf
    have h2 : V = .int (Int32.ofNat n) := h
    rw [h2, am_i_si]
    simp [am_ev, am_dot]
  | false =>
    simp only [h0, am_if_f, cond_false] at hf
    cases h6 : Nat.beq t 6 with
    | true =>
      simp only [h6, am_if_t, cond_true, Option.some.injEq] at hf
      have ht : t = 6 := Nat.eq_of_beq_eq_true h6
      subst ht
      subst hf
      exact h
    | false =>
      simp only [h6, am_if_f, cond_false] at hf
      cases hf
theorem am_R_k2 {u v : am_V} {U V : Value} (h : am_k2 u v = true) (hu : am_R X b ad u U) (hv : am_R X b ad v V) : U = .int (Int32.ofNat u.2.1) ∧ V = .int (Int32.ofNat v.2.1) := by
  unfold am_k2 at h
  rw [am_and_t] at h
  obtain ⟨t, n, f⟩ := u
  obtain ⟨t', n', f'⟩ := v
  have h1 : t = 0 := Nat.eq_of_beq_eq_true h.1
  have h2 : t' = 0 := Nat.eq_of_beq_eq_true h.2
  subst h1
  subst h2
  exact ⟨hu, hv⟩
theorem am_R_mk (hA : am_kn A X) (f : List Int) : am_R X b ad (am_mk A f) (.int (am_i (am_ev X f))) := by
  rw [← am_rw_ok A.2.1 f hA.2.1]
  unfold am_mk
  generalize am_rw A.2.1 f = g
  cases g with
  | nil =>
    show Value.int _ = .int (Int32.ofNat 0)
    rw [am_i_nat]
    rfl
  | cons c cs =>
    cases hz : am_zero cs with
    | false => simp only [hz, am_if_f, cond_false]; rfl
    | true =>
      simp only [hz, am_if_t, cond_true]
      show Value.int _ = .int (Int32.ofNat (am_un c))
      rw [am_i_un]
      simp only [am_ev, am_dot_zero cs X hz, Int.add_zero]
theorem am_R_0 (n : Nat) : am_R X b ad (0, n, []) (.int (Int32.ofNat n)) := rfl
theorem am_R_i (z : Int) : am_R X b ad (am_int z) (.int (am_i z)) := by
  show Value.int _ = .int (Int32.ofNat (am_un z))
  rw [am_i_un]
theorem am_R_iadd (hA : am_kn A X) {u v r : am_V} {U V : Value} (hu : am_R X b ad u U) (hv : am_R X b ad v V) (h : am_iadd A u v = some r) : ∃ x y : Int32, U = .int x ∧ V = .int y ∧ am_R X b ad r (.int (x + y)) := by
  unfold am_iadd at h
  cases hk : am_k2 u v with
  | true =>
    simp only [hk, am_if_t, cond_true, Option.some.injEq] at h
    obtain ⟨h1, h2⟩ := am_R_k2 hk hu hv
    refine ⟨_, _, h1, h2, ?_⟩
    subst h
    show Value.int _ = .int (Int32.ofNat _)
    rw [am_i_nmod, am_i_nat, am_i_nat, am_i_nat, am_i_add]
    rfl
  | false =>
    simp only [hk, am_if_f, cond_false, am_iaddF, am_imulF, am_ltF, am_eqF] at h
    split at h
    · rename_i f g hf hg
      cases h
      refine ⟨_, _, am_R_int hu hf, am_R_int hv hg, ?_⟩
      rw [am_i_add, ← am_ev_add]
      exact am_R_mk hA _
    · cases h
theorem am_R_isub (hA : am_kn A X) {u v r : am_V} {U V : Value} (hu : am_R X b ad u U) (hv : am_R X b ad v V) (h : am_isub A u v = some r) : ∃ x y : Int32, U = .int x ∧ V = .int y ∧ am_R X b ad r (.int (x - y)) := by
  unfold am_isub at h
  split at h
  · rename_i f g hf hg
    cases h
    refine ⟨_, _, am_R_int hu hf, am_R_int hv hg, ?_⟩
    rw [am_i_sub, ← am_ev_sub]
    exact am_R_mk hA _
  · cases h
theorem am_R_imul (hA : am_kn A X) {u v r : am_V} {U V : Value} (hu : am_R X b ad u U) (hv : am_R X b ad v V) (h : am_imul A u v = some r) : ∃ x y : Int32, U = .int x ∧ V = .int y ∧ am_R X b ad r (.int (x * y)) := by
  unfold am_imul at h
  cases hk : am_k2 u v with
  | true =>
    simp only [hk, am_if_t, cond_true, Option.some.injEq] at h
    obtain ⟨h1, h2⟩ := am_R_k2 hk hu hv
    refine ⟨_, _, h1, h2, ?_⟩
    subst h
    show Value.int _ = .int (Int32.ofNat _)
    rw [am_i_nmod, am_i_nat, am_i_nat, am_i_nat, am_i_mul]
    rfl
  | false =>
    simp only [hk, am_if_f, cond_false, am_iaddF, am_imulF, am_ltF, am_eqF] at h
    split at h
    · rename_i c g hf hg
      cases h
      refine ⟨_, _, am_R_int hu hf, am_R_int hv hg, ?_⟩
      rw [am_i_mul, show am_ev X [c] = c by simp [am_ev, am_dot], ← am_ev_mul]
      exact am_R_mk hA _
    · rename_i f c _ hf hg
      cases h
      refine ⟨_, _, am_R_int hu hf, am_R_int hv hg, ?_⟩
      rw [am_i_mul, show am_ev X [c] = c by simp [am_ev, am_dot], Int.mul_comm, ← am_ev_mul]
      exact am_R_mk hA _
    · cases h
theorem am_dot_qr (d : Int) (f : List Int) : ∀ X, am_dot f X = am_dot (am_f1 d f) X + d * am_dot (am_fg d f) X := by
  induction f with
  | nil => intro X; simp [am_f1, am_fg, am_dot]
  | cons c f ih =>
    intro X
    cases X with
    | nil => simp [am_f1, am_fg, am_dot]
    | cons x X =>
      have h := ih X
      simp only [am_f1, am_fg] at h
      simp only [am_f1, am_fg, List.map_cons, am_dot]
      rw [h]
      by_cases hc : c % d = 0
      · simp only [if_pos hc, Int.zero_mul, Int.mul_add]
        have e : d * (c / d * x) = c * x := by
          rw [← Int.mul_assoc, Int.mul_ediv_cancel' (Int.dvd_of_emod_eq_zero hc)]
        omega
      · simp only [if_neg hc, Int.zero_mul, Int.mul_add]
        omega
theorem am_qr_ok (hA : am_kn A X) {f : List Int} {d : Int} {q : List Int × List Int} (h : am_qr A f d = some q) : 0 < d ∧ d < 2147483648 ∧ 0 ≤ am_ev X f ∧ am_ev X f < 2147483648 ∧ am_ev X q.1 = am_ev X f / d ∧ am_ev X q.2 = am_ev X f % d := by
  cases f with
  | nil => cases h
  | cons c cs =>
    simp only [am_qr] at h
    split at h
    · rename_i r r1 hr hr1
      cases hb : (decide (0 < d) && decide (d < 2147483648) && decide (0 ≤ r.1) && decide (r.2 < 2147483648) && decide (0 ≤ r1.1) && decide (r1.2 < d)) with
      | false => rw [hb] at h; cases h
      | true =>
        rw [hb] at h
        simp only [am_if_t, cond_true, Option.some.injEq] at h
        simp only [Bool.and_eq_true, decide_eq_true_eq] at hb
        obtain ⟨⟨⟨⟨⟨b1, b2⟩, b3⟩, b4⟩, b5⟩, b6⟩ := hb
        have l1 := am_lim_ok hA hr
        have l2 := am_lim_ok hA hr1
        subst h
        have e := am_dot_qr d cs X
        have e2 := Int.emod_add_mul_ediv c d
        simp only [am_ev] at l1 l2 ⊢
        have key : c + am_dot cs X = (c % d + am_dot (am_f1 d cs) X) + d * (c / d + am_dot (am_fg d cs) X) := by
          rw [e, Int.mul_add]
          omega
        have hlo : 0 ≤ c % d + am_dot (am_f1 d cs) X := by omega
        have hhi : c % d + am_dot (am_f1 d cs) X < d := by omega
        refine ⟨b1, b2, by omega, by omega, ?_, ?_⟩
        · rw [key, Int.add_mul_ediv_left _ _ (by omega), Int.ediv_eq_zero_of_lt hlo hhi]
          omega
        · rw [key, Int.add_mul_emod_self_left, Int.emod_eq_of_lt hlo hhi]
    · cases h
theorem am_R_idiv (hA : am_kn A X) {u v r : am_V} {U V : Value} (hu : am_R X b ad u U) (hv : am_R X b ad v V) (h : am_idiv A u v = some r) : ∃ x y : Int32, U = .int x ∧ V = .int y ∧ ¬ y = 0 ∧ am_R X b ad r (.int (x / y)) := by
  unfold am_idiv at h
  split at h
  · rename_i f d hf hg
    split at h
    · rename_i q hq
      cases h
      obtain ⟨k1, k2, k3, k4, k5, k6⟩ := am_qr_ok hA hq
      have e0 : am_ev X [d] = d := by simp [am_ev, am_dot]
      refine ⟨_, _, am_R_int hu hf, am_R_int hv hg, ?_, ?_⟩
      · rw [e0]
        intro hz
        have hz2 : am_i d = am_i 0 := hz
        rw [am_i_eq (by omega) k2 (by omega) (by omega)] at hz2
        omega
      · rw [e0, am_i_div k3 k4 k1 k2, ← k5]
        exact am_R_mk hA _
    · cases h
  · cases h
theorem am_R_irem (hA : am_kn A X) {u v r : am_V} {U V : Value} (hu : am_R X b ad u U) (hv : am_R X b ad v V) (h : am_irem A u v = some r) : ∃ x y : Int32, U = .int x ∧ V = .int y ∧ ¬ y = 0 ∧ am_R X b ad r (.int (x - x / y * y)) := by
  unfold am_irem at h
  split at h
  · rename_i f d hf hg
    split at h
    · rename_i q hq
      cases h
      obtain ⟨k1, k2, k3, k4, k5, k6⟩ := am_qr_ok hA hq
      have e0 : am_ev X [d] = d := by simp [am_ev, am_dot]
      refine ⟨_, _, am_R_int hu hf, am_R_int hv hg, ?_, ?_⟩
      · rw [e0]
        intro hz
        have hz2 : am_i d = am_i 0 := hz
        rw [am_i_eq (by omega) k2 (by omega) (by omega)] at hz2
        omega
      · have e1 := Int.emod_add_mul_ediv (am_ev X f) d
        have e2 : am_ev X f - am_ev X f / d * d = am_ev X q.2 := by
          rw [k6, Int.mul_comm]
          omega
        rw [e0, am_i_div k3 k4 k1 k2, am_i_mul, am_i_sub, e2]
        exact am_R_mk hA _
    · cases h
  · cases h
theorem am_in_ok {r : Int × Int} {z : Int} (h : am_in32 r = true) (h1 : r.1 ≤ z ∧ z ≤ r.2) : -2147483648 ≤ z ∧ z < 2147483648 := by
  simp only [am_in32, Bool.and_eq_true, decide_eq_true_eq] at h
  omega
theorem am_R_lt (hA : am_kn A X) {u v : am_V} {U V : Value} {r : Bool} (hu : am_R X b ad u U) (hv : am_R X b ad v V) (h : am_lt A u v = some r) : ∃ x y : Int32, U = .int x ∧ V = .int y ∧ (x < y ↔ r = true) := by
  unfold am_lt at h
  cases hk : am_k2 u v with
  | true =>
    simp only [hk, am_if_t, cond_true, Option.some.injEq] at h
    obtain ⟨h1, h2⟩ := am_R_k2 hk hu hv
    exact ⟨_, _, h1, h2, by rw [am_n_lt, h]⟩
  | false =>
    simp only [hk, am_if_f, cond_false, am_iaddF, am_imulF, am_ltF, am_eqF] at h
    split at h
    · rename_i f g hf hg
      split at h
      · rename_i r1 q1 t1 hr hq ht
        refine ⟨_, _, am_R_int hu hf, am_R_int hv hg, ?_⟩
        have l1 := am_lim_ok hA hr
        have l2 := am_lim_ok hA hq
        have l3 := am_lim_ok hA ht
        rw [am_ev_sub] at l3
        cases hb : (am_in32 r1 && am_in32 q1) with
        | false => rw [hb] at h; cases h
        | true =>
          rw [hb] at h
          simp only [am_if_t, cond_true] at h
          simp only [Bool.and_eq_true] at hb
          have i1 := am_in_ok hb.1 l1
          have i2 := am_in_ok hb.2 l2
          rw [am_i_lt i1.1 i1.2 i2.1 i2.2]
          by_cases c1 : t1.2 < 0
          · simp only [decide_eq_true c1, am_if_t, cond_true, Option.some.injEq] at h
            subst h
            simp only [iff_true]
            omega
          · simp only [decide_eq_false c1, am_if_f, cond_false] at h
            by_cases c2 : 0 ≤ t1.1
            · simp only [decide_eq_true c2, am_if_t, cond_true, Option.some.injEq] at h
              subst h
              simp only [Bool.false_eq_true, iff_false]
              omega
            · simp only [decide_eq_false c2, am_if_f, cond_false] at h
              cases h
      · cases h
    · cases h
theorem am_R_eq (hA : am_kn A X) {u v : am_V} {U V : Value} {r : Bool} (hu : am_R X b ad u U) (hv : am_R X b ad v V) (h : am_eq A u v = some r) : ∃ x y : Int32, U = .int x ∧ V = .int y ∧ (x = y ↔ r = true) := by
  unfold am_eq at h
  cases hk : am_k2 u v with
  | true =>
    simp only [hk, am_if_t, cond_true, Option.some.injEq] at h
    obtain ⟨h1, h2⟩ := am_R_k2 hk hu hv
    exact ⟨_, _, h1, h2, by rw [am_n_eq, h]⟩
  | false =>
    simp only [hk, am_if_f, cond_false, am_iaddF, am_imulF, am_ltF, am_eqF] at h
    split at h
    · rename_i f g hf hg
      refine ⟨_, _, am_R_int hu hf, am_R_int hv hg, ?_⟩
      cases hq0 : am_feq f g with
      | true =>
        simp only [hq0, am_if_t, cond_true, Option.some.injEq] at h
        subst h
        rw [am_ev_eq X f g hq0]
        simp
      | false =>
        simp only [hq0, am_if_f, cond_false] at h
        split at h
        · rename_i r1 q1 t1 hr hq ht
          have l1 := am_lim_ok hA hr
          have l2 := am_lim_ok hA hq
          have l3 := am_lim_ok hA ht
          rw [am_ev_sub] at l3
          cases hb : (am_in32 r1 && am_in32 q1 && (decide (t1.2 < 0) || decide (0 < t1.1))) with
          | false => rw [hb] at h; cases h
          | true =>
            rw [hb] at h
            simp only [am_if_t, cond_true, Option.some.injEq] at h
            subst h
            simp only [Bool.and_eq_true, Bool.or_eq_true, decide_eq_true_eq] at hb
            have i1 := am_in_ok hb.1.1 l1
            have i2 := am_in_ok hb.1.2 l2
            rw [am_i_eq i1.1 i1.2 i2.1 i2.2]
            simp only [Bool.false_eq_true, iff_false]
            rcases hb.2 with c | c <;> omega
        · cases h
    · cases h
theorem am_R_abs (hA : am_kn A X) {u r : am_V} {U : Value} (hu : am_R X b ad u U) (h : am_abs A u = some r) : ∃ x : Int32, U = .int x ∧ am_R X b ad r (.int (if 0 ≤ x then x else 0 - x)) := by
  have key : ∀ z : Int, -2147483648 ≤ z → z < 2147483648 → (if 0 ≤ am_i z then am_i z else 0 - am_i z) = am_i (z.natAbs : Int) := by
    intro z h1 h2
    have e0 : (0 : Int32) = am_i 0 := rfl
    by_cases hz : 0 ≤ z
    · rw [if_pos]
      · congr 1
        omega
      · rw [e0, ← Int32.not_lt, am_i_lt h1 h2 (by omega) (by omega)]
        omega
    · rw [if_neg]
      · rw [e0, am_i_sub]
        congr 1
        omega
      · rw [e0, ← Int32.not_lt, am_i_lt h1 h2 (by omega) (by omega)]
        omega
  unfold am_abs at h
  split at h
  · cases h
  · rename_i f hf
    split at h
    · rename_i g hg
      split at h
      · rename_i q hq
        cases hb : am_in32 q with
        | false => rw [hb] at h; cases h
        | true =>
          rw [hb] at h
          simp only [am_if_t, cond_true, Option.some.injEq] at h
          subst h
          have i1 := am_in_ok hb (am_lim_ok hA hq)
          refine ⟨_, am_R_int hu hf, ?_⟩
          rw [key _ i1.1 i1.2, ← am_look_ok A.2.2 f g hA.2.2 hg]
          exact am_R_mk hA _
      · cases h
    · split at h
      · rename_i q hq
        cases hb : am_in32 q with
        | false => rw [hb] at h; cases h
        | true =>
          rw [hb] at h
          simp only [am_if_t, cond_true] at h
          have l1 := am_lim_ok hA hq
          have i1 := am_in_ok hb l1
          refine ⟨_, am_R_int hu hf, ?_⟩
          rw [key _ i1.1 i1.2]
          by_cases c1 : 0 ≤ q.1
          · simp only [decide_eq_true c1, am_if_t, cond_true, Option.some.injEq] at h
            subst h
            rw [show ((am_ev X f).natAbs : Int) = am_ev X f by omega]
            exact am_R_mk hA _
          · simp only [decide_eq_false c1, am_if_f, cond_false] at h
            by_cases c2 : q.2 < 0
            · simp only [decide_eq_true c2, am_if_t, cond_true, Option.some.injEq] at h
              subst h
              rw [show ((am_ev X f).natAbs : Int) = -1 * am_ev X f by omega, ← am_ev_mul]
              exact am_R_mk hA _
            · simp only [decide_eq_false c2, am_if_f, cond_false] at h
              cases h
      · cases h
end AMV
