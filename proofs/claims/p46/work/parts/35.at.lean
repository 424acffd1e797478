/-! ===== from a state that the abstract machine describes, the rest holds; the unknowns anew ===== -/
def am_At (p : Program) (l : Launch) (e : Env) (R : Room) (s : State) (m : MethodId) (args : Array Value) (below : List Frame) (meth : Method) (c : Code) (Q : State → Prop) (Y : am_Y) (ad0 : List Nat) (nL pc : Nat) (lo stk : List am_V) (h : am_H) (k n : Nat) : Prop :=
  ∀ (ad : List Nat) (H : Heap) (locs : List Loc) (ls : Array Slot) (S : List Value), am_HP Y s ad0 ad h H locs → am_Lo Y ad nL lo ls → am_St Y ad stk S → W p l e R s m args below meth c H locs k n Q (F0 m pc ls S)
/-- an unknown in a form replaced by a form -/
def am_sb1 (i : Nat) (f : List Int) : List Int → List Int
  | [] => []
  | c :: cs => bif (cs[i]?.getD 0) == 0 then c :: cs else am_fadd (c :: cs.set i 0) (am_fmul (cs[i]?.getD 0) f)
/-- .. the last of the list first -/
def am_sbF (ov : List (Nat × List Int)) (g : List Int) : List Int := ov.foldr (fun o g => am_sb1 o.1 o.2 g) g
/-- the unknowns set, one after another -/
def am_upd (ov : List (Nat × List Int)) (X : List Int) : List Int := ov.foldl (fun X o => X.set o.1 (am_ev X o.2)) X
theorem am_dot_set : ∀ (cs X : List Int) (i : Nat) (v : Int), i < X.length → am_dot cs (X.set i v) = am_dot (cs.set i 0) X + (cs[i]?.getD 0) * v
  | [], X, i, v, _ => by simp [am_dot]
  | c :: cs, [], i, v, h => by simp at h
  | c :: cs, x :: xs, 0, v, _ => by simp [am_dot]; omega
  | c :: cs, x :: xs, i + 1, v, h => by
    have ih := am_dot_set cs xs i v (by simpa using h)
    simp only [List.set_cons_succ, am_dot, ih, List.getElem?_cons_succ]
    omega
theorem am_set_self : ∀ (X : List Int) (i : Nat), X.set i (X[i]?.getD 0) = X
  | [], i => by simp
  | x :: xs, 0 => by simp
  | x :: xs, i + 1 => by simpa using am_set_self xs i
theorem am_ev_sb1 {X f : List Int} {i : Nat} (h : i < X.length) (g : List Int) : am_ev (X.set i (am_ev X f)) g = am_ev X (am_sb1 i f g) := by
  cases g with
  | nil => rfl
  | cons c cs =>
    show _ = am_ev X (bif (cs[i]?.getD 0) == 0 then c :: cs else am_fadd (c :: cs.set i 0) (am_fmul (cs[i]?.getD 0) f))
    cases hk : ((cs[i]?.getD 0) == 0) with
    | true =>
      rw [cond_true]
      have hk := eq_of_beq hk
      have h1 := am_dot_set cs X i (am_ev X f) h
      have h2 := am_dot_set cs X i (X[i]?.getD 0) h
      rw [am_set_self, hk, Int.zero_mul, Int.add_zero] at h2
      rw [hk, Int.zero_mul, Int.add_zero] at h1
      show c + am_dot cs (X.set i (am_ev X f)) = c + am_dot cs X
      rw [h1, h2]
    | false =>
      have h1 := am_dot_set cs X i (am_ev X f) h
      rw [cond_false, am_ev_add, am_ev_mul]
      show c + am_dot cs (X.set i (am_ev X f)) = c + am_dot (cs.set i 0) X + _
      rw [h1]
      omega
theorem am_upd_len : ∀ (ov : List (Nat × List Int)) (X : List Int), (am_upd ov X).length = X.length
  | [], X => rfl
  | o :: os, X => by
    show (am_upd os (X.set o.1 (am_ev X o.2))).length = _
    rw [am_upd_len os]
    simp
theorem am_ev_sbF : ∀ (ov : List (Nat × List Int)) (X : List Int), (∀ o ∈ ov, o.1 < X.length) → ∀ g, am_ev (am_upd ov X) g = am_ev X (am_sbF ov g)
  | [], X, _, g => rfl
  | o :: os, X, h, g => by
    show am_ev (am_upd os (X.set o.1 (am_ev X o.2))) g = am_ev X (am_sb1 o.1 o.2 (am_sbF os g))
    rw [am_ev_sbF os _ (fun q hq => by simpa using h q (List.mem_cons_of_mem _ hq)) g, am_ev_sb1 (h o List.mem_cons_self)]
/-- unknowns that are what the forms say -/
def am_is (X : List Int) (ov : List (Nat × List Int)) : Prop := ∀ o ∈ ov, X[o.1]? = some (am_ev X o.2)
theorem am_is_upd : ∀ (ov : List (Nat × List Int)) (X : List Int), am_is X ov → am_upd ov X = X
  | [], X, _ => rfl
  | o :: os, X, h => by
    have h1 := h o List.mem_cons_self
    have e : X.set o.1 (am_ev X o.2) = X := by
      have h2 := am_set_self X o.1
      rw [h1] at h2
      exact h2
    show am_upd os (X.set o.1 (am_ev X o.2)) = X
    rw [e]
    exact am_is_upd os X (fun q hq => h q (List.mem_cons_of_mem _ hq))
theorem am_is_ev {ov : List (Nat × List Int)} {X : List Int} (h : am_is X ov) (g : List Int) : am_ev X (am_sbF ov g) = am_ev X g := by
  rw [← am_ev_sbF ov X (fun o ho => (List.getElem?_eq_some_iff.mp (h o ho)).1) g, am_is_upd ov X h]
def am_A1 : am_A := ([], [], [])
theorem am_kn1 (X : List Int) : am_kn am_A1 X := ⟨trivial, fun e he => (by cases he), fun e he => (by cases he)⟩
def am_sbV (ov : List (Nat × List Int)) (v : am_V) : am_V := bif Nat.beq v.1 6 then am_mk am_A1 (am_sbF ov v.2.2) else v
def am_sbH (ov : List (Nat × List Int)) (h : am_H) : am_H := (h.1, h.2.map (fun b => b.map (fun c => (c.1, c.2.map (am_sbV ov)))))
theorem am_sbV_ok {Y : am_Y} {ov : List (Nat × List Int)} (hX : am_is Y.2.2.1 ov) {ad : List Nat} {v : am_V} {V : Value} (h : am_V1 Y ad v V) : am_V1 Y ad (am_sbV ov v) V := by
  unfold am_sbV
  cases h6 : Nat.beq v.1 6 with
  | false => exact h
  | true =>
    obtain ⟨t, n, f⟩ := v
    have e := am_tag h6
    dsimp only at e
    subst e
    have h1 : V = .int (am_i (am_ev Y.2.2.1 f)) := h
    rw [h1, ← am_is_ev hX f]
    exact am_R_mk (am_kn1 _) _
theorem am_sbV_98 {ov : List (Nat × List Int)} {v : am_V} (h : (am_sbV ov v).1 ≠ 98) : v.1 ≠ 98 := by
  intro e
  apply h
  unfold am_sbV
  rw [e]
  exact e
theorem am_St_sb {Y : am_Y} {ov : List (Nat × List Int)} (hX : am_is Y.2.2.1 ov) {ad : List Nat} : ∀ {vs : List am_V} {Vs : List Value}, am_St Y ad vs Vs → am_St Y ad (vs.map (am_sbV ov)) Vs
  | [], [], _ => trivial
  | _ :: _, _ :: _, h => ⟨am_sbV_ok hX h.1, am_St_sb hX h.2⟩
  | [], _ :: _, h => h.elim
  | _ :: _, [], h => h.elim
theorem am_get_sb (ov : List (Nat × List Int)) (h : am_H) (k : Nat) : am_get (am_sbH ov h) k = (am_get h k).map (fun c => (c.1, c.2.map (am_sbV ov))) := by
  unfold am_get am_sbH
  simp only [am_nth_eq, List.getElem?_map]
  cases h.2[Nat.div k 16]? with
  | none => rfl
  | some b =>
    show (b.map _)[k.mod 16]? = (b[k.mod 16]?).map _
    rw [List.getElem?_map]
theorem am_HP_sb {Y : am_Y} {ov : List (Nat × List Int)} (hX : am_is Y.2.2.1 ov) {s : State} {ad0 ad : List Nat} {h : am_H} {H : Heap} {locs : List Loc} (hp : am_HP Y s ad0 ad h H locs) : am_HP Y s ad0 ad (am_sbH ov h) H locs := by
  obtain ⟨⟨r1, r2, r3, r4⟩, f⟩ := hp
  refine ⟨⟨r1, r2, r3, fun k c hc hn => ?_⟩, f⟩
  rw [am_get_sb] at hc
  cases hg : am_get h k with
  | none => rw [hg] at hc; cases hc
  | some c0 =>
    rw [hg] at hc
    cases hc
    obtain ⟨a, C, k1, k2, k3, k4⟩ := r4 k c0 hg hn
    refine ⟨a, C, k1, k2, k3, ?_⟩
    have hh : ∀ {f : Nat → Nat}, am_hold Y ad C f c0.2 → am_hold Y ad C f (c0.2.map (am_sbV ov)) := fun {f} q j v hv => by
      rw [List.getElem?_map] at hv
      cases hw : c0.2[j]? with
      | none => rw [hw] at hv; cases hv
      | some w =>
        rw [hw] at hv
        cases hv
        obtain ⟨V, q1, q2⟩ := q j w hw
        exact ⟨V, q1, am_sbV_ok hX q2⟩
    rcases k4 with ⟨r, a1, a2, a3, a4⟩ | ⟨ty, a0, a1, a2, a3, a4, a5⟩
    · exact Or.inl ⟨r, a1, a2, by rw [← a3]; exact List.length_map _, hh a4⟩
    · exact Or.inr ⟨ty, a0, a1, a2, a3, by rw [a4]; exact (List.length_map _).symm, hh a5⟩
theorem am_Lo_sb {Y : am_Y} {ov : List (Nat × List Int)} (hX : am_is Y.2.2.1 ov) {ad : List Nat} {nL : Nat} {lo : List am_V} {ls : Array Slot} (h : am_Lo Y ad nL lo ls) : am_Lo Y ad nL (lo.map (am_sbV ov)) ls := by
  obtain ⟨h1, lv, h2, h3⟩ := h
  refine ⟨by rw [← h1]; exact List.length_map _, lv, h2, fun i v hv hn => ?_⟩
  rw [List.getElem?_map] at hv
  cases hw : lo[i]? with
  | none => rw [hw] at hv; cases hv
  | some w =>
    rw [hw] at hv
    cases hv
    obtain ⟨V, q1, q2⟩ := h3 i w hw (am_sbV_98 hn)
    exact ⟨V, am_sbV_ok hX q1, q2⟩
/-! a state's values are those of another, its unknowns what the forms 'ov' of the first one's are; kp: the cells kept -/
def am_cvF (ov : List (Nat × List Int)) (v v' : am_V) : Bool := match am_form v, am_form v' with
  | some f, some g => am_feq f (am_sbF ov g)
  | _, _ => false
noncomputable def am_cvV (ov : List (Nat × List Int)) (kp : List Nat) (v v' : am_V) : Bool :=
  bif am_and (Nat.beq v'.1 0) (Nat.beq v.1 0) then Nat.beq v.2.1 v'.2.1
  else bif Nat.beq v'.1 10 then am_and (Nat.beq v.1 10) (Option.rec (motive := fun _ => Bool) false (fun q => Nat.beq q v.2.1) (am_nth kp v'.2.1))
  else bif am_or (Nat.beq v'.1 0) (Nat.beq v'.1 6) then am_cvF ov v v'
  else am_and (am_and (Nat.beq v.1 v'.1) (Nat.beq v.2.1 v'.2.1)) (am_or (Nat.beq v'.1 4) (am_or (Nat.beq v'.1 12) (Nat.ble v'.1 3)))
noncomputable def am_cvW (ov : List (Nat × List Int)) (kp : List Nat) (v v' : am_V) : Bool := bif Nat.beq v'.1 98 then true else am_cvV ov kp v v'
noncomputable def am_all2b (r : am_V → am_V → Bool) (xs : List am_V) : List am_V → Bool :=
  List.rec (motive := fun _ => List am_V → Bool) (fun ys => List.rec (motive := fun _ => Bool) true (fun _ _ _ => false) ys) (fun x _ ih ys => List.rec (motive := fun _ => Bool) false (fun y yt _ => am_and (r x y) (ih yt)) ys) xs
noncomputable def am_cvC (ov : List (Nat × List Int)) (kp : List Nat) (h h' : am_H) (j q : Nat) : Bool :=
  am_and (Nat.blt q h.1) (Option.rec (motive := fun _ => Bool) true (fun c' => Option.rec (motive := fun _ => Bool) false (fun c => am_and (Nat.beq c.1 c'.1) (am_all2b (am_cvV ov kp) c.2 c'.2)) (am_get h q)) (am_get h' j))
noncomputable def am_cvL (ov : List (Nat × List Int)) (kp : List Nat) (h h' : am_H) (qs : List Nat) : Nat → Bool :=
  List.rec (motive := fun _ => Nat → Bool) (fun _ => true) (fun q _ ih j => am_and (am_cvC ov kp h h' j q) (ih (j + 1))) qs
/-- the least of a list without doubles -/
def am_ndm : List Nat → Option Nat
  | [] => some 1000000000
  | a :: t => match am_ndm t with
    | none => none
    | some m => bif Nat.blt a m then some a else bif t.any (Nat.beq a) then none else some m
theorem am_ndm_ok : ∀ {l : List Nat} {m : Nat}, am_ndm l = some m → l.Nodup ∧ ∀ x ∈ l, m ≤ x
  | [], m, h => ⟨List.nodup_nil, fun x hx => by cases hx⟩
  | a :: t, m, h => by
    unfold am_ndm at h
    cases ht : am_ndm t with
    | none => rw [ht] at h; cases h
    | some k =>
      rw [ht] at h
      obtain ⟨i1, i2⟩ := am_ndm_ok ht
      dsimp only at h
      cases hb : Nat.blt a k with
      | true =>
        rw [hb] at h
        cases h
        have hak := Nat.le_of_ble_eq_true hb
        refine ⟨List.nodup_cons.mpr ⟨fun hm => ?_, i1⟩, fun x hx => ?_⟩
        · have := i2 _ hm
          omega
        · rcases List.mem_cons.mp hx with rfl | hx
          · exact Nat.le_refl _
          · have := i2 x hx
            omega
      | false =>
        rw [hb] at h
        cases ha : t.any (Nat.beq a) with
        | true => rw [ha] at h; cases h
        | false =>
          rw [ha] at h
          have e := Option.some.inj h
          subst e
          have hka : k ≤ a := by
            rcases Nat.lt_or_ge a k with h9 | h9
            · have h8 : Nat.blt a k = true := Nat.ble_eq_true_of_le h9
              rw [hb] at h8
              cases h8
            · exact h9
          refine ⟨List.nodup_cons.mpr ⟨fun hm => ?_, i1⟩, fun x hx => ?_⟩
          · have h7 : t.any (Nat.beq a) = true := List.any_eq_true.mpr ⟨a, hm, Nat.beq_refl a⟩
            rw [ha] at h7
            cases h7
          · rcases List.mem_cons.mp hx with rfl | hx
            · exact hka
            · exact i2 x hx
theorem am_all2b_at {r : am_V → am_V → Bool} : ∀ {xs ys : List am_V}, am_all2b r xs ys = true → xs.length = ys.length ∧ ∀ (j : Nat) (y : am_V), ys[j]? = some y → ∃ x, xs[j]? = some x ∧ r x y = true
  | [], [], _ => ⟨rfl, fun j y h => by cases j <;> cases h⟩
  | [], _ :: _, h => by cases h
  | _ :: _, [], h => by cases h
  | x :: xs, y :: ys, h => by
    have h2 : am_and (r x y) (am_all2b r xs ys) = true := h
    rw [am_and_t] at h2
    obtain ⟨i1, i2⟩ := am_all2b_at h2.2
    refine ⟨congrArg (· + 1) i1, fun j z hz => ?_⟩
    cases j with
    | zero => cases hz; exact ⟨x, rfl, h2.1⟩
    | succ j => exact i2 j z hz
theorem am_R_form {X : List Int} {b : Nat} {ad : List Nat} {v : am_V} {g : List Int} (h : am_form v = some g) : am_R X b ad v (.int (am_i (am_ev X g))) := by
  obtain ⟨t, n, f⟩ := v
  unfold am_form at h
  cases h0 : Nat.beq t 0 with
  | true =>
    simp only [h0, cond_true, Option.some.injEq] at h
    have e := Nat.eq_of_beq_eq_true h0
    subst e
    subst h
    show Value.int _ = .int (Int32.ofNat n)
    rw [am_i_si]
    simp [am_ev, am_dot]
  | false =>
    simp only [h0, cond_false] at h
    cases h6 : Nat.beq t 6 with
    | true =>
      simp only [h6, cond_true, Option.some.injEq] at h
      have e := Nat.eq_of_beq_eq_true h6
      subst e
      subst h
      rfl
    | false => simp only [h6, cond_false] at h; cases h
section AMCV
variable {Y Y' : am_Y} {ov : List (Nat × List Int)} {kp : List Nat} {ad : List Nat}
/-- the addresses of the cells kept -/
def am_kad (kp ad : List Nat) : List Nat := kp.map (fun q => ad[q]?.getD 0)
theorem am_cvV_ok (hb : Y.2.2.2 = Y'.2.2.2) (hX : ∀ g, am_ev Y'.2.2.1 g = am_ev Y.2.2.1 (am_sbF ov g)) (hkp : ∀ q ∈ kp, q < ad.length) {v v' : am_V} {V : Value} (hc : am_cvV ov kp v v' = true) (hv : am_V1 Y ad v V) : am_V1 Y' (am_kad kp ad) v' V := by
  unfold am_cvV at hc
  cases h0 : am_and (Nat.beq v'.1 0) (Nat.beq v.1 0) with
  | true =>
    rw [h0] at hc
    rw [am_and_t] at h0
    obtain ⟨t, n, f⟩ := v
    obtain ⟨t', n', f'⟩ := v'
    have e1 := am_tag h0.1
    have e2 := am_tag h0.2
    have e3 := am_tag (show Nat.beq n n' = true from hc)
    dsimp only at e1 e2
    subst e1
    subst e2
    subst e3
    exact (show V = .int (Int32.ofNat n) from hv)
  | false =>
    rw [h0] at hc
    cases h10 : Nat.beq v'.1 10 with
    | true =>
      rw [h10] at hc
      have hc2 : am_and (Nat.beq v.1 10) (Option.rec (motive := fun _ => Bool) false (fun q => Nat.beq q v.2.1) (am_nth kp v'.2.1)) = true := hc
      rw [am_and_t] at hc2
      obtain ⟨c1, c2⟩ := hc2
      obtain ⟨t, n, f⟩ := v
      obtain ⟨t', n', f'⟩ := v'
      have e1 := am_tag h10
      have e2 := am_tag c1
      dsimp only at e1 e2
      subst e1
      subst e2
      obtain ⟨a, k1, k2⟩ := hv
      dsimp only at c2
      rw [am_nth_eq] at c2
      cases hk : kp[n']? with
      | none => rw [hk] at c2; cases c2
      | some q =>
        rw [hk] at c2
        have e3 := am_tag (show Nat.beq q n = true from c2)
        subst e3
        refine ⟨a, ?_, k2⟩
        show (kp.map _)[n']? = some a
        rw [List.getElem?_map, hk]
        have k1' : ad[q]? = some a := k1
        simp [k1']
    | false =>
      rw [h10] at hc
      cases h6 : am_or (Nat.beq v'.1 0) (Nat.beq v'.1 6) with
      | true =>
        rw [h6] at hc
        have hc2 : am_cvF ov v v' = true := hc
        unfold am_cvF at hc2
        cases hf : am_form v with
        | none => rw [hf] at hc2; cases hc2
        | some f =>
          cases hg : am_form v' with
          | none => rw [hf, hg] at hc2; cases hc2
          | some g =>
            rw [hf, hg] at hc2
            have e := am_ev_eq Y.2.2.1 _ _ hc2
            rw [am_R_int hv hf, e, ← hX g]
            exact am_R_form hg
      | false =>
        rw [h6] at hc
        have hc2 : am_and (am_and (Nat.beq v.1 v'.1) (Nat.beq v.2.1 v'.2.1)) (am_or (Nat.beq v'.1 4) (am_or (Nat.beq v'.1 12) (Nat.ble v'.1 3))) = true := hc
        rw [am_and_t, am_and_t] at hc2
        obtain ⟨⟨c1, c2⟩, c3⟩ := hc2
        obtain ⟨t, n, f⟩ := v
        obtain ⟨t', n', f'⟩ := v'
        have e1 := am_tag c1
        have e2 := am_tag c2
        dsimp only at e1 e2
        subst e1
        subst e2
        rcases am_or_t.mp c3 with k | k
        · have e := am_tag k
          dsimp only at e
          subst e
          exact (show V = .null from hv)
        · rcases am_or_t.mp k with k | k
          · have e := am_tag k
            dsimp only at e
            subst e
            show V = .ref Y'.2.2.2
            rw [← hb]
            exact hv
          · have e := Nat.le_of_ble_eq_true k
            dsimp only at e
            have e9 : t = 0 ∨ t = 1 ∨ t = 2 ∨ t = 3 := by omega
            rcases e9 with rfl | rfl | rfl | rfl
            · cases h6
            · exact (show V = .long (Int64.ofNat n) from hv)
            · exact (show V = .float (UInt32.ofNat n) from hv)
            · exact (show V = .double (UInt64.ofNat n) from hv)
theorem am_cvL_at {h h' : am_H} : ∀ {qs : List Nat} {j : Nat}, am_cvL ov kp h h' qs j = true → ∀ (i q : Nat), qs[i]? = some q → am_cvC ov kp h h' (j + i) q = true
  | [], j, _, i, q, hq => by cases i <;> cases hq
  | x :: xs, j, hc, i, q, hq => by
    have hc2 : am_and (am_cvC ov kp h h' j x) (am_cvL ov kp h h' xs (j + 1)) = true := hc
    rw [am_and_t] at hc2
    cases i with
    | zero => cases hq; exact hc2.1
    | succ i =>
      have := am_cvL_at hc2.2 i q hq
      rw [show j + (i + 1) = j + 1 + i by omega]
      exact this
theorem am_cvHP {h h' : am_H} (hs0 : Y.1 = Y'.1) (hD : Y.2.1 = Y'.2.1) (hb : Y.2.2.2 = Y'.2.2.2) (hX : ∀ g, am_ev Y'.2.2.1 g = am_ev Y.2.2.1 (am_sbF ov g)) {m9 : Nat} (hnd : am_ndm kp = some m9) (hlen : kp.length = h'.1) (hc : am_cvL ov kp h h' kp 0 = true) (hfr : ∀ (k : Nat) (c : am_C), am_get h' k = some c → c.1 ≠ 999 → k < h'.1) {s : State} {H : Heap} {locs : List Loc} (hp : am_HP Y s [] ad h H locs) : am_HP Y' s [] (am_kad kp ad) h' H locs ∧ ∀ q ∈ kp, q < ad.length := by
  obtain ⟨⟨r1, r2, r3, r4⟩, f1, f2, f3, f4, f5⟩ := hp
  have hkp : ∀ q ∈ kp, q < ad.length := fun q hq => by
    obtain ⟨i, hi⟩ := List.getElem?_of_mem hq
    have h1 := am_cvL_at hc i q hi
    unfold am_cvC at h1
    rw [am_and_t] at h1
    rw [r1]
    exact Nat.le_of_ble_eq_true h1.1
  have hmem : ∀ a ∈ am_kad kp ad, a ∈ ad := fun a ha => by
    obtain ⟨q, hq, rfl⟩ := List.mem_map.mp ha
    have := hkp q hq
    rw [List.getElem?_eq_getElem this]
    exact List.getElem_mem this
  refine ⟨⟨⟨?_, ?_, fun a ha => ?_, fun k c' hc' hn => ?_⟩, f1, f2, fun z hz => ?_, fun a ha => f4 a (hmem a ha), fun a ha => by cases ha⟩, hkp⟩
  · exact (List.length_map _).trans hlen
  · have h1 := (am_ndm_ok hnd).1
    refine List.pairwise_map.mpr (List.Pairwise.imp_of_mem (fun {x y} hx hy hxy => ?_) h1)
    have hx := hkp x hx
    have hy := hkp y hy
    rw [List.getElem?_eq_getElem hx, List.getElem?_eq_getElem hy]
    intro e
    exact hxy ((List.getElem_inj r2).mp e)
  · rw [← hs0]; exact r3 a (hmem a ha)
  · have hk := hfr k c' hc' hn
    rw [← hlen] at hk
    have h1 := am_cvL_at hc k _ (List.getElem?_eq_getElem hk)
    rw [Nat.zero_add] at h1
    generalize hq : kp[k] = q at h1
    unfold am_cvC at h1
    rw [am_and_t, hc'] at h1
    obtain ⟨-, h2⟩ := h1
    cases hg : am_get h q with
    | none => rw [hg] at h2; cases h2
    | some c =>
      rw [hg] at h2
      have h3 : am_and (Nat.beq c.1 c'.1) (am_all2b (am_cvV ov kp) c.2 c'.2) = true := h2
      rw [am_and_t] at h3
      have e1 := am_tag h3.1
      obtain ⟨e2, e3⟩ := am_all2b_at h3.2
      obtain ⟨a, C, k1, k2, k3, k4⟩ := r4 q c hg (by rw [e1]; exact hn)
      have hh : ∀ {f : Nat → Nat}, am_hold Y ad C f c.2 → am_hold Y' (am_kad kp ad) C f c'.2 := fun {f} z j v' hv' => by
        obtain ⟨v, z1, z2⟩ := e3 j v' hv'
        obtain ⟨V, z3, z4⟩ := z j v z1
        exact ⟨V, z3, am_cvV_ok hb hX hkp z2 z4⟩
      refine ⟨a, C, ?_, k2, k3, ?_⟩
      · show (kp.map _)[k]? = some a
        rw [List.getElem?_map, List.getElem?_eq_getElem hk, hq]
        simp [k1]
      · rcases k4 with ⟨r, a1, a2, a3, a4⟩ | ⟨ty, a0, a1, a2, a3, a4, a5⟩
        · exact Or.inl ⟨r, by rw [← e1]; exact a1, by rw [← hD, ← e1]; exact a2, by rw [← a3]; exact e2.symm, by rw [← hD, ← e1]; exact hh a4⟩
        · exact Or.inr ⟨ty, by rw [← e1]; exact a0, by rw [← e1]; exact a1, by rw [← hs0]; exact a2, by rw [← hs0, ← e1]; exact a3, by rw [a4]; exact e2, hh a5⟩
  · rw [← hs0]; exact f3 z hz
theorem am_cvLo (hb : Y.2.2.2 = Y'.2.2.2) (hX : ∀ g, am_ev Y'.2.2.1 g = am_ev Y.2.2.1 (am_sbF ov g)) (hkp : ∀ q ∈ kp, q < ad.length) {nL : Nat} {lo lo' : List am_V} {ls : Array Slot} (hc : am_all2b (am_cvW ov kp) lo lo' = true) (h : am_Lo Y ad nL lo ls) : am_Lo Y' (am_kad kp ad) nL lo' ls := by
  obtain ⟨h1, lv, h2, h3⟩ := h
  obtain ⟨e1, e2⟩ := am_all2b_at hc
  refine ⟨e1 ▸ h1, lv, h2, fun i v' hv' hn => ?_⟩
  obtain ⟨v, z1, z2⟩ := e2 i v' hv'
  unfold am_cvW at z2
  have h98 : Nat.beq v'.1 98 = false := by
    cases hq : Nat.beq v'.1 98 with
    | false => rfl
    | true => exact absurd (am_tag hq) hn
  rw [h98] at z2
  have z2 : am_cvV ov kp v v' = true := z2
  have hn2 : v.1 ≠ 98 := by
    intro e
    unfold am_cvV at z2
    rw [e] at z2
    have q0 : Nat.beq 98 0 = false := rfl
    have q1 : Nat.beq 98 10 = false := rfl
    have q2 : am_form v = none := by unfold am_form; rw [e]; rfl
    cases w0 : Nat.beq v'.1 0 <;> cases w1 : Nat.beq v'.1 10 <;> cases w2 : Nat.beq v'.1 6 <;> simp [w0, w1, w2, q0, q1, q2, am_and, am_or, am_cvF] at z2
    have w3 : v'.1 = 98 := by
      cases q : Nat.beq 98 v'.1 with
      | true => exact (am_tag q).symm
      | false => simp [q] at z2
    exact hn w3
  obtain ⟨V, z3, z4⟩ := h3 i v z1 hn2
  exact ⟨V, am_cvV_ok hb hX hkp z2 z3, z4⟩
end AMCV
