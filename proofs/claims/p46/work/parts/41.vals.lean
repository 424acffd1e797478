/-! ===== the unknowns as numbers: forms by terms, updates, bounds ===== -/
def am_g (X : List Int) (i : Nat) : Int := X[i]?.getD 0
theorem am_dot_un (a : Int) : ∀ (k : Nat) (X : List Int), am_dot (List.replicate k 0 ++ [a]) X = a * am_g X k
  | 0, [] => by simp [am_dot, am_g]
  | 0, x :: xs => by simp [am_dot, am_g]
  | k + 1, [] => by simp [am_dot, am_g, List.replicate_succ]
  | k + 1, x :: xs => by
    have := am_dot_un a k xs
    simp only [List.replicate_succ, List.cons_append, am_dot, this]
    simp [am_g]
theorem am_ev_lf (X : List Int) (c : Int) : ∀ ts : List (Nat × Int), am_ev X (am_lf c ts) = c + (ts.map (fun t => t.2 * am_g X t.1)).sum
  | [] => by simp [am_lf, am_ev, am_dot]
  | t :: ts => by
    have ih := am_ev_lf X c ts
    show am_ev X (am_fadd (am_un1 t.1 t.2) (am_lf c ts)) = _
    rw [am_ev_add, ih]
    have : am_ev X (am_un1 t.1 t.2) = t.2 * am_g X t.1 := by
      show 0 + am_dot _ X = _
      rw [am_dot_un]
      omega
    rw [this]
    simp only [List.map_cons, List.sum_cons]
    omega
def am_u1 (v : Nat → Int) (i : Nat) (x : Int) : Nat → Int := fun j => if j = i then x else v j
theorem am_u1_eq (v : Nat → Int) (i : Nat) (x : Int) : am_u1 v i x i = x := if_pos rfl
theorem am_u1_ne {v : Nat → Int} {i j : Nat} {x : Int} (h : j ≠ i) : am_u1 v i x j = v j := if_neg h
def am_tm (v : Nat → Int) (ts : List (Nat × Int)) : Int := (ts.map (fun t => t.2 * v t.1)).sum
theorem am_tm_nil (v : Nat → Int) : am_tm v [] = 0 := rfl
theorem am_tm_cons (v : Nat → Int) (t : Nat × Int) (ts : List (Nat × Int)) : am_tm v (t :: ts) = t.2 * v t.1 + am_tm v ts := rfl
def am_fu (os : am_Ov) (v : Nat → Int) : Nat → Int := os.foldl (fun v o => am_u1 v o.1 (o.2.1 + am_tm v o.2.2)) v
theorem am_fu_nil (v : Nat → Int) : am_fu [] v = v := rfl
theorem am_fu_cons (o : Nat × Int × List (Nat × Int)) (os : am_Ov) (v : Nat → Int) : am_fu (o :: os) v = am_fu os (am_u1 v o.1 (o.2.1 + am_tm v o.2.2)) := rfl
theorem am_g_set {X : List Int} {i : Nat} (h : i < X.length) (x : Int) : am_g (X.set i x) = am_u1 (am_g X) i x := by
  funext j
  unfold am_g am_u1
  rw [List.getElem?_set]
  by_cases e : i = j
  · subst e
    simp [h]
  · rw [if_neg e, if_neg (fun q => e q.symm)]
theorem am_g_upd : ∀ (os : am_Ov) (X : List Int), (∀ o ∈ os, o.1 < X.length) → am_g (am_upd (am_ovl os) X) = am_fu os (am_g X)
  | [], X, _ => rfl
  | o :: os, X, h => by
    show am_g (am_upd (am_ovl os) (X.set o.1 (am_ev X (am_lf o.2.1 o.2.2)))) = _
    rw [am_g_upd os _ (fun q hq => by simpa using h q (List.mem_cons_of_mem _ hq)), am_g_set (h o List.mem_cons_self), am_ev_lf]
    rfl
theorem am_is_ov {os : am_Ov} {X : List Int} (h : ∀ o ∈ os, o.1 < X.length ∧ am_g X o.1 = o.2.1 + am_tm (am_g X) o.2.2) : am_is X (am_ovl os) := by
  intro q hq
  obtain ⟨o, ho, rfl⟩ := List.mem_map.mp hq
  obtain ⟨h1, h2⟩ := h o ho
  have e : am_ev X (am_lf o.2.1 o.2.2) = am_g X o.1 := by
    rw [am_ev_lf, h2]
    rfl
  show X[o.1]? = some (am_ev X (am_lf o.2.1 o.2.2))
  rw [e]
  unfold am_g
  rw [List.getElem?_eq_getElem h1]
  rfl
theorem am_bx_of : ∀ (B : List (Int × Int)) (X : List Int), B.length ≤ X.length → (∀ (i : Nat) (b : Int × Int), B[i]? = some b → b.1 ≤ am_g X i ∧ am_g X i ≤ b.2) → am_bx B X
  | [], _, _, _ => trivial
  | b :: bs, [], h, _ => by simp at h
  | b :: bs, x :: xs, h, hb => by
    have h0 := hb 0 b rfl
    refine ⟨h0.1, h0.2, am_bx_of bs xs (by simpa using h) (fun i c hc => ?_)⟩
    have := hb (i + 1) c hc
    exact this
theorem am_bx_append : ∀ {B C : List (Int × Int)} {X Z : List Int}, B.length = X.length → am_bx B X → am_bx C Z → am_bx (B ++ C) (X ++ Z)
  | [], _, [], _, _, _, h => h
  | [], _, _ :: _, _, h, _, _ => by simp at h
  | _ :: _, _, [], _, h, _, _ => by simp at h
  | b :: bs, C, x :: xs, Z, h, h1, h2 => ⟨h1.1, h1.2.1, am_bx_append (by simpa using h) h1.2.2 h2⟩
/-- the state's numbers keep to their bounds -/
def am_Iv (hi : Int) (v : Nat → Int) : Prop := (∀ k : Nat, k < 4 → 100 ≤ v (4 * k) ∧ v (4 * k) ≤ 400 ∧ 0 ≤ v (4 * k + 1) ∧ 0 ≤ v (4 * k + 2) ∧ v (4 * k + 1) + v (4 * k + 2) ≤ 60 ∧ 0 ≤ v (4 * k + 3) ∧ v (4 * k + 3) ≤ 100) ∧ (0 ≤ v 16 ∧ v 16 ≤ hi) ∧ (0 ≤ v 17 ∧ v 17 ≤ 4) ∧ (0 ≤ v 18 ∧ v 18 ≤ 4) ∧ 0 ≤ v 19 ∧ v 19 ≤ 200
theorem am_BC_at (hi : Int) : ∀ k : Nat, k < 4 → (am_BC hi)[4 * k]? = some (100, 400) ∧ (am_BC hi)[4 * k + 1]? = some (0, 60) ∧ (am_BC hi)[4 * k + 2]? = some (0, 60) ∧ (am_BC hi)[4 * k + 3]? = some (0, 100)
  | 0, _ => ⟨rfl, rfl, rfl, rfl⟩
  | 1, _ => ⟨rfl, rfl, rfl, rfl⟩
  | 2, _ => ⟨rfl, rfl, rfl, rfl⟩
  | 3, _ => ⟨rfl, rfl, rfl, rfl⟩
  | k + 4, h => absurd h (by omega)
theorem am_Iv_bx {hi : Int} {C : List Int} (hC : C.length = 20) (h : am_Iv hi (am_g C)) : am_bx (am_BC hi) C := by
  obtain ⟨h1, h2, h3, h4, h5⟩ := h
  refine am_bx_of _ _ (by rw [hC]; exact Nat.le_refl 20) (fun i b hb => ?_)
  have hi20 : i < 20 := (List.getElem?_eq_some_iff.mp hb).1
  by_cases hlt : i < 16
  · obtain ⟨a0, a1, a2, a3, a4, a5, a6⟩ := h1 (i / 4) (by omega)
    obtain ⟨b0, b1, b2, b3⟩ := am_BC_at hi (i / 4) (by omega)
    have hm : i = 4 * (i / 4) ∨ i = 4 * (i / 4) + 1 ∨ i = 4 * (i / 4) + 2 ∨ i = 4 * (i / 4) + 3 := by omega
    generalize i / 4 = k at *
    rcases hm with rfl | rfl | rfl | rfl
    · rw [b0] at hb; cases hb; exact ⟨a0, a1⟩
    · rw [b1] at hb; cases hb; exact ⟨a2, by dsimp only; omega⟩
    · rw [b2] at hb; cases hb; exact ⟨a3, by dsimp only; omega⟩
    · rw [b3] at hb; cases hb; exact ⟨a5, a6⟩
  · have hm : i = 16 ∨ i = 17 ∨ i = 18 ∨ i = 19 := by omega
    rcases hm with rfl | rfl | rfl | rfl
    · have e : (0, hi) = b := Option.some.inj hb
      subst e; exact h2
    · have e : ((0, 4) : Int × Int) = b := Option.some.inj hb
      subst e; exact h3
    · have e : ((0, 4) : Int × Int) = b := Option.some.inj hb
      subst e; exact h4
    · have e : ((0, 200) : Int × Int) = b := Option.some.inj hb
      subst e; exact h5
theorem am_g_lo {C Z : List Int} (hC : C.length = 20) {j : Nat} (hj : j < 20) : am_g (C ++ Z) j = am_g C j := by
  unfold am_g
  rw [List.getElem?_append_left (by omega)]
theorem am_g_hi {C Z : List Int} (hC : C.length = 20) (j : Nat) : am_g (C ++ Z) (20 + j) = am_g Z j := by
  unfold am_g
  rw [List.getElem?_append_right (by omega), hC]
  congr 2
  omega
theorem am_upd_split {os : am_Ov} {C Z : List Int} (hC : C.length = 20) (hos : ∀ o ∈ os, o.1 < 20) : ∃ C' : List Int, C'.length = 20 ∧ am_upd (am_ovl os) (C ++ Z) = C' ++ Z ∧ ∀ j, j < 20 → am_g C' j = am_fu os (am_g (C ++ Z)) j := by
  have hlen := am_upd_len (am_ovl os) (C ++ Z)
  have hd : ∀ (os : am_Ov) (X : List Int), (∀ o ∈ os, o.1 < 20) → (am_upd (am_ovl os) X).drop 20 = X.drop 20 := by
    intro os
    induction os with
    | nil => intro X _; rfl
    | cons o os ih =>
      intro X h
      show (am_upd (am_ovl os) (X.set o.1 (am_ev X (am_lf o.2.1 o.2.2)))).drop 20 = _
      rw [ih _ (fun q hq => h q (List.mem_cons_of_mem _ hq))]
      exact List.drop_set_of_lt (h o List.mem_cons_self)
  refine ⟨(am_upd (am_ovl os) (C ++ Z)).take 20, ?_, ?_, fun j hj => ?_⟩
  · rw [List.length_take, hlen, List.length_append]
    omega
  · have h1 := hd os (C ++ Z) hos
    rw [List.drop_left' hC] at h1
    have h2 := List.take_append_drop 20 (am_upd (am_ovl os) (C ++ Z))
    rw [h1] at h2
    exact h2.symm
  · have h3 := am_g_upd os (C ++ Z) (fun o ho => by have := hos o ho; rw [List.length_append]; omega)
    rw [← h3]
    unfold am_g
    rw [List.getElem?_take_of_lt hj]
