/-! ===== tuning: the second half of a round: a tooth after another ===== -/
theorem am_ev_tm (X : List Int) (c : Int) (ts : List (Nat × Int)) : am_ev X (am_lf c ts) = c + am_tm (am_g X) ts := am_ev_lf X c ts
/-- a tooth's pitch, how far it is from its note -/
def am_pv (v : Nat → Int) (k : Nat) : Int := 10000 - 20 * v (4 * k) + 4 * v (4 * k + 1) - 6 * v (4 * k + 2) - 3 * v (4 * k + 3)
def am_far (v : Nat → Int) (k : Nat) : Int := if am_pv v k % 100 < 50 then am_pv v k % 100 else 100 - am_pv v k % 100
def am_nT (pat : Nat) (v : Nat → Int) : Nat → Int
  | 0 => 0
  | k + 1 => am_nT pat v k + (if am_tbit pat k = 0 then 0 else if am_far v k ≤ 5 then 1 else 0)
def am_nA (pat : Nat) : Nat → Int
  | 0 => 0
  | k + 1 => am_nA pat k + (if am_tbit pat k = 0 then 0 else 1)
def am_nO (pat : Nat) (v : Nat → Int) : Nat → Int
  | 0 => 0
  | k + 1 => am_nO pat v k + (if am_tbit pat k = 0 then 0 else am_far v k)
theorem am_far_in (v : Nat → Int) (k : Nat) : 0 ≤ am_far v k ∧ am_far v k ≤ 50 := by
  unfold am_far
  split <;> omega
theorem am_n_in (pat : Nat) (v : Nat → Int) : ∀ k : Nat, 0 ≤ am_nT pat v k ∧ am_nT pat v k ≤ k ∧ 0 ≤ am_nA pat k ∧ am_nA pat k ≤ k ∧ 0 ≤ am_nO pat v k ∧ am_nO pat v k ≤ 50 * k
  | 0 => ⟨Int.le_refl _, Int.le_refl _, Int.le_refl _, Int.le_refl _, Int.le_refl _, Int.le_refl _⟩
  | k + 1 => by
    obtain ⟨h1, h2, h3, h4, h5, h6⟩ := am_n_in pat v k
    have hf := am_far_in v k
    simp only [am_nT, am_nA, am_nO]
    by_cases e : am_tbit pat k = 0
    · simp only [e, if_true]; omega
    · simp only [e, if_false]
      by_cases e2 : am_far v k ≤ 5
      · simp only [e2, if_true]; omega
      · simp only [e2, if_false]; omega
theorem am_pv_eq {v w : Nat → Int} (h : ∀ j, j < 16 → w j = v j) {k : Nat} (hk : k < 4) : am_pv w k = am_pv v k := by
  unfold am_pv
  rw [h _ (by omega), h (4 * k + 1) (by omega), h (4 * k + 2) (by omega), h (4 * k + 3) (by omega)]
theorem am_far_eq {v w : Nat → Int} (h : ∀ j, j < 16 → w j = v j) {k : Nat} (hk : k < 4) : am_far w k = am_far v k := by
  unfold am_far
  rw [am_pv_eq h hk]
theorem am_n_eq2 {pat : Nat} {v w : Nat → Int} (h : ∀ j, j < 16 → w j = v j) : ∀ k : Nat, k ≤ 4 → am_nT pat w k = am_nT pat v k ∧ am_nO pat w k = am_nO pat v k
  | 0, _ => ⟨rfl, rfl⟩
  | k + 1, hk => by
    obtain ⟨h1, h2⟩ := am_n_eq2 (pat := pat) h k (by omega)
    simp only [am_nT, am_nO, h1, h2, am_far_eq h (show k < 4 by omega)]
    exact ⟨trivial, trivial⟩
theorem am_tckB {j k pat : Nat} (hj : j < 5) (hk : k < 4) (hpat : pat < 16) (hf : (Nat.beq (am_tbit pat k) 0 != Nat.ble 4 j) = false) : am_ckB j k pat = true := by
  have key : ∀ j', (List.range 4).all (fun k => (List.range 16).all (fun pat => (Nat.beq (am_tbit pat k) 0 != Nat.ble 4 j') || am_ckB j' k pat)) = true → (Nat.beq (am_tbit pat k) 0 != Nat.ble 4 j') = false → am_ckB j' k pat = true := fun j' h hf => by
    have h1 := List.all_eq_true.mp (List.all_eq_true.mp h k (List.mem_range.mpr hk)) pat (List.mem_range.mpr hpat)
    rw [Bool.or_eq_true, hf] at h1
    rcases h1 with h1 | h1
    · cases h1
    · exact h1
  match j, hj, hf with
  | 0, _, hf => exact key 0 am_tckB0 hf
  | 1, _, hf => exact key 1 am_tckB1 hf
  | 2, _, hf => exact key 2 am_tckB2 hf
  | 3, _, hf => exact key 3 am_tckB3 hf
  | 4, _, hf => exact key 4 am_tckB4 hf
  | n + 5, h, _ => exact absurd h (by omega)
section AMTB
variable {p : Program} {l : Launch} {e : Env} {s : State} {m : MethodId} {args : Array Value} {below : List Frame} {meth : Method} {c : Code} {Q : State → Prop} {s0 : State} {D : va_G} {b L K N : Nat} {xs : Nat → Int32}
theorem am_stepB (hFr : am_Fr l p s m args meth c s0 D b L xs am_m113) {j k pat k0 n0 : Nat} (hj : j < 5) (hk : k < 4) (hpat : pat < 16) (hf : (Nat.beq (am_tbit pat k) 0 != Nat.ble 4 j) = false) {C Z : List Int} (hC : C.length = 20) (hI : am_Iv 39 (am_g C)) (hZ : am_bx (am_tLZ[j]?.getD []) Z)
    (heq : ∀ e ∈ am_tLE j k, am_ev (C ++ Z) e.1 = am_ev (C ++ Z) e.2) (hos : ∀ o ∈ am_tLO j, o.1 < 20) (hK : k0 + 4 ≤ K) (hN : n0 + 4 ≤ N)
    (hat : ∀ C' : List Int, C'.length = 20 → (∀ i, i < 20 → am_g C' i = am_fu (am_tLO j) (am_g (C ++ Z)) i) → am_AC p l e (am_rm 30 K N) s m args below meth c Q s0 D b am_m113.2.2.1 C' 427 (am_tLB (k + 1)) (am_tH pat) (k0 + 4) (n0 + 4)) :
    am_AC p l e (am_rm 30 K N) s m args below meth c Q s0 D b am_m113.2.2.1 C 427 (am_tLB k) (am_tH pat) k0 n0 := by
  obtain ⟨hG, hSc, hF, htab, hnm⟩ := hFr
  have hck := am_tckB hj hk hpat hf
  intro Z0
  refine am_At_scr (Z := Z) hC ((am_tOKb hpat).2.2 k (by omega)) ?_
  have hA : am_kn (am_tAB j k) (C ++ Z) := ⟨am_bx_append (by rw [hC]; rfl) (am_Iv_bx hC hI) hZ, heq, fun e he => (by cases he)⟩
  have hS := am_snd (d := 28) (K := K) (N := N) (e := e) (below := below) (Q := Q) (hG (C ++ Z)) hA am_cm113 am_mk113 (am_subOK (hG (C ++ Z)) hA 100000 28) (hF (C ++ Z)) htab hnm (am_tLN[j]?.getD 0) 246 427 (fun x hx => by cases hx; rfl) k0 n0
  obtain ⟨C', k1, k2, k3⟩ := am_upd_split (Z := Z) hC hos
  refine am_piece (by rw [List.length_append]; omega) (fun o ho => by cases ho) hck hS hK hN (am_tOKb hpat).1 ?_
  rw [k2]
  exact hat C' k1 k3 Z
/-- the numbers at the head of the second half, k teeth done -/
def am_IB (pat k : Nat) (C : List Int) : Prop := am_Iv 39 (am_g C) ∧ am_g C 17 = am_nT pat (am_g C) k ∧ am_g C 18 = am_nA pat k ∧ am_g C 19 = am_nO pat (am_g C) k
theorem am_IB_next {pat k : Nat} {C C' : List Int} (hk : k < 4) (hB : am_IB pat k C) (h1 : ∀ i, i < 17 → am_g C' i = am_g C i) (h2 : am_g C' 17 = am_g C 17 + (if am_tbit pat k = 0 then 0 else if am_far (am_g C) k ≤ 5 then 1 else 0)) (h3 : am_g C' 18 = am_g C 18 + (if am_tbit pat k = 0 then 0 else 1)) (h4 : am_g C' 19 = am_g C 19 + (if am_tbit pat k = 0 then 0 else am_far (am_g C) k)) : am_IB pat (k + 1) C' := by
  obtain ⟨⟨i1, i2, -⟩, b1, b2, b3⟩ := hB
  obtain ⟨e1, e2⟩ := am_n_eq2 (pat := pat) (v := am_g C) (w := am_g C') (fun j hj => h1 j (by omega)) (k + 1) (by omega)
  have q1 : am_g C' 17 = am_nT pat (am_g C') (k + 1) := by rw [e1, h2, b1]; rfl
  have q2 : am_g C' 18 = am_nA pat (k + 1) := by rw [h3, b2]; rfl
  have q3 : am_g C' 19 = am_nO pat (am_g C') (k + 1) := by rw [e2, h4, b3]; rfl
  obtain ⟨n1, n2, n3, n4, n5, n6⟩ := am_n_in pat (am_g C') (k + 1)
  refine ⟨⟨fun z hz => ?_, by rw [h1 16 (by omega)]; exact i2, by rw [q1]; omega, by rw [q2]; omega, by rw [q3]; omega⟩, q1, q2, q3⟩
  rw [h1 _ (by omega), h1 (4 * z + 1) (by omega), h1 (4 * z + 2) (by omega), h1 (4 * z + 3) (by omega)]
  exact i1 z hz
theorem am_roundB (hFr : am_Fr l p s m args meth c s0 D b L xs am_m113) {k pat k0 n0 : Nat} (hk : k < 4) (hpat : pat < 16) {C : List Int} (hC : C.length = 20) (hI : am_IB pat k C) (hK : k0 + 4 ≤ K) (hN : n0 + 4 ≤ N)
    (hB : ∀ C' : List Int, C'.length = 20 → am_IB pat (k + 1) C' → (∀ i, i < 17 → am_g C' i = am_g C i) → am_AC p l e (am_rm 30 K N) s m args below meth c Q s0 D b am_m113.2.2.1 C' 427 (am_tLB (k + 1)) (am_tH pat) (k0 + 4) (n0 + 4)) :
    am_AC p l e (am_rm 30 K N) s m args below meth c Q s0 D b am_m113.2.2.1 C 427 (am_tLB k) (am_tH pat) k0 n0 := by
  cases hbit : Nat.beq (am_tbit pat k) 0 with
  | true =>
    have hz := Nat.eq_of_beq_eq_true hbit
    refine am_stepB hFr (j := 4) (Z := []) (by decide) hk hpat (by rw [hbit]; rfl) hC hI.1 trivial (fun e he => (by cases he)) (fun o ho => (by cases ho)) hK hN (fun C' k1 k2 => ?_)
    have k3 : ∀ i, i < 20 → am_g C' i = am_g C i := fun i hi => by rw [k2 i hi]; exact am_g_lo hC hi
    exact hB C' k1 (am_IB_next hk hI (fun i hi => k3 i (by omega)) (by rw [k3 17 (by omega), if_pos hz]; omega) (by rw [k3 18 (by omega), if_pos hz]; omega) (by rw [k3 19 (by omega), if_pos hz]; omega)) (fun i hi => k3 i (by omega))
  | false =>
    have hz : ¬ am_tbit pat k = 0 := fun q => by rw [q] at hbit; cases hbit
    obtain ⟨i0, i1, i2, i3, i4, i5, i6⟩ := hI.1.1 k hk
    obtain ⟨P, hP⟩ : ∃ z, z = am_pv (am_g C) k := ⟨_, rfl⟩
    have hP2 : P = 10000 - 20 * am_g C (4 * k) + 4 * am_g C (4 * k + 1) - 6 * am_g C (4 * k + 2) - 3 * am_g C (4 * k + 3) := hP
    have hlow : ∀ (j : Nat) (x1 x2 x3 x4 : Int), j < 2 → P = 100 * x1 + x2 → x3 = x1 + 1 → x4 = x2 - 100 → am_bx (am_tLZ[j]?.getD []) [x1, x2, x3, x4] → am_far (am_g C) k = -x4 → ((am_far (am_g C) k ≤ 5) ↔ j = 1) → am_AC p l e (am_rm 30 K N) s m args below meth c Q s0 D b am_m113.2.2.1 C 427 (am_tLB k) (am_tH pat) k0 n0 := fun j x1 x2 x3 x4 hj e1 e2 e3 hZ hfar h5 => by
      have g20 : am_g (C ++ [x1, x2, x3, x4]) 20 = x1 := am_g_hi hC 0
      have g21 : am_g (C ++ [x1, x2, x3, x4]) 21 = x2 := am_g_hi hC 1
      have g22 : am_g (C ++ [x1, x2, x3, x4]) 22 = x3 := am_g_hi hC 2
      have g23 : am_g (C ++ [x1, x2, x3, x4]) 23 = x4 := am_g_hi hC 3
      have gl : ∀ i, i < 20 → am_g (C ++ [x1, x2, x3, x4]) i = am_g C i := fun i hi => am_g_lo hC hi
      have l0 := gl (4 * k) (by omega)
      have l1 := gl (4 * k + 1) (by omega)
      have l2 := gl (4 * k + 2) (by omega)
      have l3 := gl (4 * k + 3) (by omega)
      have hj2 : j = 0 ∨ j = 1 := by omega
      refine am_stepB hFr (j := j) (Z := [x1, x2, x3, x4]) (by omega) hk hpat (by rw [hbit]; rcases hj2 with rfl | rfl <;> rfl) hC hI.1 hZ (fun e he => ?_) (fun o ho => ?_) hK hN (fun C' k1 k2 => ?_)
      · have he : e ∈ [(am_tPf k, am_lf 0 [(20, 100), (21, 1)]), (am_lf 50 [(20, 100), (21, 1)], am_lf 50 [(22, 100), (23, 1)]), (am_lf 1 [(20, 1)], am_lf 0 [(22, 1)]), (am_lf 0 [(20, 100), (21, 1), (22, -100)], am_lf 0 [(23, 1)])] := by
          rcases hj2 with rfl | rfl <;> exact he
        simp only [List.mem_cons, List.not_mem_nil, or_false] at he
        rcases he with rfl | rfl | rfl | rfl <;> simp only [am_tPf, am_tPl, am_ev_tm, am_tm_cons, am_tm_nil, g20, g21, g22, g23, l0, l1, l2, l3] <;> omega
      · rcases hj2 with rfl | rfl
        · have ho : o ∈ ([(18, 1, [(18, 1)]), (19, 0, [(19, 1), (23, -1)])] : am_Ov) := ho
          simp only [List.mem_cons, List.not_mem_nil, or_false] at ho
          rcases ho with rfl | rfl <;> decide
        · have ho : o ∈ ([(18, 1, [(18, 1)]), (19, 0, [(19, 1), (23, -1)]), (17, 1, [(17, 1)])] : am_Ov) := ho
          simp only [List.mem_cons, List.not_mem_nil, or_false] at ho
          rcases ho with rfl | rfl | rfl <;> decide
      · have m17 := gl 17 (by omega)
        have m18 := gl 18 (by omega)
        have m19 := gl 19 (by omega)
        rcases hj2 with rfl | rfl
        · have k2 : ∀ i, i < 20 → am_g C' i = am_fu [(18, 1, [(18, 1)]), (19, 0, [(19, 1), (23, -1)])] (am_g (C ++ [x1, x2, x3, x4])) i := k2
          have k3 : ∀ i, i < 17 → am_g C' i = am_g C i := fun i hi => by rw [k2 i (by omega), am_fu_ne _ _ _ (fun o ho => by simp only [List.mem_cons, List.not_mem_nil, or_false] at ho; rcases ho with rfl | rfl <;> dsimp only <;> omega), gl i (by omega)]
          have n5 : ¬ am_far (am_g C) k ≤ 5 := fun q => by have := h5.mp q; omega
          refine hB C' k1 (am_IB_next hk hI k3 ?_ ?_ ?_) k3
          · rw [k2 17 (by omega), if_neg hz, if_neg n5]
            simp (disch := omega) only [am_fu_cons, am_fu_nil, am_u1_eq, am_u1_ne, am_tm_cons, am_tm_nil, m17]
            omega
          · rw [k2 18 (by omega), if_neg hz]
            simp (disch := omega) only [am_fu_cons, am_fu_nil, am_u1_eq, am_u1_ne, am_tm_cons, am_tm_nil, m18]
            omega
          · rw [k2 19 (by omega), if_neg hz, hfar]
            simp (disch := omega) only [am_fu_cons, am_fu_nil, am_u1_eq, am_u1_ne, am_tm_cons, am_tm_nil, m19, g23]
            omega
        · have k2 : ∀ i, i < 20 → am_g C' i = am_fu [(18, 1, [(18, 1)]), (19, 0, [(19, 1), (23, -1)]), (17, 1, [(17, 1)])] (am_g (C ++ [x1, x2, x3, x4])) i := k2
          have k3 : ∀ i, i < 17 → am_g C' i = am_g C i := fun i hi => by rw [k2 i (by omega), am_fu_ne _ _ _ (fun o ho => by simp only [List.mem_cons, List.not_mem_nil, or_false] at ho; rcases ho with rfl | rfl | rfl <;> dsimp only <;> omega), gl i (by omega)]
          have n5 : am_far (am_g C) k ≤ 5 := h5.mpr rfl
          refine hB C' k1 (am_IB_next hk hI k3 ?_ ?_ ?_) k3
          · rw [k2 17 (by omega), if_neg hz, if_pos n5]
            simp (disch := omega) only [am_fu_cons, am_fu_nil, am_u1_eq, am_u1_ne, am_tm_cons, am_tm_nil, m17]
            omega
          · rw [k2 18 (by omega), if_neg hz]
            simp (disch := omega) only [am_fu_cons, am_fu_nil, am_u1_eq, am_u1_ne, am_tm_cons, am_tm_nil, m18]
            omega
          · rw [k2 19 (by omega), if_neg hz, hfar]
            simp (disch := omega) only [am_fu_cons, am_fu_nil, am_u1_eq, am_u1_ne, am_tm_cons, am_tm_nil, m19, g23]
            omega
    have hhigh : ∀ (j : Nat) (x1 x2 : Int), 2 ≤ j → j < 4 → P = 100 * x1 + x2 → am_bx (am_tLZ[j]?.getD []) [x1, x2, 0, 0] → am_far (am_g C) k = x2 → ((am_far (am_g C) k ≤ 5) ↔ j = 2) → am_AC p l e (am_rm 30 K N) s m args below meth c Q s0 D b am_m113.2.2.1 C 427 (am_tLB k) (am_tH pat) k0 n0 := fun j x1 x2 hj0 hj e1 hZ hfar h5 => by
      have g20 : am_g (C ++ [x1, x2, 0, 0]) 20 = x1 := am_g_hi hC 0
      have g21 : am_g (C ++ [x1, x2, 0, 0]) 21 = x2 := am_g_hi hC 1
      have gl : ∀ i, i < 20 → am_g (C ++ [x1, x2, 0, 0]) i = am_g C i := fun i hi => am_g_lo hC hi
      have l0 := gl (4 * k) (by omega)
      have l1 := gl (4 * k + 1) (by omega)
      have l2 := gl (4 * k + 2) (by omega)
      have l3 := gl (4 * k + 3) (by omega)
      have hj2 : j = 2 ∨ j = 3 := by omega
      refine am_stepB hFr (j := j) (Z := [x1, x2, 0, 0]) (by omega) hk hpat (by rw [hbit]; rcases hj2 with rfl | rfl <;> rfl) hC hI.1 hZ (fun e he => ?_) (fun o ho => ?_) hK hN (fun C' k1 k2 => ?_)
      · have he : e ∈ [(am_tPf k, am_lf 0 [(20, 100), (21, 1)])] := by
          rcases hj2 with rfl | rfl <;> exact he
        cases List.mem_singleton.mp he
        simp only [am_tPf, am_tPl, am_ev_tm, am_tm_cons, am_tm_nil, g20, g21, l0, l1, l2, l3]
        omega
      · rcases hj2 with rfl | rfl
        · have ho : o ∈ ([(18, 1, [(18, 1)]), (19, 0, [(19, 1), (21, 1)]), (17, 1, [(17, 1)])] : am_Ov) := ho
          simp only [List.mem_cons, List.not_mem_nil, or_false] at ho
          rcases ho with rfl | rfl | rfl <;> decide
        · have ho : o ∈ ([(18, 1, [(18, 1)]), (19, 0, [(19, 1), (21, 1)])] : am_Ov) := ho
          simp only [List.mem_cons, List.not_mem_nil, or_false] at ho
          rcases ho with rfl | rfl <;> decide
      · have m17 := gl 17 (by omega)
        have m18 := gl 18 (by omega)
        have m19 := gl 19 (by omega)
        rcases hj2 with rfl | rfl
        · have k2 : ∀ i, i < 20 → am_g C' i = am_fu [(18, 1, [(18, 1)]), (19, 0, [(19, 1), (21, 1)]), (17, 1, [(17, 1)])] (am_g (C ++ [x1, x2, 0, 0])) i := k2
          have k3 : ∀ i, i < 17 → am_g C' i = am_g C i := fun i hi => by rw [k2 i (by omega), am_fu_ne _ _ _ (fun o ho => by simp only [List.mem_cons, List.not_mem_nil, or_false] at ho; rcases ho with rfl | rfl | rfl <;> dsimp only <;> omega), gl i (by omega)]
          have n5 : am_far (am_g C) k ≤ 5 := h5.mpr rfl
          refine hB C' k1 (am_IB_next hk hI k3 ?_ ?_ ?_) k3
          · rw [k2 17 (by omega), if_neg hz, if_pos n5]
            simp (disch := omega) only [am_fu_cons, am_fu_nil, am_u1_eq, am_u1_ne, am_tm_cons, am_tm_nil, m17]
            omega
          · rw [k2 18 (by omega), if_neg hz]
            simp (disch := omega) only [am_fu_cons, am_fu_nil, am_u1_eq, am_u1_ne, am_tm_cons, am_tm_nil, m18]
            omega
          · rw [k2 19 (by omega), if_neg hz, hfar]
            simp (disch := omega) only [am_fu_cons, am_fu_nil, am_u1_eq, am_u1_ne, am_tm_cons, am_tm_nil, m19, g21]
            omega
        · have k2 : ∀ i, i < 20 → am_g C' i = am_fu [(18, 1, [(18, 1)]), (19, 0, [(19, 1), (21, 1)])] (am_g (C ++ [x1, x2, 0, 0])) i := k2
          have k3 : ∀ i, i < 17 → am_g C' i = am_g C i := fun i hi => by rw [k2 i (by omega), am_fu_ne _ _ _ (fun o ho => by simp only [List.mem_cons, List.not_mem_nil, or_false] at ho; rcases ho with rfl | rfl <;> dsimp only <;> omega), gl i (by omega)]
          have n5 : ¬ am_far (am_g C) k ≤ 5 := fun q => by have := h5.mp q; omega
          refine hB C' k1 (am_IB_next hk hI k3 ?_ ?_ ?_) k3
          · rw [k2 17 (by omega), if_neg hz, if_neg n5]
            simp (disch := omega) only [am_fu_cons, am_fu_nil, am_u1_eq, am_u1_ne, am_tm_cons, am_tm_nil, m17]
            omega
          · rw [k2 18 (by omega), if_neg hz]
            simp (disch := omega) only [am_fu_cons, am_fu_nil, am_u1_eq, am_u1_ne, am_tm_cons, am_tm_nil, m18]
            omega
          · rw [k2 19 (by omega), if_neg hz, hfar]
            simp (disch := omega) only [am_fu_cons, am_fu_nil, am_u1_eq, am_u1_ne, am_tm_cons, am_tm_nil, m19, g21]
            omega
    have hfe : am_far (am_g C) k = if P % 100 < 50 then P % 100 else 100 - P % 100 := by rw [hP]; rfl
    by_cases h50 : P % 100 < 50
    · rw [if_pos h50] at hfe
      by_cases h5 : P % 100 ≤ 5
      · refine hhigh 2 (P / 100) (P % 100) (by omega) (by omega) (by omega) ?_ hfe ⟨fun _ => rfl, fun _ => by omega⟩
        show am_bx [(0, 200), (0, 5), (0, 200), (-50, 49)] _
        refine ⟨?_, ?_, ?_, ?_, ?_, ?_, ?_, ?_, trivial⟩ <;> dsimp only <;> omega
      · refine hhigh 3 (P / 100) (P % 100) (by omega) (by omega) (by omega) ?_ hfe ⟨fun q => by omega, fun q => by omega⟩
        show am_bx [(0, 200), (6, 49), (0, 200), (-50, 49)] _
        refine ⟨?_, ?_, ?_, ?_, ?_, ?_, ?_, ?_, trivial⟩ <;> dsimp only <;> omega
    · rw [if_neg h50] at hfe
      by_cases h5 : P % 100 ≤ 94
      · refine hlow 0 (P / 100) (P % 100) (P / 100 + 1) (P % 100 - 100) (by omega) (by omega) rfl rfl ?_ (by omega) ⟨fun q => by omega, fun q => by omega⟩
        show am_bx [(0, 200), (50, 94), (0, 200), (-50, -6)] _
        refine ⟨?_, ?_, ?_, ?_, ?_, ?_, ?_, ?_, trivial⟩ <;> dsimp only <;> omega
      · refine hlow 1 (P / 100) (P % 100) (P / 100 + 1) (P % 100 - 100) (by omega) (by omega) rfl rfl ?_ (by omega) ⟨fun q => rfl, fun q => by omega⟩
        show am_bx [(0, 200), (95, 99), (0, 200), (-5, -1)] _
        refine ⟨?_, ?_, ?_, ?_, ?_, ?_, ?_, ?_, trivial⟩ <;> dsimp only <;> omega
end AMTB
