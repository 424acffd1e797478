/-! ===== tuning: the first half of a round, whatever the script says ===== -/
theorem am_fu_app (a b : am_Ov) (v : Nat → Int) : am_fu (a ++ b) v = am_fu b (am_fu a v) := List.foldl_append
theorem am_fu_ne : ∀ (os : am_Ov) (v : Nat → Int) (j : Nat), (∀ o ∈ os, j ≠ o.1) → am_fu os v j = v j
  | [], _, _, _ => rfl
  | o :: os, v, j, h => by
    rw [am_fu_cons, am_fu_ne os _ j (fun q hq => h q (List.mem_cons_of_mem _ hq)), am_u1_ne (h o List.mem_cons_self)]
theorem am_z3_v (v : Nat → Int) : am_fu am_tz3 v 17 = 0 ∧ am_fu am_tz3 v 18 = 0 ∧ am_fu am_tz3 v 19 = 0 ∧ ∀ j, j ≠ 17 → j ≠ 18 → j ≠ 19 → am_fu am_tz3 v j = v j := by
  refine ⟨rfl, rfl, rfl, fun j h1 h2 h3 => am_fu_ne _ _ _ (fun o ho => ?_)⟩
  simp only [am_tz3, List.mem_cons, List.not_mem_nil, or_false] at ho
  rcases ho with rfl | rfl | rfl
  · exact h1
  · exact h2
  · exact h3
theorem am_bit_set {b pat q : Nat} (hpat : pat < 16) (hq : q < 4) : am_tP b q pat < 16 := by
  have h0 : ∀ q, q < 4 → ∀ pat, pat < 16 → am_tP 0 q pat < 16 := by decide +kernel
  unfold am_tP
  cases Nat.ble b 1 with
  | true => exact h0 q hq pat hpat
  | false => exact hpat
/-- the numbers after the first half of a round -/
theorem am_IvA {C : List Int} {v : Nat → Int} {os : am_Ov} {w : Nat → Int} {q : Nat} (hq : q < 4) (hI : am_Iv 39 (am_g C)) (hv : ∀ j, j < 20 → v j = am_g C j) (hw : ∀ j, j < 20 → w j = am_fu (os ++ am_tz3) v j) (hos : ∀ o ∈ os, 4 * q ≤ o.1 ∧ o.1 < 4 * q + 4)
    (h0 : 100 ≤ am_fu os v (4 * q) ∧ am_fu os v (4 * q) ≤ 400 ∧ 0 ≤ am_fu os v (4 * q + 1) ∧ 0 ≤ am_fu os v (4 * q + 2) ∧ am_fu os v (4 * q + 1) + am_fu os v (4 * q + 2) ≤ 60 ∧ 0 ≤ am_fu os v (4 * q + 3) ∧ am_fu os v (4 * q + 3) ≤ 100) : am_Iv 39 w ∧ w 16 = am_g C 16 ∧ w 17 = 0 ∧ w 18 = 0 ∧ w 19 = 0 := by
  obtain ⟨z1, z2, z3, z4⟩ := am_z3_v (am_fu os v)
  have hw2 : ∀ j, j < 20 → w j = am_fu am_tz3 (am_fu os v) j := fun j hj => by rw [hw j hj, am_fu_app]
  have hne : ∀ j, j < 17 → w j = am_fu os v j := fun j hj => by rw [hw2 j (by omega), z4 _ (by omega) (by omega) (by omega)]
  have hoth : ∀ j, j < 17 → (j < 4 * q ∨ 4 * q + 4 ≤ j) → w j = am_g C j := fun j hj h => by
    rw [hne j hj, am_fu_ne _ _ _ (fun o ho => by have := hos o ho; omega), hv _ (by omega)]
  have h16 : w 16 = am_g C 16 := hoth 16 (by omega) (by omega)
  have h17 : w 17 = 0 := by rw [hw2 17 (by omega), z1]
  have h18 : w 18 = 0 := by rw [hw2 18 (by omega), z2]
  have h19 : w 19 = 0 := by rw [hw2 19 (by omega), z3]
  obtain ⟨i1, i2, i3, i4, i5⟩ := hI
  refine ⟨⟨fun k hk => ?_, by rw [h16]; exact i2, by rw [h17]; omega, by rw [h18]; omega, by rw [h19]; omega⟩, h16, h17, h18, h19⟩
  by_cases e : k = q
  · subst e
    rw [hne _ (by omega), hne (4 * k + 1) (by omega), hne (4 * k + 2) (by omega), hne (4 * k + 3) (by omega)]
    exact h0
  · rw [hoth _ (by omega) (by omega), hoth (4 * k + 1) (by omega) (by omega), hoth (4 * k + 2) (by omega) (by omega), hoth (4 * k + 3) (by omega) (by omega)]
    exact i1 k hk
section AMTR
variable {p : Program} {l : Launch} {e : Env} {s : State} {m : MethodId} {args : Array Value} {below : List Frame} {meth : Method} {c : Code} {Q : State → Prop} {s0 : State} {D : va_G} {b L K N : Nat} {xs : Nat → Int32}
/-- a branch: its own unknowns x1 x2 x3 beside the script's number -/
theorem am_branch (hFr : am_Fr l p s m args meth c s0 D b L xs am_m113) {br q pat k0 n0 : Nat} (hbr : br < 19) (hq : q < 4) (hpat : pat < 16) (hf : (Nat.beq (am_tbit pat q) 0 != am_tnull br) = false) {C : List Int} (hC : C.length = 20) (hI : am_Iv 39 (am_g C)) (x1 x2 x3 : Int) {os : am_Ov} (hos : am_tE br q = os ++ am_tz3) (hos4 : ∀ o ∈ os, 4 * q ≤ o.1 ∧ o.1 < 4 * q + 4)
    (hZ : am_bx (am_tZ[br]?.getD []) [x1, x2, x3]) (his : ∀ v : Nat → Int, (∀ j, j < 20 → v j = am_g C j) → v 21 = x1 → v 22 = x2 → v 23 = x3 → (∀ o ∈ am_tO br q, o.1 < 20 ∧ v o.1 = o.2.1 + am_tm v o.2.2) ∧ (am_tVr br q).1 + am_tm v (am_tVr br q).2 = am_sv L xs (am_g C 16) % 100000000 ∧
      (100 ≤ am_fu os v (4 * q) ∧ am_fu os v (4 * q) ≤ 400 ∧ 0 ≤ am_fu os v (4 * q + 1) ∧ 0 ≤ am_fu os v (4 * q + 2) ∧ am_fu os v (4 * q + 1) + am_fu os v (4 * q + 2) ≤ 60 ∧ 0 ≤ am_fu os v (4 * q + 3) ∧ am_fu os v (4 * q + 3) ≤ 100))
    (hK : k0 + 2 ≤ K) (hN : n0 + 9 ≤ N)
    (hB : ∀ (C' : List Int) (pat' : Nat), pat' < 16 → C'.length = 20 → am_Iv 39 (am_g C') → am_g C' 16 = am_g C 16 → am_g C' 17 = 0 → am_g C' 18 = 0 → am_g C' 19 = 0 → am_AC p l e (am_rm 30 K N) s m args below meth c Q s0 D b am_m113.2.2.1 C' 427 (am_tLB 0) (am_tH pat') (k0 + 2) (n0 + 9)) :
    am_AC p l e (am_rm 30 K N) s m args below meth c Q s0 D b am_m113.2.2.1 C 15 am_tLA (am_tH pat) k0 n0 := by
  have hlo : ∀ j, j < 20 → am_g (C ++ [am_sv L xs (am_g C 16), x1, x2, x3]) j = am_g C j := fun j hj => am_g_lo hC hj
  have h20 : am_g (C ++ [am_sv L xs (am_g C 16), x1, x2, x3]) 20 = am_sv L xs (am_g C 16) := am_g_hi hC 0
  have h21 : am_g (C ++ [am_sv L xs (am_g C 16), x1, x2, x3]) 21 = x1 := am_g_hi hC 1
  have h22 : am_g (C ++ [am_sv L xs (am_g C 16), x1, x2, x3]) 22 = x2 := am_g_hi hC 2
  have h23 : am_g (C ++ [am_sv L xs (am_g C 16), x1, x2, x3]) 23 = x3 := am_g_hi hC 3
  obtain ⟨a1, a2, a3⟩ := his _ hlo h21 h22 h23
  have hsv := am_sv_in L xs (am_g C 16)
  refine am_stepA hFr hbr hq hpat (am_bit_set hpat hq) hf hC hI (Z := [am_sv L xs (am_g C 16), x1, x2, x3]) ⟨by dsimp only; omega, by dsimp only; omega, hZ⟩ rfl a1 h20 (by rw [h20]; exact a2) (fun o ho => ?_) hK hN (fun C' k1 k2 => ?_)
  · rw [hos] at ho
    rcases List.mem_append.mp ho with h | h
    · have := hos4 o h
      omega
    · simp only [am_tz3, List.mem_cons, List.not_mem_nil, or_false] at h
      rcases h with rfl | rfl | rfl <;> decide
  · rw [hos] at k2
    obtain ⟨w1, w2, w3, w4, w5⟩ := am_IvA (w := am_g C') hq hI hlo k2 hos4 a3
    exact hB C' _ (am_bit_set hpat hq) k1 w1 w2 w3 w4 w5
end AMTR
