/-! ===== tuning: the first half of a round: the branch by the script's number (laid by wip/p46/gen44.py) ===== -/
section AMTA2
variable {p : Program} {l : Launch} {e : Env} {s : State} {m : MethodId} {args : Array Value} {below : List Frame} {meth : Method} {c : Code} {Q : State → Prop} {s0 : State} {D : va_G} {b L K N : Nat} {xs : Nat → Int32}
theorem am_roundA (hFr : am_Fr l p s m args meth c s0 D b L xs am_m113) {pat k0 n0 : Nat} (hpat : pat < 16) {C : List Int} (hC : C.length = 20) (hI : am_Iv 39 (am_g C)) (hK : k0 + 2 ≤ K) (hN : n0 + 9 ≤ N)
    (hB : ∀ (C' : List Int) (pat' : Nat), pat' < 16 → C'.length = 20 → am_Iv 39 (am_g C') → am_g C' 16 = am_g C 16 → am_g C' 17 = 0 → am_g C' 18 = 0 → am_g C' 19 = 0 → am_AC p l e (am_rm 30 K N) s m args below meth c Q s0 D b am_m113.2.2.1 C' 427 (am_tLB 0) (am_tH pat') (k0 + 2) (n0 + 9)) :
    am_AC p l e (am_rm 30 K N) s m args below meth c Q s0 D b am_m113.2.2.1 C 15 am_tLA (am_tH pat) k0 n0 := by
  obtain ⟨vv, hvv⟩ : ∃ z, z = am_sv L xs (am_g C 16) % 100000000 := ⟨_, rfl⟩
  have hr1 : 0 ≤ vv := by omega
  have hr2 : vv < 100000000 := by omega
  obtain ⟨q, hqe⟩ : ∃ q : Nat, (q : Int) = vv / 4 % 4 := ⟨(vv / 4 % 4).toNat, by omega⟩
  have hq : q < 4 := by omega
  obtain ⟨i0, i1, i2, i3, i4, i5, i6⟩ := hI.1 q hq
  cases hbit : Nat.beq (am_tbit pat q) 0 with
  | true =>
    rcases (show vv % 4 = 0 ∨ vv % 4 = 1 ∨ vv % 4 = 2 ∨ vv % 4 = 3 by omega) with hc | hc | hc | hc
    · skip
      refine am_branch hFr (br := 0) (q := q) (by decide) hq hpat (by rw [hbit]; rfl) hC hI (vv / 14448) (vv / 48 % 301) (vv / 16 % 3) (os := [(4 * q, 100, [(22, 1)]), (4 * q + 1, 0, []), (4 * q + 2, 0, []), (4 * q + 3, 0, [])]) rfl ?_ ?_ ?_ hK hN hB
      · intro o ho
        simp only [List.mem_cons, List.not_mem_nil, or_false] at ho
        rcases ho with rfl | rfl | rfl | rfl <;> exact ⟨by dsimp only; omega, by dsimp only; omega⟩
      · show am_bx [(0, 6922), (0, 300), (0, 2)] _
        refine ⟨?_, ?_, ?_, ?_, ?_, ?_, trivial⟩ <;> dsimp only <;> omega
      · intro v hv h21 h22 h23
        have e0 := hv (4 * q) (by omega)
        have e1 := hv (4 * q + 1) (by omega)
        have e2 := hv (4 * q + 2) (by omega)
        have e3 := hv (4 * q + 3) (by omega)
        refine ⟨?_, ?_, ?_⟩
        · intro o ho; cases ho
        · show (4 * (q : Int)) + am_tm v [(21, 14448), (22, 48), (23, 16)] = _
          rw [← hvv]
          simp only [am_tm_cons, am_tm_nil, h21, h22, h23]
          omega
        · simp (disch := omega) only [am_fu_cons, am_fu_nil, am_u1_eq, am_u1_ne, am_tm_cons, am_tm_nil, h22, h23]
          omega
    · rcases (show vv / 480 % 2 = 0 ∨ vv / 480 % 2 = 1 by omega) with ht | ht
      · skip
        refine am_branch hFr (br := 3) (q := q) (by decide) hq hpat (by rw [hbit]; rfl) hC hI (vv / 960) (vv / 16 % 30) 0 (os := []) rfl ?_ ?_ ?_ hK hN hB
        · intro o ho; cases ho
        · show am_bx [(0, 104167), (0, 29), (0, 0)] _
          refine ⟨?_, ?_, ?_, ?_, ?_, ?_, trivial⟩ <;> dsimp only <;> omega
        · intro v hv h21 h22 h23
          have e0 := hv (4 * q) (by omega)
          have e1 := hv (4 * q + 1) (by omega)
          have e2 := hv (4 * q + 2) (by omega)
          have e3 := hv (4 * q + 3) (by omega)
          refine ⟨?_, ?_, ?_⟩
          · intro o ho; cases ho
          · show (4 * (q : Int) + ((1 : Nat) : Int) + 480 * ((0 : Nat) : Int)) + am_tm v [(21, 960), (22, 16)] = _
            rw [← hvv]
            simp only [am_tm_cons, am_tm_nil, h21, h22, h23]
            omega
          · simp only [am_fu_nil]; omega
      · skip
        refine am_branch hFr (br := 4) (q := q) (by decide) hq hpat (by rw [hbit]; rfl) hC hI (vv / 960) (vv / 16 % 30) 0 (os := []) rfl ?_ ?_ ?_ hK hN hB
        · intro o ho; cases ho
        · show am_bx [(0, 104167), (0, 29), (0, 0)] _
          refine ⟨?_, ?_, ?_, ?_, ?_, ?_, trivial⟩ <;> dsimp only <;> omega
        · intro v hv h21 h22 h23
          have e0 := hv (4 * q) (by omega)
          have e1 := hv (4 * q + 1) (by omega)
          have e2 := hv (4 * q + 2) (by omega)
          have e3 := hv (4 * q + 3) (by omega)
          refine ⟨?_, ?_, ?_⟩
          · intro o ho; cases ho
          · show (4 * (q : Int) + ((1 : Nat) : Int) + 480 * ((1 : Nat) : Int)) + am_tm v [(21, 960), (22, 16)] = _
            rw [← hvv]
            simp only [am_tm_cons, am_tm_nil, h21, h22, h23]
            omega
          · simp only [am_fu_nil]; omega
    · rcases (show vv / 480 % 2 = 0 ∨ vv / 480 % 2 = 1 by omega) with ht | ht
      · skip
        refine am_branch hFr (br := 5) (q := q) (by decide) hq hpat (by rw [hbit]; rfl) hC hI (vv / 960) (vv / 16 % 30) 0 (os := []) rfl ?_ ?_ ?_ hK hN hB
        · intro o ho; cases ho
        · show am_bx [(0, 104167), (0, 29), (0, 0)] _
          refine ⟨?_, ?_, ?_, ?_, ?_, ?_, trivial⟩ <;> dsimp only <;> omega
        · intro v hv h21 h22 h23
          have e0 := hv (4 * q) (by omega)
          have e1 := hv (4 * q + 1) (by omega)
          have e2 := hv (4 * q + 2) (by omega)
          have e3 := hv (4 * q + 3) (by omega)
          refine ⟨?_, ?_, ?_⟩
          · intro o ho; cases ho
          · show (4 * (q : Int) + ((2 : Nat) : Int) + 480 * ((0 : Nat) : Int)) + am_tm v [(21, 960), (22, 16)] = _
            rw [← hvv]
            simp only [am_tm_cons, am_tm_nil, h21, h22, h23]
            omega
          · simp only [am_fu_nil]; omega
      · skip
        refine am_branch hFr (br := 6) (q := q) (by decide) hq hpat (by rw [hbit]; rfl) hC hI (vv / 960) (vv / 16 % 30) 0 (os := []) rfl ?_ ?_ ?_ hK hN hB
        · intro o ho; cases ho
        · show am_bx [(0, 104167), (0, 29), (0, 0)] _
          refine ⟨?_, ?_, ?_, ?_, ?_, ?_, trivial⟩ <;> dsimp only <;> omega
        · intro v hv h21 h22 h23
          have e0 := hv (4 * q) (by omega)
          have e1 := hv (4 * q + 1) (by omega)
          have e2 := hv (4 * q + 2) (by omega)
          have e3 := hv (4 * q + 3) (by omega)
          refine ⟨?_, ?_, ?_⟩
          · intro o ho; cases ho
          · show (4 * (q : Int) + ((2 : Nat) : Int) + 480 * ((1 : Nat) : Int)) + am_tm v [(21, 960), (22, 16)] = _
            rw [← hvv]
            simp only [am_tm_cons, am_tm_nil, h21, h22, h23]
            omega
          · simp only [am_fu_nil]; omega
    · skip
      refine am_branch hFr (br := 15) (q := q) (by decide) hq hpat (by rw [hbit]; rfl) hC hI (vv / 1616) (vv / 16 % 101) 0 (os := []) rfl ?_ ?_ ?_ hK hN hB
      · intro o ho; cases ho
      · show am_bx [(0, 61882), (0, 100), (0, 0)] _
        refine ⟨?_, ?_, ?_, ?_, ?_, ?_, trivial⟩ <;> dsimp only <;> omega
      · intro v hv h21 h22 h23
        have e0 := hv (4 * q) (by omega)
        have e1 := hv (4 * q + 1) (by omega)
        have e2 := hv (4 * q + 2) (by omega)
        have e3 := hv (4 * q + 3) (by omega)
        refine ⟨?_, ?_, ?_⟩
        · intro o ho; cases ho
        · show (4 * (q : Int) + 3) + am_tm v [(21, 1616), (22, 16)] = _
          rw [← hvv]
          simp only [am_tm_cons, am_tm_nil, h21, h22, h23]
          omega
        · simp only [am_fu_nil]; omega
  | false =>
    rcases (show vv % 4 = 0 ∨ vv % 4 = 1 ∨ vv % 4 = 2 ∨ vv % 4 = 3 by omega) with hc | hc | hc | hc
    · by_cases he : vv / 16 % 3 = 0
      · skip
        refine am_branch hFr (br := 1) (q := q) (by decide) hq hpat (by rw [hbit]; rfl) hC hI (vv / 14448) (vv / 48 % 301) (vv / 16 % 3) (os := [(4 * q, 100, [(22, 1)]), (4 * q + 1, 0, []), (4 * q + 2, 0, []), (4 * q + 3, 0, [])]) rfl ?_ ?_ ?_ hK hN hB
        · intro o ho
          simp only [List.mem_cons, List.not_mem_nil, or_false] at ho
          rcases ho with rfl | rfl | rfl | rfl <;> exact ⟨by dsimp only; omega, by dsimp only; omega⟩
        · show am_bx [(0, 6922), (0, 300), (0, 0)] _
          refine ⟨?_, ?_, ?_, ?_, ?_, ?_, trivial⟩ <;> dsimp only <;> omega
        · intro v hv h21 h22 h23
          have e0 := hv (4 * q) (by omega)
          have e1 := hv (4 * q + 1) (by omega)
          have e2 := hv (4 * q + 2) (by omega)
          have e3 := hv (4 * q + 3) (by omega)
          refine ⟨?_, ?_, ?_⟩
          · intro o ho; cases ho
          · show (4 * (q : Int)) + am_tm v [(21, 14448), (22, 48), (23, 16)] = _
            rw [← hvv]
            simp only [am_tm_cons, am_tm_nil, h21, h22, h23]
            omega
          · simp (disch := omega) only [am_fu_cons, am_fu_nil, am_u1_eq, am_u1_ne, am_tm_cons, am_tm_nil, h22, h23]
            omega
      · skip
        refine am_branch hFr (br := 2) (q := q) (by decide) hq hpat (by rw [hbit]; rfl) hC hI (vv / 14448) (vv / 48 % 301) (vv / 16 % 3) (os := []) rfl ?_ ?_ ?_ hK hN hB
        · intro o ho; cases ho
        · show am_bx [(0, 6922), (0, 300), (1, 2)] _
          refine ⟨?_, ?_, ?_, ?_, ?_, ?_, trivial⟩ <;> dsimp only <;> omega
        · intro v hv h21 h22 h23
          have e0 := hv (4 * q) (by omega)
          have e1 := hv (4 * q + 1) (by omega)
          have e2 := hv (4 * q + 2) (by omega)
          have e3 := hv (4 * q + 3) (by omega)
          refine ⟨?_, ?_, ?_⟩
          · intro o ho; cases ho
          · show (4 * (q : Int)) + am_tm v [(21, 14448), (22, 48), (23, 16)] = _
            rw [← hvv]
            simp only [am_tm_cons, am_tm_nil, h21, h22, h23]
            omega
          · simp only [am_fu_nil]; omega
    · by_cases hs : 0 ≤ 59 - am_g C (4 * q + 1) - vv / 16 % 30 - am_g C (4 * q + 2)
      · rcases (show vv / 480 % 2 = 0 ∨ vv / 480 % 2 = 1 by omega) with ht | ht
        · skip
          refine am_branch hFr (br := 7) (q := q) (by decide) hq hpat (by rw [hbit]; rfl) hC hI (vv / 960) (vv / 16 % 30) (59 - am_g C (4 * q + 1) - vv / 16 % 30 - am_g C (4 * q + 2)) (os := [(4 * q + 2, 59, [(4 * q + 1, -1), (22, -1), (23, -1)]), (4 * q + 1, 1, [(4 * q + 1, 1), (22, 1)])]) rfl ?_ ?_ ?_ hK hN hB
          · intro o ho
            simp only [List.mem_cons, List.not_mem_nil, or_false] at ho
            rcases ho with rfl | rfl <;> exact ⟨by dsimp only; omega, by dsimp only; omega⟩
          · show am_bx [(0, 104167), (0, 29), (0, 59)] _
            refine ⟨?_, ?_, ?_, ?_, ?_, ?_, trivial⟩ <;> dsimp only <;> omega
          · intro v hv h21 h22 h23
            have e0 := hv (4 * q) (by omega)
            have e1 := hv (4 * q + 1) (by omega)
            have e2 := hv (4 * q + 2) (by omega)
            have e3 := hv (4 * q + 3) (by omega)
            refine ⟨?_, ?_, ?_⟩
            · intro o ho
              have ho : o ∈ ([(4 * q + 2, 59, [(4 * q + 1, -1), (22, -1), (23, -1)])] : am_Ov) := ho
              cases List.mem_singleton.mp ho
              refine ⟨by dsimp only; omega, ?_⟩
              simp only [am_tm_cons, am_tm_nil, h22, h23]
              omega
            · show (4 * (q : Int) + ((1 : Nat) : Int) + 480 * ((0 : Nat) : Int)) + am_tm v [(21, 960), (22, 16)] = _
              rw [← hvv]
              simp only [am_tm_cons, am_tm_nil, h21, h22, h23]
              omega
            · simp (disch := omega) only [am_fu_cons, am_fu_nil, am_u1_eq, am_u1_ne, am_tm_cons, am_tm_nil, h22, h23]
              omega
        · skip
          refine am_branch hFr (br := 8) (q := q) (by decide) hq hpat (by rw [hbit]; rfl) hC hI (vv / 960) (vv / 16 % 30) (59 - am_g C (4 * q + 1) - vv / 16 % 30 - am_g C (4 * q + 2)) (os := [(4 * q + 2, 60, [(4 * q + 1, -1), (23, -1)])]) rfl ?_ ?_ ?_ hK hN hB
          · intro o ho
            simp only [List.mem_cons, List.not_mem_nil, or_false] at ho
            rcases ho with rfl <;> exact ⟨by dsimp only; omega, by dsimp only; omega⟩
          · show am_bx [(0, 104167), (0, 29), (0, 59)] _
            refine ⟨?_, ?_, ?_, ?_, ?_, ?_, trivial⟩ <;> dsimp only <;> omega
          · intro v hv h21 h22 h23
            have e0 := hv (4 * q) (by omega)
            have e1 := hv (4 * q + 1) (by omega)
            have e2 := hv (4 * q + 2) (by omega)
            have e3 := hv (4 * q + 3) (by omega)
            refine ⟨?_, ?_, ?_⟩
            · intro o ho
              have ho : o ∈ ([(4 * q + 2, 59, [(4 * q + 1, -1), (22, -1), (23, -1)])] : am_Ov) := ho
              cases List.mem_singleton.mp ho
              refine ⟨by dsimp only; omega, ?_⟩
              simp only [am_tm_cons, am_tm_nil, h22, h23]
              omega
            · show (4 * (q : Int) + ((1 : Nat) : Int) + 480 * ((1 : Nat) : Int)) + am_tm v [(21, 960), (22, 16)] = _
              rw [← hvv]
              simp only [am_tm_cons, am_tm_nil, h21, h22, h23]
              omega
            · simp (disch := omega) only [am_fu_cons, am_fu_nil, am_u1_eq, am_u1_ne, am_tm_cons, am_tm_nil, h22, h23]
              omega
      · rcases (show vv / 480 % 2 = 0 ∨ vv / 480 % 2 = 1 by omega) with ht | ht
        · skip
          refine am_branch hFr (br := 11) (q := q) (by decide) hq hpat (by rw [hbit]; rfl) hC hI (vv / 960) (vv / 16 % 30) (am_g C (4 * q + 2) - 60 + am_g C (4 * q + 1) + vv / 16 % 30) (os := [(4 * q + 2, 60, [(4 * q + 1, -1), (22, -1), (23, 1)])]) rfl ?_ ?_ ?_ hK hN hB
          · intro o ho
            simp only [List.mem_cons, List.not_mem_nil, or_false] at ho
            rcases ho with rfl <;> exact ⟨by dsimp only; omega, by dsimp only; omega⟩
          · show am_bx [(0, 104167), (0, 29), (0, 59)] _
            refine ⟨?_, ?_, ?_, ?_, ?_, ?_, trivial⟩ <;> dsimp only <;> omega
          · intro v hv h21 h22 h23
            have e0 := hv (4 * q) (by omega)
            have e1 := hv (4 * q + 1) (by omega)
            have e2 := hv (4 * q + 2) (by omega)
            have e3 := hv (4 * q + 3) (by omega)
            refine ⟨?_, ?_, ?_⟩
            · intro o ho
              have ho : o ∈ ([(4 * q + 2, 60, [(4 * q + 1, -1), (22, -1), (23, 1)])] : am_Ov) := ho
              cases List.mem_singleton.mp ho
              refine ⟨by dsimp only; omega, ?_⟩
              simp only [am_tm_cons, am_tm_nil, h22, h23]
              omega
            · show (4 * (q : Int) + ((1 : Nat) : Int) + 480 * ((0 : Nat) : Int)) + am_tm v [(21, 960), (22, 16)] = _
              rw [← hvv]
              simp only [am_tm_cons, am_tm_nil, h21, h22, h23]
              omega
            · simp (disch := omega) only [am_fu_cons, am_fu_nil, am_u1_eq, am_u1_ne, am_tm_cons, am_tm_nil, h22, h23]
              omega
        · skip
          refine am_branch hFr (br := 12) (q := q) (by decide) hq hpat (by rw [hbit]; rfl) hC hI (vv / 960) (vv / 16 % 30) (am_g C (4 * q + 2) - 60 + am_g C (4 * q + 1) + vv / 16 % 30) (os := [(4 * q + 2, 60, [(4 * q + 1, -1), (22, -1), (23, 1)])]) rfl ?_ ?_ ?_ hK hN hB
          · intro o ho
            simp only [List.mem_cons, List.not_mem_nil, or_false] at ho
            rcases ho with rfl <;> exact ⟨by dsimp only; omega, by dsimp only; omega⟩
          · show am_bx [(0, 104167), (0, 29), (0, 59)] _
            refine ⟨?_, ?_, ?_, ?_, ?_, ?_, trivial⟩ <;> dsimp only <;> omega
          · intro v hv h21 h22 h23
            have e0 := hv (4 * q) (by omega)
            have e1 := hv (4 * q + 1) (by omega)
            have e2 := hv (4 * q + 2) (by omega)
            have e3 := hv (4 * q + 3) (by omega)
            refine ⟨?_, ?_, ?_⟩
            · intro o ho
              have ho : o ∈ ([(4 * q + 2, 60, [(4 * q + 1, -1), (22, -1), (23, 1)])] : am_Ov) := ho
              cases List.mem_singleton.mp ho
              refine ⟨by dsimp only; omega, ?_⟩
              simp only [am_tm_cons, am_tm_nil, h22, h23]
              omega
            · show (4 * (q : Int) + ((1 : Nat) : Int) + 480 * ((1 : Nat) : Int)) + am_tm v [(21, 960), (22, 16)] = _
              rw [← hvv]
              simp only [am_tm_cons, am_tm_nil, h21, h22, h23]
              omega
            · simp (disch := omega) only [am_fu_cons, am_fu_nil, am_u1_eq, am_u1_ne, am_tm_cons, am_tm_nil, h22, h23]
              omega
    · by_cases hs : 0 ≤ 59 - am_g C (4 * q + 1) - vv / 16 % 30 - am_g C (4 * q + 2)
      · rcases (show vv / 480 % 2 = 0 ∨ vv / 480 % 2 = 1 by omega) with ht | ht
        · skip
          refine am_branch hFr (br := 9) (q := q) (by decide) hq hpat (by rw [hbit]; rfl) hC hI (vv / 960) (vv / 16 % 30) (59 - am_g C (4 * q + 1) - vv / 16 % 30 - am_g C (4 * q + 2)) (os := [(4 * q + 2, 59, [(4 * q + 1, -1), (22, -1), (23, -1)]), (4 * q + 1, 1, [(4 * q + 1, 1), (22, 1)])]) rfl ?_ ?_ ?_ hK hN hB
          · intro o ho
            simp only [List.mem_cons, List.not_mem_nil, or_false] at ho
            rcases ho with rfl | rfl <;> exact ⟨by dsimp only; omega, by dsimp only; omega⟩
          · show am_bx [(0, 104167), (0, 29), (0, 59)] _
            refine ⟨?_, ?_, ?_, ?_, ?_, ?_, trivial⟩ <;> dsimp only <;> omega
          · intro v hv h21 h22 h23
            have e0 := hv (4 * q) (by omega)
            have e1 := hv (4 * q + 1) (by omega)
            have e2 := hv (4 * q + 2) (by omega)
            have e3 := hv (4 * q + 3) (by omega)
            refine ⟨?_, ?_, ?_⟩
            · intro o ho
              have ho : o ∈ ([(4 * q + 2, 59, [(4 * q + 1, -1), (22, -1), (23, -1)])] : am_Ov) := ho
              cases List.mem_singleton.mp ho
              refine ⟨by dsimp only; omega, ?_⟩
              simp only [am_tm_cons, am_tm_nil, h22, h23]
              omega
            · show (4 * (q : Int) + ((2 : Nat) : Int) + 480 * ((0 : Nat) : Int)) + am_tm v [(21, 960), (22, 16)] = _
              rw [← hvv]
              simp only [am_tm_cons, am_tm_nil, h21, h22, h23]
              omega
            · simp (disch := omega) only [am_fu_cons, am_fu_nil, am_u1_eq, am_u1_ne, am_tm_cons, am_tm_nil, h22, h23]
              omega
        · skip
          refine am_branch hFr (br := 10) (q := q) (by decide) hq hpat (by rw [hbit]; rfl) hC hI (vv / 960) (vv / 16 % 30) (59 - am_g C (4 * q + 1) - vv / 16 % 30 - am_g C (4 * q + 2)) (os := [(4 * q + 2, 60, [(4 * q + 1, -1), (23, -1)])]) rfl ?_ ?_ ?_ hK hN hB
          · intro o ho
            simp only [List.mem_cons, List.not_mem_nil, or_false] at ho
            rcases ho with rfl <;> exact ⟨by dsimp only; omega, by dsimp only; omega⟩
          · show am_bx [(0, 104167), (0, 29), (0, 59)] _
            refine ⟨?_, ?_, ?_, ?_, ?_, ?_, trivial⟩ <;> dsimp only <;> omega
          · intro v hv h21 h22 h23
            have e0 := hv (4 * q) (by omega)
            have e1 := hv (4 * q + 1) (by omega)
            have e2 := hv (4 * q + 2) (by omega)
            have e3 := hv (4 * q + 3) (by omega)
            refine ⟨?_, ?_, ?_⟩
            · intro o ho
              have ho : o ∈ ([(4 * q + 2, 59, [(4 * q + 1, -1), (22, -1), (23, -1)])] : am_Ov) := ho
              cases List.mem_singleton.mp ho
              refine ⟨by dsimp only; omega, ?_⟩
              simp only [am_tm_cons, am_tm_nil, h22, h23]
              omega
            · show (4 * (q : Int) + ((2 : Nat) : Int) + 480 * ((1 : Nat) : Int)) + am_tm v [(21, 960), (22, 16)] = _
              rw [← hvv]
              simp only [am_tm_cons, am_tm_nil, h21, h22, h23]
              omega
            · simp (disch := omega) only [am_fu_cons, am_fu_nil, am_u1_eq, am_u1_ne, am_tm_cons, am_tm_nil, h22, h23]
              omega
      · rcases (show vv / 480 % 2 = 0 ∨ vv / 480 % 2 = 1 by omega) with ht | ht
        · skip
          refine am_branch hFr (br := 13) (q := q) (by decide) hq hpat (by rw [hbit]; rfl) hC hI (vv / 960) (vv / 16 % 30) (am_g C (4 * q + 2) - 60 + am_g C (4 * q + 1) + vv / 16 % 30) (os := [(4 * q + 2, 60, [(4 * q + 1, -1), (22, -1), (23, 1)])]) rfl ?_ ?_ ?_ hK hN hB
          · intro o ho
            simp only [List.mem_cons, List.not_mem_nil, or_false] at ho
            rcases ho with rfl <;> exact ⟨by dsimp only; omega, by dsimp only; omega⟩
          · show am_bx [(0, 104167), (0, 29), (0, 59)] _
            refine ⟨?_, ?_, ?_, ?_, ?_, ?_, trivial⟩ <;> dsimp only <;> omega
          · intro v hv h21 h22 h23
            have e0 := hv (4 * q) (by omega)
            have e1 := hv (4 * q + 1) (by omega)
            have e2 := hv (4 * q + 2) (by omega)
            have e3 := hv (4 * q + 3) (by omega)
            refine ⟨?_, ?_, ?_⟩
            · intro o ho
              have ho : o ∈ ([(4 * q + 2, 60, [(4 * q + 1, -1), (22, -1), (23, 1)])] : am_Ov) := ho
              cases List.mem_singleton.mp ho
              refine ⟨by dsimp only; omega, ?_⟩
              simp only [am_tm_cons, am_tm_nil, h22, h23]
              omega
            · show (4 * (q : Int) + ((2 : Nat) : Int) + 480 * ((0 : Nat) : Int)) + am_tm v [(21, 960), (22, 16)] = _
              rw [← hvv]
              simp only [am_tm_cons, am_tm_nil, h21, h22, h23]
              omega
            · simp (disch := omega) only [am_fu_cons, am_fu_nil, am_u1_eq, am_u1_ne, am_tm_cons, am_tm_nil, h22, h23]
              omega
        · skip
          refine am_branch hFr (br := 14) (q := q) (by decide) hq hpat (by rw [hbit]; rfl) hC hI (vv / 960) (vv / 16 % 30) (am_g C (4 * q + 2) - 60 + am_g C (4 * q + 1) + vv / 16 % 30) (os := [(4 * q + 2, 60, [(4 * q + 1, -1), (22, -1), (23, 1)])]) rfl ?_ ?_ ?_ hK hN hB
          · intro o ho
            simp only [List.mem_cons, List.not_mem_nil, or_false] at ho
            rcases ho with rfl <;> exact ⟨by dsimp only; omega, by dsimp only; omega⟩
          · show am_bx [(0, 104167), (0, 29), (0, 59)] _
            refine ⟨?_, ?_, ?_, ?_, ?_, ?_, trivial⟩ <;> dsimp only <;> omega
          · intro v hv h21 h22 h23
            have e0 := hv (4 * q) (by omega)
            have e1 := hv (4 * q + 1) (by omega)
            have e2 := hv (4 * q + 2) (by omega)
            have e3 := hv (4 * q + 3) (by omega)
            refine ⟨?_, ?_, ?_⟩
            · intro o ho
              have ho : o ∈ ([(4 * q + 2, 60, [(4 * q + 1, -1), (22, -1), (23, 1)])] : am_Ov) := ho
              cases List.mem_singleton.mp ho
              refine ⟨by dsimp only; omega, ?_⟩
              simp only [am_tm_cons, am_tm_nil, h22, h23]
              omega
            · show (4 * (q : Int) + ((2 : Nat) : Int) + 480 * ((1 : Nat) : Int)) + am_tm v [(21, 960), (22, 16)] = _
              rw [← hvv]
              simp only [am_tm_cons, am_tm_nil, h21, h22, h23]
              omega
            · simp (disch := omega) only [am_fu_cons, am_fu_nil, am_u1_eq, am_u1_ne, am_tm_cons, am_tm_nil, h22, h23]
              omega
    · rcases (show (am_g C (4 * q + 3) - 50 + vv / 16 % 101 < 0) ∨ (100 < am_g C (4 * q + 3) - 50 + vv / 16 % 101) ∨ (0 ≤ am_g C (4 * q + 3) - 50 + vv / 16 % 101 ∧ am_g C (4 * q + 3) - 50 + vv / 16 % 101 ≤ 100) by omega) with hl | hl | hl
      · skip
        refine am_branch hFr (br := 17) (q := q) (by decide) hq hpat (by rw [hbit]; rfl) hC hI (vv / 1616) (vv / 16 % 101) (am_g C (4 * q + 3) - 50 + vv / 16 % 101) (os := [(4 * q + 3, 50, [(22, -1), (23, 1)])]) rfl ?_ ?_ ?_ hK hN hB
        · intro o ho
          simp only [List.mem_cons, List.not_mem_nil, or_false] at ho
          rcases ho with rfl <;> exact ⟨by dsimp only; omega, by dsimp only; omega⟩
        · show am_bx [(0, 61882), (0, 100), (-50, -1)] _
          refine ⟨?_, ?_, ?_, ?_, ?_, ?_, trivial⟩ <;> dsimp only <;> omega
        · intro v hv h21 h22 h23
          have e0 := hv (4 * q) (by omega)
          have e1 := hv (4 * q + 1) (by omega)
          have e2 := hv (4 * q + 2) (by omega)
          have e3 := hv (4 * q + 3) (by omega)
          refine ⟨?_, ?_, ?_⟩
          · intro o ho
            have ho : o ∈ ([(4 * q + 3, 50, [(22, -1), (23, 1)])] : am_Ov) := ho
            cases List.mem_singleton.mp ho
            refine ⟨by dsimp only; omega, ?_⟩
            simp only [am_tm_cons, am_tm_nil, h22, h23]
            omega
          · show (4 * (q : Int) + 3) + am_tm v [(21, 1616), (22, 16)] = _
            rw [← hvv]
            simp only [am_tm_cons, am_tm_nil, h21, h22, h23]
            omega
          · simp (disch := omega) only [am_fu_cons, am_fu_nil, am_u1_eq, am_u1_ne, am_tm_cons, am_tm_nil, h22, h23]
            omega
      · skip
        refine am_branch hFr (br := 18) (q := q) (by decide) hq hpat (by rw [hbit]; rfl) hC hI (vv / 1616) (vv / 16 % 101) (am_g C (4 * q + 3) - 50 + vv / 16 % 101) (os := [(4 * q + 3, 50, [(22, -1), (23, 1)])]) rfl ?_ ?_ ?_ hK hN hB
        · intro o ho
          simp only [List.mem_cons, List.not_mem_nil, or_false] at ho
          rcases ho with rfl <;> exact ⟨by dsimp only; omega, by dsimp only; omega⟩
        · show am_bx [(0, 61882), (0, 100), (101, 150)] _
          refine ⟨?_, ?_, ?_, ?_, ?_, ?_, trivial⟩ <;> dsimp only <;> omega
        · intro v hv h21 h22 h23
          have e0 := hv (4 * q) (by omega)
          have e1 := hv (4 * q + 1) (by omega)
          have e2 := hv (4 * q + 2) (by omega)
          have e3 := hv (4 * q + 3) (by omega)
          refine ⟨?_, ?_, ?_⟩
          · intro o ho
            have ho : o ∈ ([(4 * q + 3, 50, [(22, -1), (23, 1)])] : am_Ov) := ho
            cases List.mem_singleton.mp ho
            refine ⟨by dsimp only; omega, ?_⟩
            simp only [am_tm_cons, am_tm_nil, h22, h23]
            omega
          · show (4 * (q : Int) + 3) + am_tm v [(21, 1616), (22, 16)] = _
            rw [← hvv]
            simp only [am_tm_cons, am_tm_nil, h21, h22, h23]
            omega
          · simp (disch := omega) only [am_fu_cons, am_fu_nil, am_u1_eq, am_u1_ne, am_tm_cons, am_tm_nil, h22, h23]
            omega
      · skip
        refine am_branch hFr (br := 16) (q := q) (by decide) hq hpat (by rw [hbit]; rfl) hC hI (vv / 1616) (vv / 16 % 101) (am_g C (4 * q + 3) - 50 + vv / 16 % 101) (os := [(4 * q + 3, 0, [(23, 1)])]) rfl ?_ ?_ ?_ hK hN hB
        · intro o ho
          simp only [List.mem_cons, List.not_mem_nil, or_false] at ho
          rcases ho with rfl <;> exact ⟨by dsimp only; omega, by dsimp only; omega⟩
        · show am_bx [(0, 61882), (0, 100), (0, 100)] _
          refine ⟨?_, ?_, ?_, ?_, ?_, ?_, trivial⟩ <;> dsimp only <;> omega
        · intro v hv h21 h22 h23
          have e0 := hv (4 * q) (by omega)
          have e1 := hv (4 * q + 1) (by omega)
          have e2 := hv (4 * q + 2) (by omega)
          have e3 := hv (4 * q + 3) (by omega)
          refine ⟨?_, ?_, ?_⟩
          · intro o ho
            have ho : o ∈ ([(4 * q + 3, 50, [(22, -1), (23, 1)])] : am_Ov) := ho
            cases List.mem_singleton.mp ho
            refine ⟨by dsimp only; omega, ?_⟩
            simp only [am_tm_cons, am_tm_nil, h22, h23]
            omega
          · show (4 * (q : Int) + 3) + am_tm v [(21, 1616), (22, 16)] = _
            rw [← hvv]
            simp only [am_tm_cons, am_tm_nil, h21, h22, h23]
            omega
          · simp (disch := omega) only [am_fu_cons, am_fu_nil, am_u1_eq, am_u1_ne, am_tm_cons, am_tm_nil, h22, h23]
            omega
end AMTA2
