/-! ===== tuning: the end of a round, the last round, the whole ===== -/
theorem am_tm_app (v : Nat → Int) : ∀ a b : List (Nat × Int), am_tm v (a ++ b) = am_tm v a + am_tm v b
  | [], b => by simp [am_tm_nil]
  | t :: a, b => by
    rw [List.cons_append, am_tm_cons, am_tm_cons, am_tm_app v a b]
    omega
theorem am_tckC {c0 c1 c2 c3 : Nat} (h0 : c0 < 3) (h1 : c1 < 3) (h2 : c2 < 3) (h3 : c3 < 3) : am_ckC (am_tC4 c0 c1 c2 c3) = true := by
  have key : ∀ c', (List.range 3).all (fun c1 => (List.range 3).all (fun c2 => (List.range 3).all (fun c3 => am_ckC (am_tC4 c' c1 c2 c3)))) = true → am_ckC (am_tC4 c' c1 c2 c3) = true := fun c' h =>
    List.all_eq_true.mp (List.all_eq_true.mp (List.all_eq_true.mp h c1 (List.mem_range.mpr h1)) c2 (List.mem_range.mpr h2)) c3 (List.mem_range.mpr h3)
  match c0, h0 with
  | 0, _ => exact key 0 am_tckC0
  | 1, _ => exact key 1 am_tckC1
  | 2, _ => exact key 2 am_tckC2
  | n + 3, h => exact absurd h (by omega)
/-- a tooth's state at the end of a round -/
def am_cs (pat : Nat) (v : Nat → Int) (k : Nat) : Nat := if am_tbit pat k = 0 then 0 else if am_far v k ≤ 5 then 1 else 2
def am_cM (pat : Nat) (v : Nat → Int) (k : Nat) : Int := if am_tbit pat k = 0 then 0 else (am_pv v k + 50) / 100
def am_cX (pat : Nat) (v : Nat → Int) (k : Nat) : Int := if am_tbit pat k = 0 then 0 else am_pv v k - 100 * ((am_pv v k + 50) / 100)
def am_cF (pat : Nat) (v : Nat → Int) (k : Nat) : Int := if am_tbit pat k = 0 then 0 else am_far v k
theorem am_cs_lt (pat : Nat) (v : Nat → Int) (k : Nat) : am_cs pat v k < 3 := by
  unfold am_cs
  split
  · omega
  · split <;> omega
theorem am_cs_0 {pat : Nat} {v : Nat → Int} {k : Nat} : am_cs pat v k = 0 ↔ am_tbit pat k = 0 := by
  unfold am_cs
  split
  · simp [*]
  · split <;> simp [*]
theorem am_cs_pat {pat : Nat} (hpat : pat < 16) (v : Nat → Int) : am_tpat (am_tC4 (am_cs pat v 0) (am_cs pat v 1) (am_cs pat v 2) (am_cs pat v 3)) = pat := by
  have hb : ∀ k, (bif Nat.beq (am_cs pat v k) 0 then 0 else 2 ^ k) = (bif Nat.beq (am_tbit pat k) 0 then 0 else 2 ^ k) := fun k => by
    by_cases h : am_tbit pat k = 0
    · rw [am_cs_0.mpr h, h]
    · have h2 : ¬ am_cs pat v k = 0 := fun q => h (am_cs_0.mp q)
      have e1 : Nat.beq (am_cs pat v k) 0 = false := by
        cases q : Nat.beq (am_cs pat v k) 0 with
        | false => rfl
        | true => exact absurd (Nat.eq_of_beq_eq_true q) h2
      have e2 : Nat.beq (am_tbit pat k) 0 = false := by
        cases q : Nat.beq (am_tbit pat k) 0 with
        | false => rfl
        | true => exact absurd (Nat.eq_of_beq_eq_true q) h
      rw [e1, e2]
  show (bif Nat.beq (am_cs pat v 0) 0 then 0 else 2 ^ 0) + ((bif Nat.beq (am_cs pat v 1) 0 then 0 else 2 ^ 1) + ((bif Nat.beq (am_cs pat v 2) 0 then 0 else 2 ^ 2) + ((bif Nat.beq (am_cs pat v 3) 0 then 0 else 2 ^ 3) + 0))) = pat
  rw [hb 0, hb 1, hb 2, hb 3]
  have : ∀ pat, pat < 16 → (bif Nat.beq (am_tbit pat 0) 0 then 0 else 2 ^ 0) + ((bif Nat.beq (am_tbit pat 1) 0 then 0 else 2 ^ 1) + ((bif Nat.beq (am_tbit pat 2) 0 then 0 else 2 ^ 2) + ((bif Nat.beq (am_tbit pat 3) 0 then 0 else 2 ^ 3) + 0))) = pat := by decide +kernel
  exact this pat hpat
theorem am_beq_f {a b : Nat} (h : ¬ a = b) : Nat.beq a b = false := by
  cases q : Nat.beq a b with
  | false => rfl
  | true => exact absurd (Nat.eq_of_beq_eq_true q) h
/-- a tooth's part of the sums -/
theorem am_cs_1 (pat : Nat) (v : Nat → Int) (k : Nat) : (((bif Nat.beq (am_cs pat v k) 1 then 1 else 0) : Nat) : Int) = (if am_tbit pat k = 0 then 0 else if am_far v k ≤ 5 then 1 else 0) ∧ (((bif Nat.beq (am_cs pat v k) 0 then 0 else 1) : Nat) : Int) = (if am_tbit pat k = 0 then 0 else 1) := by
  unfold am_cs
  by_cases h : am_tbit pat k = 0
  · simp only [h, if_true]; exact ⟨rfl, rfl⟩
  · simp only [h, if_false]
    by_cases h5 : am_far v k ≤ 5
    · simp only [h5, if_true]; exact ⟨rfl, rfl⟩
    · simp only [h5, if_false]; exact ⟨rfl, rfl⟩
theorem am_cF_in {pat : Nat} {v : Nat → Int} (hI : ∀ k : Nat, k < 4 → 100 ≤ v (4 * k) ∧ v (4 * k) ≤ 400 ∧ 0 ≤ v (4 * k + 1) ∧ 0 ≤ v (4 * k + 2) ∧ v (4 * k + 1) + v (4 * k + 2) ≤ 60 ∧ 0 ≤ v (4 * k + 3) ∧ v (4 * k + 3) ≤ 100) {k : Nat} (hk : k < 4) : (0 ≤ am_cM pat v k ∧ am_cM pat v k ≤ 200) ∧ (-50 ≤ am_cX pat v k ∧ am_cX pat v k ≤ 49) ∧ ((am_tCZ (am_cs pat v k)).1 ≤ am_cF pat v k ∧ am_cF pat v k ≤ (am_tCZ (am_cs pat v k)).2) := by
  obtain ⟨i0, i1, i2, i3, i4, i5, i6⟩ := hI k hk
  have hf := am_far_in v k
  have hp : am_pv v k = 10000 - 20 * v (4 * k) + 4 * v (4 * k + 1) - 6 * v (4 * k + 2) - 3 * v (4 * k + 3) := rfl
  unfold am_cM am_cX am_cF am_cs
  by_cases h : am_tbit pat k = 0
  · simp only [h, if_true]
    exact ⟨by omega, by omega, by decide⟩
  · simp only [h, if_false]
    refine ⟨by omega, by omega, ?_⟩
    by_cases h5 : am_far v k ≤ 5
    · simp only [h5, if_true]
      show 0 ≤ _ ∧ _ ≤ 5
      omega
    · simp only [h5, if_false]
      show 6 ≤ _ ∧ _ ≤ 50
      omega
section AMTC
variable {p : Program} {l : Launch} {e : Env} {s : State} {m : MethodId} {args : Array Value} {below : List Frame} {meth : Method} {c : Code} {Q : State → Prop} {s0 : State} {D : va_G} {b L K N : Nat} {xs : Nat → Int32}
theorem am_roundC (hFr : am_Fr l p s m args meth c s0 D b L xs am_m113) {pat k0 n0 : Nat} (hpat : pat < 16) {C : List Int} (hC : C.length = 20) (hI : am_IB pat 4 C) (hK : k0 ≤ K) (hN : n0 ≤ N)
    (hB : ∀ C' : List Int, C'.length = 20 → am_Iv 40 (am_g C') → am_g C' 16 = am_g C 16 + 1 → am_AC p l e (am_rm 30 K N) s m args below meth c Q s0 D b am_m113.2.2.1 C' 15 am_tLA (am_tH pat) k0 n0) :
    am_AC p l e (am_rm 30 K N) s m args below meth c Q s0 D b am_m113.2.2.1 C 427 (am_tLB 4) (am_tH pat) k0 n0 := by
  obtain ⟨hG, hSc, hF, htab, hnm⟩ := hFr
  obtain ⟨hIv, b1, b2, b3⟩ := hI
  generalize hv : am_g C = v at *
  have hck := am_tckC (am_cs_lt pat v 0) (am_cs_lt pat v 1) (am_cs_lt pat v 2) (am_cs_lt pat v 3)
  unfold am_ckC at hck
  rw [am_cs_pat hpat v] at hck
  obtain ⟨Z, hZe⟩ : ∃ Z : List Int, Z = [am_cM pat v 0, am_cX pat v 0, am_cF pat v 0, am_cM pat v 1, am_cX pat v 1, am_cF pat v 1, am_cM pat v 2, am_cX pat v 2, am_cF pat v 2, am_cM pat v 3, am_cX pat v 3, am_cF pat v 3] := ⟨_, rfl⟩
  have gl : ∀ i, i < 20 → am_g (C ++ Z) i = v i := fun i hi => by rw [am_g_lo hC hi, hv]
  have gz : ∀ k, k < 4 → am_g (C ++ Z) (20 + 3 * k) = am_cM pat v k ∧ am_g (C ++ Z) (21 + 3 * k) = am_cX pat v k ∧ am_g (C ++ Z) (22 + 3 * k) = am_cF pat v k := fun k hk => by
    rw [am_g_hi hC, show 21 + 3 * k = 20 + (1 + 3 * k) by omega, show 22 + 3 * k = 20 + (2 + 3 * k) by omega, am_g_hi hC, am_g_hi hC, hZe]
    match k, hk with
    | 0, _ => exact ⟨rfl, rfl, rfl⟩
    | 1, _ => exact ⟨rfl, rfl, rfl⟩
    | 2, _ => exact ⟨rfl, rfl, rfl⟩
    | 3, _ => exact ⟨rfl, rfl, rfl⟩
    | z + 4, h => exact absurd h (by omega)
  have hin := fun k hk => am_cF_in (pat := pat) (v := v) hIv.1 (k := k) hk
  intro Z0
  refine am_At_scr (Z := Z) hC ((am_tOKb hpat).2.2 4 (by omega)) ?_
  have hbxZ : am_bx [(0, 200), (-50, 49), am_tCZ (am_cs pat v 0), (0, 200), (-50, 49), am_tCZ (am_cs pat v 1), (0, 200), (-50, 49), am_tCZ (am_cs pat v 2), (0, 200), (-50, 49), am_tCZ (am_cs pat v 3)] Z := by
    rw [hZe]
    obtain ⟨⟨a1, a2⟩, ⟨a3, a4⟩, a5, a6⟩ := hin 0 (by omega)
    obtain ⟨⟨d1, d2⟩, ⟨d3, d4⟩, d5, d6⟩ := hin 1 (by omega)
    obtain ⟨⟨f1, f2⟩, ⟨f3, f4⟩, f5, f6⟩ := hin 2 (by omega)
    obtain ⟨⟨h1, h2⟩, ⟨h3, h4⟩, h5, h6⟩ := hin 3 (by omega)
    exact ⟨a1, a2, a3, a4, a5, a6, d1, d2, d3, d4, d5, d6, f1, f2, f3, f4, f5, f6, h1, h2, h3, h4, h5, h6, trivial⟩
  have hmem : ∀ q ∈ am_tC4 (am_cs pat v 0) (am_cs pat v 1) (am_cs pat v 2) (am_cs pat v 3), ∃ k, k < 4 ∧ q = (k, am_cs pat v k) := fun q hq => by
    simp only [am_tC4, List.mem_cons, List.not_mem_nil, or_false] at hq
    rcases hq with rfl | rfl | rfl | rfl
    · exact ⟨0, by omega, rfl⟩
    · exact ⟨1, by omega, rfl⟩
    · exact ⟨2, by omega, rfl⟩
    · exact ⟨3, by omega, rfl⟩
  have hA : am_kn (am_tAC (am_tC4 (am_cs pat v 0) (am_cs pat v 1) (am_cs pat v 2) (am_cs pat v 3))) (C ++ Z) := by
    refine ⟨am_bx_append (by rw [hC]; rfl) (am_Iv_bx hC (by rw [hv]; exact hIv)) hbxZ, fun e9 he => ?_, fun e9 he => ?_⟩
    · obtain ⟨q, hq, he⟩ := List.mem_flatMap.mp he
      obtain ⟨k, hk, rfl⟩ := hmem q hq
      obtain ⟨z1, z2, z3⟩ := gz k hk
      have l0 := gl (4 * k) (by omega)
      have l1 := gl (4 * k + 1) (by omega)
      have l2 := gl (4 * k + 2) (by omega)
      have l3 := gl (4 * k + 3) (by omega)
      have hp : am_pv v k = 10000 - 20 * v (4 * k) + 4 * v (4 * k + 1) - 6 * v (4 * k + 2) - 3 * v (4 * k + 3) := rfl
      by_cases h0 : am_tbit pat k = 0
      · dsimp only at he
        rw [am_cs_0.mpr h0] at he
        cases he
      · dsimp only at he
        rw [am_beq_f (fun q => h0 (am_cs_0.mp q))] at he
        have he : e9 ∈ [(am_tPf k, am_lf 0 [(20 + 3 * k, 100), (21 + 3 * k, 1)]), (am_lf 10050 (am_tPl k), am_lf 50 [(20 + 3 * k, 100), (21 + 3 * k, 1)])] := he
        have e1 : am_cM pat v k = (am_pv v k + 50) / 100 := by unfold am_cM; rw [if_neg h0]
        have e2 : am_cX pat v k = am_pv v k - 100 * ((am_pv v k + 50) / 100) := by unfold am_cX; rw [if_neg h0]
        simp only [List.mem_cons, List.not_mem_nil, or_false] at he
        rcases he with rfl | rfl <;> simp only [am_tPf, am_tPl, am_ev_tm, am_tm_cons, am_tm_nil, z1, z2, l0, l1, l2, l3, e1, e2] <;> omega
    · obtain ⟨q, hq, he⟩ := List.mem_flatMap.mp he
      obtain ⟨k, hk, rfl⟩ := hmem q hq
      obtain ⟨z1, z2, z3⟩ := gz k hk
      by_cases h0 : am_tbit pat k = 0
      · dsimp only at he
        rw [am_cs_0.mpr h0] at he
        cases he
      · dsimp only at he
        rw [am_beq_f (fun q => h0 (am_cs_0.mp q))] at he
        have he : e9 ∈ [(am_lf 0 [(21 + 3 * k, 1)], am_lf 0 [(22 + 3 * k, 1)])] := he
        cases List.mem_singleton.mp he
        have e2 : am_cX pat v k = am_pv v k - 100 * ((am_pv v k + 50) / 100) := by unfold am_cX; rw [if_neg h0]
        have e3 : am_cF pat v k = am_far v k := by unfold am_cF; rw [if_neg h0]
        simp only [am_ev_tm, am_tm_cons, am_tm_nil, z2, z3, e2, e3]
        unfold am_far
        split <;> omega
  have hS := am_snd (d := 28) (K := K) (N := N) (e := e) (below := below) (Q := Q) (hG (C ++ Z)) hA am_cm113 am_mk113 (am_subOK (hG (C ++ Z)) hA 100000 28) (hF (C ++ Z)) htab hnm (bif Nat.beq (am_tnA (am_tC4 (am_cs pat v 0) (am_cs pat v 1) (am_cs pat v 2) (am_cs pat v 3))) 0 then 7 else 26) 246 427 (fun x hx => by cases hx; rfl) k0 n0
  obtain ⟨C', k1, k2, k3⟩ := am_upd_split (os := am_tCE) (Z := Z) hC (fun o ho => by
    simp only [am_tCE, am_tz3, List.mem_cons, List.not_mem_nil, or_false] at ho
    rcases ho with rfl | rfl | rfl | rfl <;> decide)
  refine am_piece (by rw [List.length_append]; omega) (am_is_ov (fun o ho => ?_)) hck hS hK hN (am_tOKb hpat).1 ?_
  · have hl : ∀ i, i < 20 → i < (C ++ Z).length := fun i hi => by rw [List.length_append]; omega
    simp only [am_tCO, List.mem_cons, List.not_mem_nil, or_false] at ho
    rcases ho with rfl | rfl | rfl
    · refine ⟨hl 17 (by omega), ?_⟩
      rw [gl 17 (by omega), b1]
      have e : am_tnT (am_tC4 (am_cs pat v 0) (am_cs pat v 1) (am_cs pat v 2) (am_cs pat v 3)) = (bif Nat.beq (am_cs pat v 0) 1 then 1 else 0) + ((bif Nat.beq (am_cs pat v 1) 1 then 1 else 0) + ((bif Nat.beq (am_cs pat v 2) 1 then 1 else 0) + ((bif Nat.beq (am_cs pat v 3) 1 then 1 else 0) + 0))) := rfl
      have e0 := (am_cs_1 pat v 0).1
      have e1 := (am_cs_1 pat v 1).1
      have e2 := (am_cs_1 pat v 2).1
      have e3 := (am_cs_1 pat v 3).1
      rw [e]
      simp only [am_nT, am_tm_nil, Int.natCast_add, e0, e1, e2, e3]
      omega
    · refine ⟨hl 18 (by omega), ?_⟩
      rw [gl 18 (by omega), b2]
      have e : am_tnA (am_tC4 (am_cs pat v 0) (am_cs pat v 1) (am_cs pat v 2) (am_cs pat v 3)) = (bif Nat.beq (am_cs pat v 0) 0 then 0 else 1) + ((bif Nat.beq (am_cs pat v 1) 0 then 0 else 1) + ((bif Nat.beq (am_cs pat v 2) 0 then 0 else 1) + ((bif Nat.beq (am_cs pat v 3) 0 then 0 else 1) + 0))) := rfl
      have e0 := (am_cs_1 pat v 0).2
      have e1 := (am_cs_1 pat v 1).2
      have e2 := (am_cs_1 pat v 2).2
      have e3 := (am_cs_1 pat v 3).2
      rw [e]
      simp only [am_nA, am_tm_nil, Int.natCast_add, e0, e1, e2, e3]
      omega
    · refine ⟨hl 19 (by omega), ?_⟩
      rw [gl 19 (by omega), b3]
      have one : ∀ k, k < 4 → am_tm (am_g (C ++ Z)) (bif Nat.beq (am_cs pat v k) 0 then [] else [(22 + 3 * k, 1)]) = (if am_tbit pat k = 0 then 0 else am_far v k) := fun k hk => by
        by_cases h0 : am_tbit pat k = 0
        · rw [am_cs_0.mpr h0, if_pos h0]; rfl
        · rw [am_beq_f (fun q => h0 (am_cs_0.mp q)), if_neg h0]
          show am_tm _ [(22 + 3 * k, 1)] = _
          rw [am_tm_cons, am_tm_nil, (gz k hk).2.2]
          unfold am_cF
          rw [if_neg h0]
          omega
      have e : (am_tC4 (am_cs pat v 0) (am_cs pat v 1) (am_cs pat v 2) (am_cs pat v 3)).flatMap (fun q => bif Nat.beq q.2 0 then [] else [(22 + 3 * q.1, (1 : Int))]) = (bif Nat.beq (am_cs pat v 0) 0 then [] else [(22 + 3 * 0, 1)]) ++ ((bif Nat.beq (am_cs pat v 1) 0 then [] else [(22 + 3 * 1, 1)]) ++ ((bif Nat.beq (am_cs pat v 2) 0 then [] else [(22 + 3 * 2, 1)]) ++ ((bif Nat.beq (am_cs pat v 3) 0 then [] else [(22 + 3 * 3, 1)]) ++ []))) := rfl
      dsimp only
      rw [e, am_tm_app, am_tm_app, am_tm_app, am_tm_app, one 0 (by omega), one 1 (by omega), one 2 (by omega), one 3 (by omega), am_tm_nil]
      simp only [am_nO]
      omega
  · rw [k2]
    have w : ∀ i, i < 20 → am_g C' i = am_u1 (am_u1 (am_u1 (am_u1 (am_g (C ++ Z)) 16 (1 + (1 * am_g (C ++ Z) 16 + 0))) 17 (0 + 0)) 18 (0 + 0)) 19 (0 + 0) i := k3
    have w16 : am_g C' 16 = v 16 + 1 := by
      rw [w 16 (by omega)]
      simp (disch := omega) only [am_u1_eq, am_u1_ne, gl 16 (by omega)]
      omega
    have w17 : am_g C' 17 = 0 := by
      rw [w 17 (by omega)]
      simp (disch := omega) only [am_u1_eq, am_u1_ne]
      rfl
    have w18 : am_g C' 18 = 0 := by
      rw [w 18 (by omega)]
      simp (disch := omega) only [am_u1_eq, am_u1_ne]
      rfl
    have w19 : am_g C' 19 = 0 := by
      rw [w 19 (by omega)]
      simp (disch := omega) only [am_u1_eq, am_u1_ne]
      rfl
    have wl : ∀ i, i < 16 → am_g C' i = v i := fun i hi => by
      rw [w i (by omega)]
      simp (disch := omega) only [am_u1_eq, am_u1_ne, gl i (by omega)]
    obtain ⟨j1, j2, -⟩ := hIv
    refine hB C' k1 ⟨fun k hk => ?_, by rw [w16]; omega, by rw [w17]; omega, by rw [w18]; omega, by rw [w19]; omega⟩ w16 Z
    rw [wl _ (by omega), wl (4 * k + 1) (by omega), wl (4 * k + 2) (by omega), wl (4 * k + 3) (by omega)]
    exact j1 k hk
theorem am_roundD (hFr : am_Fr l p s m args meth c s0 D b L xs am_m113) {pat k0 n0 : Nat} (hpat : pat < 16) {C : List Int} (hC : C.length = 20) (hI : am_Iv 40 (am_g C)) (h16 : am_g C 16 = 40) (hK : k0 ≤ K) (hN : n0 ≤ N)
    (hk : ∀ (X : List Int) (ad1 : List Nat) (h1 : am_H) (H' : Heap) (locs' : List Loc) (ls' : Array Slot) (V : Value), am_HP (s0, D, X, b) s [] ad1 h1 H' locs' → V = .int (Int32.ofNat 1) → W p l e (am_rm 30 K N) s m args below meth c H' locs' K N Q (F0 m 662 ls' [V])) :
    am_AC p l e (am_rm 30 K N) s m args below meth c Q s0 D b am_m113.2.2.1 C 15 am_tLA (am_tH pat) k0 n0 := by
  obtain ⟨hG, hSc, hF, htab, hnm⟩ := hFr
  have hck : am_ckD pat = true := List.all_eq_true.mp am_tckD pat (List.mem_range.mpr hpat)
  obtain ⟨Z, hZe⟩ : ∃ Z : List Int, Z = [60 - am_g C 1 - am_g C 2, 60 - am_g C 5 - am_g C 6, 60 - am_g C 9 - am_g C 10, 60 - am_g C 13 - am_g C 14] := ⟨_, rfl⟩
  have gl : ∀ i, i < 20 → am_g (C ++ Z) i = am_g C i := fun i hi => am_g_lo hC hi
  have a0 := hI.1 0 (by omega)
  have a1 := hI.1 1 (by omega)
  have a2 := hI.1 2 (by omega)
  have a3 := hI.1 3 (by omega)
  simp only [Nat.mul_zero, Nat.zero_add, Nat.mul_one, Nat.reduceMul, Nat.reduceAdd] at a0 a1 a2 a3
  intro Z0
  refine am_At_scr (Z := Z) hC (am_tOKb hpat).2.1 ?_
  have hZ : am_bx [(0, 60), (0, 60), (0, 60), (0, 60)] Z := by
    rw [hZe]
    refine ⟨?_, ?_, ?_, ?_, ?_, ?_, ?_, ?_, trivial⟩ <;> dsimp only <;> omega
  have hA : am_kn am_tAD (C ++ Z) := am_kp_ok _ _ (am_bx_append (by rw [hC]; rfl) (am_Iv_bx hC hI) hZ)
  have hS := am_snd (d := 28) (K := K) (N := N) (e := e) (below := below) (Q := Q) (hG (C ++ Z)) hA am_cm113 am_mk113 (am_subOK (hG (C ++ Z)) hA 100000 28) (hF (C ++ Z)) htab hnm 100 9 15 (fun x hx => by cases hx; rfl) k0 n0
  have g20 : am_g (C ++ Z) 20 = 60 - am_g C 1 - am_g C 2 := by rw [hZe]; exact am_g_hi hC 0
  have g21 : am_g (C ++ Z) 21 = 60 - am_g C 5 - am_g C 6 := by rw [hZe]; exact am_g_hi hC 1
  have g22 : am_g (C ++ Z) 22 = 60 - am_g C 9 - am_g C 10 := by rw [hZe]; exact am_g_hi hC 2
  have g23 : am_g (C ++ Z) 23 = 60 - am_g C 13 - am_g C 14 := by rw [hZe]; exact am_g_hi hC 3
  refine am_last (am_is_ov (fun o ho => ?_)) hck hS hK hN hK hN (fun ad1 h1 H' locs' ls' V q1 q2 => hk _ ad1 h1 H' locs' ls' V q1 q2)
  have hl : ∀ i, i < 20 → i < (C ++ Z).length := fun i hi => by rw [List.length_append]; omega
  have ho : o ∈ ([(16, 40, []), (2, 60, [(1, -1), (20, -1)]), (6, 60, [(5, -1), (21, -1)]), (10, 60, [(9, -1), (22, -1)]), (14, 60, [(13, -1), (23, -1)])] : am_Ov) := ho
  simp only [List.mem_cons, List.not_mem_nil, or_false] at ho
  rcases ho with rfl | rfl | rfl | rfl | rfl
  · exact ⟨hl 16 (by omega), by rw [gl 16 (by omega), h16]; rfl⟩
  · exact ⟨hl 2 (by omega), by simp only [am_tm_cons, am_tm_nil, g20, gl 1 (by omega), gl 2 (by omega)]; omega⟩
  · exact ⟨hl 6 (by omega), by simp only [am_tm_cons, am_tm_nil, g21, gl 5 (by omega), gl 6 (by omega)]; omega⟩
  · exact ⟨hl 10 (by omega), by simp only [am_tm_cons, am_tm_nil, g22, gl 9 (by omega), gl 10 (by omega)]; omega⟩
  · exact ⟨hl 14 (by omega), by simp only [am_tm_cons, am_tm_nil, g23, gl 13 (by omega), gl 14 (by omega)]; omega⟩
/-- r rounds are left -/
theorem am_rounds (hFr : am_Fr l p s m args meth c s0 D b L xs am_m113) (hk : ∀ (X : List Int) (ad1 : List Nat) (h1 : am_H) (H' : Heap) (locs' : List Loc) (ls' : Array Slot) (V : Value), am_HP (s0, D, X, b) s [] ad1 h1 H' locs' → V = .int (Int32.ofNat 1) → W p l e (am_rm 30 K N) s m args below meth c H' locs' K N Q (F0 m 662 ls' [V])) :
    ∀ (r pat k0 n0 : Nat) (C : List Int), pat < 16 → C.length = 20 → am_Iv 40 (am_g C) → am_g C 16 = 40 - (r : Int) → k0 + 18 * r ≤ K → n0 + 25 * r ≤ N → am_AC p l e (am_rm 30 K N) s m args below meth c Q s0 D b am_m113.2.2.1 C 15 am_tLA (am_tH pat) k0 n0 := by
  intro r
  induction r with
  | zero => exact fun pat k0 n0 C hpat hC hI h16 hK hN => am_roundD hFr hpat hC hI (by omega) (by omega) (by omega) hk
  | succ r ih =>
    intro pat k0 n0 C hpat hC hI h16 hK hN
    have hI39 : am_Iv 39 (am_g C) := ⟨hI.1, ⟨hI.2.1.1, by omega⟩, hI.2.2⟩
    refine am_roundA hFr hpat hC hI39 (by omega) (by omega) (fun C1 pat1 hpat1 hC1 hI1 e16 e17 e18 e19 => ?_)
    refine am_roundB hFr (k := 0) (by omega) hpat1 hC1 ⟨hI1, e17, e18, e19⟩ (by omega) (by omega) (fun C2 hC2 hI2 f2 => ?_)
    refine am_roundB hFr (k := 1) (by omega) hpat1 hC2 hI2 (by omega) (by omega) (fun C3 hC3 hI3 f3 => ?_)
    refine am_roundB hFr (k := 2) (by omega) hpat1 hC3 hI3 (by omega) (by omega) (fun C4 hC4 hI4 f4 => ?_)
    refine am_roundB hFr (k := 3) (by omega) hpat1 hC4 hI4 (by omega) (by omega) (fun C5 hC5 hI5 f5 => ?_)
    refine am_roundC hFr hpat1 hC5 hI5 (by omega) (by omega) (fun C6 hC6 hI6 e6 => ?_)
    refine ih pat1 _ _ C6 hpat1 hC6 hI6 ?_ (by omega) (by omega)
    rw [e6, f5 16 (by omega), f4 16 (by omega), f3 16 (by omega), f2 16 (by omega), e16, h16]
    omega
end AMTC
