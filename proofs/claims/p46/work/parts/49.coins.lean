/-! ===== coins: its rounds, its contract ===== -/
theorem am_cOKb {t : Nat} (ht : t < 21) : am_frC (am_cH t) = true ∧ am_shS (am_cL t) (am_cH t) = true := by
  have h := List.all_eq_true.mp am_cOKH t (List.mem_range.mpr ht)
  rw [Bool.and_eq_true] at h
  exact h
theorem am_cckF {t w x pr : Nat} (ht : t < 20) (hw : w < 3) (hx : x < 3) (hp : pr < 3) : am_ckF t w x pr = true := by
  have key : ∀ w', (List.range 20).all (fun t => (List.range 3).all (fun x => (List.range 3).all (fun pr => am_ckF t w' x pr))) = true → am_ckF t w' x pr = true := fun w' h =>
    List.all_eq_true.mp (List.all_eq_true.mp (List.all_eq_true.mp h t (List.mem_range.mpr ht)) x (List.mem_range.mpr hx)) pr (List.mem_range.mpr hp)
  match w, hw with
  | 0, _ => exact key 0 am_cckF0
  | 1, _ => exact key 1 am_cckF1
  | 2, _ => exact key 2 am_cckF2
  | n + 3, h => exact absurd h (by omega)
def am_cC (k : Int) : List Int := [100, 0, 0, 0, 100, 0, 0, 0, 100, 0, 0, 0, 100, 0, 0, 0, k, 0, 0, 0]
theorem am_cC_bx {k hi : Int} (h1 : 0 ≤ k) (h2 : k ≤ hi) : am_bx (am_BC hi) (am_cC k) := by
  have d1 : ((100 : Int) ≤ 100 ∧ (100 : Int) ≤ 400) := by decide
  have d2 : ((0 : Int) ≤ 0 ∧ (0 : Int) ≤ 60) := by decide
  have d3 : ((0 : Int) ≤ 0 ∧ (0 : Int) ≤ 100) := by decide
  have d4 : ((0 : Int) ≤ 0 ∧ (0 : Int) ≤ 4) := by decide
  have d5 : ((0 : Int) ≤ 0 ∧ (0 : Int) ≤ 200) := by decide
  exact ⟨d1.1, d1.2, d2.1, d2.2, d2.1, d2.2, d3.1, d3.2, d1.1, d1.2, d2.1, d2.2, d2.1, d2.2, d3.1, d3.2, d1.1, d1.2, d2.1, d2.2, d2.1, d2.2, d3.1, d3.2, d1.1, d1.2, d2.1, d2.2, d2.1, d2.2, d3.1, d3.2, h1, h2, d4.1, d4.2, d4.1, d4.2, d5.1, d5.2, trivial⟩
section AMCO
variable {p : Program} {l : Launch} {e : Env} {s : State} {m : MethodId} {args : Array Value} {below : List Frame} {meth : Method} {c : Code} {Q : State → Prop} {s0 : State} {D : va_G} {b L K N : Nat} {xs : Nat → Int32}
theorem am_roundF (hFr : am_Fr l p s m args meth c s0 D b L xs am_m117) {t k0 n0 : Nat} {k : Int} (ht : t < 20) (h1 : 0 ≤ k) (h2 : k ≤ 19) (hK : k0 ≤ K) (hN : n0 ≤ N)
    (hB : ∀ t' : Nat, t' ≤ t + 1 → am_AC p l e (am_rm 30 K N) s m args below meth c Q s0 D b am_m117.2.2.1 (am_cC (k + 1)) 13 (am_cL t') (am_cH t') k0 n0) :
    am_AC p l e (am_rm 30 K N) s m args below meth c Q s0 D b am_m117.2.2.1 (am_cC k) 13 (am_cL t) (am_cH t) k0 n0 := by
  obtain ⟨hG, hSc, hF, htab, hnm⟩ := hFr
  obtain ⟨a0, ha0⟩ : ∃ z, z = am_sv L xs (40 + k) := ⟨_, rfl⟩
  obtain ⟨a1, ha1⟩ : ∃ z, z = am_sv L xs (60 + k) := ⟨_, rfl⟩
  obtain ⟨a2, ha2⟩ : ∃ z, z = am_sv L xs (80 + k) := ⟨_, rfl⟩
  have r0 := am_sv_in L xs (40 + k)
  have r1 := am_sv_in L xs (60 + k)
  have r2 := am_sv_in L xs (80 + k)
  rw [← ha0] at r0
  rw [← ha1] at r1
  rw [← ha2] at r2
  obtain ⟨pr, hpr⟩ : ∃ q : Nat, (q : Int) = a2 % 3 := ⟨(a2 % 3).toNat, by omega⟩
  have hpr3 : pr < 3 := by omega
  obtain ⟨w, hw3, hw⟩ : ∃ w : Nat, w < 3 ∧ (am_cW[w]?.getD (0, 0)).1 ≤ a0 % 9 ∧ a0 % 9 ≤ (am_cW[w]?.getD (0, 0)).2 := by
    by_cases q1 : a0 % 9 ≤ 1
    · exact ⟨0, by omega, by show 0 ≤ _ ∧ _ ≤ 1; omega⟩
    · by_cases q2 : a0 % 9 ≤ 6
      · exact ⟨1, by omega, by show 2 ≤ _ ∧ _ ≤ 6; omega⟩
      · exact ⟨2, by omega, by show 7 ≤ _ ∧ _ ≤ 8; omega⟩
  obtain ⟨x, hx3, hx⟩ : ∃ w : Nat, w < 3 ∧ (am_cD[w]?.getD (0, 0)).1 ≤ a1 % 5 ∧ a1 % 5 ≤ (am_cD[w]?.getD (0, 0)).2 := by
    by_cases q1 : a1 % 5 ≤ 0
    · exact ⟨0, by omega, by show 0 ≤ _ ∧ _ ≤ 0; omega⟩
    · by_cases q2 : a1 % 5 ≤ 3
      · exact ⟨1, by omega, by show 1 ≤ _ ∧ _ ≤ 3; omega⟩
      · exact ⟨2, by omega, by show 4 ≤ _ ∧ _ ≤ 4; omega⟩
  have hck := am_cckF ht hw3 hx3 hpr3
  intro Z0
  refine am_At_scr (Z := [a0, a1, a2, a0 % 9, a1 % 5]) rfl (am_cOKb (by omega)).2 ?_
  have hbx : am_bx (am_BC 19 ++ [(-2147483648, 2147483647), (-2147483648, 2147483647), (-2147483648, 2147483647), am_cW[w]?.getD (0, 0), am_cD[x]?.getD (0, 0)]) (am_cC k ++ [a0, a1, a2, a0 % 9, a1 % 5]) := am_bx_append rfl (am_cC_bx h1 h2) ⟨by dsimp only; omega, by dsimp only; omega, by dsimp only; omega, by dsimp only; omega, by dsimp only; omega, by dsimp only; omega, hw.1, hw.2, hx.1, hx.2, trivial⟩
  have hA : am_kn (am_cA w x) (am_cC k ++ [a0, a1, a2, a0 % 9, a1 % 5]) := am_kp_ok _ _ hbx
  have g16 : am_g (am_cC k ++ [a0, a1, a2, a0 % 9, a1 % 5]) 16 = k := rfl
  have g20 : am_g (am_cC k ++ [a0, a1, a2, a0 % 9, a1 % 5]) 20 = a0 := rfl
  have g21 : am_g (am_cC k ++ [a0, a1, a2, a0 % 9, a1 % 5]) 21 = a1 := rfl
  have g22 : am_g (am_cC k ++ [a0, a1, a2, a0 % 9, a1 % 5]) 22 = a2 := rfl
  have g23 : am_g (am_cC k ++ [a0, a1, a2, a0 % 9, a1 % 5]) 23 = a0 % 9 := rfl
  have g24 : am_g (am_cC k ++ [a0, a1, a2, a0 % 9, a1 % 5]) 24 = a1 % 5 := rfl
  generalize hX : am_cC k ++ [a0, a1, a2, a0 % 9, a1 % 5] = X at *
  have ix : ∀ z : Int, am_ev X (am_lf z [(16, 1)]) = z + k := fun z => by rw [am_ev_tm, am_tm_cons, am_tm_nil, g16]; omega
  have eu : ∀ i : Nat, am_ev X (am_un1 i 1) = am_g X i := fun i => by rw [am_ev_u1]; omega
  have hsub := am_subW (Y := (s0, D, X, b)) (L := L) (xs := xs) (hG _) hA (hSc _) (ta := am_cta) (ts := am_cts pr)
    (fun e9 he => by
      simp only [am_cta, List.mem_cons, List.not_mem_nil, or_false] at he
      rcases he with rfl | rfl | rfl
      · refine ⟨am_un1 20 1, rfl, ?_, ?_, ?_⟩ <;> dsimp only <;> rw [ix 40]
        · omega
        · omega
        · rw [am_ev_u1, g20, ha0]; omega
      · refine ⟨am_un1 21 1, rfl, ?_, ?_, ?_⟩ <;> dsimp only <;> rw [ix 60]
        · omega
        · omega
        · rw [am_ev_u1, g21, ha1]; omega
      · refine ⟨am_un1 22 1, rfl, ?_, ?_, ?_⟩ <;> dsimp only <;> rw [ix 80]
        · omega
        · omega
        · rw [am_ev_u1, g22, ha2]; omega)
    (fun e9 he => by
      simp only [am_cts, List.mem_cons, List.not_mem_nil, or_false] at he
      rcases he with rfl | rfl | rfl
      · refine ⟨am_un1 23 1, rfl, (by decide : (0 : Nat) < 9), (by decide : (9 : Nat) < 2147483648), ?_, ?_, ?_⟩ <;> dsimp only
        · rw [eu, g20]; omega
        · rw [eu, g20]; omega
        · rw [eu, eu, g23, g20]; rfl
      · refine ⟨am_un1 24 1, rfl, (by decide : (0 : Nat) < 5), (by decide : (5 : Nat) < 2147483648), ?_, ?_, ?_⟩ <;> dsimp only
        · rw [eu, g21]; omega
        · rw [eu, g21]; omega
        · rw [eu, eu, g24, g21]; rfl
      · refine ⟨[am_si pr], rfl, (by decide : (0 : Nat) < 3), (by decide : (3 : Nat) < 2147483648), ?_, ?_, ?_⟩ <;> dsimp only
        · rw [eu, g22]; omega
        · rw [eu, g22]; omega
        · have e1 : am_ev X [am_si pr] = am_si pr + 0 := by simp [am_ev, am_dot]
          have e2 : am_si pr = (pr : Int) := by
            rcases (show pr = 0 ∨ pr = 1 ∨ pr = 2 by omega) with rfl | rfl | rfl <;> rfl
          rw [e1, e2, eu, g22]
          show _ = _ % (3 : Int)
          omega)
  have hS := am_snd (d := 28) (K := K) (N := N) (e := e) (below := below) (Q := Q) (hG X) hA am_cm117 am_mk117 hsub (hF X) htab hnm ((bif Nat.ble 2 (am_ct2 t w x) then am_cN2 else am_cN1)[9 * w + 3 * x + pr]?.getD 0) 8 13 (fun x hx => by cases hx; rfl) k0 n0
  have ht2 : am_ct2 t w x ≤ t + 1 := by
    unfold am_ct2
    cases (Nat.beq w 1 && Nat.beq x 1)
    · exact Nat.le_succ _
    · exact Nat.le_refl _
  refine am_piece (by rw [← hX]; exact (by decide : (20 : Nat) ≤ 25)) (fun o ho => by cases ho) hck hS hK hN (am_cOKb (by omega)).1 ?_
  have e1 : am_upd (am_ovl [(16, 1, [(16, 1)])]) X = am_cC (k + 1) ++ [a0, a1, a2, a0 % 9, a1 % 5] := by
    show X.set 16 (am_ev X (am_lf 1 [(16, 1)])) = _
    rw [ix 1, Int.add_comm 1 k, ← hX]
    rfl
  rw [e1]
  exact hB _ ht2 _
theorem am_roundsF (hFr : am_Fr l p s m args meth c s0 D b L xs am_m117) (hk : ∀ (X : List Int) (ad1 : List Nat) (h1 : am_H) (H' : Heap) (locs' : List Loc) (ls' : Array Slot) (V : Value), am_HP (s0, D, X, b) s [] ad1 h1 H' locs' → V = .int (Int32.ofNat 1) → W p l e (am_rm 30 K N) s m args below meth c H' locs' K N Q (F0 m 256 ls' [V])) (h128 : 128 ≤ K) (h1570 : 1570 ≤ N) :
    ∀ (r t : Nat) (k : Int), k = 20 - (r : Int) → r ≤ 20 → t + r ≤ 20 → am_AC p l e (am_rm 30 K N) s m args below meth c Q s0 D b am_m117.2.2.1 (am_cC k) 13 (am_cL t) (am_cH t) 128 1570 := by
  intro r
  induction r with
  | zero =>
    intro t k hk20 hr ht
    obtain ⟨hG, hSc, hF, htab, hnm⟩ := hFr
    have hck : am_ckG t = true := List.all_eq_true.mp am_cckG t (List.mem_range.mpr (by omega))
    intro Z0
    refine am_At_scr (Z := []) rfl (am_cOKb (by omega)).2 ?_
    have hA : am_kn am_cAE (am_cC k ++ []) := am_kp_ok _ _ (by rw [List.append_nil]; exact am_cC_bx (by omega) (by omega))
    have hS := am_snd (d := 28) (K := K) (N := N) (e := e) (below := below) (Q := Q) (hG (am_cC k ++ [])) hA am_cm117 am_mk117 (am_subOK (hG _) hA 100000 28) (hF _) htab hnm 100 8 13 (fun x hx => by cases hx; rfl) 128 1570
    refine am_last (am_is_ov (fun o ho => ?_)) hck hS h128 h1570 h128 h1570 (fun ad1 h1 H' locs' ls' V q1 q2 => hk _ ad1 h1 H' locs' ls' V q1 q2)
    cases List.mem_singleton.mp ho
    refine ⟨(by decide : (16 : Nat) < 20), ?_⟩
    show k = 20 + 0
    omega
  | succ r ih =>
    intro t k hk20 hr ht
    exact am_roundF hFr (by omega) (by omega) (by omega) h128 h1570 (fun t' ht' => ih t' (k + 1) (by omega) (by omega) (by omega))
end AMCO
theorem am_d_co : decode am_m117.2.1 256 = .ok (.ireturn, 1) := by decide +kernel
theorem am_coinsOK {l : Launch} {Y : am_Y} {L : Nat} {xs : Nat → Int32} (hG : ∀ X : List Int, am_Gl l (Y.1, Y.2.1, X, Y.2.2.2)) (hSc : ∀ X : List Int, am_Sc (Y.1, Y.2.1, X, Y.2.2.2) L xs) (M' : am_M) (as lo1 : List am_V) (h : am_H) (o : am_O) (hM : am_db[117]? = some M') (hpad : am_pad am_un0 (am_lay as) M'.2.2.1 = some lo1) (hr : am_gOne 256 128 1570 lo1 [] h 0 0 = some o) (ad : List Nat) :
    vx_Met l M'.1 (am_head M' :: am_ws) (am_rm 30 o.2.2.2.2.2.2.1 o.2.2.2.2.2.2.2) (am_Pc Y ad as h) (am_Qc Y ad o) (am_XC Y ad o) o.2.2.2.2.2.2.1 o.2.2.2.2.2.2.2 (fun q => Y.1.heap.size ≤ q) := by
  refine am_oneOK hG hSc (M := am_m117) (nL := 12) rfl rfl (by decide +kernel) rfl am_d_co (fun p e s m args below meth c Q hFr hk => ?_) M' as lo1 h o hM hpad hr ad
  refine ⟨am_cC 0, ?_⟩
  have hFr9 := hFr
  obtain ⟨hG9, hSc9, hF, htab, hnm⟩ := hFr
  have hA : am_kn am_A1 (am_cC 0) := am_kn1 _
  have hS := am_snd (d := 28) (K := 128) (N := 1570) (e := e) (below := below) (Q := Q) (hG9 _) hA am_cm117 am_mk117 (am_subOK (hG9 _) hA 100000 28) (hF _) htab hnm 8 0 0 (fun x hx => by cases hx; rfl) 0 0
  refine am_piece (by decide) (fun o ho => by cases ho) am_cckI hS (by decide) (by decide) (am_cOKb (by omega)).1 ?_
  have h9 := am_roundsF (K := 128) (N := 1570) hFr9 hk (by omega) (by omega) 20 0 0 (by omega) (by omega) (by omega) []
  rw [List.append_nil] at h9
  exact h9
