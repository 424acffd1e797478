/-! ===== tuning: the first half of a round ===== -/
theorem am_tOKb {pat : Nat} (hpat : pat < 16) : am_frC (am_tH pat) = true ∧ am_shS am_tLA (am_tH pat) = true ∧ ∀ k, k < 5 → am_shS (am_tLB k) (am_tH pat) = true := by
  have h := List.all_eq_true.mp am_tOKH pat (List.mem_range.mpr hpat)
  rw [Bool.and_eq_true, Bool.and_eq_true] at h
  exact ⟨h.1.1, h.1.2, fun k hk => List.all_eq_true.mp h.2 k (List.mem_range.mpr hk)⟩
theorem am_tckA {b p pat : Nat} (hb : b < 19) (hp : p < 4) (hpat : pat < 16) (hf : (Nat.beq (am_tbit pat p) 0 != am_tnull b) = false) : am_ckA b p pat = true := by
  have key : ∀ b', (List.range 4).all (fun p => (List.range 16).all (fun pat => (Nat.beq (am_tbit pat p) 0 != am_tnull b') || am_ckA b' p pat)) = true → (Nat.beq (am_tbit pat p) 0 != am_tnull b') = false → am_ckA b' p pat = true := fun b' h hf => by
    have h1 := List.all_eq_true.mp (List.all_eq_true.mp h p (List.mem_range.mpr hp)) pat (List.mem_range.mpr hpat)
    rw [Bool.or_eq_true, hf] at h1
    rcases h1 with h1 | h1
    · cases h1
    · exact h1
  match b, hb, hf with
  | 0, _, hf => exact key 0 am_tckA0 hf
  | 1, _, hf => exact key 1 am_tckA1 hf
  | 2, _, hf => exact key 2 am_tckA2 hf
  | 3, _, hf => exact key 3 am_tckA3 hf
  | 4, _, hf => exact key 4 am_tckA4 hf
  | 5, _, hf => exact key 5 am_tckA5 hf
  | 6, _, hf => exact key 6 am_tckA6 hf
  | 7, _, hf => exact key 7 am_tckA7 hf
  | 8, _, hf => exact key 8 am_tckA8 hf
  | 9, _, hf => exact key 9 am_tckA9 hf
  | 10, _, hf => exact key 10 am_tckA10 hf
  | 11, _, hf => exact key 11 am_tckA11 hf
  | 12, _, hf => exact key 12 am_tckA12 hf
  | 13, _, hf => exact key 13 am_tckA13 hf
  | 14, _, hf => exact key 14 am_tckA14 hf
  | 15, _, hf => exact key 15 am_tckA15 hf
  | 16, _, hf => exact key 16 am_tckA16 hf
  | 17, _, hf => exact key 17 am_tckA17 hf
  | 18, _, hf => exact key 18 am_tckA18 hf
  | n + 19, h, _ => exact absurd h (by omega)
theorem am_kp_ok (X : List Int) (B : List (Int × Int)) (h : am_bx B X) : am_kn (B, [], []) X := ⟨h, fun e he => (by cases he), fun e he => (by cases he)⟩
section AMTA
variable {p : Program} {l : Launch} {e : Env} {s : State} {m : MethodId} {args : Array Value} {below : List Frame} {meth : Method} {c : Code} {Q : State → Prop} {s0 : State} {D : va_G} {b L K N : Nat} {xs : Nat → Int32}
/-- from a state with numbers C on, the rest holds, whatever the other unknowns are -/
def am_AC (p : Program) (l : Launch) (e : Env) (R : Room) (s : State) (m : MethodId) (args : Array Value) (below : List Frame) (meth : Method) (c : Code) (Q : State → Prop) (s0 : State) (D : va_G) (b nL : Nat) (C : List Int) (pc : Nat) (lo : List am_V) (h : am_H) (k n : Nat) : Prop :=
  ∀ Z : List Int, am_At p l e R s m args below meth c Q (s0, D, C ++ Z, b) [] nL pc lo [] h k n
/-- a frame of the law's -/
def am_Fr (l : Launch) (p : Program) (s : State) (m : MethodId) (args : Array Value) (meth : Method) (c : Code) (s0 : State) (D : va_G) (b L : Nat) (xs : Nat → Int32) (M : am_M) : Prop :=
  (∀ X : List Int, am_Gl l (s0, D, X, b)) ∧ (∀ X : List Int, am_Sc (s0, D, X, b) L xs) ∧ (∀ X : List Int, am_Fm p s m args meth c (s0, D, X, b) M.1.cls M.2.1 M.2.2.1 M.2.2.2.1) ∧ c.exceptionTable.toList = tableOf M.2.2.2.2.1 ∧ meth.name = M.1.name
theorem am_subW {l : Launch} {Y : am_Y} (hG : am_Gl l Y) {A : am_A} (hA : am_kn A Y.2.2.1) (hSc : am_Sc Y L xs) {ta : List (List Int × am_V)} {ts : List (List Int × Nat × am_V)} (hta : ∀ e ∈ ta, ∃ fr, am_form e.2 = some fr ∧ 0 ≤ am_ev Y.2.2.1 e.1 ∧ am_ev Y.2.2.1 e.1 < 2147483648 ∧ am_ev Y.2.2.1 fr = am_sv L xs (am_ev Y.2.2.1 e.1))
    (hts : ∀ e ∈ ts, ∃ fr, am_form e.2.2 = some fr ∧ 0 < e.2.1 ∧ e.2.1 < 2147483648 ∧ -2147483648 ≤ am_ev Y.2.2.1 e.1 ∧ am_ev Y.2.2.1 e.1 < 2147483648 ∧ am_ev Y.2.2.1 fr = am_ev Y.2.2.1 e.1 % (e.2.1 : Int)) :
    am_SubOK l Y 29 (am_with [(114, am_gAt ta), (115, am_gSome ts)] (am_sub A 100000 am_codes 28)) := by
  refine am_with_ok (am_subOK hG hA 100000 28) (fun x hx M as lo1 h o hM hpad hr ho ad => ?_)
  rcases List.mem_cons.mp hx with rfl | hx
  · exact am_atOK hSc hta M as lo1 h o hM hpad hr ad
  · rcases List.mem_cons.mp hx with rfl | hx
    · exact am_someOK hts M as lo1 h o hM hpad hr ad
    · cases hx
theorem am_sv_in (L : Nat) (xs : Nat → Int32) (k : Int) : -2147483648 ≤ am_sv L xs k ∧ am_sv L xs k < 2147483648 := by
  unfold am_sv
  split
  · exact ⟨Int32.le_toInt _, Int32.toInt_lt _⟩
  · omega
theorem am_ev_u1 (X : List Int) (k : Nat) (a : Int) : am_ev X (am_un1 k a) = a * am_g X k := by
  show 0 + am_dot _ X = _
  rw [am_dot_un]
  omega
theorem am_stepA (hFr : am_Fr l p s m args meth c s0 D b L xs am_m113) {br q pat k0 n0 : Nat} (hbr : br < 19) (hq : q < 4) (hpat : pat < 16) (hpat2 : am_tP br q pat < 16) (hf : (Nat.beq (am_tbit pat q) 0 != am_tnull br) = false) {C Z : List Int} (hC : C.length = 20) (hI : am_Iv 39 (am_g C)) (hZ : am_bx ((-2147483648, 2147483647) :: am_tZ[br]?.getD []) Z) (hZ5 : Z.length = 4)
    (his : ∀ o ∈ am_tO br q, o.1 < 20 ∧ am_g (C ++ Z) o.1 = o.2.1 + am_tm (am_g (C ++ Z)) o.2.2) (hsv : am_g (C ++ Z) 20 = am_sv L xs (am_g C 16)) (hv : (am_tVr br q).1 + am_tm (am_g (C ++ Z)) (am_tVr br q).2 = am_g (C ++ Z) 20 % 100000000) (hos : ∀ o ∈ am_tE br q, o.1 < 20) (hK : k0 + 2 ≤ K) (hN : n0 + 9 ≤ N)
    (hat : ∀ C' : List Int, C'.length = 20 → (∀ j, j < 20 → am_g C' j = am_fu (am_tE br q) (am_g (C ++ Z)) j) → am_AC p l e (am_rm 30 K N) s m args below meth c Q s0 D b am_m113.2.2.1 C' 427 (am_tLB 0) (am_tH (am_tP br q pat)) (k0 + 2) (n0 + 9)) :
    am_AC p l e (am_rm 30 K N) s m args below meth c Q s0 D b am_m113.2.2.1 C 15 am_tLA (am_tH pat) k0 n0 := by
  obtain ⟨hG, hSc, hF, htab, hnm⟩ := hFr
  have hck := am_tckA hbr hq hpat hf
  intro Z0
  refine am_At_scr (Z := Z) hC (am_tOKb hpat).2.1 ?_
  have hbx : am_bx (am_BC 39 ++ ((-2147483648, 2147483647) :: am_tZ[br]?.getD [])) (C ++ Z) := am_bx_append (by rw [hC]; rfl) (am_Iv_bx hC hI) hZ
  have hA : am_kn (am_tAA br) (C ++ Z) := am_kp_ok _ _ hbx
  have h16 := hI.2.1
  have hsub := am_subW (Y := (s0, D, C ++ Z, b)) (L := L) (xs := xs) (hG _) hA (hSc _) (ta := [(am_un1 16 1, am_uv 20)]) (ts := [(am_un1 20 1, 100000000, am_fv (am_tV br q))])
    (fun e9 he => by
      cases List.mem_singleton.mp he
      have h1 : am_ev (C ++ Z) (am_un1 16 1) = am_g C 16 := by rw [am_ev_u1, am_g_lo hC (by omega)]; omega
      refine ⟨am_un1 20 1, rfl, ?_, ?_, ?_⟩
      · show 0 ≤ am_ev (C ++ Z) (am_un1 16 1); omega
      · show am_ev (C ++ Z) (am_un1 16 1) < _; omega
      · show am_ev (C ++ Z) (am_un1 20 1) = am_sv L xs (am_ev (C ++ Z) (am_un1 16 1))
        rw [h1, am_ev_u1, ← hsv]; omega)
    (fun e9 he => by
      cases List.mem_singleton.mp he
      have h1 : am_ev (C ++ Z) (am_un1 20 1) = am_g (C ++ Z) 20 := by rw [am_ev_u1]; omega
      have h2 := am_sv_in L xs (am_g C 16)
      refine ⟨am_tV br q, rfl, (by decide : (0 : Nat) < 100000000), (by decide : (100000000 : Nat) < 2147483648), ?_, ?_, ?_⟩
      · show _ ≤ am_ev (C ++ Z) (am_un1 20 1); omega
      · show am_ev (C ++ Z) (am_un1 20 1) < _; omega
      · show am_ev (C ++ Z) (am_tV br q) = am_ev (C ++ Z) (am_un1 20 1) % ((100000000 : Nat) : Int)
        rw [h1]
        exact (am_ev_lf _ _ _).trans hv)
  have hS := am_snd (d := 28) (K := K) (N := N) (e := e) (below := below) (Q := Q) (hG (C ++ Z)) hA am_cm113 am_mk113 hsub (hF (C ++ Z)) htab hnm (am_tN[br]?.getD 0) 9 15 (fun x hx => by cases hx; rfl) k0 n0
  obtain ⟨C', k1, k2, k3⟩ := am_upd_split (Z := Z) hC hos
  refine am_piece (by rw [List.length_append]; omega) (am_is_ov (fun o ho => ?_)) hck hS hK hN (am_tOKb hpat2).1 ?_
  · obtain ⟨z1, z2⟩ := his o ho
    exact ⟨by rw [List.length_append]; omega, z2⟩
  · rw [k2]
    exact hat C' k1 k3 Z
end AMTA
