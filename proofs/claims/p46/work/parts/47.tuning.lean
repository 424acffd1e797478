/-! ===== tuning, coins and full come to 1: the form of their contracts; tuning's ===== -/
theorem am_HP_empty {s0 : State} {D : va_G} {X X0 : List Int} {b : Nat} {s : State} {ad1 : List Nat} {h1 : am_H} {H' : Heap} {locs' : List Loc} (hp : am_HP (s0, D, X, b) s [] ad1 h1 H' locs') : am_HP (s0, D, X0, b) s [] [] am_h0 H' locs' := by
  obtain ⟨-, f1, f2, f3, f4, f5⟩ := hp
  exact ⟨am_Rep_0 _ _, f1, f2, f3, fun a ha => (by cases ha), fun a ha => (by cases ha)⟩
/-- a method of the script, by what it comes to -/
noncomputable def am_gOne (pcr K N : Nat) : am_G := fun lo stk h nc ns => am_lc lo (fun v1 t => am_if (Nat.beq v1.1 12) (some (1, (0, 1, []), pcr, lo, [(0, 1, [])], h, K, N)) none)
theorem am_Lo_12 {Y : am_Y} {X0 : List Int} {ad : List Nat} {nL : Nat} {v1 : am_V} {t : List am_V} {ls : Array Slot} (h12 : v1.1 = 12) (hlo : am_Lo Y ad (nL + 1) (v1 :: t) ls) : am_Lo (Y.1, Y.2.1, X0, Y.2.2.2) [] (nL + 1) ((12, 0, []) :: List.replicate nL am_un0) ls := by
  obtain ⟨h1, lv, h2, h3⟩ := hlo
  refine ⟨by simp, lv, h2, fun i v hv hn => ?_⟩
  cases i with
  | zero =>
    cases hv
    obtain ⟨V, k1, k2⟩ := h3 0 v1 rfl (by rw [h12]; decide)
    refine ⟨V, ?_, k2⟩
    obtain ⟨t9, n9, f9⟩ := v1
    dsimp only at h12
    subst h12
    have k3 : V = .ref Y.2.2.2 := k1
    subst k3
    show Value.ref Y.2.2.2 = .ref Y.2.2.2
    rfl
  | succ i =>
    have hv2 : (List.replicate nL am_un0)[i]? = some v := hv
    rw [List.getElem?_replicate] at hv2
    split at hv2
    · cases hv2
      exact absurd rfl hn
    · cases hv2
theorem am_oneOK {l : Launch} {Y : am_Y} {L : Nat} {xs : Nat → Int32} (hG : ∀ X : List Int, am_Gl l (Y.1, Y.2.1, X, Y.2.2.2)) (hSc : ∀ X : List Int, am_Sc (Y.1, Y.2.1, X, Y.2.2.2) L xs) {M : am_M} {mi nL pcr K N : Nat} (hmi : am_db[mi]? = some M) (hnL : M.2.2.1 = nL + 1) (hpl : plainFor M.1 = true) (hrt : M.2.2.2.1 = some .boolean) (hdr : decode M.2.1 pcr = .ok (.ireturn, 1))
    (hW : ∀ (p : Program) (e : Env) (s : State) (m : MethodId) (args : Array Value) (below : List Frame) (meth : Method) (c : Code) (Q : State → Prop), am_Fr l p s m args meth c Y.1 Y.2.1 Y.2.2.2 L xs M →
      (∀ (X : List Int) (ad1 : List Nat) (h1 : am_H) (H' : Heap) (locs' : List Loc) (ls' : Array Slot) (V : Value), am_HP (Y.1, Y.2.1, X, Y.2.2.2) s [] ad1 h1 H' locs' → V = .int (Int32.ofNat 1) → W p l e (am_rm 30 K N) s m args below meth c H' locs' K N Q (F0 m pcr ls' [V])) →
      ∃ X0 : List Int, am_At p l e (am_rm 30 K N) s m args below meth c Q (Y.1, Y.2.1, X0, Y.2.2.2) [] (nL + 1) 0 ((12, 0, []) :: List.replicate nL am_un0) [] am_h0 0 0)
    (M' : am_M) (as lo1 : List am_V) (h : am_H) (o : am_O) (hM : am_db[mi]? = some M') (hpad : am_pad am_un0 (am_lay as) M'.2.2.1 = some lo1) (hr : am_gOne pcr K N lo1 [] h 0 0 = some o) (ad : List Nat) :
    vx_Met l M'.1 (am_head M' :: am_ws) (am_rm 30 o.2.2.2.2.2.2.1 o.2.2.2.2.2.2.2) (am_Pc Y ad as h) (am_Qc Y ad o) (am_XC Y ad o) o.2.2.2.2.2.2.1 o.2.2.2.2.2.2.2 (fun q => Y.1.heap.size ≤ q) := by
  have eM : M = M' := Option.some.inj (hmi.symm.trans hM)
  subst eM
  obtain ⟨v1, t, rfl, hr⟩ := am_lc_some hr
  obtain ⟨h12, hr⟩ := am_if_some hr
  cases hr
  have h12 := am_tag h12
  refine am_calleeQ (M := M) (d := 30) (t := .boolean) (r := (0, 1, [])) hpl hpad hrt rfl rfl hdr (fun ad p e s m args below meth c Q ls hF htab hnm hlo hk => ?_) ad
  have hk2 : ∀ (X : List Int) (ad1 : List Nat) (h1 : am_H) (H' : Heap) (locs' : List Loc) (ls' : Array Slot) (V : Value), am_HP (Y.1, Y.2.1, X, Y.2.2.2) s [] ad1 h1 H' locs' → V = .int (Int32.ofNat 1) → W p l e (am_rm 30 K N) s m args below meth c H' locs' K N Q (F0 m pcr ls' [V]) := fun X ad1 h1 H' locs' ls' V q1 q2 => hk [] am_h0 H' locs' ls' V (am_HP_empty (X0 := Y.2.2.1) q1) q2
  obtain ⟨X0, hat⟩ := hW p e s m args below meth c Q ⟨hG, hSc, fun X => hF, htab, hnm⟩ hk2
  rw [hnL] at hlo
  exact hat [] s.heap [] ls [] (am_HP_start (am_Rep_0 _ _)) (am_Lo_12 h12 hlo) trivial
theorem am_d_tu : decode am_m113.2.1 662 = .ok (.ireturn, 1) := by decide +kernel
theorem am_tuningOK {l : Launch} {Y : am_Y} {L : Nat} {xs : Nat → Int32} (hG : ∀ X : List Int, am_Gl l (Y.1, Y.2.1, X, Y.2.2.2)) (hSc : ∀ X : List Int, am_Sc (Y.1, Y.2.1, X, Y.2.2.2) L xs) (M' : am_M) (as lo1 : List am_V) (h : am_H) (o : am_O) (hM : am_db[113]? = some M') (hpad : am_pad am_un0 (am_lay as) M'.2.2.1 = some lo1) (hr : am_gOne 662 849 2574 lo1 [] h 0 0 = some o) (ad : List Nat) :
    vx_Met l M'.1 (am_head M' :: am_ws) (am_rm 30 o.2.2.2.2.2.2.1 o.2.2.2.2.2.2.2) (am_Pc Y ad as h) (am_Qc Y ad o) (am_XC Y ad o) o.2.2.2.2.2.2.1 o.2.2.2.2.2.2.2 (fun q => Y.1.heap.size ≤ q) := by
  refine am_oneOK hG hSc (M := am_m113) (nL := 13) rfl rfl (by decide +kernel) rfl am_d_tu (fun p e s m args below meth c Q hFr hk => ?_) M' as lo1 h o hM hpad hr ad
  refine ⟨[100, 0, 0, 0, 100, 0, 0, 0, 100, 0, 0, 0, 100, 0, 0, 0, 0, 0, 0, 0], ?_⟩
  have hFr9 := hFr
  obtain ⟨hG9, hSc9, hF, htab, hnm⟩ := hFr
  have hA : am_kn am_A1 [100, 0, 0, 0, 100, 0, 0, 0, 100, 0, 0, 0, 100, 0, 0, 0, 0, 0, 0, 0] := am_kn1 _
  have hS := am_snd (d := 28) (K := 849) (N := 2574) (e := e) (below := below) (Q := Q) (hG9 _) hA am_cm113 am_mk113 (am_subOK (hG9 _) hA 100000 28) (hF _) htab hnm 9 0 0 (fun x hx => by cases hx; rfl) 0 0
  have hok := am_tOKb (pat := 0) (by omega)
  refine am_piece (by decide) (fun o ho => by cases ho) am_tckE hS (by decide) (by decide) hok.1 ?_
  have hall : am_AC p l e (am_rm 30 849 2574) s m args below meth c Q Y.1 Y.2.1 Y.2.2.2 am_m113.2.2.1 [100, 0, 0, 0, 100, 0, 0, 0, 100, 0, 0, 0, 100, 0, 0, 0, 0, 0, 0, 0] 15 am_tLA (am_tH 0) 129 1574 := by
    refine am_rounds hFr9 hk 40 0 129 1574 _ (by omega) rfl ⟨fun k hk => ?_, by decide, by decide, by decide, by decide⟩ rfl (by omega) (by omega)
    match k, hk with
    | 0, _ => decide
    | 1, _ => decide
    | 2, _ => decide
    | 3, _ => decide
    | z + 4, h => exact absurd h (by omega)
  have h9 := hall []
  rw [List.append_nil] at h9
  exact h9
