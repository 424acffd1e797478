/-! ===== full comes to 1 ===== -/
noncomputable def am_gFull : am_G := fun lo stk h nc ns => some (1, (0, 1, []), 505, lo, [(0, 1, [])], h, 237, 1970)
set_option maxRecDepth 100000 in
theorem am_fullT : am_pce am_A1 (am_sub am_A1 100000 am_codes 28) am_p119 0 100000 505 [] (List.replicate 3 am_un0) am_h0 237 1970 = true := by decide +kernel
theorem am_d_fu : decode am_m119.2.1 505 = .ok (.ireturn, 1) := by decide +kernel
theorem am_fullOK {l : Launch} {Y : am_Y} (hG : ∀ X : List Int, am_Gl l (Y.1, Y.2.1, X, Y.2.2.2)) (M' : am_M) (as lo1 : List am_V) (h : am_H) (o : am_O) (hM : am_db[119]? = some M') (hpad : am_pad am_un0 (am_lay as) M'.2.2.1 = some lo1) (hr : am_gFull lo1 [] h 0 0 = some o) (ad : List Nat) :
    vx_Met l M'.1 (am_head M' :: am_ws) (am_rm 30 o.2.2.2.2.2.2.1 o.2.2.2.2.2.2.2) (am_Pc Y ad as h) (am_Qc Y ad o) (am_XC Y ad o) o.2.2.2.2.2.2.1 o.2.2.2.2.2.2.2 (fun q => Y.1.heap.size ≤ q) := by
  have eM : am_m119 = M' := Option.some.inj hM
  subst eM
  cases hr
  refine am_calleeQ (M := am_m119) (d := 30) (t := .boolean) (r := (0, 1, [])) (by decide +kernel) hpad rfl rfl rfl am_d_fu (fun ad p e s m args below meth c Q ls hF htab hnm hlo hk => ?_) ad
  have hA : am_kn am_A1 Y.2.2.1 := am_kn1 _
  have hGY : am_Gl l Y := hG Y.2.2.1
  have hS := am_snd (d := 28) (K := 237) (N := 1970) (e := e) (below := below) (Q := Q) hGY hA am_cm119 am_mk119 (am_subOK hGY hA 100000 28) hF htab hnm 100000 0 0 (fun x hx => by cases hx; rfl) 0 0
  obtain ⟨s0, D, X, b⟩ := Y
  have hat := am_last (K := 237) (N := 1970) (fun o ho => by cases ho) am_fullT hS (by decide) (by decide) (by decide) (by decide) (fun ad1 h1 H' locs' ls' V q1 q2 => hk [] am_h0 H' locs' ls' V (am_HP_empty q1) q2)
  refine hat [] s.heap [] ls [] (am_HP_start (am_Rep_0 _ _)) ?_ trivial
  obtain ⟨z1, lv, z2, z3⟩ := hlo
  refine ⟨rfl, lv, z2, fun i v hv hn => ?_⟩
  rw [List.getElem?_replicate] at hv
  split at hv
  · cases hv
    exact absurd rfl hn
  · cases hv
