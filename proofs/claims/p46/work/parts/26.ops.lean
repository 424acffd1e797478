/-! ===== an instruction that passes its check ===== -/
theorem am_tb_ok {M : am_M} {pc ei t : Nat} (h : (am_tb am_hc M pc)[ei]? = some (some t)) : ∃ t0, am_hnd am_hc ei pc M.2.2.2.2.1 = some t0 ∧ t = am_ix t0 M.2.2.2.2.2 := by
  unfold am_tb at h
  split at h
  · cases h
  · rename_i x xs hx
    rw [List.getElem?_map] at h
    have h1 : ([0, 1, 2, 3, 4, 5] : List Nat)[ei]? = some ei := by
      cases h2 : ([0, 1, 2, 3, 4, 5] : List Nat)[ei]? with
      | none => rw [h2] at h; cases h
      | some y =>
        match ei, h2 with
        | 0, h2 => exact h2.symm.trans rfl
        | 1, h2 => exact h2.symm.trans rfl
        | 2, h2 => exact h2.symm.trans rfl
        | 3, h2 => exact h2.symm.trans rfl
        | 4, h2 => exact h2.symm.trans rfl
        | 5, h2 => exact h2.symm.trans rfl
        | n + 6, h2 => cases h2
    rw [h1] at h
    have h3 := Option.some.inj h
    dsimp only at h3
    rw [hx]
    split at h3
    · rename_i t0 ht
      exact ⟨t0, ht, (Option.some.inj h3).symm⟩
    · cases h3
theorem am_tb_nil {M : am_M} {pc : Nat} (h : am_tb am_hc M pc = []) : tableOf M.2.2.2.2.1 = [] := by
  unfold am_tb at h
  split at h
  · rename_i hx
    rw [hx]
    rfl
  · cases h
theorem am_lib_ok {own : String} {idx w1 w2 w3 w4 : Nat} {y : MethodName} {w : Cond} (h : am_lib own idx y w1 w2 w3 w4 w = true) : Cond.methodLink own idx y ∈ am_ws ∧ Cond.static y ∈ am_ws ∧ Cond.initialized y.cls ∈ am_ws ∧ w ∈ am_ws := by
  simp only [am_lib, Bool.and_eq_true] at h
  exact ⟨am_w_in h.1.1.1, am_w_in h.1.1.2, am_w_in h.1.2, am_w_in h.2⟩
theorem am_lib3_ok {own : String} {idx w1 w2 w3 : Nat} {y : MethodName} (h : am_lib3 own idx y w1 w2 w3 = true) : Cond.methodLink own idx y ∈ am_ws ∧ Cond.static y ∈ am_ws ∧ Cond.initialized y.cls ∈ am_ws := by
  simp only [am_lib3, Bool.and_eq_true] at h
  exact ⟨am_w_in h.1.1, am_w_in h.1.2, am_w_in h.2⟩
theorem am_hd_ok {mi : Nat} {M : am_M} (h : am_isu2 mi = true) (hM : am_db[mi]? = some M) : am_head M ∈ am_ws := by
  obtain ⟨k, h1, h2⟩ := List.any_eq_true.mp h
  have e := Nat.eq_of_beq_eq_true h2
  subst e
  exact am_heads k h1 M hM
theorem am_arrInt : Cond.arrayClass .int ∈ am_ws := am_w_in (i := 189) (by decide +kernel)
section AMK
variable {p : Program} {l : Launch} {e : Env} {R : Room} {s : State} {m : MethodId} {args : Array Value} {below : List Frame} {meth : Method} {c : Code} {Q : State → Prop} {Y : am_Y} {A : am_A} {ad0 : List Nat} {nL c0 q0 : Nat} {code : ByteArray} {rt : Option FieldType}
variable {sub : Nat → am_G} {go : am_G} {jmp : Nat → am_G} {pc : Nat} {M : am_M}
theorem am_kBad (A : am_A) (sub : Nat → am_G) (go : am_G) (jmp : Nat → am_G) : am_Snd p l e R s m args below meth c Q Y ad0 M.2.2.1 c0 q0 M.2.1 M.2.2.2.1 (am_oBad A sub go jmp) pc := am_sBad
theorem am_kLdc (hF : am_Fm p s m args meth c Y M.1.cls M.2.1 M.2.2.1 M.2.2.2.1) {idx : Nat} {ln : List Nat} (h : am_cLdc M.1.cls idx ln = true) (hd : decode M.2.1 pc = .ok (.ldc idx, 2)) (hgo : am_Snd p l e R s m args below meth c Q Y ad0 M.2.2.1 c0 q0 M.2.1 M.2.2.2.1 go (pc + 2)) : am_Snd p l e R s m args below meth c Q Y ad0 M.2.2.1 c0 q0 M.2.1 M.2.2.2.1 (am_op am_db am_hc am_bl M pc (.ldc idx) ln A sub go jmp) pc := by
  unfold am_cLdc at h
  split at h
  · exact am_kBad A sub go jmp
  · rename_i t n w
    rw [Bool.or_eq_true, Bool.and_eq_true, Bool.and_eq_true] at h
    rcases h with ⟨e, h⟩ | ⟨e, h⟩
    · have e := Nat.eq_of_beq_eq_true e
      subst e
      exact am_rLdcI (A := A) (sub := sub) (go := go) (jmp := jmp) hF.1 hF.2.1 hF.2.2.2.1 (hF.2.2.2.2.1 _ (am_w_in h)) hd hgo
    · have e := Nat.eq_of_beq_eq_true e
      subst e
      exact am_rLdcF (A := A) (sub := sub) (go := go) (jmp := jmp) hF.1 hF.2.1 hF.2.2.2.1 (hF.2.2.2.2.1 _ (am_w_in h)) hd hgo
  · cases h
theorem am_kLdcW (hF : am_Fm p s m args meth c Y M.1.cls M.2.1 M.2.2.1 M.2.2.2.1) {idx : Nat} {ln : List Nat} (h : am_cLdcW M.1.cls idx ln = true) (hd : decode M.2.1 pc = .ok (.ldc_w idx, 3)) (hgo : am_Snd p l e R s m args below meth c Q Y ad0 M.2.2.1 c0 q0 M.2.1 M.2.2.2.1 go (pc + 3)) : am_Snd p l e R s m args below meth c Q Y ad0 M.2.2.1 c0 q0 M.2.1 M.2.2.2.1 (am_op am_db am_hc am_bl M pc (.ldc_w idx) ln A sub go jmp) pc := by
  unfold am_cLdcW at h
  split at h
  · exact am_kBad A sub go jmp
  · rename_i t n w
    rw [Bool.or_eq_true, Bool.and_eq_true, Bool.and_eq_true] at h
    rcases h with ⟨e, h⟩ | ⟨e, h⟩
    · have e := Nat.eq_of_beq_eq_true e
      subst e
      exact am_rLdcW (A := A) (sub := sub) (go := go) (jmp := jmp) hF.1 hF.2.1 hF.2.2.2.1 (hF.2.2.2.2.1 _ (am_w_in h)) hd hgo
    · have e := Nat.eq_of_beq_eq_true e
      subst e
      exact am_rLdcFW (A := A) (sub := sub) (go := go) (jmp := jmp) hF.1 hF.2.1 hF.2.2.2.1 (hF.2.2.2.2.1 _ (am_w_in h)) hd hgo
  · cases h
theorem am_kLdc2 (hF : am_Fm p s m args meth c Y M.1.cls M.2.1 M.2.2.1 M.2.2.2.1) {idx : Nat} {ln : List Nat} (h : am_cLdc2 M.1.cls idx ln = true) (hd : decode M.2.1 pc = .ok (.ldc2_w idx, 3)) (hgo : am_Snd p l e R s m args below meth c Q Y ad0 M.2.2.1 c0 q0 M.2.1 M.2.2.2.1 go (pc + 3)) : am_Snd p l e R s m args below meth c Q Y ad0 M.2.2.1 c0 q0 M.2.1 M.2.2.2.1 (am_op am_db am_hc am_bl M pc (.ldc2_w idx) ln A sub go jmp) pc := by
  unfold am_cLdc2 at h
  split at h
  · exact am_kBad A sub go jmp
  · rename_i t n w
    rw [Bool.or_eq_true, Bool.and_eq_true, Bool.and_eq_true] at h
    rcases h with ⟨e, h⟩ | ⟨e, h⟩
    · have e := Nat.eq_of_beq_eq_true e
      subst e
      exact am_rLdcL (A := A) (sub := sub) (go := go) (jmp := jmp) hF.1 hF.2.1 hF.2.2.2.1 (hF.2.2.2.2.1 _ (am_w_in h)) hd hgo
    · have e := Nat.eq_of_beq_eq_true e
      subst e
      exact am_rLdcD (A := A) (sub := sub) (go := go) (jmp := jmp) hF.1 hF.2.1 hF.2.2.2.1 (hF.2.2.2.2.1 _ (am_w_in h)) hd hgo
  · cases h
theorem am_kGet (hG : am_Gl l Y) (hF : am_Fm p s m args meth c Y M.1.cls M.2.1 M.2.2.1 M.2.2.2.1) {idx : Nat} {ln : List Nat} (h : am_cFld M false idx ln = true) (hd : decode M.2.1 pc = .ok (.getfield idx, 3)) (hgo : am_Snd p l e R s m args below meth c Q Y ad0 M.2.2.1 c0 q0 M.2.1 M.2.2.2.1 go (pc + 3)) : am_Snd p l e R s m args below meth c Q Y ad0 M.2.2.1 c0 q0 M.2.1 M.2.2.2.1 (am_op am_db am_hc am_bl M pc (.getfield idx) ln A sub go jmp) pc := by
  unfold am_cFld at h
  split at h
  · exact am_kBad A sub go jmp
  · rename_i ci k w
    split at h
    · rename_i q hq
      simp only [Bool.and_eq_true, decide_eq_true_eq] at h
      exact am_sGet (A := A) (sub := sub) (go := go) (jmp := jmp) hF hG.2.1 hq h.1.1 (am_w_in h.1.2) hd hgo
    · cases h
  · cases h
theorem am_kPut (hG : am_Gl l Y) (hF : am_Fm p s m args meth c Y M.1.cls M.2.1 M.2.2.1 M.2.2.2.1) (hnm : meth.name = M.1.name) {idx : Nat} {ln : List Nat} (h : am_cFld M true idx ln = true) (hd : decode M.2.1 pc = .ok (.putfield idx, 3)) (hgo : am_Snd p l e R s m args below meth c Q Y ad0 M.2.2.1 c0 q0 M.2.1 M.2.2.2.1 go (pc + 3)) : am_Snd p l e R s m args below meth c Q Y ad0 M.2.2.1 c0 q0 M.2.1 M.2.2.2.1 (am_op am_db am_hc am_bl M pc (.putfield idx) ln A sub go jmp) pc := by
  unfold am_cFld at h
  split at h
  · exact am_kBad A sub go jmp
  · rename_i ci k w
    split at h
    · rename_i q hq
      simp only [Bool.and_eq_true, Bool.or_eq_true, Bool.not_true, Bool.false_eq_true, false_or, Bool.not_eq_true', decide_eq_true_eq] at h
      exact am_sPut (A := A) (sub := sub) (go := go) (jmp := jmp) hF hG.2.1 hq h.1.1 (am_w_in h.1.2) (h.2.imp_right fun q => ⟨hnm.trans q.1, q.2⟩) hd hgo
    · cases h
  · cases h
theorem am_kThr (hG : am_Gl l Y) (hF : am_Fm p s m args meth c Y M.1.cls M.2.1 M.2.2.1 M.2.2.2.1) (htab : c.exceptionTable.toList = tableOf M.2.2.2.2.1) (hT : M.2.2.2.2.1 = []) (hfr : 20 ≤ R.frames) (hlr : 400 ≤ R.locals) {idx ei : Nat} (h : am_cThr M pc idx ei = true) (hd : decode M.2.1 pc = .ok (.new idx, 3)) : am_Snd p l e R s m args below meth c Q Y ad0 M.2.2.1 c0 q0 M.2.1 M.2.2.2.1 (am_oThrow pc ei A sub go jmp) pc := by
  unfold am_cThr at h
  split at h
  · cases h
  · rename_i E hE
    rw [Bool.and_eq_true, decide_eq_true_eq] at h
    obtain ⟨d3, h⟩ := h
    have ht0 : c.exceptionTable.toList = [] := by rw [htab, hT]; rfl
    split at h
    · rename_i is h4
      split at h
      · rename_i ic h6
        rw [Bool.and_eq_true, decide_eq_true_eq] at h
        obtain ⟨d9, h⟩ := h
        split at h
        · exact am_sThrow (A := A) (sub := sub) (go := go) (jmp := jmp) hG hF hfr hlr ht0 hE h hd d3 (Or.inl ⟨h4, h6, d9⟩)
        · cases h
      · cases h
    · rename_i is h4
      split at h
      · rename_i ic h6
        rw [Bool.and_eq_true, decide_eq_true_eq] at h
        obtain ⟨d9, h⟩ := h
        split at h
        · exact am_sThrow (A := A) (sub := sub) (go := go) (jmp := jmp) hG hF hfr hlr ht0 hE h hd d3 (Or.inr ⟨h4, h6, d9⟩)
        · cases h
      · cases h
    · cases h
theorem am_bl_all : (List.range 7).all (fun ci => (am_bl[ci]?).isSome) = true := by decide +kernel
theorem am_kNew (hG : am_Gl l Y) (hF : am_Fm p s m args meth c Y M.1.cls M.2.1 M.2.2.1 M.2.2.2.1) (htab : c.exceptionTable.toList = tableOf M.2.2.2.2.1) (hfr : 20 ≤ R.frames) (hlr : 400 ≤ R.locals) {idx : Nat} {ln : List Nat} (h : am_cNew M pc idx ln = true) (hd : decode M.2.1 pc = .ok (.new idx, 3)) (hgo : am_Snd p l e R s m args below meth c Q Y ad0 M.2.2.1 c0 q0 M.2.1 M.2.2.2.1 go (pc + 3)) : am_Snd p l e R s m args below meth c Q Y ad0 M.2.2.1 c0 q0 M.2.1 M.2.2.2.1 (am_op am_db am_hc am_bl M pc (.new idx) ln A sub go jmp) pc := by
  unfold am_cNew at h
  split at h
  · exact am_kBad A sub go jmp
  · rename_i ei
    show am_Snd p l e R s m args below meth c Q Y ad0 M.2.2.1 c0 q0 M.2.1 M.2.2.2.1 ((match M.2.2.2.2.1 with | [] => am_oThrow pc ei | _ => am_oBad) A sub go jmp) pc
    cases hT : M.2.2.2.2.1 with
    | nil =>
      rw [hT] at h
      exact am_kThr hG hF htab hT hfr hlr h hd
    | cons x xs => exact am_kBad A sub go jmp
  · rename_i ci w1 w2 w3
    split at h
    · rename_i q hq
      simp only [Bool.and_eq_true] at h
      have hlt := am_cl_lt hq
      have hbs := List.all_eq_true.mp am_bl_all ci (List.mem_range.mpr hlt)
      obtain ⟨fs, hfs⟩ := Option.isSome_iff_exists.mp hbs
      have e9 : am_op am_db am_hc am_bl M pc (.new idx) [ci, w1, w2, w3] = am_oNew ci fs := by
        have h7 : ci = 0 ∨ ci = 1 ∨ ci = 2 ∨ ci = 3 ∨ ci = 4 ∨ ci = 5 ∨ ci = 6 := by omega
        rcases h7 with rfl | rfl | rfl | rfl | rfl | rfl | rfl <;> simp only [am_op, hfs]
      rw [e9]
      exact am_sNew (A := A) (sub := sub) (go := go) (jmp := jmp) hF hG.2.1 hq hfs (am_w_in h.1.1) (am_w_in h.1.2) (am_w_in h.2) hd hgo
    · cases h
  · cases h
theorem am_kAna (hG : am_Gl l Y) (hF : am_Fm p s m args meth c Y M.1.cls M.2.1 M.2.2.1 M.2.2.2.1) {idx : Nat} {ln : List Nat} (h : am_cAna M.1.cls idx ln = true) (hd : decode M.2.1 pc = .ok (.anewarray idx, 3)) (hgo : am_Snd p l e R s m args below meth c Q Y ad0 M.2.2.1 c0 q0 M.2.1 M.2.2.2.1 go (pc + 3)) : am_Snd p l e R s m args below meth c Q Y ad0 M.2.2.1 c0 q0 M.2.1 M.2.2.2.1 (am_op am_db am_hc am_bl M pc (.anewarray idx) ln A sub go jmp) pc := by
  unfold am_cAna at h
  split at h
  · exact am_kBad A sub go jmp
  · rename_i k w rest
    simp only [Bool.or_eq_true, Bool.and_eq_true] at h
    rcases h with ((⟨e, h⟩ | ⟨e, h⟩) | ⟨e, h⟩) | ⟨e, h⟩ <;> (have e := Nat.eq_of_beq_eq_true e; subst e)
    · exact am_sNewq (A := A) (sub := sub) (go := go) (jmp := jmp) hF hG.2.2.1 (Or.inl ⟨rfl, rfl⟩) (am_w_in h) hd hgo
    · exact am_sNewq (A := A) (sub := sub) (go := go) (jmp := jmp) hF hG.2.2.1 (Or.inr (Or.inl ⟨rfl, rfl⟩)) (am_w_in h) hd hgo
    · exact am_sNewq (A := A) (sub := sub) (go := go) (jmp := jmp) hF hG.2.2.1 (Or.inr (Or.inr ⟨rfl, rfl⟩)) (am_w_in h) hd hgo
    · exact am_sNewA (A := A) (sub := sub) (go := go) (jmp := jmp) hF hG.2.2.1 (am_w_in h) hd hgo
  · cases h
end AMK
