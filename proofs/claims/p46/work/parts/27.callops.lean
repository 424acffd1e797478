/-! ===== calls that pass their checks ===== -/
section AMKC
variable {p : Program} {l : Launch} {e : Env} {R : Room} {s : State} {m : MethodId} {args : Array Value} {below : List Frame} {meth : Method} {c : Code} {Q : State → Prop} {Y : am_Y} {A : am_A} {ad0 : List Nat} {nL c0 q0 : Nat} {code : ByteArray} {rt : Option FieldType}
variable {sub : Nat → am_G} {go : am_G} {jmp : Nat → am_G} {pc : Nat} {M : am_M}
theorem am_kCatch (hG : am_Gl l Y) (hF : am_Fm p s m args meth c Y M.1.cls M.2.1 M.2.2.1 M.2.2.2.1) (htab : c.exceptionTable.toList = tableOf M.2.2.2.2.1) (htck : am_tck M = true) (hj : ∀ t, am_Snd p l e R s m args below meth c Q Y ad0 M.2.2.1 c0 q0 M.2.1 M.2.2.2.1 (jmp (am_ix t M.2.2.2.2.2)) t) : ∀ (ei t : Nat), (am_tb am_hc M pc)[ei]? = some (some t) → ∃ (pt : Nat) (E : String), am_ex[ei]? = some E ∧ am_Snd p l e R s m args below meth c Q Y ad0 M.2.2.1 c0 q0 M.2.1 M.2.2.2.1 (jmp t) pt ∧ ∀ (H : Heap) (locs : List Loc) (k j : Nat) (ls : Array Slot) (S : List Value) (q : Addr) (ce : Cell), H[q]? = some ce → ce.vm = .none → s.vm.findClass E = some ce.cls → W p l e R s m args below meth c H locs k j Q (F0 m pt ls [.ref q]) → vx_W p l e R s m args below meth c H locs k j Q (F0 m pc ls S) q := fun ei t h => by
  obtain ⟨t0, h1, rfl⟩ := am_tb_ok h
  obtain ⟨E, hE, hc⟩ := am_catch hG hF htab htck h1
  exact ⟨t0, E, hE, hj t0, hc⟩
theorem am_kStat (hG : am_Gl l Y) (hF : am_Fm p s m args meth c Y M.1.cls M.2.1 M.2.2.1 M.2.2.2.1) (htab : c.exceptionTable.toList = tableOf M.2.2.2.2.1) (htck : am_tck M = true) {d : Nat} (hfr : d + 21 ≤ R.frames) (hlr : 100 * d + 500 ≤ R.locals) (hsub : am_SubOK l Y d sub) (hj : ∀ t, am_Snd p l e R s m args below meth c Q Y ad0 M.2.2.1 c0 q0 M.2.1 M.2.2.2.1 (jmp (am_ix t M.2.2.2.2.2)) t) {mi n idx w1 w2 w3 : Nat} {vo : Bool} {M1 : am_M} (hM : am_db[mi]? = some M1) (hl : am_lib3 M.1.cls idx M1.1 w1 w2 w3 = true) (h0 : am_head M1 ∈ am_ws) (hd1 : am_d M1 n = true) (hd : decode M.2.1 pc = .ok (.invokestatic idx, 3)) (hgo : am_Snd p l e R s m args below meth c Q Y ad0 M.2.2.1 c0 q0 M.2.1 M.2.2.2.1 go (pc + 3)) : am_Snd p l e R s m args below meth c Q Y ad0 M.2.2.1 c0 q0 M.2.1 M.2.2.2.1 (am_oCall (am_tb am_hc M pc) pc mi n M1.2.2.1 vo A sub go jmp) pc := by
  obtain ⟨h1, h2, h3⟩ := am_lib3_ok hl
  refine am_sCallS (A := A) (sub := sub) (go := go) (jmp := jmp) fun lo stk h nc ns o _ ho => am_sCallC (chk := fun _ _ => True) hsub hM rfl ?_ hgo (fun e => htab.trans (am_tb_nil e)) (am_kCatch hG hF htab htck hj) lo stk h nc ns o trivial ho
  intro o1 as h ad hmet hn _ H locs k j ls As S hs hp hls hcat r1 r2
  cases hT : M1.2.2.2.2.1 with
  | nil => exact am_rowS hF hfr hlr hT hd1 h0 h1 h2 h3 hd hmet hn (am_St_len hs) (am_pcU2 hF hs hp) hls hcat r1 r2
  | cons x xs => exact am_rowSX hF hfr hlr hT hd1 h0 h1 h2 h3 hd hmet hn (am_St_len hs) (am_pcU2 hF hs hp) hls hcat r1 r2
theorem am_kSt (hG : am_Gl l Y) (hF : am_Fm p s m args meth c Y M.1.cls M.2.1 M.2.2.1 M.2.2.2.1) (hA : am_kn A Y.2.2.1) (htab : c.exceptionTable.toList = tableOf M.2.2.2.2.1) (htck : am_tck M = true) {d : Nat} (hfr : d + 21 ≤ R.frames) (hlr : 100 * d + 500 ≤ R.locals) (hsub : am_SubOK l Y d sub) {b9 : Bool} (hbod : b9 = true → am_BodOK l Y d am_m18) (hj : ∀ t, am_Snd p l e R s m args below meth c Q Y ad0 M.2.2.1 c0 q0 M.2.1 M.2.2.2.1 (jmp (am_ix t M.2.2.2.2.2)) t) {idx : Nat} {ln : List Nat} (h : am_cSt b9 M.1.cls idx ln = true) (hd : decode M.2.1 pc = .ok (.invokestatic idx, 3)) (hgo : am_Snd p l e R s m args below meth c Q Y ad0 M.2.2.1 c0 q0 M.2.1 M.2.2.2.1 go (pc + 3)) : am_Snd p l e R s m args below meth c Q Y ad0 M.2.2.1 c0 q0 M.2.1 M.2.2.2.1 (am_op am_db am_hc am_bl M pc (.invokestatic idx) ln A sub go jmp) pc := by
  unfold am_cSt at h
  split at h
  · exact am_kBad A sub go jmp
  · rename_i mi n w1 w2 w3 w4
    split at h
    · rename_i M1 hM
      simp only [Bool.and_eq_true] at h
      show am_Snd p l e R s m args below meth c Q Y ad0 M.2.2.1 c0 q0 M.2.1 M.2.2.2.1 ((match am_db[mi]? with | some m => am_oCall (am_tb am_hc M pc) pc mi n m.2.2.1 m.2.2.2.1.isNone | none => am_oBad) A sub go jmp) pc
      rw [hM]
      exact am_kStat hG hF htab htck hfr hlr hsub hj hM h.1.1 (am_hd_ok h.2 hM) h.1.2 hd hgo
    · cases h
  · obtain ⟨h1, h2, h3, h4⟩ := am_lib_ok h
    exact am_sAbs (A := A) (sub := sub) (go := go) (jmp := jmp) hA hF (by omega) (by omega) h1 h2 h3 h4 hd hgo
  · obtain ⟨h1, h2, h3, h4⟩ := am_lib_ok h
    exact am_sMin (A := A) (sub := sub) (go := go) (jmp := jmp) hF (by omega) (by omega) h1 h2 h3 h4 hd hgo
  · obtain ⟨h1, h2, h3, h4⟩ := am_lib_ok h
    exact am_sMinL (A := A) (sub := sub) (go := go) (jmp := jmp) hF (by omega) (by omega) h1 h2 h3 h4 hd hgo
  · obtain ⟨h1, h2, h3, h4⟩ := am_lib_ok h
    exact am_sMaxL (A := A) (sub := sub) (go := go) (jmp := jmp) hF (by omega) (by omega) h1 h2 h3 h4 hd hgo
  · obtain ⟨h1, h2, h3, h4⟩ := am_lib_ok h
    exact am_rF2I (A := A) (sub := sub) (go := go) (jmp := jmp) hF (by omega) (by omega) h1 h2 h3 h4 hd hgo
  · obtain ⟨h1, h2, h3, h4⟩ := am_lib_ok h
    exact am_rD2L (A := A) (sub := sub) (go := go) (jmp := jmp) hF (by omega) (by omega) h1 h2 h3 h4 hd hgo
  · rename_i mi n w1 w2 w3 w4
    simp only [Bool.and_eq_true] at h
    obtain ⟨⟨⟨⟨hb9, e1⟩, e2⟩, hl⟩, hd1⟩ := h
    have e1 := Nat.eq_of_beq_eq_true e1
    have e2 := Nat.eq_of_beq_eq_true e2
    subst e1
    subst e2
    have hM : am_db[18]? = some am_m18 := rfl
    obtain ⟨h1, h2, h3⟩ := am_lib3_ok hl
    have h0 : am_head am_m18 ∈ am_ws := am_hd_ok rfl hM
    show am_Snd p l e R s m args below meth c Q Y ad0 M.2.2.1 c0 q0 M.2.1 M.2.2.2.1 ((match am_db[18]? with | some m => am_oBod (am_tb am_hc M pc) pc 18 m.2.2.1 | none => am_oBad) A sub go jmp) pc
    rw [hM]
    exact am_sBod (A := A) (sub := sub) (go := go) (jmp := jmp) hA hF hfr hlr rfl hd1 h0 h1 h2 h3 hd (hbod hb9) (am_kStat hG hF htab htck hfr hlr hsub hj hM hl h0 hd1 hd hgo) hgo
  · cases h
theorem am_kVi (hG : am_Gl l Y) (hF : am_Fm p s m args meth c Y M.1.cls M.2.1 M.2.2.1 M.2.2.2.1) (htab : c.exceptionTable.toList = tableOf M.2.2.2.2.1) (htck : am_tck M = true) {d : Nat} (hfr : d + 21 ≤ R.frames) (hlr : 100 * d + 500 ≤ R.locals) (hsub : am_SubOK l Y d sub) (hj : ∀ t, am_Snd p l e R s m args below meth c Q Y ad0 M.2.2.1 c0 q0 M.2.1 M.2.2.2.1 (jmp (am_ix t M.2.2.2.2.2)) t) {idx : Nat} {ln : List Nat} (h : am_cVi M.1.cls idx ln = true) (hd : decode M.2.1 pc = .ok (.invokevirtual idx, 3)) (hgo : am_Snd p l e R s m args below meth c Q Y ad0 M.2.2.1 c0 q0 M.2.1 M.2.2.2.1 go (pc + 3)) : am_Snd p l e R s m args below meth c Q Y ad0 M.2.2.1 c0 q0 M.2.1 M.2.2.2.1 (am_op am_db am_hc am_bl M pc (.invokevirtual idx) ln A sub go jmp) pc := by
  unfold am_cVi at h
  split at h
  · exact am_kBad A sub go jmp
  · rename_i mi n ci w1 w2 w3 w4 w5
    split at h
    · rename_i M1 q hM hq
      simp only [Bool.and_eq_true, decide_eq_true_eq] at h
      obtain ⟨⟨⟨⟨⟨⟨⟨⟨h5, h6⟩, h7⟩, h8⟩, h1⟩, h2⟩, h3⟩, h4⟩, h0⟩ := h
      obtain ⟨n', rfl⟩ := Nat.exists_eq_succ_of_ne_zero (Nat.pos_iff_ne_zero.mp h5)
      have hT : M1.2.2.2.2.1 = [] := List.isEmpty_iff.mp h7
      show am_Snd p l e R s m args below meth c Q Y ad0 M.2.2.1 c0 q0 M.2.1 M.2.2.2.1 ((match am_db[mi]? with | some m => am_oCallV (am_tb am_hc M pc) pc mi (n' + 1) m.2.2.1 m.2.2.2.1.isNone ci | none => am_oBad) A sub go jmp) pc
      rw [hM]
      refine am_sCallV (A := A) (sub := sub) (go := go) (jmp := jmp) fun lo stk h nc ns o hck ho => am_sCallC (chk := fun stk h => ∃ r k, stk[n' + 1 - 1]? = some r ∧ Nat.beq r.1 10 = true ∧ am_get h r.2.1 = some k ∧ Nat.beq k.1 ci = true) hsub hM rfl ?_ hgo (fun e => htab.trans (am_tb_nil e)) (am_kCatch hG hF htab htck hj) lo stk h nc ns o hck ho
      intro o1 as h ad hmet hn hck H locs k j ls As S hs hp hls hcat r1 r2
      exact am_rowV hF hG.2.1 hfr hlr hq h8 hT h6 (am_hd_ok h0 hM) (am_w_in h1) (am_w_in h2) (am_w_in h4) (am_w_in h3) hd hmet hn hck hs hp hls hcat r1 r2
    · cases h
  · cases h
theorem am_kSp (hG : am_Gl l Y) (hF : am_Fm p s m args meth c Y M.1.cls M.2.1 M.2.2.1 M.2.2.2.1) (htab : c.exceptionTable.toList = tableOf M.2.2.2.2.1) (htck : am_tck M = true) {d : Nat} (hfr : d + 21 ≤ R.frames) (hlr : 100 * d + 500 ≤ R.locals) (hsub : am_SubOK l Y d sub) (hj : ∀ t, am_Snd p l e R s m args below meth c Q Y ad0 M.2.2.1 c0 q0 M.2.1 M.2.2.2.1 (jmp (am_ix t M.2.2.2.2.2)) t) {idx : Nat} {ln : List Nat} (h : am_cSp M.1.cls idx ln = true) (hd : decode M.2.1 pc = .ok (.invokespecial idx, 3)) (hgo : am_Snd p l e R s m args below meth c Q Y ad0 M.2.2.1 c0 q0 M.2.1 M.2.2.2.1 go (pc + 3)) : am_Snd p l e R s m args below meth c Q Y ad0 M.2.2.1 c0 q0 M.2.1 M.2.2.2.1 (am_op am_db am_hc am_bl M pc (.invokespecial idx) ln A sub go jmp) pc := by
  unfold am_cSp at h
  split at h
  · exact am_kBad A sub go jmp
  · rename_i mi n w1 w2 w3 w4
    split at h
    · rename_i M1 hM
      simp only [Bool.and_eq_true, Bool.or_eq_true, decide_eq_true_eq] at h
      obtain ⟨⟨⟨⟨⟨⟨⟨⟨h5, h6⟩, h7⟩, h8⟩, h9⟩, h1⟩, h2⟩, h3⟩, h0⟩ := h
      obtain ⟨n', rfl⟩ := Nat.exists_eq_succ_of_ne_zero (Nat.pos_iff_ne_zero.mp h5)
      have hT : M1.2.2.2.2.1 = [] := List.isEmpty_iff.mp h7
      have hR : M1.2.2.2.1 = none := Option.isNone_iff_eq_none.mp h8
      have h1' : Cond.methodLink M.1.cls idx M1.1 ∈ am_ws ∨ ∃ host, (Cond.methodLinkNest M.1.cls idx M1.1 host).before args s = true := by
        rcases h1 with h1 | h1
        · exact Or.inl (am_w_in h1)
        · exact Or.inr ⟨_, am_wk_ok rfl (hG.2.2.2.1 _ (am_atw_in h1) rfl) hF.2.2.2.2.2.2.2.1⟩
      show am_Snd p l e R s m args below meth c Q Y ad0 M.2.2.1 c0 q0 M.2.1 M.2.2.2.1 ((match am_db[mi]? with | some m => am_oCallI (am_tb am_hc M pc) pc mi (n' + 1) m.2.2.1 m.2.2.2.1.isNone | none => am_oBad) A sub go jmp) pc
      rw [hM]
      refine am_sCallI (A := A) (sub := sub) (go := go) (jmp := jmp) fun lo stk h nc ns o hck ho => am_sCallC (chk := fun stk h => ∃ r, stk[n' + 1 - 1]? = some r ∧ Nat.beq r.1 10 = true) hsub hM rfl ?_ hgo (fun e => htab.trans (am_tb_nil e)) (am_kCatch hG hF htab htck hj) lo stk h nc ns o hck ho
      intro o1 as h ad hmet hn hck H locs k j ls As S hs hp hls hcat r1 r2
      exact am_rowI hF hfr hlr hT hR h9 h6 (am_hd_ok h0 hM) h1' (am_w_in h2) (am_w_in h3) hd hmet hn hck hs hp hls hcat r1 r2
    · cases h
  · simp only [Bool.and_eq_true] at h
    exact am_sObj (A := A) (sub := sub) (go := go) (jmp := jmp) hF (by omega) (by omega) (am_w_in h.1.1) (am_w_in h.1.2) (am_w_in h.2) hd hgo
  · cases h
end AMKC
