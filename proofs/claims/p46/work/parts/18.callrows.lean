/-! ===== the kinds of calls ===== -/
def am_d (M : am_M) (n : Nat) : Bool := decide (M.1.cls ≠ "java/lang/invoke/MethodHandle") && decide (M.1.cls ≠ "java/lang/invoke/VarHandle") && decide ((parseMethodDescriptor M.1.desc).map (fun d => d.parameters.length) = some n) && decide (M.2.2.1 ≤ 80)
theorem am_d_ok {M : am_M} {n : Nat} (h : am_d M n = true) : (M.1.cls ≠ "java/lang/invoke/MethodHandle" ∧ M.1.cls ≠ "java/lang/invoke/VarHandle" ∧ (parseMethodDescriptor M.1.desc).map (fun d => d.parameters.length) = some n) ∧ M.2.2.1 ≤ 80 := by
  simp only [am_d, Bool.and_eq_true, decide_eq_true_eq] at h
  exact ⟨⟨h.1.1.1, h.1.1.2, h.1.2⟩, h.2⟩
theorem am_good {M : am_M} (h : am_head M ∈ am_ws) : GoodIn am_ws (am_head M :: am_ws) := by
  intro w hw
  have hm : w ∈ am_ws := by
    rcases List.mem_cons.mp hw with rfl | hw
    · exact h
    · exact hw
  exact ⟨hm, good_of_word (List.mem_filter.mp hm).2⟩
theorem am_head_nil {M : am_M} (h : M.2.2.2.2.1 = []) : am_head M = .code M.1 M.2.1 M.2.2.1 M.2.2.2.1 := by
  unfold am_head
  rw [h]
theorem am_head_cons {M : am_M} {x : Nat × Nat × Nat × Nat} {xs : List (Nat × Nat × Nat × Nat)} (h : M.2.2.2.2.1 = x :: xs) : am_head M = .codeWith M.1 M.2.1 M.2.2.1 M.2.2.2.1 (x :: xs) := by
  unfold am_head
  rw [h]
theorem am_room {R : Room} {d a b ml : Nat} (hfr : d + 21 ≤ R.frames) (hlr : 100 * d + 500 ≤ R.locals) (h : ml ≤ 80) : (am_rm d a b).frames + 1 ≤ R.frames ∧ 8 + (ml + 11) + (am_rm d a b).locals ≤ R.locals := by
  have e1 : (am_rm d a b).frames = d + 20 := rfl
  have e2 : (am_rm d a b).locals = 100 * d + 400 := rfl
  rw [e1, e2]
  omega
theorem am_blind (Y : am_Y) (ad : List Nat) (as : List am_V) (h : am_H) : FrameBlind (am_Pc Y ad as h) := fun _ _ _ _ q => q
section AMROWS
variable {p : Program} {l : Launch} {e : Env} {R : Room} {s : State} {m : MethodId} {args : Array Value} {below : List Frame} {meth : Method} {c : Code} {Q : State → Prop} {Y : am_Y} {A : am_A} {ad0 : List Nat} {nL c0 q0 : Nat} {code : ByteArray} {rt : Option FieldType}
variable {pc : Nat} {own : String}
theorem am_pcU (hF : am_Fm p s m args meth c Y own code nL rt) {ad : List Nat} {as : List am_V} {h : am_H} {H : Heap} {locs : List Loc} {As : List Value} (hs : am_St Y ad as As) (hp : am_HP Y s ad0 ad h H locs) (U : State) (hU : U.heap = H) (hW1 : s.WarmedH U.vm) : am_Pc Y ad as h As.toArray U := by
  obtain ⟨-, -, -, -, -, -, -, hW, hold, hsz⟩ := hF
  refine ⟨⟨As, hs, rfl⟩, State.WarmedH.trans hW hW1, fun q hq => ?_, by rw [hU]; exact Nat.le_trans hsz hp.2.1, by rw [hU]; exact hp.1⟩
  rw [hU, hp.2.2.1 q (Nat.lt_of_lt_of_le hq hsz) (fun h3 => ?_)]
  · exact hold q hq
  · have := (hp.1.2.2.1 q (hp.2.2.2.2.2 q h3)).1
    omega
theorem am_rowS (hF : am_Fm p s m args meth c Y own code nL rt) {d n idx : Nat} (hfr : d + 21 ≤ R.frames) (hlr : 100 * d + 500 ≤ R.locals) {M : am_M} (htb : M.2.2.2.2.1 = []) (hd : am_d M n = true) (h0 : am_head M ∈ am_ws) (h1 : Cond.methodLink own idx M.1 ∈ am_ws) (h2 : Cond.static M.1 ∈ am_ws) (h3 : Cond.initialized M.1.cls ∈ am_ws) (hdg : decode code pc = .ok (.invokestatic idx, 3)) {o1 : am_O} {as : List am_V} {h : am_H} {ad : List Nat} (hmet : vx_Met l M.1 (am_head M :: am_ws) (am_rm d o1.2.2.2.2.2.2.1 o1.2.2.2.2.2.2.2) (am_Pc Y ad as h) (am_Qc Y ad o1) (am_XC Y ad o1) o1.2.2.2.2.2.2.1 o1.2.2.2.2.2.2.2 (fun q => Y.1.heap.size ≤ q)) (hn : as.length = n) {H : Heap} {locs : List Loc} {k j : Nat} {ls : Array Slot} {As S : List Value} (hs : as.length = As.length) (hp : PreS s H (am_Pc Y ad as h) As) (hls : ls.size = nL) (hcat : (S.map fun v => v.category).sum ≤ 8) (r1 : k + o1.2.2.2.2.2.2.1 ≤ R.cells) (r2 : j + o1.2.2.2.2.2.2.2 ≤ R.slots) :
    vx_Run p l e R s m args below meth c H locs k j o1.2.2.2.2.2.2.1 o1.2.2.2.2.2.2.2 (F0 m pc ls (As.reverse ++ S)) S (am_Qc Y ad o1 As.toArray) (am_XC Y ad o1) (fun q => Y.1.heap.size ≤ q) := by
  have hF' := hF
  obtain ⟨hx, hb, hml, hown, hts, -, -, hW, hold, hsz⟩ := hF
  obtain ⟨d1, d2⟩ := am_d_ok hd
  have e0 := am_head_nil htb
  exact vx_runS (Ts := am_ws) ⟨hx, hb, hml, hown, hts⟩ hmet ⟨callB_of n hts (am_good h0) (by rw [e0]) rfl rfl (hts _ h3) (hts _ h1) d1 (am_room hfr hlr d2), hts _ h2⟩ hp rfl (hs.symm.trans hn) hls rfl (by show 2 * 0 + _ ≤ 8; omega) hdg ⟨r1, r2⟩
theorem am_rowSX (hF : am_Fm p s m args meth c Y own code nL rt) {d n idx : Nat} (hfr : d + 21 ≤ R.frames) (hlr : 100 * d + 500 ≤ R.locals) {M : am_M} {x : Nat × Nat × Nat × Nat} {xs : List (Nat × Nat × Nat × Nat)} (htb : M.2.2.2.2.1 = x :: xs) (hd : am_d M n = true) (h0 : am_head M ∈ am_ws) (h1 : Cond.methodLink own idx M.1 ∈ am_ws) (h2 : Cond.static M.1 ∈ am_ws) (h3 : Cond.initialized M.1.cls ∈ am_ws) (hdg : decode code pc = .ok (.invokestatic idx, 3)) {o1 : am_O} {as : List am_V} {h : am_H} {ad : List Nat} (hmet : vx_Met l M.1 (am_head M :: am_ws) (am_rm d o1.2.2.2.2.2.2.1 o1.2.2.2.2.2.2.2) (am_Pc Y ad as h) (am_Qc Y ad o1) (am_XC Y ad o1) o1.2.2.2.2.2.2.1 o1.2.2.2.2.2.2.2 (fun q => Y.1.heap.size ≤ q)) (hn : as.length = n) {H : Heap} {locs : List Loc} {k j : Nat} {ls : Array Slot} {As S : List Value} (hs : as.length = As.length) (hp : PreS s H (am_Pc Y ad as h) As) (hls : ls.size = nL) (hcat : (S.map fun v => v.category).sum ≤ 8) (r1 : k + o1.2.2.2.2.2.2.1 ≤ R.cells) (r2 : j + o1.2.2.2.2.2.2.2 ≤ R.slots) :
    vx_Run p l e R s m args below meth c H locs k j o1.2.2.2.2.2.2.1 o1.2.2.2.2.2.2.2 (F0 m pc ls (As.reverse ++ S)) S (am_Qc Y ad o1 As.toArray) (am_XC Y ad o1) (fun q => Y.1.heap.size ≤ q) := by
  have hF' := hF
  obtain ⟨hx, hb, hml, hown, hts, -, -, hW, hold, hsz⟩ := hF
  obtain ⟨⟨d1, d2, d3⟩, d4⟩ := am_d_ok hd
  have e0 := am_head_cons htb
  have hG := am_good h0
  have hcw : Cond.codeWith M.1 M.2.1 M.2.2.1 M.2.2.2.1 (x :: xs) ∈ am_head M :: am_ws := by rw [e0]; exact List.mem_cons_self
  exact vx_runSX (hh := x :: xs) (Ts := am_ws) ⟨hx, hb, hml, hown, hts⟩ hmet ⟨⟨rfl, rfl, (am_room hfr hlr d4).1, (am_room hfr hlr d4).2, pay_in hts hG, hcw⟩, hts _ (hG _ hcw).1, hts _ h3, ⟨d1, d2⟩, fun sig h => by
    rw [h] at d3
    exact (Option.some.inj d3).symm, hts _ h1, hts _ h2⟩ hp rfl (hs.symm.trans hn) hls rfl (by show 2 * 0 + _ ≤ 8; omega) hdg ⟨r1, r2⟩
end AMROWS
