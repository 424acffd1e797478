/-! ===== calls on an object ===== -/
section AMCALLV
variable {p : Program} {l : Launch} {e : Env} {R : Room} {s : State} {m : MethodId} {args : Array Value} {below : List Frame} {meth : Method} {c : Code} {Q : State → Prop} {Y : am_Y} {A : am_A} {ad0 : List Nat} {nL c0 q0 : Nat} {code : ByteArray} {rt : Option FieldType}
variable {sub : Nat → am_G} {go : am_G} {jmp : Nat → am_G} {pc : Nat} {own : String}
theorem am_sCallI {tb : List (Option Nat)} {mi n ml : Nat} {vo : Bool} (h : ∀ (lo stk : List am_V) (h : am_H) (nc ns : Nat) (o : am_O), (∃ r, stk[n - 1]? = some r ∧ Nat.beq r.1 10 = true) → am_oCall tb pc mi n ml vo A sub go jmp lo stk h nc ns = some o → nc ≤ o.2.2.2.2.2.2.1 ∧ ns ≤ o.2.2.2.2.2.2.2 ∧ am_Ret code rt c o ∧ ∀ (ad : List Nat) (H : Heap) (locs : List Loc) (ls : Array Slot) (S : List Value), am_HP Y s ad0 ad h H locs → am_Lo Y ad nL lo ls → am_St Y ad stk S → c0 + o.2.2.2.2.2.2.1 ≤ R.cells → q0 + o.2.2.2.2.2.2.2 ≤ R.slots → am_Kont p l e R s m args below meth c Q Y ad0 nL c0 q0 ad o → W p l e R s m args below meth c H locs (c0 + nc) (q0 + ns) Q (F0 m pc ls S)) : am_Snd p l e R s m args below meth c Q Y ad0 nL c0 q0 code rt (am_oCallI tb pc mi n ml vo A sub go jmp) pc := by
  intro lo stk h1 nc ns o ho
  obtain ⟨r, hr, ho1⟩ := am_ob_some ho
  obtain ⟨h2, ho2⟩ := am_if_some ho1
  rw [am_nth_eq] at hr
  exact h lo stk h1 nc ns o ⟨r, hr, h2⟩ ho2
theorem am_sCallS {tb : List (Option Nat)} {mi n ml : Nat} {vo : Bool} (h : ∀ (lo stk : List am_V) (h : am_H) (nc ns : Nat) (o : am_O), True → am_oCall tb pc mi n ml vo A sub go jmp lo stk h nc ns = some o → nc ≤ o.2.2.2.2.2.2.1 ∧ ns ≤ o.2.2.2.2.2.2.2 ∧ am_Ret code rt c o ∧ ∀ (ad : List Nat) (H : Heap) (locs : List Loc) (ls : Array Slot) (S : List Value), am_HP Y s ad0 ad h H locs → am_Lo Y ad nL lo ls → am_St Y ad stk S → c0 + o.2.2.2.2.2.2.1 ≤ R.cells → q0 + o.2.2.2.2.2.2.2 ≤ R.slots → am_Kont p l e R s m args below meth c Q Y ad0 nL c0 q0 ad o → W p l e R s m args below meth c H locs (c0 + nc) (q0 + ns) Q (F0 m pc ls S)) : am_Snd p l e R s m args below meth c Q Y ad0 nL c0 q0 code rt (am_oCall tb pc mi n ml vo A sub go jmp) pc := fun lo stk h1 nc ns o ho => h lo stk h1 nc ns o trivial ho
theorem am_recv {as rest : List am_V} {n : Nat} {r : am_V} (hn : as.length = n + 1) (hr : (as.reverse ++ rest)[n + 1 - 1]? = some r) : ∃ as', as = r :: as' ∧ as'.length = n := by
  cases as with
  | nil => cases hn
  | cons a as' =>
    have e : as'.length = n := by simpa using hn
    rw [List.reverse_cons, List.append_assoc, List.getElem?_append_right (by simp [e])] at hr
    simp [e] at hr
    exact ⟨as', by rw [hr], e⟩
theorem am_pcU2 (hF : am_Fm p s m args meth c Y own code nL rt) {ad : List Nat} {as : List am_V} {h : am_H} {H : Heap} {locs : List Loc} {As : List Value} (hs : am_St Y ad as As) (hp : am_HP Y s ad0 ad h H locs) : PreS s H (am_Pc Y ad as h) As := ⟨am_blind _ _ _ _, fun U hU hW1 => am_pcU hF hs hp U hU hW1⟩
theorem am_rowV (hF : am_Fm p s m args meth c Y own code nL rt) (hK : am_Kl Y) {d n idx ci : Nat} (hfr : d + 21 ≤ R.frames) (hlr : 100 * d + 500 ≤ R.locals) {M : am_M} {qc : vw_C} (hq : am_cl[ci]? = some qc) (hqc : qc.1 = M.1.cls) (htb : M.2.2.2.2.1 = []) (hd : am_d M n = true) (h0 : am_head M ∈ am_ws) (h1 : Cond.methodLink own idx M.1 ∈ am_ws) (h2 : Cond.instanceMethod M.1 ∈ am_ws) (h3 : Cond.initialized M.1.cls ∈ am_ws) (h4 : Cond.selects M.1.cls M.1 M.1 ∈ am_ws) (hdg : decode code pc = .ok (.invokevirtual idx, 3)) {o1 : am_O} {as : List am_V} {h : am_H} {ad : List Nat} (hmet : vx_Met l M.1 (am_head M :: am_ws) (am_rm d o1.2.2.2.2.2.2.1 o1.2.2.2.2.2.2.2) (am_Pc Y ad as h) (am_Qc Y ad o1) (am_XC Y ad o1) o1.2.2.2.2.2.2.1 o1.2.2.2.2.2.2.2 (fun q => Y.1.heap.size ≤ q)) (hn : as.length = n + 1) (hck : ∃ rest, ∃ r k, (as.reverse ++ rest)[n + 1 - 1]? = some r ∧ Nat.beq r.1 10 = true ∧ am_get h r.2.1 = some k ∧ Nat.beq k.1 ci = true) {H : Heap} {locs : List Loc} {k j : Nat} {ls : Array Slot} {As S : List Value} (hs : am_St Y ad as As) (hp : am_HP Y s ad0 ad h H locs) (hls : ls.size = nL) (hcat : (S.map fun v => v.category).sum ≤ 8) (r1 : k + o1.2.2.2.2.2.2.1 ≤ R.cells) (r2 : j + o1.2.2.2.2.2.2.2 ≤ R.slots) :
    vx_Run p l e R s m args below meth c H locs k j o1.2.2.2.2.2.2.1 o1.2.2.2.2.2.2.2 (F0 m pc ls (As.reverse ++ S)) S (am_Qc Y ad o1 As.toArray) (am_XC Y ad o1) (fun q => Y.1.heap.size ≤ q) := by
  have hF' := hF
  obtain ⟨hx, hb, hml, hown, hts, -, -, hW, hold, hsz⟩ := hF
  obtain ⟨d1, d2⟩ := am_d_ok hd
  have e0 := am_head_nil htb
  obtain ⟨rest, r, k0, c1, c2, c3, c4⟩ := hck
  obtain ⟨as', rfl, hn'⟩ := am_recv hn c1
  obtain ⟨V, As', rfl, k1, k2⟩ := am_St_cons hs
  have hlt := am_cl_lt hq
  have hci := am_tag c4
  obtain ⟨a, C, rfl, -, hC, hcell⟩ := am_ref hp k1 c2 c3 (by omega)
  obtain ⟨b1, b2, -, -⟩ := am_obj hcell c4 hq
  have hcls : s.vm.findClass M.1.cls = some C.cls := by
    rw [b2, ← hqc]
    exact (u_Kn_moved hW.alike (hK ci qc hq)).2.1
  have est : As'.reverse ++ .ref a :: S = (Value.ref a :: As').reverse ++ S := by rw [List.reverse_cons, List.append_assoc]; rfl
  rw [← est]
  exact vx_runV (Ts := am_ws) (C := M.1.cls) ⟨hx, hb, hml, hown, hts⟩ hmet ⟨callB_of n hts (am_good h0) (by rw [e0]) rfl rfl (hts _ h3) (hts _ h1) d1 (am_room hfr hlr d2), hts _ h2, hts _ h4⟩ ⟨am_blind _ _ _ _, ⟨C, hC, by rw [b1]; rfl, hcls⟩, fun U hU hW1 => am_pcU hF' hs hp U hU hW1⟩ rfl ((am_St_len k2).symm.trans hn') hls rfl (by show 2 * 0 + _ ≤ 8; omega) hdg ⟨r1, r2⟩
theorem am_rowI (hF : am_Fm p s m args meth c Y own code nL rt) {d n idx : Nat} (hfr : d + 21 ≤ R.frames) (hlr : 100 * d + 500 ≤ R.locals) {M : am_M} (htb : M.2.2.2.2.1 = []) (hrt : M.2.2.2.1 = none) (hnm : M.1.name = "<init>") (hd : am_d M n = true) (h0 : am_head M ∈ am_ws) (h1 : Cond.methodLink own idx M.1 ∈ am_ws ∨ ∃ host, (Cond.methodLinkNest own idx M.1 host).before args s = true) (h2 : Cond.instanceMethod M.1 ∈ am_ws) (h3 : Cond.initialized M.1.cls ∈ am_ws) (hdg : decode code pc = .ok (.invokespecial idx, 3)) {o1 : am_O} {as : List am_V} {h : am_H} {ad : List Nat} (hmet : vx_Met l M.1 (am_head M :: am_ws) (am_rm d o1.2.2.2.2.2.2.1 o1.2.2.2.2.2.2.2) (am_Pc Y ad as h) (am_Qc Y ad o1) (am_XC Y ad o1) o1.2.2.2.2.2.2.1 o1.2.2.2.2.2.2.2 (fun q => Y.1.heap.size ≤ q)) (hn : as.length = n + 1) (hck : ∃ rest, ∃ r, (as.reverse ++ rest)[n + 1 - 1]? = some r ∧ Nat.beq r.1 10 = true) {H : Heap} {locs : List Loc} {k j : Nat} {ls : Array Slot} {As S : List Value} (hs : am_St Y ad as As) (hp : am_HP Y s ad0 ad h H locs) (hls : ls.size = nL) (hcat : (S.map fun v => v.category).sum ≤ 8) (r1 : k + o1.2.2.2.2.2.2.1 ≤ R.cells) (r2 : j + o1.2.2.2.2.2.2.2 ≤ R.slots) :
    vx_Run p l e R s m args below meth c H locs k j o1.2.2.2.2.2.2.1 o1.2.2.2.2.2.2.2 (F0 m pc ls (As.reverse ++ S)) S (am_Qc Y ad o1 As.toArray) (am_XC Y ad o1) (fun q => Y.1.heap.size ≤ q) := by
  have hF' := hF
  obtain ⟨hx, hb, hml, hown, hts, -, -, hW, hold, hsz⟩ := hF
  obtain ⟨⟨d1, d2, d3⟩, d4⟩ := am_d_ok hd
  have e0 : am_head M = .code M.1 M.2.1 M.2.2.1 none := by rw [am_head_nil htb, hrt]
  obtain ⟨rest, r, c1, c2⟩ := hck
  obtain ⟨as', rfl, hn'⟩ := am_recv hn c1
  obtain ⟨V, As', rfl, k1, k2⟩ := am_St_cons hs
  obtain ⟨a, rfl⟩ := am_tR_ok k1 (am_or_t.mpr (Or.inl c2))
  have est : As'.reverse ++ .ref a :: S = (Value.ref a :: As').reverse ++ S := by rw [List.reverse_cons, List.append_assoc]; rfl
  rw [← est]
  have hG := am_good h0
  have hcw : Cond.code M.1 M.2.1 M.2.2.1 none ∈ am_head M :: am_ws := by rw [e0]; exact List.mem_cons_self
  rcases h1 with h1 | ⟨host, h1⟩
  · exact vx_runI (Ts := am_ws) ⟨hx, hb, hml, hown, hts⟩ hmet ⟨callB_of n hts hG (by rw [e0]) rfl rfl (hts _ h3) (hts _ h1) ⟨d1, d2, d3⟩ (am_room hfr hlr d4), hnm, hts _ h2⟩ (am_pcU2 hF' hs hp) rfl ((am_St_len k2).symm.trans hn') hls rfl (by show 2 * 0 + _ ≤ 8; omega) hdg ⟨r1, r2⟩
  · exact vx_runIN (Ts := am_ws) (host := host) (maxL := M.2.2.1) (bytes := M.2.1) ⟨hx, hb, hml, hown, hts⟩ hmet ⟨⟨⟨rfl, rfl, (am_room hfr hlr d4).1, (am_room hfr hlr d4).2, pay_in hts hG, hcw⟩, hts _ (hG _ hcw).1, hts _ h3, ⟨d1, d2⟩, fun sig h => by
      rw [h] at d3
      exact (Option.some.inj d3).symm, h1⟩, hnm, hts _ h2⟩ (am_pcU2 hF' hs hp) rfl ((am_St_len k2).symm.trans hn') hls rfl (by show 2 * 0 + _ ≤ 8; omega) hdg ⟨r1, r2⟩
end AMCALLV
