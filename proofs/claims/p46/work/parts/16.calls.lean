/-! ===== calls: a callee's contract out of its run, and a call by it ===== -/
/-- the word of a method's own code -/
def am_head (M : am_M) : Cond := match M.2.2.2.2.1 with
  | [] => .code M.1 M.2.1 M.2.2.1 M.2.2.2.1
  | hh => .codeWith M.1 M.2.1 M.2.2.1 M.2.2.2.1 hh
def am_Pc (Y : am_Y) (ad : List Nat) (as : List am_V) (h : am_H) : Array Value → State → Prop := fun v U => (∃ vs, am_St Y ad as vs ∧ v = vs.toArray) ∧ Y.1.WarmedH U.vm ∧ (∀ q : Nat, q < Y.1.heap.size → U.heap[q]? = Y.1.heap[q]?) ∧ Y.1.heap.size ≤ U.heap.size ∧ am_Rep Y ad h U.heap
def am_Qc (Y : am_Y) (ad : List Nat) (o : am_O) : Array Value → State → Outcome → State → Prop := fun _ st oc t => ∃ ad', am_le ad ad' ∧ am_HP Y st ad ad' o.2.2.2.2.2.1 t.heap [] ∧ ((o.1 = 0 ∧ oc = .returned none) ∨ (o.1 = 1 ∧ ∃ V, am_V1 Y ad' o.2.1 V ∧ oc = .returned (some V)))
def am_XC (Y : am_Y) (ad : List Nat) (o : am_O) : String → State → State → Prop := fun E st t => o.1 = 2 ∧ am_ex[o.2.1.1]? = some E ∧ ∃ ad', am_le ad ad' ∧ am_HP Y st ad ad' o.2.2.2.2.2.1 t.heap []
theorem am_HP_nil {Y : am_Y} {s : State} {ad0 ad : List Nat} {h : am_H} {H : Heap} {locs : List Loc} (hp : am_HP Y s ad0 ad h H locs) : am_HP Y s ad0 ad h H [] := by
  obtain ⟨r, f1, f2, f3, f4, f5⟩ := hp
  exact ⟨r, f1, f2, fun _ h => (by cases h), f4, f5⟩
theorem am_HP_start {Y : am_Y} {s : State} {ad : List Nat} {h : am_H} (hr : am_Rep Y ad h s.heap) : am_HP Y s ad ad h s.heap [] :=
  ⟨hr, Nat.le_refl _, fun _ _ _ => rfl, fun _ h => (by cases h), fun _ h => Or.inl h, fun _ h => h⟩
/-- a callee's end within the caller -/
theorem am_HP_comp {Y : am_Y} {s st : State} {ad0 ad ad' : List Nat} {h h' : am_H} {H H' : Heap} {locs L : List Loc} (hp : am_HP Y s ad0 ad h H locs) (h0 : st.heap = H) (hq : am_HP Y st ad ad' h' H' []) (hL : ∀ z ∈ L, Y.1.heap.size ≤ z.base) : am_HP Y s ad0 ad' h' H' (locs ++ L) := by
  obtain ⟨r, f1, f2, f3, f4, f5⟩ := hp
  obtain ⟨r', g1, g2, g3, g4, g5⟩ := hq
  rw [h0] at g1 g2 g4
  refine ⟨r', Nat.le_trans f1 g1, fun q h1 h2 => ?_, fun z hz => ?_, fun a ha => ?_, fun a ha => g5 a (f5 a ha)⟩
  · rw [g2 q (Nat.lt_of_lt_of_le h1 f1) (fun h3 => ?_)]
    · exact f2 q h1 h2
    · rcases f4 q h3 with k | k
      · exact h2 k
      · omega
  · rcases List.mem_append.mp hz with k | k
    · exact f3 z k
    · exact hL z k
  · rcases g4 a ha with k | k
    · exact f4 a k
    · exact Or.inr (Nat.le_trans f1 k)
/-- a method's frame at its entry -/
theorem am_entry {Y : am_Y} {ad : List Nat} : ∀ {as : List am_V} {vs : List Value} {n : Nat} {lo : List am_V}, am_St Y ad as vs → am_pad am_un0 (am_lay as) n = some lo → (lg_sl vs).length ≤ n ∧ lo.length = n ∧ ∀ (i0 i : Nat) (v : am_V), lo[i]? = some v → v.1 ≠ 98 → ∃ V, am_V1 Y ad v V ∧ (i0 + i, V) ∈ lv_args i0 vs := by
  intro as
  induction as with
  | nil =>
    intro vs n lo hs hp
    have e := am_St_nil hs
    subst e
    have hp2 : some (am_rep n am_un0) = some lo := hp
    cases hp2
    refine ⟨Nat.zero_le _, by rw [am_rep_eq, List.length_replicate], fun i0 i v hv hn => ?_⟩
    rw [am_rep_eq, List.getElem?_replicate] at hv
    split at hv
    · cases hv
      exact absurd rfl hn
    · cases hv
  | cons a as ih =>
    intro vs n lo hs hp
    obtain ⟨V, vs', rfl, k1, k2⟩ := am_St_cons hs
    have hcat := am_cat k1
    have step : ∀ (x : am_V) (l : List am_V) (n : Nat) (lo : List am_V), am_pad am_un0 (x :: l) n = some lo → ∃ m t, n = m + 1 ∧ am_pad am_un0 l m = some t ∧ lo = x :: t := by
      intro x l n lo h
      cases n with
      | zero => cases h
      | succ m =>
        have h2 : am_ob (am_pad am_un0 l m) (fun t => some (x :: t)) = some lo := h
        obtain ⟨t, h3, h4⟩ := am_ob_some h2
        cases h4
        exact ⟨m, t, rfl, h3, rfl⟩
    have hp1 : am_pad am_un0 (am_if (am_c2 a) (a :: am_un0 :: am_lay as) (a :: am_lay as)) n = some lo := hp
    cases hc : am_c2 a with
    | false =>
      rw [hc] at hp1 hcat
      obtain ⟨m, t, rfl, h1, rfl⟩ := step a (am_lay as) n lo hp1
      obtain ⟨i1, i2, i3⟩ := ih k2 h1
      have hc1 : V.category = 1 := hcat
      refine ⟨?_, by simp [i2], fun i0 i v hv hn => ?_⟩
      · have e : lg_sl (V :: vs') = [.val V] ++ lg_sl vs' := by simp [lg_sl, hc1]
        rw [e]
        simp
        omega
      · have e : lv_args i0 (V :: vs') = (i0, V) :: lv_args (i0 + 1) vs' := by simp [lv_args, hc1]
        rw [e]
        cases i with
        | zero =>
          have e2 : a = v := by simpa using hv
          subst e2
          exact ⟨V, k1, List.mem_cons_self⟩
        | succ i =>
          obtain ⟨V2, j1, j2⟩ := i3 (i0 + 1) i v (by simpa using hv) hn
          exact ⟨V2, j1, List.mem_cons_of_mem _ (by rw [show i0 + (i + 1) = i0 + 1 + i by omega]; exact j2)⟩
    | true =>
      rw [hc] at hp1 hcat
      obtain ⟨m, t, rfl, h1, rfl⟩ := step a (am_un0 :: am_lay as) n lo hp1
      obtain ⟨m2, t2, rfl, h2, rfl⟩ := step am_un0 (am_lay as) m t h1
      obtain ⟨i1, i2, i3⟩ := ih k2 h2
      have hc1 : V.category = 2 := hcat
      refine ⟨?_, by simp [i2], fun i0 i v hv hn => ?_⟩
      · have e : lg_sl (V :: vs') = [.val V, .second] ++ lg_sl vs' := by simp [lg_sl, hc1]
        rw [e]
        simp
        omega
      · have e : lv_args i0 (V :: vs') = (i0, V) :: lv_args (i0 + 2) vs' := by simp [lv_args, hc1]
        rw [e]
        match i, hv with
        | 0, hv =>
          have e2 : a = v := by simpa using hv
          subst e2
          exact ⟨V, k1, List.mem_cons_self⟩
        | 1, hv =>
          have e2 : am_un0 = v := by simpa using hv
          subst e2
          exact absurd rfl hn
        | i + 2, hv =>
          obtain ⟨V2, j1, j2⟩ := i3 (i0 + 2) i v (by simpa using hv) hn
          exact ⟨V2, j1, List.mem_cons_of_mem _ (by rw [show i0 + (i + 2) = i0 + 2 + i by omega]; exact j2)⟩
theorem am_tabOf {M : am_M} {s : State} {args : Array Value} {p : Program} {l : Launch} {S : Spec} {e : Env} {m : MethodId} {below : List Frame} {meth : Method} {c : Code} {s₁ : State} (B : BodyLoose p l M.1 S M.2.1 M.2.2.1 M.2.2.2.1 e s m args below meth c s₁) (h : (am_head M).before args s = true) : c.exceptionTable.toList = tableOf M.2.2.2.2.1 := by
  unfold am_head at h
  split at h
  · rename_i hh
    rw [hh]
    obtain ⟨meth9, c9, h1, h2, -, -, -, -, h7, -⟩ := Cond.code_spec B.named h
    cases Option.some.inj (h1.symm.trans B.method)
    cases Option.some.inj (h2.symm.trans (Stand.of_body B).code)
    rw [Array.isEmpty_iff.mp h7]
    rfl
  · exact vx_table (x := M.1) B h
/-- the callee's contract, out of the soundness of its run -/
theorem am_callee {l : Launch} {Y : am_Y} {M : am_M} {d : Nat} {g : am_G} {as lo1 : List am_V} {h : am_H} {o : am_O} (hpl : plainName M.1.cls = true) (hpad : am_pad am_un0 (am_lay as) M.2.2.1 = some lo1) (hrun : g lo1 [] h 0 0 = some o) (ho : o.1 ≤ 2)
    (hsnd : ∀ (ad : List Nat) (p : Program) (e : Env) (s : State) (m : MethodId) (args : Array Value) (below : List Frame) (meth : Method) (c : Code) (Q : State → Prop), am_Fm p s m args meth c Y M.1.cls M.2.1 M.2.2.1 M.2.2.2.1 → c.exceptionTable.toList = tableOf M.2.2.2.2.1 → meth.name = M.1.name → am_Snd p l e (am_rm d o.2.2.2.2.2.2.1 o.2.2.2.2.2.2.2) s m args below meth c Q Y ad M.2.2.1 0 0 M.2.1 M.2.2.2.1 g 0) (ad : List Nat) :
    vx_Met l M.1 (am_head M :: am_ws) (am_rm d o.2.2.2.2.2.2.1 o.2.2.2.2.2.2.2) (am_Pc Y ad as h) (am_Qc Y ad o) (am_XC Y ad o) o.2.2.2.2.2.2.1 o.2.2.2.2.2.2.2 (fun q => Y.1.heap.size ≤ q) := by
  have body : ∀ (p : Program) (e : Env) (s : State) (m : MethodId) (args : Array Value) (below : List Frame) (meth : Method) (c : Code) (s₁ : State), BodyLoose p l M.1 (headSpec (am_head M :: am_ws) (am_rm d o.2.2.2.2.2.2.1 o.2.2.2.2.2.2.2)) M.2.1 M.2.2.1 M.2.2.2.1 e s m args below meth c s₁ → c.maxLocals = M.2.2.1 → am_Pc Y ad as h args s →
      W p l e (headSpec (am_head M :: am_ws) (am_rm d o.2.2.2.2.2.2.1 o.2.2.2.2.2.2.2)).room s m args below meth c s.heap [] 0 0 (vx_MQ below (am_Qc Y ad o) (am_XC Y ad o) args s o.2.2.2.2.2.2.1 o.2.2.2.2.2.2.2 (fun q => Y.1.heap.size ≤ q)) (entryFrame m args M.2.2.1) := by
    intro p e s m args below meth c s₁ B hml hP
    obtain ⟨⟨vs, hvs, rfl⟩, hW, hold, hsz, hrep⟩ := hP
    have hts0 := atoms_spec (ws := am_head M :: am_ws) B.pre
    have hF : am_Fm p s m vs.toArray meth c Y M.1.cls M.2.1 M.2.2.1 M.2.2.2.1 := ⟨B.exec, B.bytes, hml, findClass_of_methodNamed B.named, fun w hw => hts0 w (List.mem_cons_of_mem _ hw), B.notSynchronized, B.returns, hW, hold, hsz⟩
    have htab := am_tabOf B (hts0 _ List.mem_cons_self)
    obtain ⟨g1, g2, g3, g4⟩ := hsnd ad p e s m vs.toArray below meth c (vx_MQ below (am_Qc Y ad o) (am_XC Y ad o) vs.toArray s o.2.2.2.2.2.2.1 o.2.2.2.2.2.2.2 (fun q => Y.1.heap.size ≤ q)) hF htab (name_of_methodNamed B.named B.method).1 lo1 [] h 0 0 o hrun
    obtain ⟨e1, e2, e3⟩ := am_entry hvs hpad
    have hlo : am_Lo Y ad M.2.2.1 lo1 (lg_sl vs ++ List.replicate (M.2.2.1 - (lg_sl vs).length) Slot.unset).toArray := ⟨e2, lv_args 0 vs, lv_entry vs e1, fun i v hv hn => by
      obtain ⟨V, j1, j2⟩ := e3 0 i v hv hn
      rw [Nat.zero_add] at j2
      exact ⟨V, j1, j2⟩⟩
    rw [lg_entry_eq]
    refine g4 ad s.heap [] _ [] (am_HP_start hrep) hlo trivial (by show 0 + _ ≤ o.2.2.2.2.2.2.1; omega) (by show 0 + _ ≤ o.2.2.2.2.2.2.2; omega) ?_
    intro ad' H' locs' ls' S' hle hp' hlo' hs'
    obtain ⟨q0, q1, q2⟩ := g3
    have hx := hF.1
    have hb := hF.2.1
    have hr := hF.2.2.2.2.2.2.1
    have hlocks := hF.2.2.2.2.2.1
    have hz1 : 0 + o.2.2.2.2.2.2.1 = o.2.2.2.2.2.2.1 := Nat.zero_add _
    have hz2 : 0 + o.2.2.2.2.2.2.2 = o.2.2.2.2.2.2.2 := Nat.zero_add _
    refine ⟨fun hk => ?_, fun hk E hE => ⟨fun q ce pc' hce hcv hcl => ?_, am_Qc Y ad o, am_XC Y ad o, _, _, rfl, by omega, by omega, fun t h1 h2 h3 => ⟨hk, hE, ad', hle, am_HP_nil (am_HP_grow hp' h2 h3)⟩⟩⟩
    · rw [hz1, hz2]
      refine vx_ret ?_
      rcases (show o.1 = 0 ∨ o.1 = 1 by omega) with k | k
      · obtain ⟨k1, k2, k3⟩ := q0 k
        rw [k1] at hs'
        have e0 := am_St_nil hs'
        subst e0
        exact W.vret hx hb (hr.trans k3) (fun t' ht _ => ⟨ad', hle, by rw [ht]; exact am_HP_nil hp', Or.inl ⟨k, rfl⟩⟩) hp'.2.2.2.1 k2 hlocks
      · obtain ⟨k1, t, k2, k3, k4⟩ := q1 k
        rw [k1] at hs'
        obtain ⟨V, S2, rfl, j1, j2⟩ := am_St_cons hs'
        have e0 := am_St_nil j2
        subst e0
        obtain ⟨n1, n2⟩ := am_fit_ok k3 j1
        have hend : ∀ t' : State, t'.heap = H' → s.WarmedH t'.vm → am_Qc Y ad o vs.toArray s (.returned (some V)) t' := fun t' ht _ => ⟨ad', hle, by rw [ht]; exact am_HP_nil hp', Or.inr ⟨k, V, j1, rfl⟩⟩
        have hr2 : meth.sig.returnType = some t := hr.trans k2
        rcases k4 with ⟨z1, z2⟩ | ⟨z1, z2⟩ | ⟨z1, z2⟩ | ⟨z1, z2⟩ | ⟨z1, z2⟩
        · obtain ⟨x, rfl⟩ := am_tI_ok j1 z1
          exact W.zret hx hb hr2 n1 hend hp'.2.2.2.1 z2 hlocks
        · obtain ⟨x, rfl⟩ := am_tL_ok j1 z1
          have et : t = .long := by
            cases t <;> first | rfl | (exfalso; simp [fits] at n2)
          subst et
          exact W.lret hx hb hr2 hend hp'.2.2.2.1 z2 hlocks
        · obtain ⟨x, rfl⟩ := am_tF_ok j1 z1
          have et : t = .float := by
            cases t <;> first | rfl | (exfalso; simp [fits] at n2)
          subst et
          exact W.fret hx hb hr2 hend hp'.2.2.2.1 z2 hlocks
        · obtain ⟨x, rfl⟩ := am_tD_ok j1 z1
          have et : t = .double := by
            cases t <;> first | rfl | (exfalso; simp [fits] at n2)
          subst et
          exact W.dret hx hb hr2 hend hp'.2.2.2.1 z2 hlocks
        · obtain ⟨x, rfl⟩ := am_tR_ok j1 z1
          have et : (∃ n, t = .object n) ∨ ∃ t2, t = .array t2 := by
            cases t with
            | object n => exact Or.inl ⟨n, rfl⟩
            | array n => exact Or.inr ⟨n, rfl⟩
            | _ => exfalso; simp [fits] at n2
          exact W.aret hx hb hr2 et (Or.inr ⟨x, rfl⟩) hend hp'.2.2.2.1 z2 hlocks
    · exact vx_out (E := E) (fun x hx2 => by rw [q2 hk] at hx2; cases hx2) hlocks hce hcv hcl (fun t h1 h2 => ⟨hk, hE, ad', hle, by rw [h1]; exact am_HP_nil hp'⟩) hp'.2.2.2.1 (by omega) (by omega)
  cases htb : M.2.2.2.2.1 with
  | nil => exact vx_ofW (cc := M.2.1) (maxL := M.2.2.1) (ret := M.2.2.2.1) (ws' := am_ws) hpl (by unfold am_head; rw [htb]) (fun p e s m args below meth c s₁ B hml _ hP => body p e s m args below meth c s₁ B hml hP)
  | cons x xs => exact vx_ofWH (cc := M.2.1) (maxL := M.2.2.1) (ret := M.2.2.2.1) (ws' := am_ws) (hh := x :: xs) hpl (by unfold am_head; rw [htb]) (fun p e s m args below meth c s₁ B hml hP => body p e s m args below meth c s₁ B hml hP)
