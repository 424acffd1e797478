/-! ===== fields, arrays, new objects ===== -/
/-- the words that hold at every frame -/
def am_ws : List Cond := lw_tbl.filter goodWord
/-- the word at a place of the tables -/
def am_q : List (Nat × List Cond) := [(24, tables_1_1), (264, tables_1_2), (504, tables_1_3), (744, tables_1_4), (984, tables_1_5), (1004, [])]
def am_at1 (i : Nat) : List (Nat × List Cond) → Option Cond
  | [] => none
  | [_] => none
  | x :: y :: r => bif Nat.blt i y.1 then (bif Nat.blt i x.1 then none else x.2[i - x.1]?) else am_at1 i (y :: r)
/-- the word at a place -/
def am_atw (i : Nat) : Option Cond := bif Nat.blt i 24 then lw_tbl[i]? else am_at1 i am_q
theorem am_at1_in {i : Nat} {w : Cond} : ∀ {l : List (Nat × List Cond)}, am_at1 i l = some w → ∃ x ∈ l, w ∈ x.2
  | [], h => by cases h
  | [_], h => by cases h
  | x :: y :: r, h => by
    unfold am_at1 at h
    cases h1 : Nat.blt i y.1 with
    | true =>
      rw [h1] at h
      cases h2 : Nat.blt i x.1 with
      | true => rw [h2] at h; cases h
      | false =>
        rw [h2] at h
        exact ⟨x, List.mem_cons_self, List.mem_of_getElem? (show x.2[i - x.1]? = some w from h)⟩
    | false =>
      rw [h1] at h
      obtain ⟨z, h3, h4⟩ := am_at1_in (l := y :: r) h
      exact ⟨z, List.mem_cons_of_mem _ h3, h4⟩
theorem am_atw_in {i : Nat} {w : Cond} (h : am_atw i = some w) : w ∈ lw_tbl := by
  unfold am_atw at h
  cases h1 : Nat.blt i 24 with
  | true =>
    rw [h1] at h
    exact List.mem_of_getElem? h
  | false =>
    rw [h1] at h
    obtain ⟨x, hx, hw⟩ := am_at1_in (show am_at1 i am_q = some w from h)
    refine List.mem_append_right _ ?_
    show w ∈ tables_1_1 ++ (tables_1_2 ++ (tables_1_3 ++ (tables_1_4 ++ tables_1_5)))
    simp only [List.mem_append]
    simp only [am_q, List.mem_cons, List.not_mem_nil, or_false] at hx
    rcases hx with rfl | rfl | rfl | rfl | rfl | rfl
    · exact Or.inl hw
    · exact Or.inr (Or.inl hw)
    · exact Or.inr (Or.inr (Or.inl hw))
    · exact Or.inr (Or.inr (Or.inr (Or.inl hw)))
    · exact Or.inr (Or.inr (Or.inr (Or.inr hw)))
    · cases hw
def am_w (i : Nat) (w : Cond) : Bool := decide (am_atw i = some w) && goodWord w
theorem am_w_in {i : Nat} {w : Cond} (h : am_w i w = true) : w ∈ am_ws := by
  simp only [am_w, Bool.and_eq_true, decide_eq_true_eq] at h
  exact List.mem_filter.mpr ⟨am_atw_in h.1, h.2⟩
/-- a frame -/
def am_Fm (p : Program) (s : State) (m : MethodId) (args : Array Value) (meth : Method) (c : Code) (Y : am_Y) (own : String) (code : ByteArray) (nL : Nat) (rt : Option FieldType) : Prop :=
  p.tables.exec = Jvm.exec ∧ c.code = code ∧ c.maxLocals = nL ∧ s.vm.findClass own = some m.cls ∧ (∀ w ∈ am_ws, w.before args s = true) ∧ meth.locks = false ∧ meth.sig.returnType = rt ∧ Y.1.WarmedH s.vm ∧ (∀ q : Nat, q < Y.1.heap.size → s.heap[q]? = Y.1.heap[q]?) ∧ Y.1.heap.size ≤ s.heap.size
/-- the classes stand as the tables have them -/
def am_Kl (Y : am_Y) : Prop := ∀ (k : Nat) (q : vw_C), am_cl[k]? = some q → u_Kn Y.1 q.1 q.2.1 q.2.2 (Y.2.1.1 k) (Y.2.1.2 k)
theorem am_lay_in : ∀ (k : Nat) (q : vw_C), am_cl[k]? = some q → ∀ w ∈ u_ws q.1 q.2.1 q.2.2, w ∈ am_ws := by
  have key : (am_cl.all (fun q => (u_ws q.1 q.2.1 q.2.2).all (fun w => decide (w ∈ lw_tbl) && goodWord w))) = true := by decide +kernel
  intro k q hq w hw
  have h1 := List.all_eq_true.mp key q (List.mem_of_getElem? hq)
  have h2 := List.all_eq_true.mp h1 w hw
  simp only [Bool.and_eq_true, decide_eq_true_eq] at h2
  exact List.mem_filter.mpr h2
theorem am_ty_ok : ∀ (ci : Nat) (q : vw_C), am_cl[ci]? = some q → ∀ k, k < q.2.2 → parseFieldDescriptor (q.2.1 k).2.2.1 = some (am_ty ci k) := by
  intro ci q hq k hk
  match ci, hq with
  | 0, hq => cases hq; exact tyX0_ok k hk
  | 1, hq => cases hq; exact tyX1_ok k hk
  | 2, hq => cases hq; exact tyX2_ok k hk
  | 3, hq => cases hq; exact tyX3_ok k hk
  | 4, hq => cases hq; exact tyX4_ok k hk
  | 5, hq => cases hq; exact tyX5_ok k hk
  | 6, hq => cases hq; exact tyX6_ok k hk
  | n + 7, hq => simp [am_cl] at hq
theorem am_nm_ok : ∀ (ci : Nat) (q : vw_C), am_cl[ci]? = some q → ∀ a, a < q.2.2 → ∀ b, b < q.2.2 → a ≠ b → (q.2.1 a).2.1 ≠ (q.2.1 b).2.1 := by
  intro ci q hq
  match ci, hq with
  | 0, hq => cases hq; exact nmX0
  | 1, hq => cases hq; exact nmX1
  | 2, hq => cases hq; exact nmX2
  | 3, hq => cases hq; exact nmX3
  | 4, hq => cases hq; exact nmX4
  | 5, hq => cases hq; exact nmX5
  | 6, hq => cases hq; exact nmX6
  | n + 7, hq => simp [am_cl] at hq
theorem am_cl_lt {ci : Nat} {q : vw_C} (h : am_cl[ci]? = some q) : ci < 7 := (List.getElem?_eq_some_iff.mp h).1
theorem am_setSlot_get {C : Cell} {i j : Nat} {V : Value} (hi : i < C.slots.size) : (C.setSlot i V).slots[j]? = if j = i then some V else C.slots[j]? := by
  show (C.slots.setIfInBounds i V)[j]? = _
  by_cases e : j = i
  · subst e
    simp [hi]
  · rw [if_neg e, Array.getElem?_setIfInBounds_ne (Ne.symm e)]
theorem am_setSlot_size {C : Cell} {i : Nat} {V : Value} : (C.setSlot i V).slots.size = C.slots.size := by
  show (C.slots.setIfInBounds i V).size = _
  simp
theorem am_hold_set {Y : am_Y} {ad : List Nat} {C : Cell} {f : Nat → Nat} {vs : List am_V} {k : Nat} {v : am_V} {V : Value} (h : am_hold Y ad C f vs) (hk : k < vs.length) (hv : am_V1 Y ad v V) (hf : ∀ j, j < vs.length → j ≠ k → f j ≠ f k) (hi : f k < C.slots.size) : am_hold Y ad (C.setSlot (f k) V) f (vs.set k v) := by
  intro j w hw
  by_cases e : j = k
  · subst e
    rw [List.getElem?_set_self hk] at hw
    cases hw
    exact ⟨V, by rw [am_setSlot_get hi, if_pos rfl], hv⟩
  · rw [List.getElem?_set_ne (Ne.symm e)] at hw
    obtain ⟨W2, h1, h2⟩ := h j w hw
    exact ⟨W2, by rw [am_setSlot_get hi, if_neg (hf j (List.getElem?_eq_some_iff.mp hw).1 e)]; exact h1, h2⟩
theorem am_fit_ok {Y : am_Y} {ad : List Nat} {t : FieldType} {v : am_V} {V : Value} (h : am_fit t v = true) (hv : am_V1 Y ad v V) : narrow t V = V ∧ fits t V = true := by
  have key : ∀ (k : Nat), k < 65536 → v.1 = 0 → v.2.1 = k → V = .int (Int32.ofNat k) := by
    intro k _ h1 h2
    obtain ⟨tg, n, f⟩ := v
    dsimp only at h1 h2
    subst h1
    subst h2
    exact hv
  cases t with
  | int =>
    obtain ⟨x, rfl⟩ := am_tI_ok hv h
    exact ⟨rfl, rfl⟩
  | boolean =>
    rw [show am_fit .boolean v = am_and (Nat.beq v.1 0) (Nat.blt v.2.1 2) from rfl, am_and_t, Nat.blt_eq] at h
    have e := key v.2.1 (by omega) (am_tag h.1) rfl
    rw [e]
    rcases (show v.2.1 = 0 ∨ v.2.1 = 1 by omega) with e2 | e2 <;> (rw [e2]; exact ⟨rfl, rfl⟩)
  | char =>
    rw [show am_fit .char v = am_and (Nat.beq v.1 0) (Nat.blt v.2.1 65536) from rfl, am_and_t, Nat.blt_eq] at h
    have e := key v.2.1 (by omega) (am_tag h.1) rfl
    rw [e]
    exact pk_charN h.2
  | long =>
    obtain ⟨x, rfl⟩ := am_tL_ok hv h
    exact ⟨rfl, rfl⟩
  | float =>
    obtain ⟨x, rfl⟩ := am_tF_ok hv h
    exact ⟨rfl, rfl⟩
  | double =>
    obtain ⟨x, rfl⟩ := am_tD_ok hv h
    exact ⟨rfl, rfl⟩
  | object n =>
    rcases am_tA_ok hv h with rfl | ⟨x, rfl⟩
    · exact ⟨rfl, rfl⟩
    · exact ⟨rfl, rfl⟩
  | array t2 =>
    rcases am_tA_ok hv h with rfl | ⟨x, rfl⟩
    · exact ⟨rfl, rfl⟩
    · exact ⟨rfl, rfl⟩
  | _ => cases h
theorem am_idx {Y : am_Y} {ad : List Nat} {i : am_V} {V : Value} (hv : am_V1 Y ad i V) (h0 : Nat.beq i.1 0 = true) (h1 : Nat.blt i.2.1 2147483648 = true) : V = .int (nI i.2.1) ∧ (nI i.2.1).toNatClampNeg = i.2.1 ∧ ¬ nI i.2.1 < 0 := by
  obtain ⟨t, n, f⟩ := i
  have e := am_tag h0
  dsimp only at e
  subst e
  rw [Nat.blt_eq] at h1
  exact ⟨hv, nI_clamp (by simpa using h1), nI_pos (by simpa using h1)⟩
section AMHO
variable {p : Program} {l : Launch} {e : Env} {R : Room} {s : State} {m : MethodId} {args : Array Value} {below : List Frame} {meth : Method} {c : Code} {Q : State → Prop} {Y : am_Y} {A : am_A} {ad0 : List Nat} {nL c0 q0 : Nat} {code : ByteArray} {rt : Option FieldType}
variable {sub : Nat → am_G} {go : am_G} {jmp : Nat → am_G} {pc : Nat} {own : String}
/-- a field, from here -/
theorem am_fld (hF : am_Fm p s m args meth c Y own code nL rt) (hK : am_Kl Y) {ci k : Nat} {q : vw_C} (hq : am_cl[ci]? = some q) (hk : k < q.2.2) : ∃ (cf : ClassId) (kf : Class) (fi : Nat) (fd : Field), s.fieldFound? (q.2.1 k).1 (q.2.1 k).2.1 (q.2.1 k).2.2.1 = some (cf, kf, fi, fd) ∧ fd.slot = Y.2.1.2 ci k ∧ fd.isStatic = false ∧ ((Cond.lays q.1 (q.2.1 k).1 (q.2.1 k).2.1 (q.2.1 k).2.2.1).before args s = true ∨ (Cond.laysFinal q.1 (q.2.1 k).1 (q.2.1 k).2.1 (q.2.1 k).2.2.1).before args s = true) ∧ ClassAt s q.1 (Y.2.1.1 ci) := by
  obtain ⟨-, -, -, -, hts, -, -, hW, -⟩ := hF
  obtain ⟨hS, hfc, kC, hkC, hkind⟩ := u_Kn_moved hW.alike (hK ci q hq)
  obtain ⟨cf, kf, fi, f, hi, hsl⟩ := hS k hk
  have hl := u_lays hts (am_lay_in ci q hq) hk
  exact ⟨cf, kf, fi, f, hi, hsl, (u_facts hfc hkC hl hi).1, hl, hfc, kC, hkC, hkind⟩
theorem am_apart (hF : am_Fm p s m args meth c Y own code nL rt) (hK : am_Kl Y) {ci : Nat} {q : vw_C} (hq : am_cl[ci]? = some q) : ∀ a b, a < q.2.2 → b < q.2.2 → a ≠ b → Y.2.1.2 ci a ≠ Y.2.1.2 ci b := by
  intro a b ha hb hab
  obtain ⟨cf, kf, fi, fd, h1, h2, -, h3, -⟩ := am_fld hF hK hq ha
  obtain ⟨cf', kf', fi', fd', h1', h2', -, h3', -⟩ := am_fld hF hK hq hb
  rw [← h2, ← h2']
  refine u_apart h3 h3' h1 h1' ?_
  rw [(State.fieldFound?_type h1 (am_ty_ok ci q hq a ha)).1, (State.fieldFound?_type h1' (am_ty_ok ci q hq b hb)).1]
  exact am_nm_ok ci q hq a ha b hb hab
/-- a cell of a class of ours -/
theorem am_obj {ad : List Nat} {C : Cell} {k : am_C} {ci : Nat} {q : vw_C} (h : am_cell Y ad C k) (hk : Nat.beq k.1 ci = true) (hq : am_cl[ci]? = some q) : C.vm = .none ∧ C.cls = Y.2.1.1 ci ∧ k.2.length = q.2.2 ∧ am_hold Y ad C (Y.2.1.2 ci) k.2 := by
  obtain ⟨t, vs⟩ := k
  have e := am_tag hk
  dsimp only at e
  subst e
  obtain ⟨h1, h2⟩ := h
  have hlt := am_cl_lt hq
  rcases h2 with ⟨r, a1, a2, a3, a4⟩ | ⟨ty, a0, -⟩
  · cases Option.some.inj (a1.symm.trans hq)
    exact ⟨h1, a2, a3, a4⟩
  · dsimp only at a0
    omega
theorem am_sGet (hF : am_Fm p s m args meth c Y own code nL rt) (hK : am_Kl Y) {ci k idx : Nat} {q : vw_C} (hq : am_cl[ci]? = some q) (hk : k < q.2.2) (hl : (Cond.fieldLink own idx (q.2.1 k).1 (q.2.1 k).2.1 (q.2.1 k).2.2.1) ∈ am_ws) (hd : decode code pc = .ok (.getfield idx, 3)) (hgo : am_Snd p l e R s m args below meth c Q Y ad0 nL c0 q0 code rt go (pc + 3)) : am_Snd p l e R s m args below meth c Q Y ad0 nL c0 q0 code rt (am_oGet ci k A sub go jmp) pc := by
  intro lo stk h nc ns o ho
  obtain ⟨r, rest, rfl, ho1⟩ := am_lc_some ho
  obtain ⟨hr, ho2⟩ := am_if_some ho1
  obtain ⟨k0, hg, ho3⟩ := am_ob_some ho2
  obtain ⟨hc, ho4⟩ := am_if_some ho3
  obtain ⟨v, hv, ho5⟩ := am_ob_some ho4
  obtain ⟨g1, g2, g3, g4⟩ := hgo lo (v :: rest) h nc ns o ho5
  refine ⟨g1, g2, g3, fun ad H locs ls S hp hlo hs r1 r2 hkt => ?_⟩
  obtain ⟨V, S', rfl, k1, k2⟩ := am_St_cons hs
  have hlt := am_cl_lt hq
  have hci := am_tag hc
  obtain ⟨a, C, rfl, -, hC, hcell⟩ := am_ref hp k1 hr hg (by omega)
  obtain ⟨b1, b2, b3, b4⟩ := am_obj hcell hc hq
  rw [am_nth_eq] at hv
  obtain ⟨W1, w1, w2⟩ := b4 k v hv
  obtain ⟨cf, kf, fi, fd, f1, f2, f3, -⟩ := am_fld hF hK hq hk
  obtain ⟨hx, hb, -, hown, hts, -⟩ := hF
  exact W.getf hx hb hown (hts _ hl) f1 f3 hC (by rw [b1]; exact fun q => by cases q) (v := W1) (by rw [f2]; exact w1) rfl rfl hd (g4 ad H locs ls (W1 :: S') hp hlo ⟨w2, k2⟩ r1 r2 hkt)
theorem am_sPut (hF : am_Fm p s m args meth c Y own code nL rt) (hK : am_Kl Y) {ci k idx : Nat} {q : vw_C} (hq : am_cl[ci]? = some q) (hk : k < q.2.2) (hl : (Cond.fieldLink own idx (q.2.1 k).1 (q.2.1 k).2.1 (q.2.1 k).2.2.1) ∈ am_ws) (hfin : (q.2.1 k).2.2.2 = false ∨ (meth.name = "<init>" ∧ (q.2.1 k).1 = own)) (hd : decode code pc = .ok (.putfield idx, 3)) (hgo : am_Snd p l e R s m args below meth c Q Y ad0 nL c0 q0 code rt go (pc + 3)) : am_Snd p l e R s m args below meth c Q Y ad0 nL c0 q0 code rt (am_oPut ci k (am_ty ci k) A sub go jmp) pc := by
  intro lo stk h nc ns o ho
  obtain ⟨v, st1, rfl, ho1⟩ := am_lc_some ho
  obtain ⟨r, rest, rfl, ho2⟩ := am_lc_some ho1
  obtain ⟨hr, ho3⟩ := am_if_some ho2
  obtain ⟨k0, hg, ho4⟩ := am_ob_some ho3
  obtain ⟨hc, ho5⟩ := am_if_some ho4
  rw [am_and_t, am_and_t] at hc
  obtain ⟨hc, hhas, hfit⟩ := hc
  obtain ⟨g1, g2, g3, g4⟩ := hgo lo rest (am_put h r.2.1 (ci, am_set k0.2 k v)) nc ns o ho5
  refine ⟨g1, g2, g3, fun ad H locs ls S hp hlo hs r1 r2 hkt => ?_⟩
  obtain ⟨V, S1, rfl, k1, k2⟩ := am_St_cons hs
  obtain ⟨U, S', rfl, k3, k4⟩ := am_St_cons k2
  have hlt := am_cl_lt hq
  have hci := am_tag hc
  obtain ⟨a, C, rfl, had, hC, hcell⟩ := am_ref hp k3 hr hg (by omega)
  obtain ⟨b1, b2, b3, b4⟩ := am_obj hcell hc hq
  have hkl := am_has_ok hhas
  obtain ⟨W1, w1, w2⟩ := b4 k (k0.2[k]) (List.getElem?_eq_getElem hkl)
  have hsz := k2_hasslot w1
  obtain ⟨cf, kf, fi, fd, f1, f2, f3, f4, f5, kC, f6, f7⟩ := am_fld hF hK hq hk
  obtain ⟨n1, n2⟩ := am_fit_ok hfit k1
  have hap := am_apart hF hK hq
  have hF' := hF
  obtain ⟨hx, hb, -, hown, hts, -⟩ := hF
  have hend : ∀ H' : Heap, H'[a]? = some (C.setSlot fd.slot V) → H'.size = H.size → (∀ q : Nat, q ≠ a → H'[q]? = H[q]?) → W p l e R s m args below meth c H' (locs ++ [⟨a, fd.slot⟩]) (c0 + nc) (q0 + ns) Q (F0 m (pc + 3) ls S') := by
    intro H' e1 e2 e3
    rw [f2] at e1 ⊢
    refine g4 ad H' _ ls S' (am_HP_set hp hg (by omega) had (c := (ci, am_set k0.2 k v)) (C := C.setSlot (Y.2.1.2 ci k) V) ?_ e1 e2 e3) hlo k4 r1 r2 hkt
    refine ⟨b1, Or.inl ⟨q, hq, b2, by rw [am_set_eq, List.length_set]; exact b3, ?_⟩⟩
    show am_hold Y ad _ (Y.2.1.2 ci) (am_set k0.2 k v)
    rw [am_set_eq]
    exact am_hold_set b4 hkl k1 (fun j hj hjk => hap j k (by omega) hk hjk) hsz
  rcases hfin with hfin | ⟨hfin, hdecl⟩
  · have hlay := hts _ (am_lay_in ci q hq _ (u_in_lay hk))
    unfold u_lay at hlay
    rw [if_neg (by rw [hfin]; decide)] at hlay
    have h6 := u_store f5 f6 f7 hlay f1 (am_ty_ok ci q hq k hk) n1 n2
    exact W.putK hx hb (f := fd) ⟨hown, hts _ hl, ⟨_, _, _, f1⟩, f3⟩ (by rw [b2]; exact h6) hC b1 (by rw [f2]; exact hsz) rfl rfl hd hend
  · by_cases hf2 : (q.2.1 k).2.2.2 = false
    · have hlay := hts _ (am_lay_in ci q hq _ (u_in_lay hk))
      unfold u_lay at hlay
      rw [if_neg (by rw [hf2]; decide)] at hlay
      have h6 := u_store f5 f6 f7 hlay f1 (am_ty_ok ci q hq k hk) n1 n2
      exact W.putK hx hb (f := fd) ⟨hown, hts _ hl, ⟨_, _, _, f1⟩, f3⟩ (by rw [b2]; exact h6) hC b1 (by rw [f2]; exact hsz) rfl rfl hd hend
    · have hlay := hts _ (am_lay_in ci q hq _ (u_in_lay hk))
      unfold u_lay at hlay
      rw [if_pos (by simpa using hf2)] at hlay
      have hcf : m.cls = cf := by
        obtain ⟨_, _, c', _, _, _, -, -, hf', -, -, -, hown2, -⟩ := Cond.laysFinal_spec hlay
        have e1 : c' = cf := by have := f1.symm.trans hf'; simp at this; exact this.1.symm
        rw [hdecl] at hown2
        rw [← e1]; exact Option.some.inj (hown.symm.trans hown2)
      have h6 := u_fits f5 f6 f7 (Or.inr hlay) f1 (am_ty_ok ci q hq k hk) n1 n2
      exact W.putFinK hx hb hown (hts _ hl) f1 f3 hcf hfin (by rw [b2]; exact h6) hC b1 (by rw [f2]; exact hsz) rfl rfl hd hend
/-- a cell that is an array -/
theorem am_arr {ad : List Nat} {C : Cell} {k : am_C} (h : am_cell Y ad C k) (hk : 100 ≤ k.1) : C.vm = .none ∧ ∃ ty : FieldType, am_at k.1 = some ty ∧ ArrOfT Y.1 C.cls ty ∧ am_ak Y.1 C.cls k.1 ∧ C.slots.size = k.2.length ∧ am_hold Y ad C (fun j => j) k.2 := by
  obtain ⟨h1, h2⟩ := h
  rcases h2 with ⟨r, a1, -⟩ | ⟨ty, -, h⟩
  · have := am_cl_lt a1
    omega
  · exact ⟨h1, ty, h⟩
theorem am_isArr (hF : am_Fm p s m args meth c Y own code nL rt) {C : Cell} {ty : FieldType} (hvm : C.vm = .none) (h : ArrOfT Y.1 C.cls ty) : s.isArrayOf C ty := by
  obtain ⟨-, -, -, -, -, -, -, hW, -⟩ := hF
  have h1 := arrOfT_moved hW.alike h 0 (fun _ => .null)
  exact ⟨fun k e => (by rw [hvm] at e; cases e), h1.2⟩
theorem am_sIald (hF : am_Fm p s m args meth c Y own code nL rt) (hd : decode code pc = .ok (.iaload, 1)) (hgo : am_Snd p l e R s m args below meth c Q Y ad0 nL c0 q0 code rt go (pc + 1)) : am_Snd p l e R s m args below meth c Q Y ad0 nL c0 q0 code rt (am_oAld false A sub go jmp) pc := by
  intro lo stk h nc ns o ho
  obtain ⟨i, st1, rfl, ho1⟩ := am_lc_some ho
  obtain ⟨r, rest, rfl, ho2⟩ := am_lc_some ho1
  obtain ⟨hc, ho3⟩ := am_if_some ho2
  rw [am_and_t, am_and_t] at hc
  obtain ⟨hr, hi0, hi1⟩ := hc
  obtain ⟨k0, hg, ho4⟩ := am_ob_some ho3
  obtain ⟨hk, ho5⟩ := am_if_some ho4
  obtain ⟨v, hv, ho6⟩ := am_ob_some ho5
  obtain ⟨g1, g2, g3, g4⟩ := hgo lo (v :: rest) h nc ns o ho6
  refine ⟨g1, g2, g3, fun ad H locs ls S hp hlo hs r1 r2 hkt => ?_⟩
  obtain ⟨V, S1, rfl, k1, k2⟩ := am_St_cons hs
  obtain ⟨U, S', rfl, k3, k4⟩ := am_St_cons k2
  have hk100 : k0.1 = 100 := am_tag hk
  obtain ⟨a, C, rfl, -, hC, hcell⟩ := am_ref hp k3 hr hg (by omega)
  obtain ⟨b1, ty, b2, b3, -, b4, b5⟩ := am_arr hcell (by omega)
  rw [hk100] at b2
  cases b2
  obtain ⟨rfl, hcl, hneg⟩ := am_idx k1 hi0 hi1
  rw [am_nth_eq] at hv
  obtain ⟨W1, w1, w2⟩ := b5 i.2.1 v hv
  have hsz : i.2.1 < C.slots.size := (Array.getElem?_eq_some_iff.mp w1).1
  have hF' := hF
  obtain ⟨hx, hb, -⟩ := hF
  exact W.iald hx hb hC (am_isArr hF' b1 b3) (by rw [b1]; exact fun q => by cases q) (by rw [hcl]; rintro (q | q); exact hneg q; omega) (v := W1) (by rw [hcl]; exact w1) rfl rfl hd (g4 ad H locs ls (W1 :: S') hp hlo ⟨w2, k4⟩ r1 r2 hkt)
theorem am_sAald (hF : am_Fm p s m args meth c Y own code nL rt) (hd : decode code pc = .ok (.aaload, 1)) (hgo : am_Snd p l e R s m args below meth c Q Y ad0 nL c0 q0 code rt go (pc + 1)) : am_Snd p l e R s m args below meth c Q Y ad0 nL c0 q0 code rt (am_oAld true A sub go jmp) pc := by
  intro lo stk h nc ns o ho
  obtain ⟨i, st1, rfl, ho1⟩ := am_lc_some ho
  obtain ⟨r, rest, rfl, ho2⟩ := am_lc_some ho1
  obtain ⟨hc, ho3⟩ := am_if_some ho2
  rw [am_and_t, am_and_t] at hc
  obtain ⟨hr, hi0, hi1⟩ := hc
  obtain ⟨k0, hg, ho4⟩ := am_ob_some ho3
  obtain ⟨hk, ho5⟩ := am_if_some ho4
  obtain ⟨v, hv, ho6⟩ := am_ob_some ho5
  obtain ⟨g1, g2, g3, g4⟩ := hgo lo (v :: rest) h nc ns o ho6
  refine ⟨g1, g2, g3, fun ad H locs ls S hp hlo hs r1 r2 hkt => ?_⟩
  obtain ⟨V, S1, rfl, k1, k2⟩ := am_St_cons hs
  obtain ⟨U, S', rfl, k3, k4⟩ := am_St_cons k2
  have hk1 : am_and (Nat.blt 100 k0.1) (Nat.blt k0.1 105) = true := hk
  rw [am_and_t, Nat.blt_eq, Nat.blt_eq] at hk1
  obtain ⟨a, C, rfl, -, hC, hcell⟩ := am_ref hp k3 hr hg (by omega)
  obtain ⟨b1, ty, b2, b3, -, b4, b5⟩ := am_arr hcell (by omega)
  obtain ⟨rfl, hcl, hneg⟩ := am_idx k1 hi0 hi1
  rw [am_nth_eq] at hv
  obtain ⟨W1, w1, w2⟩ := b5 i.2.1 v hv
  have hsz : i.2.1 < C.slots.size := (Array.getElem?_eq_some_iff.mp w1).1
  have href : ty.isReference = true := by
    rcases (show k0.1 = 101 ∨ k0.1 = 102 ∨ k0.1 = 103 ∨ k0.1 = 104 by omega) with e | e | e | e <;> (rw [e] at b2; cases b2; rfl)
  have hF' := hF
  obtain ⟨hx, hb, -⟩ := hF
  exact W.aald (ty := ty) hx hb hC (am_isArr hF' b1 b3) href (by rw [b1]; exact fun q => by cases q) (by rw [hcl]; rintro (q | q); exact hneg q; omega) (v := W1) (by rw [hcl]; exact w1) rfl rfl hd (g4 ad H locs ls (W1 :: S') hp hlo ⟨w2, k4⟩ r1 r2 hkt)
theorem am_sIast (hF : am_Fm p s m args meth c Y own code nL rt) (hd : decode code pc = .ok (.iastore, 1)) (hgo : am_Snd p l e R s m args below meth c Q Y ad0 nL c0 q0 code rt go (pc + 1)) : am_Snd p l e R s m args below meth c Q Y ad0 nL c0 q0 code rt (am_oIast A sub go jmp) pc := by
  intro lo stk h nc ns o ho
  obtain ⟨v, st1, rfl, ho1⟩ := am_lc_some ho
  obtain ⟨i, st2, rfl, ho2⟩ := am_lc_some ho1
  obtain ⟨r, rest, rfl, ho3⟩ := am_lc_some ho2
  obtain ⟨hc, ho4⟩ := am_if_some ho3
  rw [am_and_t, am_and_t, am_and_t] at hc
  obtain ⟨hr, hti, hi0, hi1⟩ := hc
  obtain ⟨k0, hg, ho5⟩ := am_ob_some ho4
  obtain ⟨hk, ho6⟩ := am_if_some ho5
  rw [am_and_t] at hk
  obtain ⟨g1, g2, g3, g4⟩ := hgo lo rest (am_put h r.2.1 (100, am_set k0.2 i.2.1 v)) nc ns o ho6
  refine ⟨g1, g2, g3, fun ad H locs ls S hp hlo hs r1 r2 hkt => ?_⟩
  obtain ⟨V, S1, rfl, k1, k2⟩ := am_St_cons hs
  obtain ⟨I, S2, rfl, k3, k4⟩ := am_St_cons k2
  obtain ⟨U, S', rfl, k5, k6⟩ := am_St_cons k4
  have hk100 : k0.1 = 100 := am_tag hk.1
  have hkl := am_has_ok hk.2
  obtain ⟨a, C, rfl, had, hC, hcell⟩ := am_ref hp k5 hr hg (by omega)
  obtain ⟨b1, ty, b2, b3, b0, b4, b5⟩ := am_arr hcell (by omega)
  rw [hk100] at b2
  cases b2
  obtain ⟨rfl, hcl, hneg⟩ := am_idx k3 hi0 hi1
  obtain ⟨x, rfl⟩ := am_tI_ok k1 hti
  have hsz : i.2.1 < C.slots.size := by omega
  have hF' := hF
  obtain ⟨hx, hb, -⟩ := hF
  refine W.iast hx hb hC (am_isArr hF' b1 b3) (by rw [b1]; exact fun q => by cases q) (by rw [hcl]; rintro (q | q); exact hneg q; omega) rfl rfl hd (fun H' e1 e2 e3 => ?_)
  rw [hcl] at e1 ⊢
  refine g4 ad H' _ ls S' (am_HP_set hp hg (by omega) had (c := (100, am_set k0.2 i.2.1 v)) (C := C.setSlot i.2.1 (.int x)) ?_ e1 e2 e3) hlo k6 r1 r2 hkt
  rw [hk100] at b0
  refine ⟨b1, Or.inr ⟨.int, Nat.le_refl _, rfl, b3, b0, by rw [am_setSlot_size, am_set_eq, List.length_set]; exact b4, ?_⟩⟩
  show am_hold Y ad _ (fun j => j) (am_set k0.2 i.2.1 v)
  rw [am_set_eq]
  exact am_hold_set b5 hkl k1 (fun j _ hj => hj) hsz
theorem am_sAast (hF : am_Fm p s m args meth c Y own code nL rt) (hK : am_Kl Y) (hd : decode code pc = .ok (.aastore, 1)) (hgo : am_Snd p l e R s m args below meth c Q Y ad0 nL c0 q0 code rt go (pc + 1)) : am_Snd p l e R s m args below meth c Q Y ad0 nL c0 q0 code rt (am_oAast A sub go jmp) pc := by
  intro lo stk h nc ns o ho
  obtain ⟨v, st1, rfl, ho1⟩ := am_lc_some ho
  obtain ⟨i, st2, rfl, ho2⟩ := am_lc_some ho1
  obtain ⟨r, rest, rfl, ho3⟩ := am_lc_some ho2
  obtain ⟨hc, ho4⟩ := am_if_some ho3
  rw [am_and_t, am_and_t, am_and_t] at hc
  obtain ⟨hr, hrv, hi0, hi1⟩ := hc
  obtain ⟨k0, hg, ho5⟩ := am_ob_some ho4
  obtain ⟨kw, hgw, ho6⟩ := am_ob_some ho5
  obtain ⟨hk, ho7⟩ := am_if_some ho6
  rw [am_and_t, am_and_t, am_and_t, Nat.blt_eq, Nat.blt_eq] at hk
  obtain ⟨⟨hk1, hk1b⟩, hk2, hk3⟩ := hk
  obtain ⟨g1, g2, g3, g4⟩ := hgo lo rest (am_put h r.2.1 (k0.1, am_set k0.2 i.2.1 v)) nc ns o ho7
  refine ⟨g1, g2, g3, fun ad H locs ls S hp hlo hs r1 r2 hkt => ?_⟩
  obtain ⟨V, S1, rfl, k1, k2⟩ := am_St_cons hs
  obtain ⟨I, S2, rfl, k3, k4⟩ := am_St_cons k2
  obtain ⟨U, S', rfl, k5, k6⟩ := am_St_cons k4
  have hkl := am_has_ok hk3
  have hel := am_tag hk2
  have hkind : k0.1 = 101 ∨ k0.1 = 102 ∨ k0.1 = 103 ∨ k0.1 = 104 := by omega
  obtain ⟨a, C, rfl, had, hC, hcell⟩ := am_ref hp k5 hr hg (by omega)
  obtain ⟨b1, ty, b2, b3, b0, b4, b5⟩ := am_arr hcell (by omega)
  have hw999 : kw.1 ≠ 999 := by
    rw [hel]
    rcases hkind with e | e | e | e <;> (rw [e]; decide)
  obtain ⟨w, Cw, rfl, -, hCw, hcellw⟩ := am_ref hp k1 hrv hgw hw999
  obtain ⟨rfl, hcl, hneg⟩ := am_idx k3 hi0 hi1
  have hsz : i.2.1 < C.slots.size := by omega
  have hF' := hF
  obtain ⟨hx, hb, -, -, -, -, -, hW, -⟩ := hF
  have hvmw : Cw.vm = .none := hcellw.1
  have facts : ∃ (k kv kcomp : Class) (comp : ClassId) (t : FieldType), s.vm.classes[C.cls]? = some k ∧ k.kind = .array comp t ∧ t.isReference = true ∧ s.vm.classes[comp]? = some kcomp ∧ s.vm.classes[Cw.cls]? = some kv ∧ s.vm.assignable Cw.cls comp = true := by
    have obj : ∀ (ci : Nat) (q : vw_C), am_cl[ci]? = some q → kw.1 = ci → va_RA Y.1 C.cls (.object q.1) → ∃ (k kv kcomp : Class) (comp : ClassId) (t : FieldType), s.vm.classes[C.cls]? = some k ∧ k.kind = .array comp t ∧ t.isReference = true ∧ s.vm.classes[comp]? = some kcomp ∧ s.vm.classes[Cw.cls]? = some kv ∧ s.vm.assignable Cw.cls comp = true := by
      intro ci q hq hci hra
      obtain ⟨-, o2, -, -⟩ := am_obj hcellw (by rw [hci]; exact Nat.beq_refl ci) hq
      obtain ⟨hfc, kC, hkC, -⟩ := (u_Kn_moved hW.alike (hK ci q hq)).2
      obtain ⟨kA, comp, f1, f2, f3, -⟩ := va_RA.moved hW.alike hra
      have e : comp = Y.2.1.1 ci := Option.some.inj (f3.symm.trans hfc)
      subst e
      exact ⟨kA, kC, kC, Y.2.1.1 ci, .object q.1, f1, f2, rfl, hkC, by rw [o2]; exact hkC, by rw [o2]; exact va_asg _ _⟩
    rcases hkind with e | e | e | e
    · rw [e] at b0 hel
      exact obj 5 _ rfl hel b0
    · rw [e] at b0 hel
      exact obj 2 _ rfl hel b0
    · rw [e] at b0 hel
      exact obj 1 _ rfl hel b0
    · rw [e] at b0 hel
      obtain ⟨kA, comp, kI, f1, f2, f3, f4⟩ := b0
      have hel2 : kw.1 = 100 := hel
      obtain ⟨-, tw, c2, c3, c0, -⟩ := am_arr hcellw (by omega)
      rw [hel2] at c0
      have e2 : comp = Cw.cls := Option.some.inj (f3.symm.trans c0)
      subst e2
      obtain ⟨kA', g5, g6⟩ := hW.alike.2.2 _ _ f1
      obtain ⟨kI', g7, g8⟩ := hW.alike.2.2 _ _ f4
      exact ⟨kA', kI', kI', Cw.cls, .array .int, g5, by rw [g6]; exact f2, rfl, g7, g7, va_asg _ _⟩
  obtain ⟨kk, kv, kcomp, comp, t, q1, q2, q3, q4, q5, q6⟩ := facts
  refine W.aast hx hb hC (by rw [b1]; exact fun _ q => by cases q) (by rw [b1]; exact fun q => by cases q) q1 q2 q3 q4 ⟨by exact hneg, by rw [hcl]; exact hsz⟩ hCw (by rw [hvmw]; exact fun _ q => by cases q) q5 q6 rfl rfl hd (fun H' e1 e2 e3 => ?_)
  rw [hcl] at e1 ⊢
  refine g4 ad H' _ ls S' (am_HP_set hp hg (by omega) had (c := (k0.1, am_set k0.2 i.2.1 v)) (C := C.setSlot i.2.1 (.ref w)) ?_ e1 e2 e3) hlo k6 r1 r2 hkt
  refine ⟨b1, Or.inr ⟨ty, by omega, b2, b3, b0, by rw [am_setSlot_size, am_set_eq, List.length_set]; exact b4, ?_⟩⟩
  show am_hold Y ad _ (fun j => j) (am_set k0.2 i.2.1 v)
  rw [am_set_eq]
  exact am_hold_set b5 hkl k1 (fun j _ hj => hj) hsz
end AMHO
