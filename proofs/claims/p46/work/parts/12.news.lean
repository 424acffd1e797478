/-! ===== new objects and arrays ===== -/
section AMGA
variable {Y : am_Y} {s : State} {ad0 ad : List Nat} {h : am_H} {H : Heap} {locs : List Loc}
/-- the heap has grown -/
theorem am_HP_grow (hp : am_HP Y s ad0 ad h H locs) {H' : Heap} (e2 : H.size ≤ H'.size) (e3 : ∀ q : Nat, q < H.size → H'[q]? = H[q]?) : am_HP Y s ad0 ad h H' locs := by
  obtain ⟨⟨r1, r2, r3, r4⟩, f1, f2, f3, f4, f5⟩ := hp
  refine ⟨⟨r1, r2, fun x hx => ⟨(r3 x hx).1, by have := (r3 x hx).2; omega⟩, fun k' c' hk' hn' => ?_⟩, by omega, fun q hq hq2 => ?_, f3, f4, f5⟩
  · obtain ⟨a', C', g1, g2, g3⟩ := r4 k' c' hk' hn'
    exact ⟨a', C', g1, by rw [e3 a' (Array.getElem?_eq_some_iff.mp g2).1]; exact g2, g3⟩
  · rw [e3 q (by omega)]
    exact f2 q hq hq2
/-- a cell that is there comes into the world -/
theorem am_HP_adopt (hs : Y.1.heap.size ≤ s.heap.size) (hp : am_HP Y s ad0 ad h H locs) {c : am_C} {C : Cell} {a : Nat} (hf : am_free h = true) (ha : a ∉ ad) (has : s.heap.size ≤ a) (hC : am_cell Y (ad ++ [a]) C c) (e1 : H[a]? = some C) : am_HP Y s ad0 (ad ++ [a]) (am_new h c) H locs ∧ am_le ad (ad ++ [a]) ∧ (ad ++ [a])[h.1]? = some a := by
  obtain ⟨⟨r1, r2, r3, r4⟩, f1, f2, f3, f4, f5⟩ := hp
  have hle : am_le ad (ad ++ [a]) := fun k a' hk => by
    rw [List.getElem?_append_left (List.getElem?_eq_some_iff.mp hk).1]
    exact hk
  have hlast : (ad ++ [a])[h.1]? = some a := by
    rw [← r1, List.getElem?_append_right (Nat.le_refl _), Nat.sub_self]
    rfl
  refine ⟨⟨⟨by simp [am_new, r1], ?_, fun x hx => ?_, fun k' c' hk' hn' => ?_⟩, f1, f2, f3, fun x hx => ?_, fun x hx => List.mem_append_left _ (f5 x hx)⟩, hle, hlast⟩
  · rw [List.nodup_append]
    refine ⟨r2, by simp, fun x hx y hy => ?_⟩
    have e : y = a := by simpa using hy
    subst e
    intro e
    subst e
    exact ha hx
  · rcases List.mem_append.mp hx with h1 | h1
    · exact r3 x h1
    · have e : x = a := by simpa using h1
      subst e
      exact ⟨by omega, (Array.getElem?_eq_some_iff.mp e1).1⟩
  · rw [am_get_new hf] at hk'
    by_cases ek : k' = h.1
    · subst ek
      rw [if_pos rfl] at hk'
      cases hk'
      exact ⟨a, C, hlast, e1, hC⟩
    · rw [if_neg ek] at hk'
      obtain ⟨a', C', g1, g2, g3⟩ := r4 k' c' hk' hn'
      exact ⟨a', C', hle _ _ g1, g2, am_cell_le hle g3⟩
  · rcases List.mem_append.mp hx with h1 | h1
    · exact f4 x h1
    · have e : x = a := by simpa using h1
      subst e
      exact Or.inr has
end AMGA
theorem am_df_ok (Y : am_Y) (ad : List Nat) (t : FieldType) : am_V1 Y ad (am_df t) (defaultValue t) := by
  cases t <;> rfl
theorem am_bl_ok : ∀ (ci : Nat) (q : vw_C) (fs : List am_V), am_cl[ci]? = some q → am_bl[ci]? = some fs → fs = (List.range q.2.2).map (fun j => am_df (am_ty ci j)) := by
  intro ci q fs hq hf
  match ci, hq, hf with
  | 0, hq, hf => cases hq; cases hf; rfl
  | 1, hq, hf => cases hq; cases hf; rfl
  | 2, hq, hf => cases hq; cases hf; rfl
  | 3, hq, hf => cases hq; cases hf; rfl
  | 4, hq, hf => cases hq; cases hf; rfl
  | 5, hq, hf => cases hq; cases hf; rfl
  | 6, hq, hf => cases hq; cases hf; rfl
  | n + 7, hq, _ => simp [am_cl] at hq
theorem am_len_eq {α : Type} (l : List α) : am_len l = l.length := by
  induction l with
  | nil => rfl
  | cons a t ih => exact congrArg Nat.succ ih
theorem am_rep_eq {α : Type} (n : Nat) (x : α) : am_rep n x = List.replicate n x := by
  induction n with
  | zero => rfl
  | succ n ih => exact congrArg (x :: ·) ih
/-- .. over int[] (follows va_AO of the kit) -/
def am_AOA (U : State) : Prop := (Cond.arrayOver (.array .int)).before #[] U = true
theorem am_AOA_moved {u U : State} (hvm : u.vm.Alike U.vm) (h : am_AOA u) : am_AOA U := by
  obtain ⟨comp, c, k, h1, h2, h3, h4, h5⟩ := arrayOverA_spec h
  obtain ⟨k', hk', he⟩ := hvm.2.2 _ _ h3
  have hi : (U.vm.classes.findIdx? fun (x : Class) => match x.kind with | .array component _ => component == comp | _ => false) = some c := by
    exact (hvm.findIdx?_eq _ (fun _ => rfl)).trans h2
  have hkind : k'.kind = .array comp (.array .int) := by rw [he]; exact h4
  have f1 : U.vm.findClass (FieldType.array .int).toString = some comp := by rw [hvm.findClass]; exact h1
  have f2 : U.vm.findClass ("[" ++ (FieldType.array .int).toString) = some c := by rw [hvm.findClass]; exact h5
  unfold am_AOA Cond.before Cond.holds
  simp only [Cond.value]
  rw [f1, Option.bind_some]
  refine (congrArg (fun o : Option Nat => (o.bind (fun c => (U.vm.classes[c]?).map fun (k : Class) => match k.kind with | .array _ ty => decide (ty = FieldType.array .int) && decide (U.vm.findClass ("[" ++ (FieldType.array .int).toString) = some c) | _ => false) == some true)) hi).trans ?_
  simp [hk', hkind, f2]
/-- the tables' word of an array class over a class of ours, at the law's entry -/
def am_AO (Y : am_Y) : Prop := va_AO RX5 Y.1 ∧ va_AO RX2 Y.1 ∧ va_AO RX1 Y.1 ∧ am_AOA Y.1
section AMNEW
variable {p : Program} {l : Launch} {e : Env} {R : Room} {s : State} {m : MethodId} {args : Array Value} {below : List Frame} {meth : Method} {c : Code} {Q : State → Prop} {Y : am_Y} {A : am_A} {ad0 : List Nat} {nL c0 q0 : Nat} {code : ByteArray} {rt : Option FieldType}
variable {sub : Nat → am_G} {go : am_G} {jmp : Nat → am_G} {pc : Nat} {own : String}
theorem am_sNew (hF : am_Fm p s m args meth c Y own code nL rt) (hK : am_Kl Y) {ci idx : Nat} {q : vw_C} {fs : List am_V} (hq : am_cl[ci]? = some q) (hfs : am_bl[ci]? = some fs) (h1 : Cond.classLink own idx q.1 ∈ am_ws) (h2 : Cond.instantiable q.1 q.2.2 ∈ am_ws) (h3 : Cond.initialized q.1 ∈ am_ws) (hd : decode code pc = .ok (.new idx, 3)) (hgo : am_Snd p l e R s m args below meth c Q Y ad0 nL c0 q0 code rt go (pc + 3)) : am_Snd p l e R s m args below meth c Q Y ad0 nL c0 q0 code rt (am_oNew ci fs A sub go jmp) pc := by
  intro lo stk h nc ns o ho
  obtain ⟨hf, ho1⟩ := am_if_some ho
  have hbl := am_bl_ok ci q fs hq hfs
  have hlen : fs.length = q.2.2 := by rw [hbl]; simp
  rw [am_len_eq, hlen] at ho1
  obtain ⟨g1, g2, g3, g4⟩ := hgo lo ((10, h.1, []) :: stk) (am_new h (ci, fs)) (nc + 1) (ns + q.2.2) o ho1
  refine ⟨by omega, by omega, g3, fun ad H locs ls S hp hlo hs r1 r2 hkt => ?_⟩
  have hF' := hF
  obtain ⟨hx, hb, -, hown, hts, -, -, hW, -, hsz⟩ := hF
  have hKn := u_Kn_moved hW.alike (hK ci q hq)
  have hci := am_cl_lt hq
  refine W.newcK hx hb hown (hts _ h1) (hts _ h2) (hts _ h3) rfl hd (by omega) (by omega) hKn.2.1 rfl fun H1 kC hkC e1 z1 o1 => ?_
  obtain ⟨cell, u1, u2, u3, u4⟩ := u_born (am_ty ci) hts (am_lay_in ci q hq) hKn hkC e1 (am_ty_ok ci q hq)
  obtain ⟨k1, k2, k3⟩ := am_HP_new hsz hp (c := (ci, fs)) (C := cell) hf ⟨u3, Or.inl ⟨q, hq, u2, hlen, fun j v hv => by
    rw [hbl, List.getElem?_map] at hv
    by_cases hj : j < q.2.2
    · rw [List.getElem?_range hj] at hv
      cases hv
      exact ⟨_, u4 j hj, am_df_ok _ _ _⟩
    · rw [List.getElem?_eq_none (by simpa using hj)] at hv
      cases hv⟩⟩ u1 z1 o1
  have hg := g4 (ad ++ [H.size]) H1 locs ls (.ref H.size :: S) k1 (am_Lo_le k2 hlo) ⟨⟨H.size, k3, rfl⟩, am_St_le k2 hs⟩ r1 r2 (am_Kont_le hkt k2)
  rw [show c0 + nc + 1 = c0 + (nc + 1) from Nat.add_assoc _ _ _, show q0 + ns + q.2.2 = q0 + (ns + q.2.2) from Nat.add_assoc _ _ _]
  exact hg
theorem am_sNewa (hF : am_Fm p s m args meth c Y own code nL rt) (h1 : Cond.arrayClass .int ∈ am_ws) (hd : decode code pc = .ok (.newarray .int, 2)) (hgo : am_Snd p l e R s m args below meth c Q Y ad0 nL c0 q0 code rt go (pc + 2)) : am_Snd p l e R s m args below meth c Q Y ad0 nL c0 q0 code rt (am_oNewa 100 (0, 0, []) A sub go jmp) pc := by
  intro lo stk h nc ns o ho
  obtain ⟨n, rest, rfl, ho1⟩ := am_lc_some ho
  obtain ⟨hc, ho2⟩ := am_if_some ho1
  rw [am_and_t, am_and_t] at hc
  obtain ⟨hn0, hn1, hf⟩ := hc
  obtain ⟨g1, g2, g3, g4⟩ := hgo lo ((10, h.1, []) :: rest) (am_new h (100, am_rep n.2.1 (0, 0, []))) (nc + 1) (ns + n.2.1) o ho2
  refine ⟨by omega, by omega, g3, fun ad H locs ls S hp hlo hs r1 r2 hkt => ?_⟩
  obtain ⟨V, S', rfl, k1, k2⟩ := am_St_cons hs
  rw [Nat.blt_eq] at hn1
  obtain ⟨rfl, hcl, hneg⟩ := am_idx k1 hn0 (by rw [Nat.blt_eq]; omega)
  have hF' := hF
  obtain ⟨hx, hb, -, hown, hts, -, -, hW, -, hsz⟩ := hF
  refine va_newaK (atype := .int) hx hb (hts _ h1) rfl hd rfl hneg hcl (by show n.2.1 * 4 ≤ _; omega) (by omega) (by omega) rfl fun H1 cA e1 z1 o1 hAr hNm => ?_
  have hAr0 : ArrOfT Y.1 cA .int := arrOfT_moved hW.alike.symm hAr
  have hNm0 : Y.1.vm.findClass "[I" = some cA := by
    rw [← hW.alike.findClass]
    exact hNm
  obtain ⟨l1, l2, l3⟩ := am_HP_new hsz hp (c := (100, am_rep n.2.1 (0, 0, []))) (C := arrV cA n.2.1 (fun _ => .int 0)) hf ⟨rfl, Or.inr ⟨.int, Nat.le_refl _, rfl, hAr0, hNm0, by rw [arrV_size, am_rep_eq, List.length_replicate], fun j v hv => by
    rw [am_rep_eq] at hv
    have hj : j < n.2.1 := by
      have := (List.getElem?_eq_some_iff.mp hv).1
      rw [List.length_replicate] at this
      exact this
    rw [List.getElem?_replicate, if_pos hj] at hv
    cases hv
    exact ⟨_, arrV_read _ _ hj, rfl⟩⟩⟩ e1 z1 o1
  rw [show c0 + nc + 1 = c0 + (nc + 1) from Nat.add_assoc _ _ _, show q0 + ns + n.2.1 = q0 + (ns + n.2.1) from Nat.add_assoc _ _ _]
  exact g4 (ad ++ [H.size]) H1 locs ls (.ref H.size :: S') l1 (am_Lo_le l2 hlo) ⟨⟨H.size, l3, rfl⟩, am_St_le l2 k2⟩ r1 r2 (am_Kont_le hkt l2)
/-- an array of nulls -/
theorem am_nulls {ad : List Nat} {cA : ClassId} {n kind : Nat} {ty : FieldType} (hk : 100 ≤ kind) (ht : am_at kind = some ty) (hAr : ArrOfT Y.1 cA ty) (hak : am_ak Y.1 cA kind) : am_cell Y ad { cls := cA, slots := Array.replicate n .null, vm := .none } (kind, am_rep n (4, 0, [])) := by
  refine ⟨rfl, Or.inr ⟨ty, hk, ht, hAr, hak, by rw [am_rep_eq, List.length_replicate]; simp, fun j v hv => ?_⟩⟩
  rw [am_rep_eq] at hv
  have hj : j < n := by
    have := (List.getElem?_eq_some_iff.mp hv).1
    rw [List.length_replicate] at this
    exact this
  rw [List.getElem?_replicate, if_pos hj] at hv
  cases hv
  exact ⟨.null, by simp [hj], rfl⟩
theorem am_sNewq (hF : am_Fm p s m args meth c Y own code nL rt) (hO : am_AO Y) {kind idx : Nat} {C : String} (hkd : (kind = 101 ∧ C = RX5) ∨ (kind = 102 ∧ C = RX2) ∨ (kind = 103 ∧ C = RX1)) (h1 : Cond.classLink own idx C ∈ am_ws) (hd : decode code pc = .ok (.anewarray idx, 3)) (hgo : am_Snd p l e R s m args below meth c Q Y ad0 nL c0 q0 code rt go (pc + 3)) : am_Snd p l e R s m args below meth c Q Y ad0 nL c0 q0 code rt (am_oNewa kind (4, 0, []) A sub go jmp) pc := by
  intro lo stk h nc ns o ho
  obtain ⟨n, rest, rfl, ho1⟩ := am_lc_some ho
  obtain ⟨hc, ho2⟩ := am_if_some ho1
  rw [am_and_t, am_and_t] at hc
  obtain ⟨hn0, hn1, hf⟩ := hc
  obtain ⟨g1, g2, g3, g4⟩ := hgo lo ((10, h.1, []) :: rest) (am_new h (kind, am_rep n.2.1 (4, 0, []))) (nc + 1) (ns + n.2.1) o ho2
  refine ⟨by omega, by omega, g3, fun ad H locs ls S hp hlo hs r1 r2 hkt => ?_⟩
  obtain ⟨V, S', rfl, k1, k2⟩ := am_St_cons hs
  rw [Nat.blt_eq] at hn1
  obtain ⟨rfl, hcl, hneg⟩ := am_idx k1 hn0 (by rw [Nat.blt_eq]; omega)
  have hF' := hF
  obtain ⟨hx, hb, -, hown, hts, -, -, hW, -, hsz⟩ := hF
  have hover : va_AO C s := by
    rcases hkd with ⟨-, rfl⟩ | ⟨-, rfl⟩ | ⟨-, rfl⟩
    · exact va_AO.moved hW.alike hO.1
    · exact va_AO.moved hW.alike hO.2.1
    · exact va_AO.moved hW.alike hO.2.2.1
  refine W.anew hx hb hown (hts _ h1) (va_AO.use hover) rfl hd rfl hneg (by rw [hcl]; omega) (by omega) (by rw [hcl]; omega) fun cA kA comp f1 f2 f3 f4 => ?_
  rw [hcl]
  generalize hH1 : H.push ({ cls := cA, slots := Array.replicate n.2.1 .null, vm := .none } : Cell) = H1
  have z1 : H1.size = H.size + 1 := by rw [← hH1, Array.size_push]
  have e1 : H1[H.size]? = some { cls := cA, slots := Array.replicate n.2.1 .null, vm := .none } := by rw [← hH1, Array.getElem?_push_size]
  have o1 : ∀ q : Nat, q < H.size → H1[q]? = H[q]? := fun q hq => by rw [← hH1, Array.getElem?_push, if_neg (Nat.ne_of_lt hq)]
  have hAr : ArrOfT Y.1 cA (.object C) := arrOfT_moved hW.alike.symm (fun N z => ⟨(fun k h => by cases h), kA, f2, comp, f3⟩)
  have hRA : va_RA Y.1 cA (.object C) := va_RA.moved hW.alike.symm ⟨kA, comp, f2, f3, f4, f1⟩
  have hcell : ∀ ad' : List Nat, am_cell Y ad' { cls := cA, slots := Array.replicate n.2.1 .null, vm := .none } (kind, am_rep n.2.1 (4, 0, [])) := by
    intro ad'
    rcases hkd with ⟨rfl, rfl⟩ | ⟨rfl, rfl⟩ | ⟨rfl, rfl⟩
    · exact am_nulls (by decide) rfl hAr hRA
    · exact am_nulls (by decide) rfl hAr hRA
    · exact am_nulls (by decide) rfl hAr hRA
  obtain ⟨l1, l2, l3⟩ := am_HP_new hsz hp (c := (kind, am_rep n.2.1 (4, 0, []))) hf (hcell _) e1 z1 o1
  rw [show c0 + nc + 1 = c0 + (nc + 1) from Nat.add_assoc _ _ _, show q0 + ns + n.2.1 = q0 + (ns + n.2.1) from Nat.add_assoc _ _ _]
  exact g4 (ad ++ [H.size]) H1 locs ls (.ref H.size :: S') l1 (am_Lo_le l2 hlo) ⟨⟨H.size, l3, rfl⟩, am_St_le l2 k2⟩ r1 r2 (am_Kont_le hkt l2)
theorem am_sNewA (hF : am_Fm p s m args meth c Y own code nL rt) (hO : am_AO Y) {idx : Nat} (h1 : Cond.classLink own idx "[I" ∈ am_ws) (hd : decode code pc = .ok (.anewarray idx, 3)) (hgo : am_Snd p l e R s m args below meth c Q Y ad0 nL c0 q0 code rt go (pc + 3)) : am_Snd p l e R s m args below meth c Q Y ad0 nL c0 q0 code rt (am_oNewa 104 (4, 0, []) A sub go jmp) pc := by
  intro lo stk h nc ns o ho
  obtain ⟨n, rest, rfl, ho1⟩ := am_lc_some ho
  obtain ⟨hc, ho2⟩ := am_if_some ho1
  rw [am_and_t, am_and_t] at hc
  obtain ⟨hn0, hn1, hf⟩ := hc
  obtain ⟨g1, g2, g3, g4⟩ := hgo lo ((10, h.1, []) :: rest) (am_new h (104, am_rep n.2.1 (4, 0, []))) (nc + 1) (ns + n.2.1) o ho2
  refine ⟨by omega, by omega, g3, fun ad H locs ls S hp hlo hs r1 r2 hkt => ?_⟩
  obtain ⟨V, S', rfl, k1, k2⟩ := am_St_cons hs
  rw [Nat.blt_eq] at hn1
  obtain ⟨rfl, hcl, hneg⟩ := am_idx k1 hn0 (by rw [Nat.blt_eq]; omega)
  have hF' := hF
  obtain ⟨hx, hb, -, hown, hts, -, -, hW, -, hsz⟩ := hF
  have hover : am_AOA s := am_AOA_moved hW.alike hO.2.2.2
  refine W.anewA (t := .int) hx hb hown (hts _ h1) (show (Cond.arrayOver (.array .int)).before args s = true from hover) rfl hd rfl hneg (by rw [hcl]; omega) (by omega) (by rw [hcl]; omega) fun cA kA comp f1 f2 f3 f4 => ?_
  rw [hcl]
  generalize hH1 : H.push ({ cls := cA, slots := Array.replicate n.2.1 .null, vm := .none } : Cell) = H1
  have z1 : H1.size = H.size + 1 := by rw [← hH1, Array.size_push]
  have e1 : H1[H.size]? = some { cls := cA, slots := Array.replicate n.2.1 .null, vm := .none } := by rw [← hH1, Array.getElem?_push_size]
  have o1 : ∀ q : Nat, q < H.size → H1[q]? = H[q]? := fun q hq => by rw [← hH1, Array.getElem?_push, if_neg (Nat.ne_of_lt hq)]
  have hAr : ArrOfT Y.1 cA (.array .int) := arrOfT_moved hW.alike.symm (fun N z => ⟨(fun k h => by cases h), kA, f2, comp, f3⟩)
  have hak : am_ak Y.1 cA 104 := by
    obtain ⟨kA', g5, g6⟩ := hW.alike.symm.2.2 _ _ f2
    have f5 : Y.1.vm.findClass "[I" = some comp := by
      rw [← hW.alike.findClass]
      exact f4
    obtain ⟨kI, g7, -⟩ := Vm.findClass_spec f5
    exact ⟨kA', comp, kI, g5, by rw [g6]; exact f3, f5, g7⟩
  obtain ⟨l1, l2, l3⟩ := am_HP_new hsz hp (c := (104, am_rep n.2.1 (4, 0, []))) hf (am_nulls (by decide) rfl hAr hak) e1 z1 o1
  rw [show c0 + nc + 1 = c0 + (nc + 1) from Nat.add_assoc _ _ _, show q0 + ns + n.2.1 = q0 + (ns + n.2.1) from Nat.add_assoc _ _ _]
  exact g4 (ad ++ [H.size]) H1 locs ls (.ref H.size :: S') l1 (am_Lo_le l2 hlo) ⟨⟨H.size, l3, rfl⟩, am_St_le l2 k2⟩ r1 r2 (am_Kont_le hkt l2)
end AMNEW
