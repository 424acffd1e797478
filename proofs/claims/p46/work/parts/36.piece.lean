/-! ===== a piece of a run between two states with unknowns of their own ===== -/
noncomputable def am_nil {α : Type} (l : List α) : Bool := List.rec (motive := fun _ => Bool) true (fun _ _ _ => false) l
theorem am_nil_ok {α : Type} {l : List α} (h : am_nil l = true) : l = [] := by
  cases l with
  | nil => rfl
  | cons a t => cases h
/-- from (lo, h), the unknowns 'ov' replaced, n own steps lead to pc', there (lo', h'), its unknowns by ov2, its cells kp -/
noncomputable def am_pck (A : am_A) (sub : Nat → am_G) (P : am_P) (k n pc' : Nat) (ov : List (Nat × List Int)) (lo : List am_V) (h : am_H) (ov2 : List (Nat × List Int)) (kp : List Nat) (lo' : List am_V) (h' : am_H) (mc ms : Nat) : Bool :=
  am_and (Option.rec (motive := fun _ => Bool) false (fun o : am_O => am_and (Nat.beq o.1 3) (am_and (Nat.beq o.2.2.1 pc') (am_and (am_nil o.2.2.2.2.1) (am_and (am_all2b (am_cvW ov2 kp) o.2.2.2.1 lo') (am_and (am_cvL ov2 kp o.2.2.2.2.2.1 h' kp 0) (am_and (Nat.ble o.2.2.2.2.2.2.1 mc) (Nat.ble o.2.2.2.2.2.2.2 ms))))))) (am_runP A sub P n (am_dr P k) (lo.map (am_sbV ov)) [] (am_sbH ov h) 0 0))
  (am_and (Option.rec (motive := fun _ => Bool) false (fun _ => true) (am_ndm kp)) (am_and (Nat.beq kp.length h'.1) (ov2.all (fun o => Nat.blt o.1 20))))
/-- free places bear nothing -/
def am_frC (h : am_H) : Bool := h.2.zipIdx.all (fun b => b.1.zipIdx.all (fun c => Nat.blt (16 * b.2 + c.2) h.1 || Nat.beq c.1.1 999))
theorem am_frC_ok {h : am_H} (hf : am_frC h = true) (k : Nat) (c : am_C) (hc : am_get h k = some c) (hn : c.1 ≠ 999) : k < h.1 := by
  unfold am_get at hc
  obtain ⟨b, hb, hc2⟩ := am_ob_some hc
  rw [am_nth_eq] at hb hc2
  have h1 := List.all_eq_true.mp hf (b, Nat.div k 16) (List.mem_zipIdx_iff_getElem?.mpr hb)
  have h2 := List.all_eq_true.mp h1 (c, Nat.mod k 16) (List.mem_zipIdx_iff_getElem?.mpr hc2)
  rw [Bool.or_eq_true] at h2
  rcases h2 with h2 | h2
  · have h3 := Nat.le_of_ble_eq_true h2
    have h4 : 16 * Nat.div k 16 + Nat.mod k 16 = k := Nat.div_add_mod k 16
    dsimp only at h3
    omega
  · exact absurd (Nat.eq_of_beq_eq_true h2) hn
/-- forms of the first twenty unknowns alone -/
def am_shV (v : am_V) : Bool := Nat.ble v.2.2.length 21
def am_shS (lo : List am_V) (h : am_H) : Bool := lo.all am_shV && h.2.all (fun b => b.all (fun c => c.2.all am_shV))
theorem am_dot_app : ∀ (cs C Z Z' : List Int), cs.length ≤ C.length → am_dot cs (C ++ Z) = am_dot cs (C ++ Z')
  | [], C, Z, Z', _ => by simp [am_dot]
  | c :: cs, [], Z, Z', h => by simp at h
  | c :: cs, x :: C, Z, Z', h => by
    have := am_dot_app cs C Z Z' (by simpa using h)
    simp only [List.cons_append, am_dot, this]
theorem am_ev_app {C : List Int} (hC : C.length = 20) (Z Z' g : List Int) (hg : g.length ≤ 21) : am_ev (C ++ Z) g = am_ev (C ++ Z') g := by
  cases g with
  | nil => rfl
  | cons c cs =>
    show c + am_dot cs _ = c + am_dot cs _
    rw [am_dot_app cs C Z Z' (by simp only [List.length_cons] at hg; omega)]
theorem am_R_ev {X X' : List Int} {b : Nat} {ad : List Nat} {v : am_V} {V : Value} (he : am_ev X v.2.2 = am_ev X' v.2.2) (h : am_R X b ad v V) : am_R X' b ad v V := by
  obtain ⟨t, n, f⟩ := v
  dsimp only at he
  unfold am_R am_dq at h ⊢
  dsimp only at h ⊢
  rw [he] at h
  exact h
theorem am_At_scr {p : Program} {l : Launch} {e : Env} {R : Room} {s : State} {m : MethodId} {args : Array Value} {below : List Frame} {meth : Method} {c : Code} {Q : State → Prop} {s0 : State} {D : va_G} {b : Nat} {ad0 : List Nat} {nL pc k n : Nat} {lo : List am_V} {h : am_H} {C Z Z' : List Int} (hC : C.length = 20) (hsh : am_shS lo h = true)
    (ha : am_At p l e R s m args below meth c Q (s0, D, C ++ Z, b) ad0 nL pc lo [] h k n) : am_At p l e R s m args below meth c Q (s0, D, C ++ Z', b) ad0 nL pc lo [] h k n := by
  unfold am_shS at hsh
  rw [Bool.and_eq_true] at hsh
  obtain ⟨hs1, hs2⟩ := hsh
  have hV : ∀ {v : am_V} {ad : List Nat} {V : Value}, am_shV v = true → am_V1 (s0, D, C ++ Z', b) ad v V → am_V1 (s0, D, C ++ Z, b) ad v V := fun {v ad V} hv h => am_R_ev (am_ev_app hC Z' Z v.2.2 (Nat.le_of_ble_eq_true hv)) h
  intro ad H locs ls S hp hlo hs
  have e0 := am_St_nil hs
  subst e0
  refine ha ad H locs ls [] ?_ ?_ trivial
  · obtain ⟨⟨r1, r2, r3, r4⟩, f⟩ := hp
    refine ⟨⟨r1, r2, r3, fun k9 c9 hc hn => ?_⟩, f⟩
    obtain ⟨a, C9, k1, k2, k3, k4⟩ := r4 k9 c9 hc hn
    have hc9 : c9.2.all am_shV = true := by
      unfold am_get at hc
      obtain ⟨b9, hb9, hc2⟩ := am_ob_some hc
      rw [am_nth_eq] at hb9 hc2
      exact List.all_eq_true.mp (List.all_eq_true.mp hs2 b9 (List.mem_of_getElem? hb9)) c9 (List.mem_of_getElem? hc2)
    have hh : ∀ {f : Nat → Nat}, am_hold (s0, D, C ++ Z', b) ad C9 f c9.2 → am_hold (s0, D, C ++ Z, b) ad C9 f c9.2 := fun {f} q j v hv => by
      obtain ⟨V, q1, q2⟩ := q j v hv
      exact ⟨V, q1, hV (List.all_eq_true.mp hc9 v (List.mem_of_getElem? hv)) q2⟩
    refine ⟨a, C9, k1, k2, k3, ?_⟩
    rcases k4 with ⟨r, a1, a2, a3, a4⟩ | ⟨ty, a0, a1, a2, a3, a4, a5⟩
    · exact Or.inl ⟨r, a1, a2, a3, hh a4⟩
    · exact Or.inr ⟨ty, a0, a1, a2, a3, a4, hh a5⟩
  · obtain ⟨h1, lv, h2, h3⟩ := hlo
    refine ⟨h1, lv, h2, fun i v hv hn => ?_⟩
    obtain ⟨V, q1, q2⟩ := h3 i v hv hn
    exact ⟨V, hV (List.all_eq_true.mp hs1 v (List.mem_of_getElem? hv)) q1, q2⟩
section AMPC
variable {p : Program} {l : Launch} {e : Env} {R : Room} {s : State} {m : MethodId} {args : Array Value} {below : List Frame} {meth : Method} {c : Code} {Q : State → Prop} {Y : am_Y} {A : am_A} {ad0 : List Nat} {nL c0 q0 : Nat} {code : ByteArray} {rt : Option FieldType}
theorem am_At_widen {Y : am_Y} {pc k n k' n' : Nat} {lo stk : List am_V} {h : am_H} (h1 : k ≤ k') (h2 : n ≤ n') (ha : am_At p l e R s m args below meth c Q Y ad0 nL pc lo stk h k' n') : am_At p l e R s m args below meth c Q Y ad0 nL pc lo stk h k n := fun ad H locs ls S hp hlo hs => W.widen h1 h2 (ha ad H locs ls S hp hlo hs)
theorem am_piece {s0 : State} {D : va_G} {b : Nat} {X : List Int} {sub : Nat → am_G} {P : am_P} {k n pc pc' mc ms k0 n0 : Nat} {ov ov2 : List (Nat × List Int)} {kp : List Nat} {lo lo' : List am_V} {h h' : am_H} (hX : 20 ≤ X.length) (his : am_is X ov) (hck : am_pck A sub P k n pc' ov lo h ov2 kp lo' h' mc ms = true)
    (hS : am_Snd p l e R s m args below meth c Q (s0, D, X, b) [] nL k0 n0 code rt (am_runP A sub P n (am_dr P k)) pc) (h1 : k0 + mc ≤ R.cells) (h2 : n0 + ms ≤ R.slots) (hfr : am_frC h' = true)
    (hat : am_At p l e R s m args below meth c Q (s0, D, am_upd ov2 X, b) [] nL pc' lo' [] h' (k0 + mc) (n0 + ms)) : am_At p l e R s m args below meth c Q (s0, D, X, b) [] nL pc lo [] h k0 n0 := by
  intro ad H locs ls S hp hlo hs
  unfold am_pck at hck
  rw [am_and_t, am_and_t, am_and_t] at hck
  obtain ⟨hck, hnd, hkl, hdim⟩ := hck
  cases hr : am_runP A sub P n (am_dr P k) (lo.map (am_sbV ov)) [] (am_sbH ov h) 0 0 with
  | none => rw [hr] at hck; cases hck
  | some o =>
    rw [hr] at hck
    have hck : am_and (Nat.beq o.1 3) (am_and (Nat.beq o.2.2.1 pc') (am_and (am_nil o.2.2.2.2.1) (am_and (am_all2b (am_cvW ov2 kp) o.2.2.2.1 lo') (am_and (am_cvL ov2 kp o.2.2.2.2.2.1 h' kp 0) (am_and (Nat.ble o.2.2.2.2.2.2.1 mc) (Nat.ble o.2.2.2.2.2.2.2 ms)))))) = true := hck
    simp only [am_and_t] at hck
    obtain ⟨q1, q2, q3, q4, q5, q6, q7⟩ := hck
    have q1 := am_tag q1
    have q2 := am_tag q2
    have q3 := am_nil_ok q3
    have q6 := Nat.le_of_ble_eq_true q6
    have q7 := Nat.le_of_ble_eq_true q7
    have e0 := am_St_nil hs
    subst e0
    obtain ⟨-, -, -, g4⟩ := hS _ _ _ _ _ o hr
    refine g4 ad H locs ls [] (am_HP_sb his hp) (am_Lo_sb his hlo) trivial (by omega) (by omega) ?_
    intro ad' H' locs' ls' S' hle hp' hlo' hs'
    refine ⟨fun _ => ?_, fun hk => by omega⟩
    rw [q3] at hs'
    have e1 := am_St_nil hs'
    subst e1
    have hXe : ∀ g, am_ev (am_upd ov2 X) g = am_ev X (am_sbF ov2 g) := am_ev_sbF ov2 X (fun o9 ho9 => by
      have := Nat.le_of_ble_eq_true (List.all_eq_true.mp hdim o9 ho9)
      omega)
    cases hm : am_ndm kp with
    | none => rw [hm] at hnd; cases hnd
    | some m9 =>
      obtain ⟨w1, w2⟩ := am_cvHP (Y := (s0, D, X, b)) (Y' := (s0, D, am_upd ov2 X, b)) rfl rfl rfl hXe hm (am_tag hkl) q5 (am_frC_ok hfr) hp'
      have w3 := am_cvLo (Y := (s0, D, X, b)) (Y' := (s0, D, am_upd ov2 X, b)) rfl hXe w2 q4 hlo'
      rw [q2]
      exact W.widen (by omega) (by omega) (hat _ H' locs' ls' [] w1 w3 trivial)
end AMPC
/-! a callee that leaves what was there as it was, and comes to an int -/
theorem am_frame {Y : am_Y} {s : State} {ad : List Nat} {h h0 : am_H} {H : Heap} {ad1 : List Nat} (hr : am_Rep Y ad h s.heap) (hp : am_HP Y s [] ad1 h0 H []) : am_HP Y s ad ad h H [] := by
  obtain ⟨⟨r1, r2, r3, r4⟩, f1, f2, f3, f4, f5⟩ := hp
  obtain ⟨t1, t2, t3, t4⟩ := hr
  refine ⟨⟨t1, t2, fun a ha => ⟨(t3 a ha).1, Nat.lt_of_lt_of_le (t3 a ha).2 f1⟩, fun k c hc hn => ?_⟩, f1, fun q h1 _ => f2 q h1 (fun q => by cases q), fun z hz => (by cases hz), fun a ha => Or.inl ha, fun a ha => ha⟩
  obtain ⟨a, C, k1, k2, k3, k4⟩ := t4 k c hc hn
  exact ⟨a, C, k1, by rw [f2 a (Array.getElem?_eq_some_iff.mp k2).1 (fun q => by cases q)]; exact k2, k3, k4⟩
theorem am_calleeQ {l : Launch} {Y : am_Y} {M : am_M} {d K N pcr : Nat} {as lo1 : List am_V} {h : am_H} {t : FieldType} {r : am_V} (hpl : plainFor M.1 = true) (hpad : am_pad am_un0 (am_lay as) M.2.2.1 = some lo1) (hrt : M.2.2.2.1 = some t) (hI : am_tI r = true) (hfit : am_fit t r = true) (hdr : decode M.2.1 pcr = .ok (.ireturn, 1))
    (hW : ∀ (ad : List Nat) (p : Program) (e : Env) (s : State) (m : MethodId) (args : Array Value) (below : List Frame) (meth : Method) (c : Code) (Q : State → Prop) (ls : Array Slot), am_Fm p s m args meth c Y M.1.cls M.2.1 M.2.2.1 M.2.2.2.1 → c.exceptionTable.toList = tableOf M.2.2.2.2.1 → meth.name = M.1.name → am_Lo Y ad M.2.2.1 lo1 ls →
      (∀ (ad1 : List Nat) (h1 : am_H) (H' : Heap) (locs' : List Loc) (ls' : Array Slot) (V : Value), am_HP Y s [] ad1 h1 H' locs' → am_V1 Y [] r V → W p l e (am_rm d K N) s m args below meth c H' locs' K N Q (F0 m pcr ls' [V])) →
      W p l e (am_rm d K N) s m args below meth c s.heap [] 0 0 Q (F0 m 0 ls [])) (ad : List Nat) :
    vx_Met l M.1 (am_head M :: am_ws) (am_rm d K N) (am_Pc Y ad as h) (am_Qc Y ad (1, r, pcr, lo1, [r], h, K, N)) (am_XC Y ad (1, r, pcr, lo1, [r], h, K, N)) K N (fun q => Y.1.heap.size ≤ q) := by
  have body : ∀ (p : Program) (e : Env) (s : State) (m : MethodId) (args : Array Value) (below : List Frame) (meth : Method) (c : Code) (s₁ : State), BodyLoose p l M.1 (headSpec (am_head M :: am_ws) (am_rm d K N)) M.2.1 M.2.2.1 M.2.2.2.1 e s m args below meth c s₁ → c.maxLocals = M.2.2.1 → am_Pc Y ad as h args s →
      W p l e (headSpec (am_head M :: am_ws) (am_rm d K N)).room s m args below meth c s.heap [] 0 0 (vx_MQ below (am_Qc Y ad (1, r, pcr, lo1, [r], h, K, N)) (am_XC Y ad (1, r, pcr, lo1, [r], h, K, N)) args s K N (fun q => Y.1.heap.size ≤ q)) (entryFrame m args M.2.2.1) := by
    intro p e s m args below meth c s₁ B hml hP
    obtain ⟨⟨vs, hvs, rfl⟩, hW9, hold, hsz, hrep⟩ := hP
    have hts0 := atoms_spec (ws := am_head M :: am_ws) B.pre
    have hF : am_Fm p s m vs.toArray meth c Y M.1.cls M.2.1 M.2.2.1 M.2.2.2.1 := ⟨B.exec, B.bytes, hml, findClass_of_methodNamed B.named, fun w hw => hts0 w (List.mem_cons_of_mem _ hw), B.notSynchronized, B.returns, hW9, hold, hsz⟩
    have htab := am_tabOf B (hts0 _ List.mem_cons_self)
    obtain ⟨e1, e2, e3⟩ := am_entry hvs hpad
    have hlo : am_Lo Y ad M.2.2.1 lo1 (lg_sl vs ++ List.replicate (M.2.2.1 - (lg_sl vs).length) Slot.unset).toArray := ⟨e2, lv_args 0 vs, lv_entry vs e1, fun i v hv hn => by
      obtain ⟨V, j1, j2⟩ := e3 0 i v hv hn
      rw [Nat.zero_add] at j2
      exact ⟨V, j1, j2⟩⟩
    rw [lg_entry_eq]
    refine hW ad p e s m vs.toArray below meth c _ _ hF htab (name_of_methodNamed B.named B.method).1 hlo ?_
    intro ad1 h1 H' locs' ls' V hp' hV
    have hr2 : meth.sig.returnType = some t := hF.2.2.2.2.2.2.1.trans hrt
    refine vx_ret ?_
    obtain ⟨n1, n2⟩ := am_fit_ok hfit hV
    have hV2 : am_V1 Y ad r V := am_R_grow hV (fun k a q => by cases q)
    have hend : ∀ t' : State, t'.heap = H' → s.WarmedH t'.vm → am_Qc Y ad (1, r, pcr, lo1, [r], h, K, N) vs.toArray s (.returned (some V)) t' := fun t' ht _ => ⟨ad, am_le_rf ad, by rw [ht]; exact am_frame hrep (am_HP_nil hp'), Or.inr ⟨rfl, V, hV2, rfl⟩⟩
    obtain ⟨x, rfl⟩ := am_tI_ok hV hI
    exact W.zret hF.1 hF.2.1 hr2 n1 hend hp'.2.2.2.1 hdr hF.2.2.2.2.2.1
  cases htb : M.2.2.2.2.1 with
  | nil => exact am_ofW (cc := M.2.1) (maxL := M.2.2.1) (ret := M.2.2.2.1) (ws' := am_ws) hpl (by unfold am_head; rw [htb]) (fun p e s m args below meth c s₁ B hml hP => body p e s m args below meth c s₁ B hml hP)
  | cons x xs => exact am_ofWH (cc := M.2.1) (maxL := M.2.2.1) (ret := M.2.2.2.1) (ws' := am_ws) (hh := x :: xs) hpl (by unfold am_head; rw [htb]) (fun p e s m args below meth c s₁ B hml hP => body p e s m args below meth c s₁ B hml hP)
