/-! ===== an operation of the abstract machine is sound where its instruction's row is ===== -/
def am_rk (code : ByteArray) (pc : Nat) (v : am_V) : Prop := (am_tI v = true ∧ decode code pc = .ok (.ireturn, 1)) ∨ (am_tL v = true ∧ decode code pc = .ok (.lreturn, 1)) ∨ (am_tF v = true ∧ decode code pc = .ok (.freturn, 1)) ∨ (am_tD v = true ∧ decode code pc = .ok (.dreturn, 1)) ∨ (am_tR v = true ∧ decode code pc = .ok (.areturn, 1))
def am_Ret (code : ByteArray) (rt : Option FieldType) (c : Code) (o : am_O) : Prop := (o.1 = 0 → o.2.2.2.2.1 = [] ∧ decode code o.2.2.1 = .ok (.return_, 1) ∧ rt = none) ∧ (o.1 = 1 → o.2.2.2.2.1 = [o.2.1] ∧ ∃ t, rt = some t ∧ am_fit t o.2.1 = true ∧ am_rk code o.2.2.1 o.2.1) ∧ (o.1 = 2 → c.exceptionTable.toList = [])
/-- what a run that comes to o owes from there on -/
def am_Kont (p : Program) (l : Launch) (e : Env) (R : Room) (s : State) (m : MethodId) (args : Array Value) (below : List Frame) (meth : Method) (c : Code) (Q : State → Prop) (Y : am_Y) (ad0 : List Nat) (nL c0 q0 : Nat) (ad : List Nat) (o : am_O) : Prop :=
  ∀ (ad' : List Nat) (H' : Heap) (locs' : List Loc) (ls' : Array Slot) (S' : List Value), am_le ad ad' → am_HP Y s ad0 ad' o.2.2.2.2.2.1 H' locs' → am_Lo Y ad' nL o.2.2.2.1 ls' → am_St Y ad' o.2.2.2.2.1 S' →
    (o.1 ≠ 2 → W p l e R s m args below meth c H' locs' (c0 + o.2.2.2.2.2.2.1) (q0 + o.2.2.2.2.2.2.2) Q (F0 m o.2.2.1 ls' S')) ∧
    (o.1 = 2 → ∀ E : String, am_ex[o.2.1.1]? = some E →
      (∀ (q : Addr) (ce : Cell) (pc' : Nat), H'[q]? = some ce → ce.vm = .none → s.vm.findClass E = some ce.cls → vx_W p l e R s m args below meth c H' locs' (c0 + o.2.2.2.2.2.2.1) (q0 + o.2.2.2.2.2.2.2) Q (F0 m pc' ls' S') q) ∧
      ∃ (Qc : Array Value → State → Outcome → State → Prop) (XC : String → State → State → Prop) (mc ms : Nat), Q = vx_MQ below Qc XC args s mc ms (fun q => Y.1.heap.size ≤ q) ∧ c0 + o.2.2.2.2.2.2.1 ≤ mc ∧ q0 + o.2.2.2.2.2.2.2 ≤ ms ∧
        ∀ t : State, s.vm.Alike t.vm → H'.size ≤ t.heap.size → (∀ q : Nat, q < H'.size → t.heap[q]? = H'[q]?) → XC E s t)
/-- g is what the machine does from pc on -/
def am_Snd (p : Program) (l : Launch) (e : Env) (R : Room) (s : State) (m : MethodId) (args : Array Value) (below : List Frame) (meth : Method) (c : Code) (Q : State → Prop) (Y : am_Y) (ad0 : List Nat) (nL c0 q0 : Nat) (code : ByteArray) (rt : Option FieldType) (g : am_G) (pc : Nat) : Prop :=
  ∀ (lo stk : List am_V) (h : am_H) (nc ns : Nat) (o : am_O), g lo stk h nc ns = some o → nc ≤ o.2.2.2.2.2.2.1 ∧ ns ≤ o.2.2.2.2.2.2.2 ∧ am_Ret code rt c o ∧
    ∀ (ad : List Nat) (H : Heap) (locs : List Loc) (ls : Array Slot) (S : List Value), am_HP Y s ad0 ad h H locs → am_Lo Y ad nL lo ls → am_St Y ad stk S → c0 + o.2.2.2.2.2.2.1 ≤ R.cells → q0 + o.2.2.2.2.2.2.2 ≤ R.slots → am_Kont p l e R s m args below meth c Q Y ad0 nL c0 q0 ad o →
      W p l e R s m args below meth c H locs (c0 + nc) (q0 + ns) Q (F0 m pc ls S)
theorem am_Kont_le {p : Program} {l : Launch} {e : Env} {R : Room} {s : State} {m : MethodId} {args : Array Value} {below : List Frame} {meth : Method} {c : Code} {Q : State → Prop} {Y : am_Y} {ad0 : List Nat} {nL c0 q0 : Nat} {ad ad1 : List Nat} {o : am_O} (h : am_Kont p l e R s m args below meth c Q Y ad0 nL c0 q0 ad o) (hl : am_le ad ad1) : am_Kont p l e R s m args below meth c Q Y ad0 nL c0 q0 ad1 o :=
  fun ad' H' locs' ls' S' h1 => h ad' H' locs' ls' S' (am_le_tr hl h1)
section AMOPS
variable {p : Program} {l : Launch} {e : Env} {R : Room} {s : State} {m : MethodId} {args : Array Value} {below : List Frame} {meth : Method} {c : Code} {Q : State → Prop} {Y : am_Y} {A : am_A} {ad0 : List Nat} {nL c0 q0 : Nat} {code : ByteArray} {rt : Option FieldType}
variable {sub : Nat → am_G} {go : am_G} {jmp : Nat → am_G} {pc pc' : Nat}
theorem am_sBad : am_Snd p l e R s m args below meth c Q Y ad0 nL c0 q0 code rt (am_oBad A sub go jmp) pc := fun lo stk h nc ns o ho => by cases ho
theorem am_sPush {v : am_V} (hgo : am_Snd p l e R s m args below meth c Q Y ad0 nL c0 q0 code rt go pc') (row : ∀ (ad : List Nat) (H : Heap) (locs : List Loc) (k n : Nat) (ls : Array Slot) (S : List Value), ∃ V, am_V1 Y ad v V ∧ (W p l e R s m args below meth c H locs k n Q (F0 m pc' ls (V :: S)) → W p l e R s m args below meth c H locs k n Q (F0 m pc ls S))) : am_Snd p l e R s m args below meth c Q Y ad0 nL c0 q0 code rt (am_oPush v A sub go jmp) pc := by
  intro lo stk h nc ns o ho
  obtain ⟨g1, g2, g3, g4⟩ := hgo lo (v :: stk) h nc ns o ho
  refine ⟨g1, g2, g3, fun ad H locs ls S hp hl hs r1 r2 hk => ?_⟩
  obtain ⟨V, k1, k2⟩ := row ad H locs (c0 + nc) (q0 + ns) ls S
  exact k2 (g4 ad H locs ls (V :: S) hp hl ⟨k1, hs⟩ r1 r2 hk)
theorem am_sLoad {ok : am_V → Bool} {k : Nat} (hok : ∀ v, ok v = true → v.1 ≠ 98) (hgo : am_Snd p l e R s m args below meth c Q Y ad0 nL c0 q0 code rt go pc') (row : ∀ (ad : List Nat) (v : am_V) (V : Value), am_V1 Y ad v V → ok v = true → ∀ (H : Heap) (locs : List Loc) (k1 n : Nat) (ls : Array Slot) (S : List Value), ls[k]? = some (.val V) → W p l e R s m args below meth c H locs k1 n Q (F0 m pc' ls (V :: S)) → W p l e R s m args below meth c H locs k1 n Q (F0 m pc ls S)) : am_Snd p l e R s m args below meth c Q Y ad0 nL c0 q0 code rt (am_oLoad ok k A sub go jmp) pc := by
  intro lo stk h nc ns o ho
  obtain ⟨v, hv, ho1⟩ := am_ob_some ho
  obtain ⟨hv2, ho2⟩ := am_if_some ho1
  obtain ⟨g1, g2, g3, g4⟩ := hgo lo (v :: stk) h nc ns o ho2
  refine ⟨g1, g2, g3, fun ad H locs ls S hp hl hs r1 r2 hk => ?_⟩
  obtain ⟨V, k1, k2⟩ := am_Lo_get hl hv (hok v hv2)
  exact row ad v V k1 hv2 H locs _ _ ls S k2 (g4 ad H locs ls (V :: S) hp hl ⟨k1, hs⟩ r1 r2 hk)
theorem am_sStore {ok : am_V → Bool} {k : Nat} (hgo : am_Snd p l e R s m args below meth c Q Y ad0 nL c0 q0 code rt go pc') (row : ∀ (ad : List Nat) (v : am_V) (V : Value), am_V1 Y ad v V → ok v = true → ∀ (H : Heap) (locs : List Loc) (k1 n : Nat) (ls : Array Slot) (S : List Value) (lv : List (Nat × Value)), lv_has ls nL lv → k < nL → (∀ ls' : Array Slot, lv_has ls' nL ((k, V) :: lv.filter (fun q => !(q.1 == k) && !(q.1 + 1 == k && q.2.category == 2))) → W p l e R s m args below meth c H locs k1 n Q (F0 m pc' ls' S)) → W p l e R s m args below meth c H locs k1 n Q (F0 m pc ls (V :: S))) : am_Snd p l e R s m args below meth c Q Y ad0 nL c0 q0 code rt (am_oStore ok k A sub go jmp) pc := by
  intro lo stk h nc ns o ho
  obtain ⟨v, rest, rfl, ho1⟩ := am_lc_some ho
  obtain ⟨hv2, ho2⟩ := am_if_some ho1
  rw [am_and_t] at hv2
  obtain ⟨g1, g2, g3, g4⟩ := hgo (am_st1 lo k v) rest h nc ns o ho2
  refine ⟨g1, g2, g3, fun ad H locs ls S hp hl hs r1 r2 hk => ?_⟩
  obtain ⟨V, S', rfl, k1, k2⟩ := am_St_cons hs
  obtain ⟨e1, lv, e2, e3⟩ := am_Lo_st1 hl hv2.2 k1
  exact row ad v V k1 hv2.1 H locs _ _ ls S' lv e2 e1 (fun ls' h' => g4 ad H locs ls' S' hp (e3 ls' h') k2 r1 r2 hk)
theorem am_sStore2 {ok : am_V → Bool} {k : Nat} (hgo : am_Snd p l e R s m args below meth c Q Y ad0 nL c0 q0 code rt go pc') (row : ∀ (ad : List Nat) (v : am_V) (V : Value), am_V1 Y ad v V → ok v = true → ∀ (H : Heap) (locs : List Loc) (k1 n : Nat) (ls : Array Slot) (S : List Value) (lv : List (Nat × Value)), lv_has ls nL lv → k + 1 < nL → (∀ ls' : Array Slot, lv_has ls' nL ((k, V) :: lv.filter (fun q => !(q.1 == k) && (!(q.1 == k + 1) && !(q.1 + 1 == k && q.2.category == 2)))) → W p l e R s m args below meth c H locs k1 n Q (F0 m pc' ls' S)) → W p l e R s m args below meth c H locs k1 n Q (F0 m pc ls (V :: S))) : am_Snd p l e R s m args below meth c Q Y ad0 nL c0 q0 code rt (am_oStore2 ok k A sub go jmp) pc := by
  intro lo stk h nc ns o ho
  obtain ⟨v, rest, rfl, ho1⟩ := am_lc_some ho
  obtain ⟨hv2, ho2⟩ := am_if_some ho1
  rw [am_and_t] at hv2
  obtain ⟨g1, g2, g3, g4⟩ := hgo (am_st2 lo k v) rest h nc ns o ho2
  refine ⟨g1, g2, g3, fun ad H locs ls S hp hl hs r1 r2 hk => ?_⟩
  obtain ⟨V, S', rfl, k1, k2⟩ := am_St_cons hs
  obtain ⟨e1, lv, e2, e3⟩ := am_Lo_st2 hl hv2.2 k1
  exact row ad v V k1 hv2.1 H locs _ _ ls S' lv e2 e1 (fun ls' h' => g4 ad H locs ls' S' hp (e3 ls' h') k2 r1 r2 hk)
theorem am_sBinA {f : am_A → am_V → am_V → Option am_V} (hgo : am_Snd p l e R s m args below meth c Q Y ad0 nL c0 q0 code rt go pc') (row : ∀ (ad : List Nat) (u v r : am_V) (U V : Value), am_V1 Y ad u U → am_V1 Y ad v V → f A u v = some r → ∃ r' : Value, am_V1 Y ad r r' ∧ ∀ (H : Heap) (locs : List Loc) (k n : Nat) (ls : Array Slot) (S : List Value), W p l e R s m args below meth c H locs k n Q (F0 m pc' ls (r' :: S)) → W p l e R s m args below meth c H locs k n Q (F0 m pc ls (V :: U :: S))) : am_Snd p l e R s m args below meth c Q Y ad0 nL c0 q0 code rt (am_oBinA f A sub go jmp) pc := by
  intro lo stk h nc ns o ho
  obtain ⟨y, r1, rfl, ho1⟩ := am_lc_some ho
  obtain ⟨x, rest, rfl, ho2⟩ := am_lc_some ho1
  obtain ⟨r, hr, ho3⟩ := am_ob_some ho2
  obtain ⟨g1, g2, g3, g4⟩ := hgo lo (r :: rest) h nc ns o ho3
  refine ⟨g1, g2, g3, fun ad H locs ls S hp hl hs r1 r2 hk => ?_⟩
  obtain ⟨V, S', rfl, k1, k2⟩ := am_St_cons hs
  obtain ⟨U, S'', rfl, k3, k4⟩ := am_St_cons k2
  obtain ⟨r', e1, e2⟩ := row ad x y r U V k3 k1 hr
  exact e2 H locs _ _ ls S'' (g4 ad H locs ls (r' :: S'') hp hl ⟨e1, k4⟩ r1 r2 hk)
theorem am_sBin {f : am_V → am_V → Option am_V} (hgo : am_Snd p l e R s m args below meth c Q Y ad0 nL c0 q0 code rt go pc') (row : ∀ (ad : List Nat) (u v r : am_V) (U V : Value), am_V1 Y ad u U → am_V1 Y ad v V → f u v = some r → ∃ r' : Value, am_V1 Y ad r r' ∧ ∀ (H : Heap) (locs : List Loc) (k n : Nat) (ls : Array Slot) (S : List Value), W p l e R s m args below meth c H locs k n Q (F0 m pc' ls (r' :: S)) → W p l e R s m args below meth c H locs k n Q (F0 m pc ls (V :: U :: S))) : am_Snd p l e R s m args below meth c Q Y ad0 nL c0 q0 code rt (am_oBin f A sub go jmp) pc :=
  am_sBinA (A := A) (sub := sub) (jmp := jmp) (f := fun _ => f) hgo row
theorem am_sUn {f : am_V → Option am_V} (hgo : am_Snd p l e R s m args below meth c Q Y ad0 nL c0 q0 code rt go pc') (row : ∀ (ad : List Nat) (u r : am_V) (U : Value), am_V1 Y ad u U → f u = some r → ∃ r' : Value, am_V1 Y ad r r' ∧ ∀ (H : Heap) (locs : List Loc) (k n : Nat) (ls : Array Slot) (S : List Value), W p l e R s m args below meth c H locs k n Q (F0 m pc' ls (r' :: S)) → W p l e R s m args below meth c H locs k n Q (F0 m pc ls (U :: S))) : am_Snd p l e R s m args below meth c Q Y ad0 nL c0 q0 code rt (am_oUn f A sub go jmp) pc := by
  intro lo stk h nc ns o ho
  obtain ⟨x, rest, rfl, ho1⟩ := am_lc_some ho
  obtain ⟨r, hr, ho2⟩ := am_ob_some ho1
  obtain ⟨g1, g2, g3, g4⟩ := hgo lo (r :: rest) h nc ns o ho2
  refine ⟨g1, g2, g3, fun ad H locs ls S hp hl hs r1 r2 hk => ?_⟩
  obtain ⟨U, S', rfl, k1, k2⟩ := am_St_cons hs
  obtain ⟨r', e1, e2⟩ := row ad x r U k1 hr
  exact e2 H locs _ _ ls S' (g4 ad H locs ls (r' :: S') hp hl ⟨e1, k2⟩ r1 r2 hk)
theorem am_sGoto {t pt : Nat} (hj : am_Snd p l e R s m args below meth c Q Y ad0 nL c0 q0 code rt (jmp t) pt) (row : ∀ (H : Heap) (locs : List Loc) (k n : Nat) (ls : Array Slot) (S : List Value), W p l e R s m args below meth c H locs k n Q (F0 m pt ls S) → W p l e R s m args below meth c H locs k n Q (F0 m pc ls S)) : am_Snd p l e R s m args below meth c Q Y ad0 nL c0 q0 code rt (am_oGoto t A sub go jmp) pc := by
  intro lo stk h nc ns o ho
  obtain ⟨g1, g2, g3, g4⟩ := hj lo stk h nc ns o ho
  exact ⟨g1, g2, g3, fun ad H locs ls S hp hl hs r1 r2 hk => row H locs _ _ ls S (g4 ad H locs ls S hp hl hs r1 r2 hk)⟩
/-- a branch on two values: cb what decides it -/
theorem am_sIf2 {f : am_A → am_V → am_V → Option Bool} {t pt : Nat} (hgo : am_Snd p l e R s m args below meth c Q Y ad0 nL c0 q0 code rt go pc') (hj : am_Snd p l e R s m args below meth c Q Y ad0 nL c0 q0 code rt (jmp t) pt) (row : ∀ (ad : List Nat) (u v : am_V) (U V : Value) (b : Bool), am_V1 Y ad u U → am_V1 Y ad v V → f A u v = some b → ∀ (H : Heap) (locs : List Loc) (k n : Nat) (ls : Array Slot) (S : List Value), (b = true → W p l e R s m args below meth c H locs k n Q (F0 m pt ls S)) → (b = false → W p l e R s m args below meth c H locs k n Q (F0 m pc' ls S)) → W p l e R s m args below meth c H locs k n Q (F0 m pc ls (V :: U :: S))) : am_Snd p l e R s m args below meth c Q Y ad0 nL c0 q0 code rt (am_oIf2 f t A sub go jmp) pc := by
  intro lo stk h nc ns o ho
  obtain ⟨y, r1, rfl, ho1⟩ := am_lc_some ho
  obtain ⟨x, rest, rfl, ho2⟩ := am_lc_some ho1
  obtain ⟨b, hb, ho3⟩ := am_ob_some ho2
  cases b with
  | true =>
    obtain ⟨g1, g2, g3, g4⟩ := hj lo rest h nc ns o ho3
    refine ⟨g1, g2, g3, fun ad H locs ls S hp hl hs r1 r2 hk => ?_⟩
    obtain ⟨V, S', rfl, k1, k2⟩ := am_St_cons hs
    obtain ⟨U, S'', rfl, k3, k4⟩ := am_St_cons k2
    exact row ad x y U V true k3 k1 hb H locs _ _ ls S'' (fun _ => g4 ad H locs ls S'' hp hl k4 r1 r2 hk) (fun q => by cases q)
  | false =>
    obtain ⟨g1, g2, g3, g4⟩ := hgo lo rest h nc ns o ho3
    refine ⟨g1, g2, g3, fun ad H locs ls S hp hl hs r1 r2 hk => ?_⟩
    obtain ⟨V, S', rfl, k1, k2⟩ := am_St_cons hs
    obtain ⟨U, S'', rfl, k3, k4⟩ := am_St_cons k2
    exact row ad x y U V false k3 k1 hb H locs _ _ ls S'' (fun q => by cases q) (fun _ => g4 ad H locs ls S'' hp hl k4 r1 r2 hk)
theorem am_sIf2n {f : am_A → am_V → am_V → Option Bool} {t pt : Nat} (hgo : am_Snd p l e R s m args below meth c Q Y ad0 nL c0 q0 code rt go pc') (hj : am_Snd p l e R s m args below meth c Q Y ad0 nL c0 q0 code rt (jmp t) pt) (row : ∀ (ad : List Nat) (u v : am_V) (U V : Value) (b : Bool), am_V1 Y ad u U → am_V1 Y ad v V → f A u v = some b → ∀ (H : Heap) (locs : List Loc) (k n : Nat) (ls : Array Slot) (S : List Value), (b = false → W p l e R s m args below meth c H locs k n Q (F0 m pt ls S)) → (b = true → W p l e R s m args below meth c H locs k n Q (F0 m pc' ls S)) → W p l e R s m args below meth c H locs k n Q (F0 m pc ls (V :: U :: S))) : am_Snd p l e R s m args below meth c Q Y ad0 nL c0 q0 code rt (am_oIf2n f t A sub go jmp) pc := by
  intro lo stk h nc ns o ho
  obtain ⟨y, r1, rfl, ho1⟩ := am_lc_some ho
  obtain ⟨x, rest, rfl, ho2⟩ := am_lc_some ho1
  obtain ⟨b, hb, ho3⟩ := am_ob_some ho2
  cases b with
  | false =>
    obtain ⟨g1, g2, g3, g4⟩ := hj lo rest h nc ns o ho3
    refine ⟨g1, g2, g3, fun ad H locs ls S hp hl hs r1 r2 hk => ?_⟩
    obtain ⟨V, S', rfl, k1, k2⟩ := am_St_cons hs
    obtain ⟨U, S'', rfl, k3, k4⟩ := am_St_cons k2
    exact row ad x y U V false k3 k1 hb H locs _ _ ls S'' (fun _ => g4 ad H locs ls S'' hp hl k4 r1 r2 hk) (fun q => by cases q)
  | true =>
    obtain ⟨g1, g2, g3, g4⟩ := hgo lo rest h nc ns o ho3
    refine ⟨g1, g2, g3, fun ad H locs ls S hp hl hs r1 r2 hk => ?_⟩
    obtain ⟨V, S', rfl, k1, k2⟩ := am_St_cons hs
    obtain ⟨U, S'', rfl, k3, k4⟩ := am_St_cons k2
    exact row ad x y U V true k3 k1 hb H locs _ _ ls S'' (fun q => by cases q) (fun _ => g4 ad H locs ls S'' hp hl k4 r1 r2 hk)
theorem am_sIf1 {f : am_A → am_V → am_V → Option Bool} {t pt : Nat} (hgo : am_Snd p l e R s m args below meth c Q Y ad0 nL c0 q0 code rt go pc') (hj : am_Snd p l e R s m args below meth c Q Y ad0 nL c0 q0 code rt (jmp t) pt) (row : ∀ (ad : List Nat) (u : am_V) (U : Value) (b : Bool), am_V1 Y ad u U → f A u (0, 0, []) = some b → ∀ (H : Heap) (locs : List Loc) (k n : Nat) (ls : Array Slot) (S : List Value), (b = true → W p l e R s m args below meth c H locs k n Q (F0 m pt ls S)) → (b = false → W p l e R s m args below meth c H locs k n Q (F0 m pc' ls S)) → W p l e R s m args below meth c H locs k n Q (F0 m pc ls (U :: S))) : am_Snd p l e R s m args below meth c Q Y ad0 nL c0 q0 code rt (am_oIf1 f t A sub go jmp) pc := by
  intro lo stk h nc ns o ho
  obtain ⟨x, rest, rfl, ho1⟩ := am_lc_some ho
  obtain ⟨b, hb, ho2⟩ := am_ob_some ho1
  cases b with
  | true =>
    obtain ⟨g1, g2, g3, g4⟩ := hj lo rest h nc ns o ho2
    refine ⟨g1, g2, g3, fun ad H locs ls S hp hl hs r1 r2 hk => ?_⟩
    obtain ⟨U, S', rfl, k1, k2⟩ := am_St_cons hs
    exact row ad x U true k1 hb H locs _ _ ls S' (fun _ => g4 ad H locs ls S' hp hl k2 r1 r2 hk) (fun q => by cases q)
  | false =>
    obtain ⟨g1, g2, g3, g4⟩ := hgo lo rest h nc ns o ho2
    refine ⟨g1, g2, g3, fun ad H locs ls S hp hl hs r1 r2 hk => ?_⟩
    obtain ⟨U, S', rfl, k1, k2⟩ := am_St_cons hs
    exact row ad x U false k1 hb H locs _ _ ls S' (fun q => by cases q) (fun _ => g4 ad H locs ls S' hp hl k2 r1 r2 hk)
theorem am_sIf1n {f : am_A → am_V → am_V → Option Bool} {t pt : Nat} (hgo : am_Snd p l e R s m args below meth c Q Y ad0 nL c0 q0 code rt go pc') (hj : am_Snd p l e R s m args below meth c Q Y ad0 nL c0 q0 code rt (jmp t) pt) (row : ∀ (ad : List Nat) (u : am_V) (U : Value) (b : Bool), am_V1 Y ad u U → f A u (0, 0, []) = some b → ∀ (H : Heap) (locs : List Loc) (k n : Nat) (ls : Array Slot) (S : List Value), (b = false → W p l e R s m args below meth c H locs k n Q (F0 m pt ls S)) → (b = true → W p l e R s m args below meth c H locs k n Q (F0 m pc' ls S)) → W p l e R s m args below meth c H locs k n Q (F0 m pc ls (U :: S))) : am_Snd p l e R s m args below meth c Q Y ad0 nL c0 q0 code rt (am_oIf1n f t A sub go jmp) pc := by
  intro lo stk h nc ns o ho
  obtain ⟨x, rest, rfl, ho1⟩ := am_lc_some ho
  obtain ⟨b, hb, ho2⟩ := am_ob_some ho1
  cases b with
  | false =>
    obtain ⟨g1, g2, g3, g4⟩ := hj lo rest h nc ns o ho2
    refine ⟨g1, g2, g3, fun ad H locs ls S hp hl hs r1 r2 hk => ?_⟩
    obtain ⟨U, S', rfl, k1, k2⟩ := am_St_cons hs
    exact row ad x U false k1 hb H locs _ _ ls S' (fun _ => g4 ad H locs ls S' hp hl k2 r1 r2 hk) (fun q => by cases q)
  | true =>
    obtain ⟨g1, g2, g3, g4⟩ := hgo lo rest h nc ns o ho2
    refine ⟨g1, g2, g3, fun ad H locs ls S hp hl hs r1 r2 hk => ?_⟩
    obtain ⟨U, S', rfl, k1, k2⟩ := am_St_cons hs
    exact row ad x U true k1 hb H locs _ _ ls S' (fun q => by cases q) (fun _ => g4 ad H locs ls S' hp hl k2 r1 r2 hk)
theorem am_sNull {no : Bool} {t pt : Nat} (hgo : am_Snd p l e R s m args below meth c Q Y ad0 nL c0 q0 code rt go pc') (hj : am_Snd p l e R s m args below meth c Q Y ad0 nL c0 q0 code rt (jmp t) pt) (row1 : ∀ (H : Heap) (locs : List Loc) (k n : Nat) (ls : Array Slot) (S : List Value), W p l e R s m args below meth c H locs k n Q (F0 m (if no = true then pc' else pt) ls S) → W p l e R s m args below meth c H locs k n Q (F0 m pc ls (.null :: S))) (row2 : ∀ (x : Nat) (H : Heap) (locs : List Loc) (k n : Nat) (ls : Array Slot) (S : List Value), W p l e R s m args below meth c H locs k n Q (F0 m (if no = true then pt else pc') ls S) → W p l e R s m args below meth c H locs k n Q (F0 m pc ls (.ref x :: S))) : am_Snd p l e R s m args below meth c Q Y ad0 nL c0 q0 code rt (am_oNull no t A sub go jmp) pc := by
  intro lo stk h nc ns o ho
  obtain ⟨x, rest, rfl, ho1⟩ := am_lc_some ho
  cases h4 : Nat.beq x.1 4 with
  | true =>
    rw [h4] at ho1
    have key : ∀ (g : am_G) (pg : Nat), am_Snd p l e R s m args below meth c Q Y ad0 nL c0 q0 code rt g pg → pg = (if no = true then pc' else pt) → g lo rest h nc ns = some o → nc ≤ o.2.2.2.2.2.2.1 ∧ ns ≤ o.2.2.2.2.2.2.2 ∧ am_Ret code rt c o ∧ ∀ (ad : List Nat) (H : Heap) (locs : List Loc) (ls : Array Slot) (S : List Value), am_HP Y s ad0 ad h H locs → am_Lo Y ad nL lo ls → am_St Y ad (x :: rest) S → c0 + o.2.2.2.2.2.2.1 ≤ R.cells → q0 + o.2.2.2.2.2.2.2 ≤ R.slots → am_Kont p l e R s m args below meth c Q Y ad0 nL c0 q0 ad o → W p l e R s m args below meth c H locs (c0 + nc) (q0 + ns) Q (F0 m pc ls S) := by
      intro g pg hg epg hgo'
      obtain ⟨g1, g2, g3, g4⟩ := hg lo rest h nc ns o hgo'
      refine ⟨g1, g2, g3, fun ad H locs ls S hp hl hs r1 r2 hk => ?_⟩
      obtain ⟨U, S', rfl, k1, k2⟩ := am_St_cons hs
      obtain ⟨tg, n1, f1⟩ := x
      have e := am_tag h4
      dsimp only at e
      subst e
      have hU : U = .null := k1
      subst hU
      refine row1 H locs _ _ ls S' ?_
      rw [← epg]
      exact g4 ad H locs ls S' hp hl k2 r1 r2 hk
    cases no with
    | true => exact key go pc' hgo rfl ho1
    | false => exact key (jmp t) pt hj rfl ho1
  | false =>
    rw [h4] at ho1
    obtain ⟨hr, ho2⟩ := am_if_some (show am_if (am_tR x) _ none = some o from ho1)
    have key : ∀ (g : am_G) (pg : Nat), am_Snd p l e R s m args below meth c Q Y ad0 nL c0 q0 code rt g pg → pg = (if no = true then pt else pc') → g lo rest h nc ns = some o → nc ≤ o.2.2.2.2.2.2.1 ∧ ns ≤ o.2.2.2.2.2.2.2 ∧ am_Ret code rt c o ∧ ∀ (ad : List Nat) (H : Heap) (locs : List Loc) (ls : Array Slot) (S : List Value), am_HP Y s ad0 ad h H locs → am_Lo Y ad nL lo ls → am_St Y ad (x :: rest) S → c0 + o.2.2.2.2.2.2.1 ≤ R.cells → q0 + o.2.2.2.2.2.2.2 ≤ R.slots → am_Kont p l e R s m args below meth c Q Y ad0 nL c0 q0 ad o → W p l e R s m args below meth c H locs (c0 + nc) (q0 + ns) Q (F0 m pc ls S) := by
      intro g pg hg epg hgo'
      obtain ⟨g1, g2, g3, g4⟩ := hg lo rest h nc ns o hgo'
      refine ⟨g1, g2, g3, fun ad H locs ls S hp hl hs r1 r2 hk => ?_⟩
      obtain ⟨U, S', rfl, k1, k2⟩ := am_St_cons hs
      obtain ⟨a, rfl⟩ := am_tR_ok k1 hr
      refine row2 a H locs _ _ ls S' ?_
      rw [← epg]
      exact g4 ad H locs ls S' hp hl k2 r1 r2 hk
    cases no with
    | true => exact key (jmp t) pt hj rfl ho2
    | false => exact key go pc' hgo rfl ho2
theorem am_sDup (hgo : am_Snd p l e R s m args below meth c Q Y ad0 nL c0 q0 code rt go pc') (row : ∀ (V : Value), V.category = 1 → ∀ (H : Heap) (locs : List Loc) (k n : Nat) (ls : Array Slot) (S : List Value), W p l e R s m args below meth c H locs k n Q (F0 m pc' ls (V :: V :: S)) → W p l e R s m args below meth c H locs k n Q (F0 m pc ls (V :: S))) : am_Snd p l e R s m args below meth c Q Y ad0 nL c0 q0 code rt (am_oDup A sub go jmp) pc := by
  intro lo stk h nc ns o ho
  obtain ⟨v, rest, rfl, ho1⟩ := am_lc_some ho
  cases hc : am_c2 v with
  | true => rw [hc] at ho1; cases ho1
  | false =>
    rw [hc] at ho1
    obtain ⟨g1, g2, g3, g4⟩ := hgo lo (v :: v :: rest) h nc ns o ho1
    refine ⟨g1, g2, g3, fun ad H locs ls S hp hl hs r1 r2 hk => ?_⟩
    obtain ⟨V, S', rfl, k1, k2⟩ := am_St_cons hs
    have hcat := am_cat k1
    rw [hc] at hcat
    exact row V hcat H locs _ _ ls S' (g4 ad H locs ls (V :: V :: S') hp hl ⟨k1, k1, k2⟩ r1 r2 hk)
theorem am_sDup2 (hgo : am_Snd p l e R s m args below meth c Q Y ad0 nL c0 q0 code rt go pc') (row : ∀ (V U : Value), V.category = 1 → U.category = 1 → ∀ (H : Heap) (locs : List Loc) (k n : Nat) (ls : Array Slot) (S : List Value), W p l e R s m args below meth c H locs k n Q (F0 m pc' ls (V :: U :: V :: U :: S)) → W p l e R s m args below meth c H locs k n Q (F0 m pc ls (V :: U :: S))) : am_Snd p l e R s m args below meth c Q Y ad0 nL c0 q0 code rt (am_oDup2 A sub go jmp) pc := by
  intro lo stk h nc ns o ho
  obtain ⟨v, r1, rfl, ho1⟩ := am_lc_some ho
  obtain ⟨w, rest, rfl, ho2⟩ := am_lc_some ho1
  cases hc : am_or (am_c2 v) (am_c2 w) with
  | true => rw [hc] at ho2; cases ho2
  | false =>
    rw [hc] at ho2
    have hv : am_c2 v = false := by
      cases q : am_c2 v with
      | false => rfl
      | true => rw [q] at hc; cases hc
    have hw : am_c2 w = false := by
      rw [hv] at hc
      exact hc
    obtain ⟨g1, g2, g3, g4⟩ := hgo lo (v :: w :: v :: w :: rest) h nc ns o ho2
    refine ⟨g1, g2, g3, fun ad H locs ls S hp hl hs r1 r2 hk => ?_⟩
    obtain ⟨V, S', rfl, k1, k2⟩ := am_St_cons hs
    obtain ⟨U, S'', rfl, k3, k4⟩ := am_St_cons k2
    have hcat := am_cat k1
    rw [hv] at hcat
    have hcat2 := am_cat k3
    rw [hw] at hcat2
    exact row V U hcat hcat2 H locs _ _ ls S'' (g4 ad H locs ls (V :: U :: V :: U :: S'') hp hl ⟨k1, k3, k1, k3, k4⟩ r1 r2 hk)
theorem am_sIinc {k : Nat} {z : Int} (hA : am_kn A Y.2.2.1) (hgo : am_Snd p l e R s m args below meth c Q Y ad0 nL c0 q0 code rt go pc') (row : ∀ (H : Heap) (locs : List Loc) (k1 n : Nat) (ls : Array Slot) (S : List Value) (lv : List (Nat × Value)) (j : Nat) (x v : Int32), lv_has ls nL lv → k < nL → lv[j]? = some (k, .int x) → x + Int32.ofInt z = v → (∀ ls' : Array Slot, lv_has ls' nL ((k, .int v) :: lv.filter (fun q => !(q.1 == k) && !(q.1 + 1 == k && q.2.category == 2))) → W p l e R s m args below meth c H locs k1 n Q (F0 m pc' ls' S)) → W p l e R s m args below meth c H locs k1 n Q (F0 m pc ls S)) : am_Snd p l e R s m args below meth c Q Y ad0 nL c0 q0 code rt (am_oIinc k z A sub go jmp) pc := by
  intro lo stk h nc ns o ho
  obtain ⟨v, hv, ho1⟩ := am_ob_some ho
  obtain ⟨r, hr, ho2⟩ := am_ob_some ho1
  obtain ⟨g1, g2, g3, g4⟩ := hgo (am_st1 lo k r) stk h nc ns o ho2
  refine ⟨g1, g2, g3, fun ad H locs ls S hp hl hs r1 r2 hk => ?_⟩
  have hh : am_has lo k = true := by
    unfold am_has
    rw [hv]
  have hn : v.1 ≠ 98 := by
    obtain ⟨t, n, f⟩ := v
    intro e
    dsimp only at e
    subst e
    rw [show am_iadd A (98, n, f) (am_int z) = none from rfl] at hr
    cases hr
  obtain ⟨V, k1, -⟩ := am_Lo_get hl hv hn
  obtain ⟨x, y, e1, e2, e3⟩ := am_R_iadd (b := Y.2.2.2) (ad := ad) hA k1 (am_R_i z) hr
  have e4 : y = Int32.ofInt z := (Value.int.inj e2).symm
  subst e4
  obtain ⟨q1, -⟩ := am_Lo_st1 hl hh e3
  obtain ⟨hlen, lv, h2, h3⟩ := id hl
  rw [am_nth_eq] at hv
  obtain ⟨V2, k2, k3⟩ := h3 k v hv hn
  obtain ⟨x2, y2, f1, f2, f3⟩ := am_R_iadd (b := Y.2.2.2) (ad := ad) hA k2 (am_R_i z) hr
  have e5 : y2 = Int32.ofInt z := (Value.int.inj f2).symm
  subst e5
  subst f1
  obtain ⟨j, hj⟩ := List.getElem?_of_mem k3
  obtain ⟨-, lv2, h4, h5⟩ := am_Lo_st1 hl hh f3
  refine row H locs _ _ ls S lv j x2 _ h2 q1 hj rfl (fun ls' h' => g4 ad H locs ls' S hp ?_ hs r1 r2 hk)
  refine ⟨by rw [am_st1_len]; exact hlen, _, h', fun i w hw hn2 => ?_⟩
  rcases am_st1_get (am_has_ok hh) hw hn2 with ⟨a1, a2⟩ | ⟨a1, a2, a3⟩
  · subst a1
    subst a2
    exact ⟨_, f3, List.mem_cons_self⟩
  · obtain ⟨W2, b1, b2⟩ := h3 i w a2 hn2
    refine ⟨W2, b1, List.mem_cons_of_mem _ (List.mem_filter.mpr ⟨b2, ?_⟩)⟩
    have hc := am_cat b1
    have t1 : (i == k) = false := by simpa using a1
    by_cases e : i + 1 = k
    · have e4 := a3 e
      rw [e4] at hc
      simp only [Bool.false_eq_true, if_false] at hc
      simp [t1, hc]
    · simp [t1, e]
end AMOPS
