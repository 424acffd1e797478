/-! ===== the abstract machine's state and the machine's: s0 the state at the law's entry (its cells are old), D the classes' numbers and slots, X the unknowns, b the script's cell ===== -/
/-- s0, D, X, b -/
abbrev am_Y : Type := State × va_G × List Int × Nat
def am_V1 (Y : am_Y) (ad : List Nat) (v : am_V) (V : Value) : Prop := am_R Y.2.2.1 Y.2.2.2 ad v V
def am_St (Y : am_Y) (ad : List Nat) : List am_V → List Value → Prop
  | [], [] => True
  | v :: vs, V :: Vs => am_V1 Y ad v V ∧ am_St Y ad vs Vs
  | _, _ => False
/-- what the tables say of an array's class -/
def am_ak (s0 : State) (cA : ClassId) (kind : Nat) : Prop := match kind with
  | 100 => s0.vm.findClass "[I" = some cA
  | 101 => va_RA s0 cA (.object RX5)
  | 102 => va_RA s0 cA (.object RX2)
  | 103 => va_RA s0 cA (.object RX1)
  | 104 => ∃ (kA : Class) (comp : ClassId) (kI : Class), s0.vm.classes[cA]? = some kA ∧ kA.kind = .array comp (.array .int) ∧ s0.vm.findClass "[I" = some comp ∧ s0.vm.classes[comp]? = some kI
  | _ => False
/-- a cell holds a list of values at the slots f -/
def am_hold (Y : am_Y) (ad : List Nat) (C : Cell) (f : Nat → Nat) (vs : List am_V) : Prop := ∀ (j : Nat) (v : am_V), vs[j]? = some v → ∃ V, C.slots[f j]? = some V ∧ am_V1 Y ad v V
def am_cell (Y : am_Y) (ad : List Nat) (C : Cell) (k : am_C) : Prop := C.vm = .none ∧
  ((∃ r : vw_C, am_cl[k.1]? = some r ∧ C.cls = Y.2.1.1 k.1 ∧ k.2.length = r.2.2 ∧ am_hold Y ad C (Y.2.1.2 k.1) k.2) ∨
   (∃ ty : FieldType, 100 ≤ k.1 ∧ am_at k.1 = some ty ∧ ArrOfT Y.1 C.cls ty ∧ am_ak Y.1 C.cls k.1 ∧ C.slots.size = k.2.length ∧ am_hold Y ad C (fun j => j) k.2))
def am_Rep (Y : am_Y) (ad : List Nat) (h : am_H) (H : Heap) : Prop := ad.length = h.1 ∧ ad.Nodup ∧ (∀ a ∈ ad, Y.1.heap.size ≤ a ∧ a < H.size) ∧
  ∀ (k : Nat) (c : am_C), am_get h k = some c → c.1 ≠ 999 → ∃ (a : Nat) (C : Cell), ad[k]? = some a ∧ H[a]? = some C ∧ am_cell Y ad C c
/-- .. and what isn't in the world stays as it was at s -/
def am_HP (Y : am_Y) (s : State) (ad0 ad : List Nat) (h : am_H) (H : Heap) (locs : List Loc) : Prop :=
  am_Rep Y ad h H ∧ s.heap.size ≤ H.size ∧ (∀ q : Nat, q < s.heap.size → q ∉ ad0 → H[q]? = s.heap[q]?) ∧ (∀ z ∈ locs, Y.1.heap.size ≤ z.base) ∧ (∀ a ∈ ad, a ∈ ad0 ∨ s.heap.size ≤ a) ∧ ∀ a ∈ ad0, a ∈ ad
def am_Lo (Y : am_Y) (ad : List Nat) (nL : Nat) (lo : List am_V) (ls : Array Slot) : Prop := lo.length = nL ∧ ∃ lv : List (Nat × Value), lv_has ls nL lv ∧ ∀ (i : Nat) (v : am_V), lo[i]? = some v → v.1 ≠ 98 → ∃ V, am_V1 Y ad v V ∧ (i, V) ∈ lv
def am_le (ad ad' : List Nat) : Prop := ∀ (k a : Nat), ad[k]? = some a → ad'[k]? = some a
theorem am_le_rf (ad : List Nat) : am_le ad ad := fun _ _ h => h
theorem am_le_tr {a b c : List Nat} (h1 : am_le a b) (h2 : am_le b c) : am_le a c := fun k x h => h2 k x (h1 k x h)
theorem am_V1_le {Y : am_Y} {ad ad' : List Nat} {v : am_V} {V : Value} (h : am_V1 Y ad v V) (hl : am_le ad ad') : am_V1 Y ad' v V := am_R_grow h hl
theorem am_St_le {Y : am_Y} {ad ad' : List Nat} (hl : am_le ad ad') : ∀ {vs : List am_V} {Vs : List Value}, am_St Y ad vs Vs → am_St Y ad' vs Vs
  | [], [], _ => trivial
  | _ :: _, _ :: _, h => ⟨am_V1_le h.1 hl, am_St_le hl h.2⟩
  | [], _ :: _, h => h.elim
  | _ :: _, [], h => h.elim
theorem am_Lo_le {Y : am_Y} {ad ad' : List Nat} {nL : Nat} {lo : List am_V} {ls : Array Slot} (hl : am_le ad ad') (h : am_Lo Y ad nL lo ls) : am_Lo Y ad' nL lo ls := by
  obtain ⟨h1, lv, h2, h3⟩ := h
  exact ⟨h1, lv, h2, fun i v hv hn => by
    obtain ⟨V, k1, k2⟩ := h3 i v hv hn
    exact ⟨V, am_V1_le k1 hl, k2⟩⟩
theorem am_hold_le {Y : am_Y} {ad ad' : List Nat} {C : Cell} {f : Nat → Nat} {vs : List am_V} (hl : am_le ad ad') (h : am_hold Y ad C f vs) : am_hold Y ad' C f vs := fun j v hv => by
  obtain ⟨V, k1, k2⟩ := h j v hv
  exact ⟨V, k1, am_V1_le k2 hl⟩
theorem am_cell_le {Y : am_Y} {ad ad' : List Nat} {C : Cell} {k : am_C} (hl : am_le ad ad') (h : am_cell Y ad C k) : am_cell Y ad' C k := by
  obtain ⟨h1, h2⟩ := h
  refine ⟨h1, ?_⟩
  rcases h2 with ⟨r, a1, a2, a3, a4⟩ | ⟨ty, a0, a1, a2, a3, a4, a5⟩
  · exact Or.inl ⟨r, a1, a2, a3, am_hold_le hl a4⟩
  · exact Or.inr ⟨ty, a0, a1, a2, a3, a4, am_hold_le hl a5⟩
theorem am_St_nil {Y : am_Y} {ad : List Nat} {Vs : List Value} (h : am_St Y ad [] Vs) : Vs = [] := by
  cases Vs with
  | nil => rfl
  | cons _ _ => exact h.elim
theorem am_St_cons {Y : am_Y} {ad : List Nat} {v : am_V} {vs : List am_V} {Vs : List Value} (h : am_St Y ad (v :: vs) Vs) : ∃ V Vs', Vs = V :: Vs' ∧ am_V1 Y ad v V ∧ am_St Y ad vs Vs' := by
  cases Vs with
  | nil => exact h.elim
  | cons V Vs' => exact ⟨V, Vs', rfl, h.1, h.2⟩
theorem am_St_len {Y : am_Y} {ad : List Nat} : ∀ {vs : List am_V} {Vs : List Value}, am_St Y ad vs Vs → vs.length = Vs.length
  | [], [], _ => rfl
  | _ :: _, _ :: _, h => congrArg (· + 1) (am_St_len h.2)
  | [], _ :: _, h => h.elim
  | _ :: _, [], h => h.elim
-- tags
theorem am_tag {n k : Nat} (h : Nat.beq n k = true) : n = k := Nat.eq_of_beq_eq_true h
theorem am_tI_ok {Y : am_Y} {ad : List Nat} {v : am_V} {V : Value} (h : am_V1 Y ad v V) (ht : am_tI v = true) : ∃ x : Int32, V = .int x := by
  obtain ⟨t, n, f⟩ := v
  rcases am_or_t.mp ht with h1 | h1 <;> (have e := am_tag h1; dsimp only at e; subst e; exact ⟨_, h⟩)
theorem am_tL_ok {Y : am_Y} {ad : List Nat} {v : am_V} {V : Value} (h : am_V1 Y ad v V) (ht : am_tL v = true) : ∃ x : Int64, V = .long x := by
  obtain ⟨t, n, f⟩ := v
  rcases am_or_t.mp ht with h1 | h1 <;> (have e := am_tag h1; dsimp only at e; subst e; exact ⟨_, h⟩)
theorem am_tF_ok {Y : am_Y} {ad : List Nat} {v : am_V} {V : Value} (h : am_V1 Y ad v V) (ht : am_tF v = true) : ∃ x : UInt32, V = .float x := by
  obtain ⟨t, n, f⟩ := v
  have e := am_tag ht
  dsimp only at e
  subst e
  exact ⟨_, h⟩
theorem am_tD_ok {Y : am_Y} {ad : List Nat} {v : am_V} {V : Value} (h : am_V1 Y ad v V) (ht : am_tD v = true) : ∃ x : UInt64, V = .double x := by
  obtain ⟨t, n, f⟩ := v
  rcases am_or_t.mp ht with h1 | h1
  · have e := am_tag h1; dsimp only at e; subst e; exact ⟨_, h⟩
  · rcases am_or_t.mp h1 with h2 | h2 <;> (have e := am_tag h2; dsimp only at e; subst e; exact ⟨_, h⟩)
theorem am_tR_ok {Y : am_Y} {ad : List Nat} {v : am_V} {V : Value} (h : am_V1 Y ad v V) (ht : am_tR v = true) : ∃ x : Nat, V = .ref x := by
  obtain ⟨t, n, f⟩ := v
  rcases am_or_t.mp ht with h1 | h1
  · have e := am_tag h1
    dsimp only at e
    subst e
    obtain ⟨a, -, h2⟩ := h
    exact ⟨a, h2⟩
  · rcases am_or_t.mp h1 with h2 | h2
    · have e := am_tag h2; dsimp only at e; subst e; exact h
    · have e := am_tag h2; dsimp only at e; subst e; exact ⟨_, h⟩
theorem am_tA_ok {Y : am_Y} {ad : List Nat} {v : am_V} {V : Value} (h : am_V1 Y ad v V) (ht : am_tA v = true) : V = .null ∨ ∃ x : Nat, V = .ref x := by
  rcases am_or_t.mp ht with h1 | h1
  · exact Or.inr (am_tR_ok h h1)
  · obtain ⟨t, n, f⟩ := v
    have e := am_tag h1
    dsimp only at e
    subst e
    exact Or.inl h
theorem am_cat {Y : am_Y} {ad : List Nat} {v : am_V} {V : Value} (h : am_V1 Y ad v V) : V.category = if am_c2 v = true then 2 else 1 := by
  obtain ⟨t, n, f⟩ := v
  unfold am_V1 am_R at h
  dsimp only at h
  split at h
  all_goals first
    | (subst h; simp [am_c2, Value.category]; done)
    | (obtain ⟨a, h⟩ := h; subst h; simp [am_c2, Value.category]; done)
    | (obtain ⟨a, -, h⟩ := h; subst h; simp [am_c2, Value.category]; done)
    | exact h.elim
