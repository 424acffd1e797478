/-! ===== loads and stores of the abstract machine ===== -/
theorem am_nt {v : am_V} (h : am_tI v = true ∨ am_tL v = true ∨ am_tF v = true ∨ am_tD v = true ∨ am_tA v = true) : v.1 ≠ 98 := by
  obtain ⟨t, n, f⟩ := v
  intro e
  dsimp only at e
  subst e
  simp [am_tI, am_tL, am_tF, am_tD, am_tA, am_tR, am_or] at h
theorem am_Lo_get {Y : am_Y} {ad : List Nat} {nL k : Nat} {lo : List am_V} {ls : Array Slot} {v : am_V} (h : am_Lo Y ad nL lo ls) (hk : am_nth lo k = some v) (hn : v.1 ≠ 98) : ∃ V, am_V1 Y ad v V ∧ ls[k]? = some (.val V) := by
  obtain ⟨-, lv, h2, h3⟩ := h
  rw [am_nth_eq] at hk
  obtain ⟨V, k1, k2⟩ := h3 k v hk hn
  exact ⟨V, k1, h2.2.2 (k, V) k2⟩
theorem am_has_ok {α : Type} {l : List α} {k : Nat} (h : am_has l k = true) : k < l.length := by
  unfold am_has at h
  rw [am_nth_eq] at h
  by_cases hk : k < l.length
  · exact hk
  · rw [List.getElem?_eq_none (by omega)] at h
    cases h
theorem am_sh_ok {α : Type} {l : List α} (h : am_sh l = true) : l.length ≤ 4 := by
  unfold am_sh at h
  rw [am_nth_eq] at h
  by_cases hk : 4 < l.length
  · rw [List.getElem?_eq_getElem hk] at h
    cases h
  · omega
theorem am_st1_len (lo : List am_V) (k : Nat) (v : am_V) : (am_st1 lo k v).length = lo.length := by
  cases k with
  | zero => exact (congrArg List.length (am_set_eq lo v 0)).trans (List.length_set)
  | succ j =>
    show (Option.rec (motive := fun _ => List am_V) (am_set lo (j + 1) v) (fun w => am_if (am_c2 w) (am_set (am_set lo j am_un0) (j + 1) v) (am_set lo (j + 1) v)) (am_nth lo j)).length = _
    cases am_nth lo j with
    | none => exact (congrArg List.length (am_set_eq lo v (j + 1))).trans (List.length_set)
    | some w =>
      show (am_if (am_c2 w) (am_set (am_set lo j am_un0) (j + 1) v) (am_set lo (j + 1) v)).length = _
      cases am_c2 w with
      | false => exact (congrArg List.length (am_set_eq lo v (j + 1))).trans (List.length_set)
      | true =>
        show (am_set (am_set lo j am_un0) (j + 1) v).length = _
        rw [am_set_eq, am_set_eq, List.length_set, List.length_set]
/-- what stands behind a store: the value, or what stood there before, unless it took two words that are broken now -/
theorem am_st1_get {lo : List am_V} {k i : Nat} {v w : am_V} (hk : k < lo.length) (h : (am_st1 lo k v)[i]? = some w) (hn : w.1 ≠ 98) : (i = k ∧ w = v) ∨ (i ≠ k ∧ lo[i]? = some w ∧ (i + 1 = k → am_c2 w = false)) := by
  have base : ∀ l : List am_V, k < l.length → (l.set k v)[i]? = some w → (i = k ∧ w = v) ∨ (i ≠ k ∧ l[i]? = some w) := by
    intro l hl hq
    by_cases e : i = k
    · subst e
      rw [List.getElem?_set_self hl] at hq
      exact Or.inl ⟨rfl, (Option.some.inj hq).symm⟩
    · rw [List.getElem?_set_ne (Ne.symm e)] at hq
      exact Or.inr ⟨e, hq⟩
  cases k with
  | zero =>
    have h1 : (lo.set 0 v)[i]? = some w := by rw [← am_set_eq]; exact h
    rcases base lo hk h1 with q | ⟨q1, q2⟩
    · exact Or.inl q
    · exact Or.inr ⟨q1, q2, fun e => by omega⟩
  | succ j =>
    have hj : j < lo.length := by omega
    have h1 : (Option.rec (motive := fun _ => List am_V) (am_set lo (j + 1) v) (fun w => am_if (am_c2 w) (am_set (am_set lo j am_un0) (j + 1) v) (am_set lo (j + 1) v)) (am_nth lo j))[i]? = some w := h
    rw [am_nth_eq, List.getElem?_eq_getElem hj] at h1
    have h2 : (am_if (am_c2 lo[j]) (am_set (am_set lo j am_un0) (j + 1) v) (am_set lo (j + 1) v))[i]? = some w := h1
    cases hc : am_c2 lo[j] with
    | false =>
      rw [hc] at h2
      have h3 : (lo.set (j + 1) v)[i]? = some w := by rw [← am_set_eq]; exact h2
      rcases base lo hk h3 with q | ⟨q1, q2⟩
      · exact Or.inl q
      · refine Or.inr ⟨q1, q2, fun e => ?_⟩
        have e2 : i = j := by omega
        subst e2
        rw [List.getElem?_eq_getElem hj] at q2
        cases q2
        exact hc
    | true =>
      rw [hc] at h2
      have h3 : ((lo.set j am_un0).set (j + 1) v)[i]? = some w := by rw [← am_set_eq, ← am_set_eq]; exact h2
      rcases base (lo.set j am_un0) (by rw [List.length_set]; exact hk) h3 with q | ⟨q1, q2⟩
      · exact Or.inl q
      · by_cases e : i = j
        · subst e
          rw [List.getElem?_set_self hj] at q2
          cases q2
          exact absurd rfl hn
        · rw [List.getElem?_set_ne (Ne.symm e)] at q2
          exact Or.inr ⟨q1, q2, fun e2 => by omega⟩
theorem am_Lo_st1 {Y : am_Y} {ad : List Nat} {nL k : Nat} {lo : List am_V} {ls : Array Slot} {v : am_V} {V : Value} (h : am_Lo Y ad nL lo ls) (hk : am_has lo k = true) (hv : am_V1 Y ad v V) : k < nL ∧ ∃ lv, lv_has ls nL lv ∧ ∀ ls', lv_has ls' nL ((k, V) :: lv.filter (fun q => !(q.1 == k) && !(q.1 + 1 == k && q.2.category == 2))) → am_Lo Y ad nL (am_st1 lo k v) ls' := by
  obtain ⟨h1, lv, h2, h3⟩ := h
  have hk2 := am_has_ok hk
  refine ⟨by omega, lv, h2, fun ls' h4 => ⟨by rw [am_st1_len]; exact h1, _, h4, fun i w hw hn => ?_⟩⟩
  rcases am_st1_get hk2 hw hn with ⟨e1, e2⟩ | ⟨e1, e2, e3⟩
  · subst e1
    subst e2
    exact ⟨V, hv, List.mem_cons_self⟩
  · obtain ⟨W, k1, k2⟩ := h3 i w e2 hn
    refine ⟨W, k1, List.mem_cons_of_mem _ (List.mem_filter.mpr ⟨k2, ?_⟩)⟩
    have hc := am_cat k1
    have q1 : (i == k) = false := by simpa using e1
    by_cases e : i + 1 = k
    · have e4 := e3 e
      rw [e4] at hc
      simp only [Bool.false_eq_true, if_false] at hc
      simp [q1, hc]
    · simp [q1, e]
theorem am_Lo_st2 {Y : am_Y} {ad : List Nat} {nL k : Nat} {lo : List am_V} {ls : Array Slot} {v : am_V} {V : Value} (h : am_Lo Y ad nL lo ls) (hk : am_has lo (k + 1) = true) (hv : am_V1 Y ad v V) : k + 1 < nL ∧ ∃ lv, lv_has ls nL lv ∧ ∀ ls', lv_has ls' nL ((k, V) :: lv.filter (fun q => !(q.1 == k) && (!(q.1 == k + 1) && !(q.1 + 1 == k && q.2.category == 2)))) → am_Lo Y ad nL (am_st2 lo k v) ls' := by
  obtain ⟨h1, lv, h2, h3⟩ := h
  have hk2 := am_has_ok hk
  have hlen : (am_st2 lo k v).length = lo.length := by
    unfold am_st2
    rw [am_set_eq, List.length_set, am_st1_len]
  refine ⟨by omega, lv, h2, fun ls' h4 => ⟨by rw [hlen]; exact h1, _, h4, fun i w hw hn => ?_⟩⟩
  unfold am_st2 at hw
  rw [am_set_eq] at hw
  by_cases e0 : i = k + 1
  · subst e0
    rw [List.getElem?_set_self (by rw [am_st1_len]; exact hk2)] at hw
    cases hw
    exact absurd rfl hn
  · rw [List.getElem?_set_ne (Ne.symm e0)] at hw
    rcases am_st1_get (by omega) hw hn with ⟨e1, e2⟩ | ⟨e1, e2, e3⟩
    · subst e1
      subst e2
      exact ⟨V, hv, List.mem_cons_self⟩
    · obtain ⟨W, k1, k2⟩ := h3 i w e2 hn
      refine ⟨W, k1, List.mem_cons_of_mem _ (List.mem_filter.mpr ⟨k2, ?_⟩)⟩
      have hc := am_cat k1
      have q1 : (i == k) = false := by simpa using e1
      have q2 : (i == k + 1) = false := by simpa using e0
      by_cases e : i + 1 = k
      · have e4 := e3 e
        rw [e4] at hc
        simp only [Bool.false_eq_true, if_false] at hc
        simp [q1, q2, hc]
      · simp [q1, q2, e]
-- the heap
theorem am_put_1 (h : am_H) (a : Nat) (c : am_C) : (am_put h a c).1 = h.1 := rfl
theorem am_get_put {h : am_H} {a k : Nat} {c c0 : am_C} (h0 : am_get h a = some c0) : am_get (am_put h a c) k = if k = a then some c else am_get h k := by
  unfold am_get at h0 ⊢
  obtain ⟨blk, hb, hc⟩ := am_ob_some h0
  have e1 : (am_put h a c).2 = am_set h.2 (Nat.div a 16) (am_set blk (Nat.mod a 16) c) := by
    unfold am_put
    rw [hb]
  rw [e1, am_nth_eq, am_set_eq, am_set_eq]
  rw [am_nth_eq] at hb hc
  have hl1 := (List.getElem?_eq_some_iff.mp hb).1
  have hl2 := (List.getElem?_eq_some_iff.mp hc).1
  by_cases ek : k = a
  · subst ek
    rw [if_pos rfl, List.getElem?_set_self hl1, am_ob_s, am_nth_eq, List.getElem?_set_self hl2]
  · rw [if_neg ek]
    by_cases ed : Nat.div k 16 = Nat.div a 16
    · rw [ed, List.getElem?_set_self hl1, am_nth_eq, hb, am_ob_s, am_ob_s, am_nth_eq, am_nth_eq]
      have em : Nat.mod k 16 ≠ Nat.mod a 16 := by
        intro em
        apply ek
        have q1 := Nat.div_add_mod k 16
        have q2 := Nat.div_add_mod a 16
        have e3 : k / 16 = a / 16 := ed
        have e4 : k % 16 = a % 16 := em
        omega
      rw [List.getElem?_set_ne (Ne.symm em)]
    · rw [List.getElem?_set_ne (Ne.symm ed), am_nth_eq]
theorem am_free_ok {h : am_H} (hf : am_free h = true) : ∃ c0, am_get h h.1 = some c0 ∧ c0.1 = 999 := by
  unfold am_free at hf
  cases hg : am_get h h.1 with
  | none => rw [hg] at hf; cases hf
  | some c => rw [hg] at hf; exact ⟨c, rfl, am_tag hf⟩
theorem am_get_new {h : am_H} {k : Nat} {c : am_C} (hf : am_free h = true) : am_get (am_new h c) k = if k = h.1 then some c else am_get h k := by
  obtain ⟨c0, h0, -⟩ := am_free_ok hf
  exact am_get_put h0
section AMHP
variable {Y : am_Y} {s : State} {ad0 ad : List Nat} {h : am_H} {H : Heap} {locs : List Loc}
theorem am_HP_cell (hp : am_HP Y s ad0 ad h H locs) {k : Nat} {c : am_C} (hg : am_get h k = some c) (hn : c.1 ≠ 999) : ∃ (a : Nat) (C : Cell), ad[k]? = some a ∧ H[a]? = some C ∧ am_cell Y ad C c := hp.1.2.2.2 k c hg hn
theorem am_HP_set (hp : am_HP Y s ad0 ad h H locs) {k a i : Nat} {c0 c : am_C} {C : Cell} {H' : Heap} (hg : am_get h k = some c0) (hn : c0.1 ≠ 999) (ha : ad[k]? = some a) (hC : am_cell Y ad C c) (e1 : H'[a]? = some C) (e2 : H'.size = H.size) (e3 : ∀ q : Nat, q ≠ a → H'[q]? = H[q]?) : am_HP Y s ad0 ad (am_put h k c) H' (locs ++ [⟨a, i⟩]) := by
  obtain ⟨⟨r1, r2, r3, r4⟩, f1, f2, f3, f4, f5⟩ := hp
  have ham : a ∈ ad := List.mem_of_getElem? ha
  refine ⟨⟨by rw [am_put_1]; exact r1, r2, fun x hx => ⟨(r3 x hx).1, by rw [e2]; exact (r3 x hx).2⟩, fun k' c' hk' hn' => ?_⟩, by rw [e2]; exact f1, fun q hq hq2 => ?_, fun z hz => ?_, f4, f5⟩
  · rw [am_get_put hg] at hk'
    by_cases ek : k' = k
    · subst ek
      rw [if_pos rfl] at hk'
      cases hk'
      exact ⟨a, C, ha, e1, hC⟩
    · rw [if_neg ek] at hk'
      obtain ⟨a', C', g1, g2, g3⟩ := r4 k' c' hk' hn'
      refine ⟨a', C', g1, ?_, g3⟩
      rw [e3 a' (fun e => ek ?_)]
      · exact g2
      · subst e
        obtain ⟨p1, p2⟩ := List.getElem?_eq_some_iff.mp g1
        obtain ⟨p3, p4⟩ := List.getElem?_eq_some_iff.mp ha
        exact (List.getElem_inj r2).mp (p2.trans p4.symm)
  · rw [e3 q (fun e => ?_)]
    · exact f2 q hq hq2
    · subst e
      rcases f4 q ham with h1 | h1
      · exact hq2 h1
      · omega
  · rcases List.mem_append.mp hz with h1 | h1
    · exact f3 z h1
    · have e : z = ⟨a, i⟩ := by simpa using h1
      subst e
      exact (r3 a ham).1
theorem am_HP_new (hs : Y.1.heap.size ≤ s.heap.size) (hp : am_HP Y s ad0 ad h H locs) {c : am_C} {C : Cell} {H' : Heap} (hf : am_free h = true) (hC : am_cell Y (ad ++ [H.size]) C c) (e1 : H'[H.size]? = some C) (e2 : H'.size = H.size + 1) (e3 : ∀ q : Nat, q < H.size → H'[q]? = H[q]?) : am_HP Y s ad0 (ad ++ [H.size]) (am_new h c) H' locs ∧ am_le ad (ad ++ [H.size]) ∧ (ad ++ [H.size])[h.1]? = some H.size := by
  obtain ⟨⟨r1, r2, r3, r4⟩, f1, f2, f3, f4, f5⟩ := hp
  have hle : am_le ad (ad ++ [H.size]) := fun k a hk => by
    rw [List.getElem?_append_left (List.getElem?_eq_some_iff.mp hk).1]
    exact hk
  have hlast : (ad ++ [H.size])[h.1]? = some H.size := by
    rw [← r1, List.getElem?_append_right (Nat.le_refl _), Nat.sub_self]
    rfl
  have hnot : H.size ∉ ad := fun q => by
    have := (r3 _ q).2
    omega
  refine ⟨⟨⟨by simp [am_new, r1], ?_, fun x hx => ?_, fun k' c' hk' hn' => ?_⟩, by omega, fun q hq hq2 => ?_, f3, fun x hx => ?_, fun x hx => List.mem_append_left _ (f5 x hx)⟩, hle, hlast⟩
  · rw [List.nodup_append]
    refine ⟨r2, by simp, fun x hx y hy => ?_⟩
    have e : y = H.size := by simpa using hy
    subst e
    intro e
    subst e
    exact hnot hx
  · rcases List.mem_append.mp hx with h1 | h1
    · have := r3 x h1
      omega
    · have e : x = H.size := by simpa using h1
      omega
  · rw [am_get_new hf] at hk'
    by_cases ek : k' = h.1
    · subst ek
      rw [if_pos rfl] at hk'
      cases hk'
      exact ⟨H.size, C, hlast, e1, hC⟩
    · rw [if_neg ek] at hk'
      obtain ⟨a', C', g1, g2, g3⟩ := r4 k' c' hk' hn'
      refine ⟨a', C', hle _ _ g1, ?_, am_cell_le hle g3⟩
      rw [e3 a' (Array.getElem?_eq_some_iff.mp g2).1]
      exact g2
  · rw [e3 q (by omega)]
    exact f2 q hq hq2
  · rcases List.mem_append.mp hx with h1 | h1
    · exact f4 x h1
    · have e : x = H.size := by simpa using h1
      subst e
      exact Or.inr f1
/-- a reference to a cell of the world -/
theorem am_ref (hp : am_HP Y s ad0 ad h H locs) {r : am_V} {V : Value} {c : am_C} (hv : am_V1 Y ad r V) (ht : Nat.beq r.1 10 = true) (hg : am_get h r.2.1 = some c) (hn : c.1 ≠ 999) : ∃ (a : Nat) (C : Cell), V = .ref a ∧ ad[r.2.1]? = some a ∧ H[a]? = some C ∧ am_cell Y ad C c := by
  obtain ⟨t, n, f⟩ := r
  have e := am_tag ht
  dsimp only at e
  subst e
  obtain ⟨a, k1, k2⟩ := hv
  obtain ⟨a', C, g1, g2, g3⟩ := am_HP_cell hp hg hn
  have e2 : a' = a := Option.some.inj (g1.symm.trans k1)
  subst e2
  exact ⟨a', C, k2, k1, g2, g3⟩
end AMHP
