/-! ===== where an exception is caught ===== -/
theorem am_hnd_split {hc : List (Nat × Nat)} {ei pc t : Nat} : ∀ {tbl : List (Nat × Nat × Nat × Nat)}, am_hnd hc ei pc tbl = some t → ∃ pre x suf, tbl = pre ++ x :: suf ∧ x.2.2.1 = t ∧ (x.1 ≤ pc ∧ pc < x.2.1) ∧ (x.2.2.2, ei) ∈ hc ∧ ∀ z ∈ pre, ¬ (z.1 ≤ pc ∧ pc < z.2.1) ∨ (z.2.2.2, ei) ∉ hc
  | [], h => by cases h
  | x :: xs, h => by
    unfold am_hnd at h
    have hmem : ∀ z : Nat × Nat × Nat × Nat, hc.any (fun q => Nat.beq q.1 z.2.2.2 && Nat.beq q.2 ei) = true ↔ (z.2.2.2, ei) ∈ hc := fun z => by
      rw [List.any_eq_true]
      constructor
      · rintro ⟨q, h1, h2⟩
        rw [Bool.and_eq_true] at h2
        have e1 := Nat.eq_of_beq_eq_true h2.1
        have e2 := Nat.eq_of_beq_eq_true h2.2
        rw [← e1, ← e2]
        exact h1
      · intro h1
        exact ⟨_, h1, by simp⟩
    cases hb : (Nat.ble x.1 pc && Nat.blt pc x.2.1 && hc.any (fun q => Nat.beq q.1 x.2.2.2 && Nat.beq q.2 ei)) with
    | true =>
      rw [hb] at h
      rw [Bool.and_eq_true, Bool.and_eq_true] at hb
      exact ⟨[], x, xs, rfl, Option.some.inj h, ⟨Nat.ble_eq.mp hb.1.1, Nat.ble_eq.mp hb.1.2⟩, (hmem x).mp hb.2, fun z hz => by cases hz⟩
    | false =>
      rw [hb] at h
      obtain ⟨pre, y, suf, h1, h2, h3, h4, h5⟩ := am_hnd_split (tbl := xs) h
      refine ⟨x :: pre, y, suf, by rw [h1]; rfl, h2, h3, h4, fun z hz => ?_⟩
      rcases List.mem_cons.mp hz with rfl | hz
      · by_cases hq : z.1 ≤ pc ∧ pc < z.2.1
        · refine Or.inr fun hm => ?_
          rw [show Nat.ble z.1 pc = true from Nat.ble_eq.mpr hq.1, show Nat.blt pc z.2.1 = true from Nat.ble_eq.mpr hq.2, (hmem z).mpr hm] at hb
          cases hb
        · exact Or.inl hq
      · exact h5 z hz
/-- the classes of the tables, and their words -/
theorem am_hc_ok : am_hc.all (fun q => match am_ex[q.2]? with
    | some E => decide (Cond.classLink "CombCylinderLaw" q.1 E ∈ lw_tbl) && am_wk (Cond.classLink "CombCylinderLaw" q.1 E) && decide (Cond.castable E E ∈ lw_tbl) && am_wk (Cond.castable E E)
    | none => false) = true := by decide +kernel
theorem am_hc_at {ct j : Nat} (h : (ct, j) ∈ am_hc) : ∃ E, am_ex[j]? = some E ∧ (Cond.classLink "CombCylinderLaw" ct E ∈ lw_tbl ∧ am_wk (Cond.classLink "CombCylinderLaw" ct E) = true) ∧ (Cond.castable E E ∈ lw_tbl ∧ am_wk (Cond.castable E E) = true) := by
  have h1 := List.all_eq_true.mp am_hc_ok _ h
  dsimp only at h1
  split at h1
  · rename_i E hE
    simp only [Bool.and_eq_true, decide_eq_true_eq] at h1
    exact ⟨E, hE, ⟨h1.1.1.1, h1.1.1.2⟩, ⟨h1.1.2, h1.2⟩⟩
  · cases h1
/-- every row of a method's table is of a class of ours -/
def am_tck (M : am_M) : Bool := M.2.2.2.2.1.all (fun z => decide (M.1.cls = "CombCylinderLaw") && (!(Nat.beq z.2.2.2 0) && am_hc.any (fun q => Nat.beq q.1 z.2.2.2)))
section AMCATCH
variable {p : Program} {l : Launch} {e : Env} {R : Room} {s : State} {m : MethodId} {args : Array Value} {below : List Frame} {meth : Method} {c : Code} {Q : State → Prop} {Y : am_Y} {A : am_A} {ad0 : List Nat} {nL c0 q0 : Nat} {code : ByteArray} {rt : Option FieldType}
theorem am_catch (hG : am_Gl l Y) {M : am_M} (hF : am_Fm p s m args meth c Y M.1.cls code nL rt) (htab : c.exceptionTable.toList = tableOf M.2.2.2.2.1) (hck : am_tck M = true) {pc ei pt : Nat} (h : am_hnd am_hc ei pc M.2.2.2.2.1 = some pt) : ∃ E, am_ex[ei]? = some E ∧ ∀ (H : Heap) (locs : List Loc) (k j : Nat) (ls : Array Slot) (S : List Value) (q : Addr) (ce : Cell), H[q]? = some ce → ce.vm = .none → s.vm.findClass E = some ce.cls → W p l e R s m args below meth c H locs k j Q (F0 m pt ls [.ref q]) → vx_W p l e R s m args below meth c H locs k j Q (F0 m pc ls S) q := by
  obtain ⟨pre, x, suf, h1, h2, h3, h4, h5⟩ := am_hnd_split h
  obtain ⟨E, hE, hl, hc⟩ := am_hc_at h4
  obtain ⟨-, -, -, hall, -, -, -, hnc⟩ := hG
  obtain ⟨hx, hb, hml, hown, hts, -, -, hW, -⟩ := hF
  have hck2 := fun z hz => List.all_eq_true.mp hck z hz
  have hcx := hck2 x (by rw [h1]; simp)
  simp only [Bool.and_eq_true, decide_eq_true_eq] at hcx
  have wk : ∀ w, w ∈ lw_tbl ∧ am_wk w = true → w.before args s = true := fun w q => am_wk_ok q.2 (hall _ q.1 q.2) hW
  have hz0 : ∀ z : Nat × Nat × Nat × Nat, (!(Nat.beq z.2.2.2 0)) = true → z.2.2.2 ≠ 0 := fun z q e => by
    rw [e] at q
    cases q
  refine ⟨E, hE, fun H locs k j ls S q ce hq hv hcl kk => ?_⟩
  rw [hcx.1] at hown
  rw [h1] at htab
  refine vx_catch (name := E) (E := E) hown (tableOf pre) ⟨x.1, x.2.1, x.2.2.1, x.2.2.2⟩ (tableOf suf) (by rw [htab]; simp [tableOf]) ?_ (by simp [covers, h3.1, h3.2]) (hz0 x hcx.2.1) (wk _ hl) (wk _ hc) hq hv hcl (by rw [show (⟨x.1, x.2.1, x.2.2.1, x.2.2.2⟩ : ExceptionTableEntry).handlerPc = pt from h2]; exact kk)
  intro z hz
  obtain ⟨z0, hz1, rfl⟩ := List.mem_map.mp hz
  rcases h5 z0 hz1 with h6 | h6
  · refine Or.inl ?_
    simp only [covers, Bool.and_eq_false_iff, decide_eq_false_iff_not]
    by_cases h7 : z0.1 ≤ pc
    · exact Or.inr fun h8 => h6 ⟨h7, h8⟩
    · exact Or.inl h7
  · have hcz := hck2 z0 (by rw [h1]; simp [hz1])
    simp only [Bool.and_eq_true, decide_eq_true_eq, List.any_eq_true] at hcz
    obtain ⟨-, hn0, q9, hq9, hq8⟩ := hcz
    have e9 := Nat.eq_of_beq_eq_true hq8
    obtain ⟨F, hF2, hl2, -⟩ := am_hc_at (ct := z0.2.2.2) (j := q9.2) (by rw [← e9]; exact hq9)
    have hne : ei ≠ q9.2 := fun e => h6 (by rw [← e9, e]; exact hq9)
    exact Or.inr ⟨hz0 z0 hn0, F, wk _ hl2, va_Nc.moved hW.alike (hnc ei q9.2 E F hne hE hF2)⟩
end AMCATCH
