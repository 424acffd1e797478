/-! ===== what holds at the law's entry ===== -/
theorem am_gInst : am_cl.all (fun q => decide (Cond.instantiable q.1 q.2.2 ∈ lw_tbl)) = true := by decide +kernel
theorem am_gStr : am_strs.all (fun q => decide (q.1 = RX6) && decide (Cond.stringRef q.1 q.2.1 q.2.2 ∈ lw_tbl)) = true := by decide +kernel
theorem am_gNc : (List.range 6).all (fun i => (List.range 6).all (fun j => Nat.beq i j || (match am_ex[i]?, am_ex[j]? with
    | some E, some F => decide (Cond.not (.castable E F) ∈ flatC (Jvm.Cond.and given_1 narrow_1))
    | _, _ => false))) = true := by decide +kernel
theorem am_gThr : Cond.initialized "java/lang/Throwable" ∈ lw_tbl := by decide +kernel
theorem am_gU : Cond.isRef (.static Bundle.tN "UNASSIGNED_STACK" Bundle.steD) ∈ flatC (Jvm.Cond.and given_1 narrow_1) := by decide +kernel
theorem am_gN : Cond.isRef (.static Bundle.tN "SUPPRESSED_SENTINEL" Bundle.listD) ∈ flatC (Jvm.Cond.and given_1 narrow_1) := by decide +kernel
theorem am_exLt {i : Nat} {E : String} (h : am_ex[i]? = some E) : i < 6 := (List.getElem?_eq_some_iff.mp h).1
theorem am_gKl {s : State} {args : Array Value} (hts : ∀ w ∈ lw_tbl, w.before args s = true) : ∃ D : va_G, ∀ (k : Nat) (q : vw_C), am_cl[k]? = some q → u_Kn s q.1 q.2.1 q.2.2 (D.1 k) (D.2 k) := by
  have h1 : ∀ k : Nat, ∃ r : ClassId × (Nat → Nat), ∀ q : vw_C, am_cl[k]? = some q → u_Kn s q.1 q.2.1 q.2.2 r.1 r.2 := by
    intro k
    cases hq : am_cl[k]? with
    | none => exact ⟨(0, fun _ => 0), fun q h => by cases h⟩
    | some q =>
      have hm := List.all_eq_true.mp am_gInst q (List.mem_of_getElem? hq)
      obtain ⟨cC, iS, h⟩ := u_known (ws := am_ws) (fun w hw => hts w (List.mem_filter.mp hw).1) (am_lay_in k q hq) (hts _ (of_decide_eq_true hm))
      exact ⟨(cC, iS), fun q' h' => by cases h'; exact h⟩
  obtain ⟨f, hf⟩ := Classical.axiomOfChoice h1
  exact ⟨(fun k => (f k).1, fun k => (f k).2), hf⟩
theorem am_glob {l : Launch} (hflags : l.flags = flags0) {s : State} {args : Array Value} (hW : s.WarmedH s.vm) (hts : ∀ w ∈ lw_tbl, w.before args s = true) (hgv : (Jvm.Cond.and given_1 narrow_1).before args s = true) : ∃ D : va_G, ∀ (X : List Int) (b : Nat), am_Gl l (s, D, X, b) := by
  obtain ⟨D, hD⟩ := am_gKl hts
  have hs := flat_of_before _ hgv
  refine ⟨D, fun X b => ⟨?_, hD, ⟨va_AO.of (hts _ (am_atw_in (i := 56) rfl)), va_AO.of (hts _ (am_atw_in (i := 58) rfl)), va_AO.of (hts _ (am_atw_in (i := 66) rfl)), (hts _ (am_atw_in (i := 161) rfl) : (Cond.arrayOver (.array .int)).before args s = true)⟩, fun w hw hk => ?_, ?_, ?_, fun q hq => ?_, fun i j E F hij hE hF => ?_⟩⟩
  · unfold Launch.stackTraces
    rw [hflags]
    decide
  · have h0 := hts w hw
    unfold am_wk at hk
    rw [Bool.or_eq_true] at hk
    rcases hk with h | h
    · exact word_at hW (good_of_word h) h0
    · split at h
      · exact h0
      · exact h0
      · exact h0
      · cases h
  · exact vx_Zqof (hts _ (am_atw_in (i := 408) rfl)) (hts _ am_gThr) (hs _ am_gU) (fun a h1 h2 => absurd h1 (Nat.not_lt.mpr h2))
  · exact vx_Zqof (hts _ (am_atw_in (i := 410) rfl)) (hts _ am_gThr) (hs _ am_gN) (fun a h1 h2 => absurd h1 (Nat.not_lt.mpr h2))
  · have h1 := List.all_eq_true.mp am_gStr q hq
    rw [Bool.and_eq_true, decide_eq_true_eq, decide_eq_true_eq] at h1
    have h2 := hts _ h1.2
    have h3 : s.vm.findClass RX6 = some (D.1 6) := (hD 6 _ rfl).2.1
    obtain ⟨k, cf, i, a, -, -, -, -, -, h4⟩ := Cond.stringRef_spec (args := #[]) (first := s) (o := none) (idx := []) (by rw [h1.1]; exact h3) h2
    exact ⟨a, vk_R.of h2 h4⟩
  · have h1 := List.all_eq_true.mp (List.all_eq_true.mp am_gNc i (List.mem_range.mpr (am_exLt hE))) j (List.mem_range.mpr (am_exLt hF))
    rw [Bool.or_eq_true] at h1
    rcases h1 with h1 | h1
    · exact absurd (Nat.eq_of_beq_eq_true h1) hij
    · rw [hE, hF] at h1
      exact va_Nc.of (hs _ (of_decide_eq_true h1))
