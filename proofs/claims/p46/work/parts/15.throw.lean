/-! ===== throw new E(text) out of a method ===== -/
/-- words that hold in every frame if they hold at the law's entry -/
def am_wk (w : Cond) : Bool := goodWord w || (match w with | .castable .. => true | .declares .. => true | .methodLinkNest .. => true | _ => false)
theorem am_wk_ok {w : Cond} {s0 s : State} {args : Array Value} (h : am_wk w = true) (h0 : w.before #[] s0 = true) (hW : s0.WarmedH s.vm) : w.before args s = true := by
  unfold am_wk at h
  rw [Bool.or_eq_true] at h
  rcases h with h | h
  · exact word_at hW (good_of_word h) h0
  · split at h
    · exact va_tabs rfl rfl (va_Nw.warmC hW h0)
    · exact va_tabs rfl rfl (va_Nw.warmD hW h0)
    · exact va_tabs rfl rfl (va_Nw.warmM hW h0)
    · cases h
/-- the texts of the throws: class, place, text -/
def am_strs : List (String × Nat × String) := [("CombCylinder", 68, "the place is for a bell"), ("CombCylinder", 77, "the place is for a tooth"), ("CombCylinder", 106, "there is no such end"), ("CombCylinder", 116, "too little steel would be left"), ("CombCylinder", 131, "the lead would be out of range"), ("CombCylinder", 133, "there is no such kind"), ("CombCylinder", 142, "it has no damper"), ("CombCylinder", 155, "the sheet is full"), ("CombCylinder", 171, "the cylinder is full"), ("CombCylinder", 176, "it would come too near to another pin"), ("CombCylinder", 187, "there is no such pin"), ("CombCylinder", 326, "it is not lost, or there is no tuning"), ("CombCylinder", 337, "too many teeth are lost"), ("CombCylinder", 357, "no pin is on any sheet"), ("CombCylinder", 377, "there are no voices that are not broken"), ("CombCylinder", 396, "a number is out of range"), ("CombCylinder", 400, "there is no such place, air or tick"), ("CombCylinder", 403, "it is broken"), ("CombCylinder", 405, "nothing is there"), ("CombCylinder", 407, "there is no cylinder"), ("CombCylinder", 412, "it is cemented")]
/-- what holds at the law's entry -/
def am_Gl (l : Launch) (Y : am_Y) : Prop := l.stackTraces = false ∧ am_Kl Y ∧ am_AO Y ∧ (∀ w ∈ lw_tbl, am_wk w = true → w.before #[] Y.1 = true) ∧ vx_Zq Bundle.tN "UNASSIGNED_STACK" Bundle.steD (fun q => Y.1.heap.size ≤ q) Y.1 Y.1.heap ∧ vx_Zq Bundle.tN "SUPPRESSED_SENTINEL" Bundle.listD (fun q => Y.1.heap.size ≤ q) Y.1 Y.1.heap ∧
  (∀ q ∈ am_strs, ∃ sa, vk_R q.1 q.2.1 q.2.2 sa Y.1) ∧ (∀ (i j : Nat) (E F : String), i ≠ j → am_ex[i]? = some E → am_ex[j]? = some F → va_Nc E F Y.1)
def am_rte : List String := ["java/lang/RuntimeException", "java/lang/Exception"]
def am_tws (own : String) (ic : Nat) (E : String) : List Cond := if E = "java/util/NoSuchElementException" then vn_at own ic else vx_atS own ic E am_rte
/-- a throw's words are the tables' -/
def am_tw (own : String) (ik is ic : Nat) (E text : String) : Bool := decide ((own, is, text) ∈ am_strs) && (decide (Cond.classLink own ik E ∈ lw_tbl) && decide (Cond.initialized E ∈ lw_tbl)) && (am_tws own ic E).all (fun w => decide (w ∈ lw_tbl) && am_wk w && vx_ot w) && Bundle.fit E && am_rte.all Bundle.fit
section AMTHR
variable {p : Program} {l : Launch} {e : Env} {R : Room} {s : State} {m : MethodId} {args : Array Value} {below : List Frame} {meth : Method} {c : Code} {Q : State → Prop} {Y : am_Y} {A : am_A} {ad0 : List Nat} {nL c0 q0 : Nat} {code : ByteArray} {rt : Option FieldType}
variable {sub : Nat → am_G} {go : am_G} {jmp : Nat → am_G} {pc : Nat} {own : String}
theorem am_sThrow (hG : am_Gl l Y) (hF : am_Fm p s m args meth c Y own code nL rt) (hfr : 20 ≤ R.frames) (hlr : 400 ≤ R.locals) (htab : c.exceptionTable.toList = []) {ei ik is ic : Nat} {E text : String} (hE : am_ex[ei]? = some E) (hw : am_tw own ik is ic E text = true) (d0 : decode code pc = .ok (.new ik, 3)) (d3 : decode code (pc + 3) = .ok (.dup, 1))
    (d4 : (decode code (pc + 4) = .ok (.ldc is, 2) ∧ decode code (pc + 6) = .ok (.invokespecial ic, 3) ∧ decode code (pc + 9) = .ok (.athrow, 1)) ∨ (decode code (pc + 4) = .ok (.ldc_w is, 3) ∧ decode code (pc + 7) = .ok (.invokespecial ic, 3) ∧ decode code (pc + 10) = .ok (.athrow, 1))) : am_Snd p l e R s m args below meth c Q Y ad0 nL c0 q0 code rt (am_oThrow pc ei A sub go jmp) pc := by
  intro lo stk h nc ns o ho
  obtain ⟨hc, ho1⟩ := am_if_some ho
  cases ho1
  refine ⟨Nat.le_succ _, Nat.le_add_right _ _, ⟨fun q => (by cases q), fun q => (by cases q), fun _ => htab⟩, fun ad H locs ls S hp hlo hs r1 r2 hkt => ?_⟩
  obtain ⟨Qc, XC, mc, ms, rfl, b1, b2, b3⟩ := ((hkt ad H locs ls S (am_le_rf ad) hp hlo hs).2 rfl E hE).2
  have hcat := am_St_cat hs
  have hsh := am_sh_ok hc
  obtain ⟨hl, -, -, hall, hU, hN, hstr, -⟩ := hG
  obtain ⟨hx, hb, hml, hown, hts, hlocks, -, hW, hold, hsz⟩ := hF
  simp only [am_tw, Bool.and_eq_true, decide_eq_true_eq] at hw
  obtain ⟨⟨⟨⟨w1, w2, w3⟩, w4⟩, w5⟩, w6⟩ := hw
  have w4 := List.all_eq_true.mp w4
  have w6 := List.all_eq_true.mp w6
  obtain ⟨sa, hsa⟩ := hstr _ w1
  have hk : (Cond.classLink own ik E).before args s = true := am_wk_ok rfl (hall _ w2 rfl) hW
  have hini : (Cond.initialized E).before args s = true := am_wk_ok rfl (hall _ w3 rfl) hW
  have hat : ∀ w ∈ am_tws own ic E, w.before args s = true := fun w hw => by
    have q := w4 w hw
    simp only [Bool.and_eq_true, decide_eq_true_eq] at q
    exact am_wk_ok q.1.2 (hall _ q.1.1 q.1.2) hW
  have hgood : ∀ w ∈ Cond.classLink own ik E :: Cond.initialized E :: am_tws own ic E, vx_ot w = true := fun w hw => by
    rcases List.mem_cons.mp hw with rfl | hw
    · rfl
    · rcases List.mem_cons.mp hw with rfl | hw
      · rfl
      · have q := w4 w hw
        simp only [Bool.and_eq_true, decide_eq_true_eq] at q
        exact q.2
  have hZ : ∀ {C n d : String}, vx_Zq C n d (fun q => Y.1.heap.size ≤ q) Y.1 Y.1.heap → vx_Zq C n d (fun q => Y.1.heap.size ≤ q) s s.heap := fun h => (h.moved hW.alike).kept (fun a ha _ => hold a ha)
  have hS : va_S (fun q => Y.1.heap.size ≤ q) s.heap H locs := ⟨hp.2.1, fun q h1 h2 => hp.2.2.1 q h1 (fun h3 => h2 (hp.1.2.2.1 q (hp.2.2.2.2.2 q h3)).1), hp.2.2.2.1⟩
  have hout : ∀ pc', ∀ x ∈ c.exceptionTable.toList, covers x pc' = false := fun pc' x hx => by rw [htab] at hx; cases hx
  have hsize := (am_Lo_size hlo).trans hml.symm
  by_cases hNS : E = "java/util/NoSuchElementException"
  · subst hNS
    unfold am_tws at hat hgood
    rw [if_pos rfl] at hat hgood
    rcases d4 with ⟨d4, d6, d9⟩ | ⟨d4, d6, d9⟩
    · exact vn_throwS hx hb hl hown hk hini (vk_R.warm hW hsa) hat hgood (hZ hU) (hZ hN) hS hsize d0 d3 d4 d6 d9 (hout _) (by omega) (by omega) (by omega) (by omega) hlocks (fun t h1 h2 h3 => b3 t h1 h2 h3) hp.2.2.2.1 (by omega) (by omega)
    · exact vn_throwSW hx hb hl hown hk hini (vk_R.warm hW hsa) hat hgood (hZ hU) (hZ hN) hS hsize d0 d3 d4 d6 d9 (hout _) (by omega) (by omega) (by omega) (by omega) hlocks (fun t h1 h2 h3 => b3 t h1 h2 h3) hp.2.2.2.1 (by omega) (by omega)
  unfold am_tws at hat hgood
  rw [if_neg hNS] at hat hgood
  rcases d4 with ⟨d4, d6, d9⟩ | ⟨d4, d6, d9⟩
  · exact vx_throwS hx hb hl hown w5 w6 hk hini (vk_R.warm hW hsa) hat hgood (hZ hU) (hZ hN) hS hsize d0 d3 d4 d6 d9 (hout _) (by show 2 + 3 < _; omega) (by show _ + (13 * (2 + 1) + 43) ≤ _; omega) (by omega) (by omega) hlocks (fun t h1 h2 h3 => b3 t h1 h2 h3) hp.2.2.2.1 (by omega) (by omega)
  · exact vx_throwSW hx hb hl hown w5 w6 hk hini (vk_R.warm hW hsa) hat hgood (hZ hU) (hZ hN) hS hsize d0 d3 d4 d6 d9 (hout _) (by show 2 + 3 < _; omega) (by show _ + (13 * (2 + 1) + 43) ≤ _; omega) (by omega) (by omega) hlocks (fun t h1 h2 h3 => b3 t h1 h2 h3) hp.2.2.2.1 (by omega) (by omega)
end AMTHR
