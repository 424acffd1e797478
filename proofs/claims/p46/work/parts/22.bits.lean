/-! ===== the bits of a float, of a double ===== -/
section AMBITS
variable {p : Program} {l : Launch} {e : Env} {R : Room} {s : State} {m : MethodId} {args : Array Value} {below : List Frame} {meth : Method} {c : Code} {Q : State → Prop} {Y : am_Y} {A : am_A} {ad0 : List Nat} {nL c0 q0 : Nat} {code : ByteArray} {rt : Option FieldType}
variable {sub : Nat → am_G} {go : am_G} {jmp : Nat → am_G} {pc : Nat} {own : String}
theorem am_rF2I (hF : am_Fm p s m args meth c Y own code nL rt) (hfr : 20 ≤ R.frames) (hlr : 400 ≤ R.locals) {idx : Nat} (h1 : Cond.methodLink own idx ⟨"java/lang/Float", "floatToRawIntBits", "(F)I"⟩ ∈ am_ws) (h2 : Cond.static ⟨"java/lang/Float", "floatToRawIntBits", "(F)I"⟩ ∈ am_ws) (h3 : Cond.initialized "java/lang/Float" ∈ am_ws) (h4 : Cond.native ⟨"java/lang/Float", "floatToRawIntBits", "(F)I"⟩ ∈ am_ws) (hd : decode code pc = .ok (.invokestatic idx, 3)) (hgo : am_Snd p l e R s m args below meth c Q Y ad0 nL c0 q0 code rt go (pc + 3)) : am_Snd p l e R s m args below meth c Q Y ad0 nL c0 q0 code rt (am_oF2I A sub go jmp) pc := by
  intro lo stk h nc ns o ho
  obtain ⟨x, rest, rfl, ho1⟩ := am_lc_some ho
  obtain ⟨hc, ho2⟩ := am_if_some ho1
  rw [am_and_t] at hc
  obtain ⟨g1, g2, g3, g4⟩ := hgo _ _ _ _ _ o ho2
  refine ⟨g1, g2, g3, fun ad H locs ls S hp hlo hs r1 r2 hkt => ?_⟩
  obtain ⟨V, S', rfl, k1, k2⟩ := am_St_cons hs
  have e := am_tg2 hc.1 k1
  subst e
  have hcat := am_St_cat k2
  have hsh := am_sh_ok hc.2
  obtain ⟨hx, hb, hml, hown, hts, -⟩ := hF
  exact vn_f2i hx hb (by rw [hml, am_Lo_size hlo]) hown (hts _ h1) (hts _ h4) (hts _ h2) (hts _ h3) (by omega) (by omega) hd (g4 ad H locs ls (_ :: S') hp hlo ⟨am_ofI_ok _ _ _ _, k2⟩ r1 r2 hkt)
theorem am_rD2L (hF : am_Fm p s m args meth c Y own code nL rt) (hfr : 20 ≤ R.frames) (hlr : 400 ≤ R.locals) {idx : Nat} (h1 : Cond.methodLink own idx ⟨"java/lang/Double", "doubleToRawLongBits", "(D)J"⟩ ∈ am_ws) (h2 : Cond.static ⟨"java/lang/Double", "doubleToRawLongBits", "(D)J"⟩ ∈ am_ws) (h3 : Cond.initialized "java/lang/Double" ∈ am_ws) (h4 : Cond.native ⟨"java/lang/Double", "doubleToRawLongBits", "(D)J"⟩ ∈ am_ws) (hd : decode code pc = .ok (.invokestatic idx, 3)) (hgo : am_Snd p l e R s m args below meth c Q Y ad0 nL c0 q0 code rt go (pc + 3)) : am_Snd p l e R s m args below meth c Q Y ad0 nL c0 q0 code rt (am_oD2L A sub go jmp) pc := by
  intro lo stk h nc ns o ho
  obtain ⟨x, rest, rfl, ho1⟩ := am_lc_some ho
  obtain ⟨hc, ho2⟩ := am_if_some ho1
  have hsh := am_sh_ok hc
  have key : ∀ (v : am_V) (b : UInt64), go lo (v :: rest) h nc ns = some o → (∀ (ad : List Nat) (V : Value), am_V1 Y ad x V → V = .double b ∧ am_V1 Y ad v (.long b.toInt64)) → nc ≤ o.2.2.2.2.2.2.1 ∧ ns ≤ o.2.2.2.2.2.2.2 ∧ am_Ret code rt c o ∧ ∀ (ad : List Nat) (H : Heap) (locs : List Loc) (ls : Array Slot) (S : List Value), am_HP Y s ad0 ad h H locs → am_Lo Y ad nL lo ls → am_St Y ad (x :: rest) S → c0 + o.2.2.2.2.2.2.1 ≤ R.cells → q0 + o.2.2.2.2.2.2.2 ≤ R.slots → am_Kont p l e R s m args below meth c Q Y ad0 nL c0 q0 ad o → W p l e R s m args below meth c H locs (c0 + nc) (q0 + ns) Q (F0 m pc ls S) := by
    intro v b hgo' hv
    obtain ⟨g1, g2, g3, g4⟩ := hgo _ _ _ _ _ o hgo'
    refine ⟨g1, g2, g3, fun ad H locs ls S hp hlo hs r1 r2 hkt => ?_⟩
    obtain ⟨V, S', rfl, k1, k2⟩ := am_St_cons hs
    obtain ⟨rfl, e2⟩ := hv ad V k1
    have hcat := am_St_cat k2
    obtain ⟨hx, hb, hml, hown, hts, -⟩ := hF
    exact vn_d2l hx hb (by rw [hml, am_Lo_size hlo]) hown (hts _ h1) (hts _ h4) (hts _ h2) (hts _ h3) (by omega) (by omega) hd (g4 ad H locs ls (_ :: S') hp hlo ⟨e2, k2⟩ r1 r2 hkt)
  cases h3 : Nat.beq x.1 3 with
  | true =>
    rw [h3] at ho2
    exact key _ (UInt64.ofNat x.2.1) ho2 fun ad V hV => ⟨am_tg3 h3 hV, am_ofL_ok _ _ _ _⟩
  | false =>
    rw [h3] at ho2
    obtain ⟨h9, ho3⟩ := am_if_some (show am_if (Nat.beq x.1 9) _ none = some o from ho2)
    obtain ⟨t, n, f⟩ := x
    have e := am_tag h9
    dsimp only at e
    subst e
    exact key _ (am_dq Y.2.2.1 n f) ho3 fun ad V hV => ⟨hV, rfl⟩
end AMBITS
