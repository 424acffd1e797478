/-! ===== Object(), Math, bits, returns, throws ===== -/
/-- stack words of four values at most -/
theorem am_St_cat {Y : am_Y} {ad : List Nat} : ∀ {vs : List am_V} {Vs : List Value}, am_St Y ad vs Vs → (Vs.map fun v => v.category).sum ≤ 2 * vs.length
  | [], [], _ => Nat.le_refl _
  | v :: vs, V :: Vs, h => by
    have h1 := am_cat h.1
    have h2 := am_St_cat h.2
    simp only [List.map_cons, List.sum_cons, List.length_cons]
    split at h1 <;> omega
  | [], _ :: _, h => h.elim
  | _ :: _, [], h => h.elim
/-- the room of a frame at depth d -/
def am_rm (d k n : Nat) : Room := { frames := d + 20, cells := k, slots := n, locals := 100 * d + 400 }
section AMEND
variable {p : Program} {l : Launch} {e : Env} {R : Room} {s : State} {m : MethodId} {args : Array Value} {below : List Frame} {meth : Method} {c : Code} {Q : State → Prop} {Y : am_Y} {A : am_A} {ad0 : List Nat} {nL c0 q0 : Nat} {code : ByteArray} {rt : Option FieldType}
variable {sub : Nat → am_G} {go : am_G} {jmp : Nat → am_G} {pc : Nat} {own : String}
theorem am_Lo_size {ad : List Nat} {lo : List am_V} {ls : Array Slot} (h : am_Lo Y ad nL lo ls) : ls.size = nL := by
  obtain ⟨-, lv, h2, -⟩ := h
  exact h2.1
theorem am_sObj (hF : am_Fm p s m args meth c Y own code nL rt) (hfr : 20 ≤ R.frames) (hlr : 400 ≤ R.locals) {idx : Nat} (h1 : Cond.methodLink own idx Lib.objectInit ∈ am_ws) (h2 : Cond.instanceMethod Lib.objectInit ∈ am_ws) (h3 : Cond.code Lib.objectInit ⟨#[0xb1]⟩ 1 none ∈ am_ws) (hd : decode code pc = .ok (.invokespecial idx, 3)) (hgo : am_Snd p l e R s m args below meth c Q Y ad0 nL c0 q0 code rt go (pc + 3)) : am_Snd p l e R s m args below meth c Q Y ad0 nL c0 q0 code rt (am_oObj A sub go jmp) pc := by
  intro lo stk h nc ns o ho
  obtain ⟨r, rest, rfl, ho1⟩ := am_lc_some ho
  obtain ⟨hc, ho2⟩ := am_if_some ho1
  rw [am_and_t] at hc
  obtain ⟨g1, g2, g3, g4⟩ := hgo lo rest h nc ns o ho2
  refine ⟨g1, g2, g3, fun ad H locs ls S hp hlo hs r1 r2 hkt => ?_⟩
  obtain ⟨V, S', rfl, k1, k2⟩ := am_St_cons hs
  obtain ⟨a, rfl⟩ := am_tR_ok k1 (am_or_t.mpr (Or.inl hc.1))
  have hcat := am_St_cat k2
  have hsh := am_sh_ok hc.2
  obtain ⟨hx, hb, hml, hown, hts, -⟩ := hF
  refine W.objInit hx hb hown (hts _ h1) (hts _ h2) (hts _ h3) rfl (by rw [hml]; exact am_Lo_size hlo) rfl hd (by omega) (by show 2 * 0 + _ + 12 ≤ _; omega) ?_
  exact g4 ad H locs ls S' hp hlo k2 r1 r2 hkt
theorem am_sAbs (hA : am_kn A Y.2.2.1) (hF : am_Fm p s m args meth c Y own code nL rt) (hfr : 20 ≤ R.frames) (hlr : 400 ≤ R.locals) {idx : Nat} (h1 : Cond.methodLink own idx Lib.Math.abs.name ∈ am_ws) (h2 : Cond.static Lib.Math.abs.name ∈ am_ws) (h3 : Cond.initialized "java/lang/Math" ∈ am_ws) (h4 : Cond.code Lib.Math.abs.name Lib.Math.abs.code 1 (some .int) ∈ am_ws) (hd : decode code pc = .ok (.invokestatic idx, 3)) (hgo : am_Snd p l e R s m args below meth c Q Y ad0 nL c0 q0 code rt go (pc + 3)) : am_Snd p l e R s m args below meth c Q Y ad0 nL c0 q0 code rt (am_oAbs A sub go jmp) pc := by
  intro lo stk h nc ns o ho
  obtain ⟨x, rest, rfl, ho1⟩ := am_lc_some ho
  obtain ⟨hc, ho2⟩ := am_if_some ho1
  obtain ⟨r, hr, ho3⟩ := am_ob_some ho2
  obtain ⟨g1, g2, g3, g4⟩ := hgo lo (r :: rest) h nc ns o ho3
  refine ⟨g1, g2, g3, fun ad H locs ls S hp hlo hs r1 r2 hkt => ?_⟩
  obtain ⟨V, S', rfl, k1, k2⟩ := am_St_cons hs
  obtain ⟨z, rfl, e2⟩ := am_R_abs (b := Y.2.2.2) (ad := ad) hA k1 hr
  have hcat := am_St_cat k2
  have hsh := am_sh_ok hc
  obtain ⟨hx, hb, hml, hown, hts, -⟩ := hF
  exact va_mabs hx hb (by rw [hml, am_Lo_size hlo]) hown (hts _ h1) (hts _ h2) (hts _ h3) (hts _ h4) (by omega) (by omega) (by omega) (by omega) hd (g4 ad H locs ls (_ :: S') hp hlo ⟨e2, k2⟩ r1 r2 hkt)
theorem am_ofI_ok (X : List Int) (b : Nat) (ad : List Nat) (x : Int32) : am_R X b ad (am_ofI x) (.int x) := by
  show Value.int x = .int (Int32.ofNat x.toBitVec.toNat)
  congr 1
  simp
theorem am_ofL_ok (X : List Int) (b : Nat) (ad : List Nat) (x : Int64) : am_R X b ad (am_ofL x) (.long x) := by
  show Value.long x = .long (Int64.ofNat x.toBitVec.toNat)
  congr 1
  simp
theorem am_ofF_ok (X : List Int) (b : Nat) (ad : List Nat) (x : UInt32) : am_R X b ad (am_ofF x) (.float x) := by
  show Value.float x = .float (UInt32.ofNat x.toNat)
  congr 1
  simp
theorem am_ofD_ok (X : List Int) (b : Nat) (ad : List Nat) (x : UInt64) : am_R X b ad (am_ofD x) (.double x) := by
  show Value.double x = .double (UInt64.ofNat x.toNat)
  congr 1
  simp
theorem am_L2 {ad : List Nat} {u v : am_V} {U V : Value} (hu : Nat.beq u.1 1 = true) (hv : Nat.beq v.1 1 = true) (ku : am_V1 Y ad u U) (kv : am_V1 Y ad v V) : U = .long (Int64.ofNat u.2.1) ∧ V = .long (Int64.ofNat v.2.1) := by
  obtain ⟨t, n, f⟩ := u
  obtain ⟨t', n', f'⟩ := v
  have e1 := am_tag hu
  have e2 := am_tag hv
  dsimp only at e1 e2
  subst e1
  subst e2
  exact ⟨ku, kv⟩
theorem am_sBinS {f : am_V → am_V → Option am_V} (hgo : am_Snd p l e R s m args below meth c Q Y ad0 nL c0 q0 code rt go (pc + 3)) (row : ∀ (ad : List Nat) (u v r : am_V) (U V : Value), am_V1 Y ad u U → am_V1 Y ad v V → f u v = some r → ∃ r' : Value, am_V1 Y ad r r' ∧ ∀ (H : Heap) (locs : List Loc) (k n : Nat) (ls : Array Slot) (S : List Value), ls.size = nL → (S.map fun v => v.category).sum ≤ 8 → k ≤ R.cells → n ≤ R.slots → W p l e R s m args below meth c H locs k n Q (F0 m (pc + 3) ls (r' :: S)) → W p l e R s m args below meth c H locs k n Q (F0 m pc ls (V :: U :: S))) : am_Snd p l e R s m args below meth c Q Y ad0 nL c0 q0 code rt (am_oBinS f A sub go jmp) pc := by
  intro lo stk h nc ns o ho
  obtain ⟨y, st1, rfl, ho1⟩ := am_lc_some ho
  obtain ⟨x, rest, rfl, ho2⟩ := am_lc_some ho1
  obtain ⟨hc, ho3⟩ := am_if_some ho2
  obtain ⟨y', st1', e1, ho4⟩ := am_lc_some ho3
  obtain ⟨x', rest', e2, ho5⟩ := am_lc_some ho4
  cases e1
  cases e2
  obtain ⟨r, hr, ho6⟩ := am_ob_some ho5
  obtain ⟨g1, g2, g3, g4⟩ := hgo lo (r :: rest) h nc ns o ho6
  refine ⟨g1, g2, g3, fun ad H locs ls S hp hlo hs r1 r2 hkt => ?_⟩
  obtain ⟨V, S1, rfl, k1, k2⟩ := am_St_cons hs
  obtain ⟨U, S', rfl, k3, k4⟩ := am_St_cons k2
  obtain ⟨r', e1, e2⟩ := row ad x y r U V k3 k1 hr
  have hcat := am_St_cat k4
  have hsh := am_sh_ok hc
  exact e2 H locs _ _ ls S' (am_Lo_size hlo) (by omega) (by omega) (by omega) (g4 ad H locs ls (r' :: S') hp hlo ⟨e1, k4⟩ r1 r2 hkt)
theorem am_sMin (hF : am_Fm p s m args meth c Y own code nL rt) (hfr : 20 ≤ R.frames) (hlr : 400 ≤ R.locals) {idx : Nat} (h1 : Cond.methodLink own idx Lib.Math.min.name ∈ am_ws) (h2 : Cond.static Lib.Math.min.name ∈ am_ws) (h3 : Cond.initialized "java/lang/Math" ∈ am_ws) (h4 : Cond.code Lib.Math.min.name Lib.Math.min.code 2 (some .int) ∈ am_ws) (hd : decode code pc = .ok (.invokestatic idx, 3)) (hgo : am_Snd p l e R s m args below meth c Q Y ad0 nL c0 q0 code rt go (pc + 3)) : am_Snd p l e R s m args below meth c Q Y ad0 nL c0 q0 code rt (am_oBinS (am_i22 (fun x y => am_ofI (if y < x then y else x))) A sub go jmp) pc := by
  refine am_sBinS hgo fun ad u v r U V hu hv hr => ?_
  obtain ⟨hk, hr⟩ := am_if_some hr
  obtain ⟨e1, e2⟩ := am_R_k2 hk hu hv
  cases hr
  subst e1
  subst e2
  obtain ⟨hx, hb, hml, hown, hts, -⟩ := hF
  exact ⟨_, am_ofI_ok _ _ _ _, fun H locs k n ls S q1 q2 q3 q4 hk => va_mmin hx hb (by rw [hml, q1]) hown (hts _ h1) (hts _ h2) (hts _ h3) (hts _ h4) (by omega) (by omega) q3 q4 hd hk⟩
theorem am_sMinL (hF : am_Fm p s m args meth c Y own code nL rt) (hfr : 20 ≤ R.frames) (hlr : 400 ≤ R.locals) {idx : Nat} (h1 : Cond.methodLink own idx Lib.MathLoose.min_long.x ∈ am_ws) (h2 : Cond.static Lib.MathLoose.min_long.x ∈ am_ws) (h3 : Cond.initialized "java/lang/Math" ∈ am_ws) (h4 : Cond.code Lib.MathLoose.min_long.x Lib.MathLoose.min_long.code 4 (some .long) ∈ am_ws) (hd : decode code pc = .ok (.invokestatic idx, 3)) (hgo : am_Snd p l e R s m args below meth c Q Y ad0 nL c0 q0 code rt go (pc + 3)) : am_Snd p l e R s m args below meth c Q Y ad0 nL c0 q0 code rt (am_oBinS (am_l22 (fun x y => am_ofL (if y < x then y else x))) A sub go jmp) pc := by
  refine am_sBinS hgo fun ad u v r U V hu hv hr => ?_
  unfold am_l22 at hr
  cases hk : (Nat.beq u.1 1 && Nat.beq v.1 1) with
  | false => rw [hk] at hr; cases hr
  | true =>
    rw [hk] at hr
    rw [Bool.and_eq_true] at hk
    obtain ⟨e1, e2⟩ := am_L2 hk.1 hk.2 hu hv
    cases hr
    subst e1
    subst e2
    obtain ⟨hx, hb, hml, hown, hts, -⟩ := hF
    exact ⟨_, am_ofL_ok _ _ _ _, fun H locs k n ls S q1 q2 q3 q4 hk => va_mmin_long hx hb (by rw [hml, q1]) hown (hts _ h1) (hts _ h2) (hts _ h3) (hts _ h4) (by omega) (by omega) q3 q4 hd hk⟩
theorem am_sMaxL (hF : am_Fm p s m args meth c Y own code nL rt) (hfr : 20 ≤ R.frames) (hlr : 400 ≤ R.locals) {idx : Nat} (h1 : Cond.methodLink own idx Lib.MathLoose.max_long.x ∈ am_ws) (h2 : Cond.static Lib.MathLoose.max_long.x ∈ am_ws) (h3 : Cond.initialized "java/lang/Math" ∈ am_ws) (h4 : Cond.code Lib.MathLoose.max_long.x Lib.MathLoose.max_long.code 4 (some .long) ∈ am_ws) (hd : decode code pc = .ok (.invokestatic idx, 3)) (hgo : am_Snd p l e R s m args below meth c Q Y ad0 nL c0 q0 code rt go (pc + 3)) : am_Snd p l e R s m args below meth c Q Y ad0 nL c0 q0 code rt (am_oBinS (am_l22 (fun x y => am_ofL (if y < x then x else y))) A sub go jmp) pc := by
  refine am_sBinS hgo fun ad u v r U V hu hv hr => ?_
  unfold am_l22 at hr
  cases hk : (Nat.beq u.1 1 && Nat.beq v.1 1) with
  | false => rw [hk] at hr; cases hr
  | true =>
    rw [hk] at hr
    rw [Bool.and_eq_true] at hk
    obtain ⟨e1, e2⟩ := am_L2 hk.1 hk.2 hu hv
    cases hr
    subst e1
    subst e2
    obtain ⟨hx, hb, hml, hown, hts, -⟩ := hF
    exact ⟨_, am_ofL_ok _ _ _ _, fun H locs k n ls S q1 q2 q3 q4 hk => va_mmax_long hx hb (by rw [hml, q1]) hown (hts _ h1) (hts _ h2) (hts _ h3) (hts _ h4) (by omega) (by omega) q3 q4 hd hk⟩
-- returns: the run stops here
theorem am_sRet0 (hrt : rt = none) (hd : decode code pc = .ok (.return_, 1)) : am_Snd p l e R s m args below meth c Q Y ad0 nL c0 q0 code rt (am_oRet0 pc A sub go jmp) pc := by
  intro lo stk h nc ns o ho
  cases stk with
  | cons v vs => cases ho
  | nil =>
    cases ho
    refine ⟨Nat.le_refl _, Nat.le_refl _, ⟨fun _ => ⟨rfl, hd, hrt⟩, fun q => (by cases q), fun q => (by cases q)⟩, fun ad H locs ls S hp hlo hs r1 r2 hkt => ?_⟩
    exact (hkt ad H locs ls S (am_le_rf ad) hp hlo hs).1 (show _ ≠ 2 from fun q => by cases q)
theorem am_sRet {ok : am_V → Bool} {t : FieldType} (hrt : rt = some t) (hrk : ∀ v, ok v = true → am_rk code pc v) : am_Snd p l e R s m args below meth c Q Y ad0 nL c0 q0 code rt (am_oRet pc ok t A sub go jmp) pc := by
  intro lo stk h nc ns o ho
  obtain ⟨v, rest, rfl, ho1⟩ := am_lc_some ho
  obtain ⟨hc, ho2⟩ := am_if_some ho1
  rw [am_and_t, am_and_t] at hc
  obtain ⟨h1, h2, h3⟩ := hc
  cases rest with
  | cons _ _ => cases h1
  | nil =>
    cases ho2
    refine ⟨Nat.le_refl _, Nat.le_refl _, ⟨fun q => (by cases q), fun _ => ⟨rfl, t, hrt, h3, hrk v h2⟩, fun q => (by cases q)⟩, fun ad H locs ls S hp hlo hs r1 r2 hkt => ?_⟩
    exact (hkt ad H locs ls S (am_le_rf ad) hp hlo hs).1 (show _ ≠ 2 from fun q => by cases q)
end AMEND
