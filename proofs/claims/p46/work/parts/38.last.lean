/-! ===== the last piece of a run: it returns 1 ===== -/
noncomputable def am_is1v (v : am_V) : Bool := am_and (Nat.beq v.1 0) (Nat.beq v.2.1 1)
noncomputable def am_pce (A : am_A) (sub : Nat → am_G) (P : am_P) (k n pcr : Nat) (ov : List (Nat × List Int)) (lo : List am_V) (h : am_H) (mc ms : Nat) : Bool :=
  Option.rec (motive := fun _ => Bool) false (fun o : am_O => am_and (Nat.beq o.1 1) (am_and (Nat.beq o.2.2.1 pcr) (am_and (am_is1v o.2.1) (am_and (Nat.ble o.2.2.2.2.2.2.1 mc) (Nat.ble o.2.2.2.2.2.2.2 ms))))) (am_runP A sub P n (am_dr P k) (lo.map (am_sbV ov)) [] (am_sbH ov h) 0 0)
section AMLS
variable {p : Program} {l : Launch} {e : Env} {R : Room} {s : State} {m : MethodId} {args : Array Value} {below : List Frame} {meth : Method} {c : Code} {Q : State → Prop} {Y : am_Y} {A : am_A} {ad0 : List Nat} {nL c0 q0 : Nat} {code : ByteArray} {rt : Option FieldType}
theorem am_last {s0 : State} {D : va_G} {b : Nat} {X : List Int} {sub : Nat → am_G} {P : am_P} {k n pc pcr mc ms k0 n0 K N : Nat} {ov : List (Nat × List Int)} {lo : List am_V} {h : am_H} (his : am_is X ov) (hck : am_pce A sub P k n pcr ov lo h mc ms = true)
    (hS : am_Snd p l e R s m args below meth c Q (s0, D, X, b) [] nL k0 n0 code rt (am_runP A sub P n (am_dr P k)) pc) (h1 : k0 + mc ≤ R.cells) (h2 : n0 + ms ≤ R.slots) (hK : k0 + mc ≤ K) (hN : n0 + ms ≤ N)
    (hk : ∀ (ad1 : List Nat) (h1 : am_H) (H' : Heap) (locs' : List Loc) (ls' : Array Slot) (V : Value), am_HP (s0, D, X, b) s [] ad1 h1 H' locs' → V = .int (Int32.ofNat 1) → W p l e R s m args below meth c H' locs' K N Q (F0 m pcr ls' [V])) : am_At p l e R s m args below meth c Q (s0, D, X, b) [] nL pc lo [] h k0 n0 := by
  intro ad H locs ls S hp hlo hs
  unfold am_pce at hck
  cases hr : am_runP A sub P n (am_dr P k) (lo.map (am_sbV ov)) [] (am_sbH ov h) 0 0 with
  | none => rw [hr] at hck; cases hck
  | some o =>
    rw [hr] at hck
    have hck : am_and (Nat.beq o.1 1) (am_and (Nat.beq o.2.2.1 pcr) (am_and (am_is1v o.2.1) (am_and (Nat.ble o.2.2.2.2.2.2.1 mc) (Nat.ble o.2.2.2.2.2.2.2 ms)))) = true := hck
    simp only [am_and_t, am_is1v] at hck
    obtain ⟨q1, q2, ⟨q3, q4⟩, q6, q7⟩ := hck
    have q1 := am_tag q1
    have q2 := am_tag q2
    have q3n := am_tag q3
    have q4n := am_tag q4
    have q6 := Nat.le_of_ble_eq_true q6
    have q7 := Nat.le_of_ble_eq_true q7
    have e0 := am_St_nil hs
    subst e0
    obtain ⟨-, -, g3, g4⟩ := hS _ _ _ _ _ o hr
    refine g4 ad H locs ls [] (am_HP_sb his hp) (am_Lo_sb his hlo) trivial (by omega) (by omega) ?_
    intro ad' H' locs' ls' S' hle hp' hlo' hs'
    refine ⟨fun _ => ?_, fun hk => by omega⟩
    rw [(g3.2.1 q1).1] at hs'
    obtain ⟨V, S2, rfl, j1, j2⟩ := am_St_cons hs'
    have e1 := am_St_nil j2
    subst e1
    rw [q2]
    refine W.widen (by omega) (by omega) (hk ad' _ H' locs' ls' V hp' ?_)
    obtain ⟨v0, v1, v2, v3, v4, v5, v6⟩ := o
    obtain ⟨t9, n9, f9⟩ := v1
    dsimp only at q3n q4n
    subst q3n
    subst q4n
    exact j1
end AMLS
/-- the runs of a method that is in am_db at mi, under callees that are known: what am_piece and am_last want -/
theorem am_snd {l : Launch} {Y : am_Y} (hG : am_Gl l Y) {A : am_A} (hA : am_kn A Y.2.2.1) {M : am_M} {P : am_P} (hP : P = am_comp am_db am_hc am_bl M) (hck : am_mck true M = true) {d K N : Nat} {sub : Nat → am_G} (hsub : am_SubOK l Y (d + 1) sub) {p : Program} {e : Env} {s : State} {m : MethodId} {args : Array Value} {below : List Frame} {meth : Method} {c : Code} {Q : State → Prop} (hF : am_Fm p s m args meth c Y M.1.cls M.2.1 M.2.2.1 M.2.2.2.1) (htab : c.exceptionTable.toList = tableOf M.2.2.2.2.1) (hnm : meth.name = M.1.name) (n k pc : Nat) (hpc : ∀ x, M.2.2.2.2.2[k]? = some x → x.1 = pc) (k0 n0 : Nat) :
    am_Snd p l e (am_rm (d + 2) K N) s m args below meth c Q Y [] M.2.2.1 k0 n0 M.2.1 M.2.2.2.1 (am_runP A sub P n (am_dr P k)) pc := by
  rw [hP]
  exact am_runOK hG hF hA htab hnm (show d + 1 + 21 ≤ d + 2 + 20 by omega) (show 100 * (d + 1) + 500 ≤ 100 * (d + 2) + 400 by omega) hsub (b9 := true) (fun _ => am_bodOK hG d) hck n k pc hpc
