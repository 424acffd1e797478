/-! ===== bitsOfDouble of a quotient ===== -/
def am_bits (k : Int) (n : Nat) : UInt64 := FP.ddiv (FP.i2d (am_i k)) (UInt64.ofNat n)
/-- what its runs on these come to -/
def am_BodOK (l : Launch) (Y : am_Y) (d : Nat) (M : am_M) : Prop := ∀ (k n : Nat), k ≤ 200 → am_d14 n = true → ∃ o : am_O, o.1 = 1 ∧ o.2.1 = (1, (am_bits k n).toNat, []) ∧ o.2.2.2.2.2.2.1 = 0 ∧ o.2.2.2.2.2.2.2 = 0 ∧
  vx_Met l M.1 (am_head M :: am_ws) (am_rm d o.2.2.2.2.2.2.1 o.2.2.2.2.2.2.2) (am_Pc Y [] [(3, (am_bits k n).toNat, [])] am_h0) (am_Qc Y [] o) (am_XC Y [] o) o.2.2.2.2.2.2.1 o.2.2.2.2.2.2.2 (fun q => Y.1.heap.size ≤ q)
theorem am_h0_get {k : Nat} {c : am_C} (h : am_get am_h0 k = some c) : c.1 = 999 := by
  obtain ⟨b, h1, h2⟩ := am_ob_some h
  rw [am_nth_eq] at h1 h2
  have hb : b = am_rep 16 (999, []) := by
    have h3 := List.mem_of_getElem? h1
    rw [show am_h0.2 = am_rep 32 (am_rep 16 (999, [])) from rfl, am_rep_eq] at h3
    exact List.eq_of_mem_replicate h3
  subst hb
  have h4 := List.mem_of_getElem? h2
  rw [am_rep_eq] at h4
  rw [List.eq_of_mem_replicate h4]
theorem am_Rep_0 (Y : am_Y) (H : Heap) : am_Rep Y [] am_h0 H := by
  refine ⟨rfl, List.nodup_nil, fun a ha => (by cases ha), fun k c h hn => ?_⟩
  exact absurd (am_h0_get h) hn
section AMBOD
variable {p : Program} {l : Launch} {e : Env} {R : Room} {s : State} {m : MethodId} {args : Array Value} {below : List Frame} {meth : Method} {c : Code} {Q : State → Prop} {Y : am_Y} {A : am_A} {ad0 : List Nat} {nL c0 q0 : Nat} {code : ByteArray} {rt : Option FieldType}
variable {sub : Nat → am_G} {go : am_G} {jmp : Nat → am_G} {pc : Nat} {own : String}
theorem am_sBod (hA : am_kn A Y.2.2.1) (hF : am_Fm p s m args meth c Y own code nL rt) {d idx mi ml : Nat} {tb : List (Option Nat)} (hfr : d + 21 ≤ R.frames) (hlr : 100 * d + 500 ≤ R.locals) {M : am_M} (htb : M.2.2.2.2.1 = []) (hd : am_d M 1 = true) (h0 : am_head M ∈ am_ws) (h1 : Cond.methodLink own idx M.1 ∈ am_ws) (h2 : Cond.static M.1 ∈ am_ws) (h3 : Cond.initialized M.1.cls ∈ am_ws) (hdg : decode code pc = .ok (.invokestatic idx, 3)) (hbod : am_BodOK l Y d M) (hcall : am_Snd p l e R s m args below meth c Q Y ad0 nL c0 q0 code rt (am_oCall tb pc mi 1 ml false A sub go jmp) pc) (hgo : am_Snd p l e R s m args below meth c Q Y ad0 nL c0 q0 code rt go (pc + 3)) : am_Snd p l e R s m args below meth c Q Y ad0 nL c0 q0 code rt (am_oBod tb pc mi ml A sub go jmp) pc := by
  intro lo stk h nc ns o ho
  obtain ⟨x, rest, rfl, ho1⟩ := am_lc_some ho
  cases h9 : Nat.beq x.1 9 with
  | false =>
    rw [h9] at ho1
    exact hcall lo (x :: rest) h nc ns o ho1
  | true =>
    rw [h9] at ho1
    obtain ⟨hc, ho2⟩ := am_if_some (show am_if (am_and (am_sh rest) (am_bodg A x)) (go lo ((11, x.2) :: rest) h nc ns) none = some o from ho1)
    rw [am_and_t] at hc
    have hg := hc.2
    unfold am_bodg at hg
    rw [Bool.and_eq_true] at hg
    obtain ⟨t, n, f⟩ := x
    have e := am_tag h9
    dsimp only at e
    subst e
    cases hl : am_lim A f with
    | none =>
      rw [show am_lim A (9, n, f).2.2 = am_lim A f from rfl, hl] at hg
      cases hg.2
    | some q =>
      rw [show am_lim A (9, n, f).2.2 = am_lim A f from rfl, hl] at hg
      have hk : (decide (0 ≤ q.1) && decide (q.2 ≤ 200)) = true := hg.2
      rw [Bool.and_eq_true, decide_eq_true_eq, decide_eq_true_eq] at hk
      obtain ⟨b1, b2⟩ := am_lim_ok hA hl
      have hz : ((am_ev Y.2.2.1 f).toNat : Int) = am_ev Y.2.2.1 f := Int.toNat_of_nonneg (by omega)
      obtain ⟨o1, p1, p2, p3, p4, hmet⟩ := hbod (am_ev Y.2.2.1 f).toNat n (by omega) hg.1
      rw [hz] at p2 hmet
      obtain ⟨g1, g2, g3, g4⟩ := hgo lo ((11, n, f) :: rest) h nc ns o ho2
      refine ⟨g1, g2, g3, fun ad H locs ls S hp hlo hs r1 r2 hkt => ?_⟩
      obtain ⟨V, S', rfl, k1, k2⟩ := am_St_cons hs
      have hV : V = .double (am_bits (am_ev Y.2.2.1 f) n) := k1
      have hcat := am_St_cat k2
      have hsh := am_sh_ok hc.1
      have hst : am_St Y [] [(3, (am_bits (am_ev Y.2.2.1 f) n).toNat, [])] [V] := ⟨by rw [hV]; exact am_ofD_ok _ _ _ _, trivial⟩
      have hF' := hF
      obtain ⟨-, -, -, -, -, -, -, hW, hold, hsz⟩ := hF'
      have hpre : PreS s H (am_Pc Y [] [(3, (am_bits (am_ev Y.2.2.1 f) n).toNat, [])] am_h0) [V] := ⟨am_blind _ _ _ _, fun U hU hW1 => ⟨⟨[V], hst, rfl⟩, State.WarmedH.trans hW hW1, fun q hq => by
        rw [hU, hp.2.2.1 q (Nat.lt_of_lt_of_le hq hsz) (fun h9 => ?_)]
        · exact hold q hq
        · have := (hp.1.2.2.1 q (hp.2.2.2.2.2 q h9)).1
          omega, by rw [hU]; exact Nat.le_trans hsz hp.2.1, am_Rep_0 Y U.heap⟩⟩
      have hr := am_rowS (below := below) (e := e) (As := [V]) (S := S') (H := H) (locs := locs) (k := c0 + nc) (j := q0 + ns) (ls := ls) hF hfr hlr htb hd h0 h1 h2 h3 hdg hmet rfl rfl hpre (am_Lo_size hlo) (by omega) (by omega) (by omega)
      intro T hT Xs
      rcases hr T hT Xs with ⟨v, st₀, t, T', L, h0', X', hL, e1, e2, ⟨ad', l1, l2, l3⟩, st⟩ | ⟨q, st₀, t, T', L, E, ce, h0', X', hL, e1, e2, ⟨x1, -⟩, -⟩
      · have hp2 : am_HP Y s ad0 ad h T'.heap (locs ++ L) := by
          have hq := am_HP_grow (H' := T'.heap) hp (by rw [e1, ← h0']; exact l2.2.1) (fun z hz => by rw [e1, ← h0']; exact l2.2.2.1 z (by rw [h0']; exact hz) (fun h9 => by cases h9))
          exact ⟨hq.1, hq.2.1, hq.2.2.1, fun z hz => by
            rcases List.mem_append.mp hz with hz | hz
            · exact hq.2.2.2.1 z hz
            · exact hL z hz, hq.2.2.2.2.1, hq.2.2.2.2.2⟩
        rcases l3 with ⟨k0, -⟩ | ⟨-, V2, k3, k4⟩
        · omega
        · cases k4
          rw [p2] at k3
          have hV2 : V2 = .long (am_bits (am_ev Y.2.2.1 f) n).toInt64 := by
            have h8 : V2 = .long (Int64.ofNat (am_bits (am_ev Y.2.2.1 f) n).toNat) := k3
            rw [h8]
            exact (am_ofL_ok Y.2.2.1 Y.2.2.2 ad (am_bits (am_ev Y.2.2.1 f) n).toInt64).symm
          subst hV2
          rw [p3, p4] at X'
          obtain ⟨t2, a1, b1⟩ := g4 ad T'.heap (locs ++ L) ls (.long (am_bits (am_ev Y.2.2.1 f) n).toInt64 :: S') hp2 hlo ⟨rfl, k2⟩ r1 r2 hkt T' rfl X'
          exact ⟨t2, st t2 a1, b1⟩
      · omega
end AMBOD
