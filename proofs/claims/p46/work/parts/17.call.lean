/-! ===== a call ===== -/
theorem am_pop_some {α β : Type} {n : Nat} {k : List α → List α → Option β} {stk : List α} {r : β} (h : am_pop n k stk = some r) : ∃ as rest, stk = as.reverse ++ rest ∧ as.length = n ∧ k as rest = some r := by
  have key : ∀ (n : Nat) (acc stk : List α), Nat.rec (motive := fun _ => List α → List α → Option β) k (fun _ ih acc st => am_lc st (fun v rest => ih (v :: acc) rest)) n acc stk = some r → ∃ as rest, stk = as.reverse ++ rest ∧ as.length = n ∧ k (as ++ acc) rest = some r := by
    intro n
    induction n with
    | zero => intro acc stk h; exact ⟨[], stk, rfl, rfl, h⟩
    | succ n ih =>
      intro acc stk h
      obtain ⟨v, rest, rfl, h1⟩ := am_lc_some h
      obtain ⟨as, rest2, rfl, h3, h4⟩ := ih (v :: acc) rest h1
      refine ⟨as ++ [v], rest2, by simp, by simp [h3], ?_⟩
      rw [List.append_assoc]
      exact h4
  obtain ⟨as, rest, h1, h2, h3⟩ := key n [] stk h
  rw [List.append_nil] at h3
  exact ⟨as, rest, h1, h2, h3⟩
theorem am_St_app {Y : am_Y} {ad : List Nat} : ∀ {u v : List am_V} {S : List Value}, am_St Y ad (u ++ v) S → ∃ S1 S2, S = S1 ++ S2 ∧ am_St Y ad u S1 ∧ am_St Y ad v S2
  | [], v, S, h => ⟨[], S, rfl, trivial, h⟩
  | a :: u, v, S, h => by
    obtain ⟨V, S', rfl, k1, k2⟩ := am_St_cons (vs := u ++ v) h
    obtain ⟨S1, S2, rfl, k3, k4⟩ := am_St_app k2
    exact ⟨V :: S1, S2, rfl, ⟨k1, k3⟩, k4⟩
theorem am_St_snoc {Y : am_Y} {ad : List Nat} : ∀ {u v : List am_V} {S T : List Value}, am_St Y ad u S → am_St Y ad v T → am_St Y ad (u ++ v) (S ++ T)
  | [], v, [], T, _, h => h
  | a :: u, v, V :: S, T, h1, h2 => ⟨h1.1, am_St_snoc h1.2 h2⟩
  | [], _, _ :: _, _, h, _ => h.elim
  | _ :: _, _, [], _, h, _ => h.elim
theorem am_St_rev {Y : am_Y} {ad : List Nat} : ∀ {u : List am_V} {S : List Value}, am_St Y ad u S → am_St Y ad u.reverse S.reverse
  | [], [], _ => trivial
  | a :: u, V :: S, h => by
    rw [List.reverse_cons, List.reverse_cons]
    exact am_St_snoc (am_St_rev h.2) ⟨h.1, trivial⟩
  | [], _ :: _, h => h.elim
  | _ :: _, [], h => h.elim
def am_SubOK (l : Launch) (Y : am_Y) (d : Nat) (sub : Nat → am_G) : Prop := ∀ (mi : Nat) (M : am_M) (as lo1 : List am_V) (h : am_H) (o : am_O), am_db[mi]? = some M → am_pad am_un0 (am_lay as) M.2.2.1 = some lo1 → sub mi lo1 [] h 0 0 = some o → o.1 ≤ 2 → ∀ ad : List Nat, vx_Met l M.1 (am_head M :: am_ws) (am_rm d o.2.2.2.2.2.2.1 o.2.2.2.2.2.2.2) (am_Pc Y ad as h) (am_Qc Y ad o) (am_XC Y ad o) o.2.2.2.2.2.2.1 o.2.2.2.2.2.2.2 (fun q => Y.1.heap.size ≤ q)
section AMCALL
variable {p : Program} {l : Launch} {e : Env} {R : Room} {s : State} {m : MethodId} {args : Array Value} {below : List Frame} {meth : Method} {c : Code} {Q : State → Prop} {Y : am_Y} {A : am_A} {ad0 : List Nat} {nL c0 q0 : Nat} {code : ByteArray} {rt : Option FieldType}
variable {sub : Nat → am_G} {go : am_G} {jmp : Nat → am_G} {pc : Nat}
theorem am_sCallC {chk : List am_V → am_H → Prop} {d mi n ml : Nat} {tb : List (Option Nat)} {vo : Bool} {M : am_M} (hsub : am_SubOK l Y d sub) (hM : am_db[mi]? = some M) (hml : M.2.2.1 = ml)
    (row : ∀ (o1 : am_O) (as : List am_V) (h : am_H) (ad : List Nat), vx_Met l M.1 (am_head M :: am_ws) (am_rm d o1.2.2.2.2.2.2.1 o1.2.2.2.2.2.2.2) (am_Pc Y ad as h) (am_Qc Y ad o1) (am_XC Y ad o1) o1.2.2.2.2.2.2.1 o1.2.2.2.2.2.2.2 (fun q => Y.1.heap.size ≤ q) → as.length = n → (∃ rest, chk (as.reverse ++ rest) h) → ∀ (H : Heap) (locs : List Loc) (k j : Nat) (ls : Array Slot) (As S : List Value), am_St Y ad as As → am_HP Y s ad0 ad h H locs → ls.size = nL → (S.map fun v => v.category).sum ≤ 8 → k + o1.2.2.2.2.2.2.1 ≤ R.cells → j + o1.2.2.2.2.2.2.2 ≤ R.slots →
      vx_Run p l e R s m args below meth c H locs k j o1.2.2.2.2.2.2.1 o1.2.2.2.2.2.2.2 (F0 m pc ls (As.reverse ++ S)) S (am_Qc Y ad o1 As.toArray) (am_XC Y ad o1) (fun q => Y.1.heap.size ≤ q))
    (hgo : am_Snd p l e R s m args below meth c Q Y ad0 nL c0 q0 code rt go (pc + 3)) (htb : tb = [] → c.exceptionTable.toList = [])
    (hcatch : ∀ (ei t : Nat), tb[ei]? = some (some t) → ∃ (pt : Nat) (E : String), am_ex[ei]? = some E ∧ am_Snd p l e R s m args below meth c Q Y ad0 nL c0 q0 code rt (jmp t) pt ∧ ∀ (H : Heap) (locs : List Loc) (k j : Nat) (ls : Array Slot) (S : List Value) (q : Addr) (ce : Cell), H[q]? = some ce → ce.vm = .none → s.vm.findClass E = some ce.cls → W p l e R s m args below meth c H locs k j Q (F0 m pt ls [.ref q]) → vx_W p l e R s m args below meth c H locs k j Q (F0 m pc ls S) q) (lo stk : List am_V) (h : am_H) (nc ns : Nat) (o : am_O) (hck : chk stk h) (ho : am_oCall tb pc mi n ml vo A sub go jmp lo stk h nc ns = some o) : nc ≤ o.2.2.2.2.2.2.1 ∧ ns ≤ o.2.2.2.2.2.2.2 ∧ am_Ret code rt c o ∧ ∀ (ad : List Nat) (H : Heap) (locs : List Loc) (ls : Array Slot) (S : List Value), am_HP Y s ad0 ad h H locs → am_Lo Y ad nL lo ls → am_St Y ad stk S → c0 + o.2.2.2.2.2.2.1 ≤ R.cells → q0 + o.2.2.2.2.2.2.2 ≤ R.slots → am_Kont p l e R s m args below meth c Q Y ad0 nL c0 q0 ad o → W p l e R s m args below meth c H locs (c0 + nc) (q0 + ns) Q (F0 m pc ls S) := by
  obtain ⟨as, rest, rfl, hn, ho1⟩ := am_pop_some ho
  obtain ⟨hsh, ho2⟩ := am_if_some ho1
  obtain ⟨lo1, hpad, ho3⟩ := am_ob_some ho2
  obtain ⟨o1, hrun, hback⟩ := am_ob_some ho3
  rw [← hml] at hpad
  unfold am_back at hback
  -- what the call owes
  have call : o1.1 ≤ 2 → ∀ (ad : List Nat) (H : Heap) (locs : List Loc) (ls : Array Slot) (S : List Value), am_HP Y s ad0 ad h H locs → am_Lo Y ad nL lo ls → am_St Y ad (as.reverse ++ rest) S → c0 + (nc + o1.2.2.2.2.2.2.1) ≤ R.cells → q0 + (ns + o1.2.2.2.2.2.2.2) ≤ R.slots →
      (∀ (S2 : List Value) (ad' : List Nat) (H1 : Heap) (locs1 : List Loc), am_le ad ad' → am_St Y ad' rest S2 → am_HP Y s ad0 ad' o1.2.2.2.2.2.1 H1 locs1 → am_Lo Y ad' nL lo ls →
        (o1.1 = 0 → W p l e R s m args below meth c H1 locs1 (c0 + (nc + o1.2.2.2.2.2.2.1)) (q0 + (ns + o1.2.2.2.2.2.2.2)) Q (F0 m (pc + 3) ls S2)) ∧
        (o1.1 = 1 → ∀ V, am_V1 Y ad' o1.2.1 V → W p l e R s m args below meth c H1 locs1 (c0 + (nc + o1.2.2.2.2.2.2.1)) (q0 + (ns + o1.2.2.2.2.2.2.2)) Q (F0 m (pc + 3) ls (V :: S2))) ∧
        (o1.1 = 2 → ∀ (E : String) (q : Addr) (ce : Cell), am_ex[o1.2.1.1]? = some E → H1[q]? = some ce → ce.vm = .none → s.vm.findClass E = some ce.cls → vx_W p l e R s m args below meth c H1 locs1 (c0 + (nc + o1.2.2.2.2.2.2.1)) (q0 + (ns + o1.2.2.2.2.2.2.2)) Q (F0 m pc ls S2) q)) →
      W p l e R s m args below meth c H locs (c0 + nc) (q0 + ns) Q (F0 m pc ls S) := by
    intro hle2 ad H locs ls S hp hlo hs r1 r2 kk
    obtain ⟨S1, S2, rfl, s1, s2⟩ := am_St_app hs
    have s3 := am_St_rev s1
    rw [List.reverse_reverse] at s3
    have hcat := am_St_cat s2
    have hsh2 := am_sh_ok hsh
    have hmet := hsub mi M as lo1 h o1 hM hpad hrun hle2 ad
    have hr := row o1 as h ad hmet hn ⟨rest, hck⟩ H locs (c0 + nc) (q0 + ns) ls S1.reverse S2 s3 hp (am_Lo_size hlo) (by omega) (by omega) (by omega)
    rw [List.reverse_reverse] at hr
    intro T hT Xs
    rcases hr T hT Xs with ⟨v, st₀, t, T', L, h0, X', hL, e1, e2, ⟨ad', l1, l2, l3⟩, st⟩ | ⟨q, st₀, t, T', L, E, ce, h0, X', hL, e1, e2, ⟨x1, x2, ad', l1, l2⟩, hce, hcv, hcl, st⟩
    · have hp2 := am_HP_comp hp h0 l2 hL
      rw [← e1] at hp2
      obtain ⟨m0, m1, -⟩ := kk S2 ad' T'.heap (locs ++ L) l1 (am_St_le l1 s2) hp2 (am_Lo_le l1 hlo)
      rw [show c0 + (nc + o1.2.2.2.2.2.2.1) = c0 + nc + o1.2.2.2.2.2.2.1 by omega, show q0 + (ns + o1.2.2.2.2.2.2.2) = q0 + ns + o1.2.2.2.2.2.2.2 by omega] at m0 m1
      rcases l3 with ⟨k0, k1⟩ | ⟨k0, V, k1, k2⟩
      · cases k1
        obtain ⟨t2, a1, b1⟩ := m0 k0 T' rfl X'
        exact ⟨t2, st t2 a1, b1⟩
      · cases k2
        obtain ⟨t2, a1, b1⟩ := m1 k0 V k1 T' rfl X'
        exact ⟨t2, st t2 a1, b1⟩
    · have hp2 := am_HP_comp hp h0 l2 hL
      rw [← e1] at hp2
      obtain ⟨-, -, m2⟩ := kk S2 ad' T'.heap (locs ++ L) l1 (am_St_le l1 s2) hp2 (am_Lo_le l1 hlo)
      rw [show c0 + (nc + o1.2.2.2.2.2.2.1) = c0 + nc + o1.2.2.2.2.2.2.1 by omega, show q0 + (ns + o1.2.2.2.2.2.2.2) = q0 + ns + o1.2.2.2.2.2.2.2 by omega] at m2
      obtain ⟨t2, a1, b1⟩ := m2 x1 E q ce x2 (by rw [e1]; exact hce) hcv hcl T' rfl X'
      exact ⟨t2, st.trans a1, b1⟩
  cases h1 : Nat.beq o1.1 1 with
  | true =>
    have ek := am_tag h1
    rw [h1] at hback
    cases vo with
    | true => cases hback
    | false =>
      obtain ⟨g1, g2, g3, g4⟩ := hgo _ _ _ _ _ o hback
      refine ⟨by omega, by omega, g3, fun ad H locs ls S hp hlo hs r1 r2 hkt => call (by omega) ad H locs ls S hp hlo hs (by omega) (by omega) fun S2 ad' H1 locs1 l1 s2 hp2 hlo2 => ⟨fun q => by omega, fun _ V hV => ?_, fun q => by omega⟩⟩
      exact g4 ad' H1 locs1 ls (V :: S2) hp2 hlo2 ⟨hV, s2⟩ r1 r2 (am_Kont_le hkt l1)
  | false =>
    rw [h1] at hback
    have hback1 : am_if (Nat.beq o1.1 0) _ _ = some o := hback
    cases h0 : Nat.beq o1.1 0 with
    | true =>
      have ek := am_tag h0
      rw [h0] at hback1
      cases vo with
      | false => cases hback1
      | true =>
        obtain ⟨g1, g2, g3, g4⟩ := hgo _ _ _ _ _ o hback1
        refine ⟨by omega, by omega, g3, fun ad H locs ls S hp hlo hs r1 r2 hkt => call (by omega) ad H locs ls S hp hlo hs (by omega) (by omega) fun S2 ad' H1 locs1 l1 s2 hp2 hlo2 => ⟨fun _ => ?_, fun q => by omega, fun q => by omega⟩⟩
        exact g4 ad' H1 locs1 ls S2 hp2 hlo2 s2 r1 r2 (am_Kont_le hkt l1)
    | false =>
      rw [h0] at hback1
      obtain ⟨h2, hback2⟩ := am_if_some (show am_if (Nat.beq o1.1 2) _ none = some o from hback1)
      have ek := am_tag h2
      split at hback2
      · cases hback2
        refine ⟨Nat.le_add_right _ _, Nat.le_add_right _ _, ⟨fun q => (by cases q), fun q => (by cases q), fun _ => htb rfl⟩, fun ad H locs ls S hp hlo hs r1 r2 hkt => call (by omega) ad H locs ls S hp hlo hs r1 r2 fun S2 ad' H1 locs1 l1 s2 hp2 hlo2 => ⟨fun q => by omega, fun q => by omega, fun _ E q ce hE hce hcv hcl => ?_⟩⟩
        exact ((hkt ad' H1 locs1 ls S2 l1 hp2 hlo2 s2).2 rfl E hE).1 q ce pc hce hcv hcl
      · split at hback2
        · rename_i xs x0 t ht
          obtain ⟨pt, E0, hE0, hj, hc⟩ := hcatch _ t ht
          obtain ⟨g1, g2, g3, g4⟩ := hj _ _ _ _ _ o hback2
          refine ⟨by omega, by omega, g3, fun ad H locs ls S hp hlo hs r1 r2 hkt => call (by omega) ad H locs ls S hp hlo hs (by omega) (by omega) fun S2 ad' H1 locs1 l1 s2 hp2 hlo2 => ⟨fun q => by omega, fun q => by omega, fun _ E q ce hE hce hcv hcl => ?_⟩⟩
          have e : E = E0 := Option.some.inj (hE.symm.trans hE0)
          subst e
          exact hc H1 locs1 _ _ ls S2 q ce hce hcv hcl (g4 ad' H1 locs1 ls [.ref q] hp2 hlo2 ⟨⟨q, rfl⟩, trivial⟩ r1 r2 (am_Kont_le hkt l1))
        · cases hback2
theorem am_sCallV {tb : List (Option Nat)} {mi n ml ci : Nat} {vo : Bool} (h : ∀ (lo stk : List am_V) (h : am_H) (nc ns : Nat) (o : am_O), (∃ r k, stk[n - 1]? = some r ∧ Nat.beq r.1 10 = true ∧ am_get h r.2.1 = some k ∧ Nat.beq k.1 ci = true) → am_oCall tb pc mi n ml vo A sub go jmp lo stk h nc ns = some o → nc ≤ o.2.2.2.2.2.2.1 ∧ ns ≤ o.2.2.2.2.2.2.2 ∧ am_Ret code rt c o ∧ ∀ (ad : List Nat) (H : Heap) (locs : List Loc) (ls : Array Slot) (S : List Value), am_HP Y s ad0 ad h H locs → am_Lo Y ad nL lo ls → am_St Y ad stk S → c0 + o.2.2.2.2.2.2.1 ≤ R.cells → q0 + o.2.2.2.2.2.2.2 ≤ R.slots → am_Kont p l e R s m args below meth c Q Y ad0 nL c0 q0 ad o → W p l e R s m args below meth c H locs (c0 + nc) (q0 + ns) Q (F0 m pc ls S)) : am_Snd p l e R s m args below meth c Q Y ad0 nL c0 q0 code rt (am_oCallV tb pc mi n ml vo ci A sub go jmp) pc := by
  intro lo stk h1 nc ns o ho
  obtain ⟨r, hr, ho1⟩ := am_ob_some ho
  obtain ⟨h2, ho2⟩ := am_if_some ho1
  obtain ⟨k, h3, ho3⟩ := am_ob_some ho2
  obtain ⟨h4, ho4⟩ := am_if_some ho3
  rw [am_nth_eq] at hr
  exact h lo stk h1 nc ns o ⟨r, k, hr, h2, h3, h4⟩ ho4
end AMCALL
