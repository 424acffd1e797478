/-! ===== one run, then another from where it stopped ===== -/
noncomputable def am_then (pc1 : Nat) (g1 g2 : am_G) : am_G := fun lo stk h nc ns => am_ob (g1 lo stk h nc ns) (fun o => am_if (am_and (Nat.beq o.1 3) (Nat.beq o.2.2.1 pc1)) (g2 o.2.2.2.1 o.2.2.2.2.1 o.2.2.2.2.2.1 o.2.2.2.2.2.2.1 o.2.2.2.2.2.2.2) none)
theorem am_then_eq {pc1 : Nat} {g1 g2 : am_G} {lo stk : List am_V} {h : am_H} {nc ns : Nat} {o1 : am_O} {r : Option am_O} (e1 : g1 lo stk h nc ns = some o1) (e2 : am_and (Nat.beq o1.1 3) (Nat.beq o1.2.2.1 pc1) = true) (e3 : g2 o1.2.2.2.1 o1.2.2.2.2.1 o1.2.2.2.2.2.1 o1.2.2.2.2.2.2.1 o1.2.2.2.2.2.2.2 = r) : am_then pc1 g1 g2 lo stk h nc ns = r := by
  unfold am_then
  rw [e1]
  show am_if (am_and (Nat.beq o1.1 3) (Nat.beq o1.2.2.1 pc1)) _ none = r
  rw [e2]
  exact e3
section AMTHEN
variable {p : Program} {l : Launch} {e : Env} {R : Room} {s : State} {m : MethodId} {args : Array Value} {below : List Frame} {meth : Method} {c : Code} {Q : State → Prop} {Y : am_Y} {A : am_A} {ad0 : List Nat} {nL c0 q0 : Nat} {code : ByteArray} {rt : Option FieldType}
theorem am_sThen {g1 g2 : am_G} {pc pc1 : Nat} (h1 : am_Snd p l e R s m args below meth c Q Y ad0 nL c0 q0 code rt g1 pc) (h2 : am_Snd p l e R s m args below meth c Q Y ad0 nL c0 q0 code rt g2 pc1) : am_Snd p l e R s m args below meth c Q Y ad0 nL c0 q0 code rt (am_then pc1 g1 g2) pc := by
  intro lo stk h nc ns o ho
  obtain ⟨o1, e1, ho1⟩ := am_ob_some ho
  obtain ⟨hc, ho2⟩ := am_if_some ho1
  rw [am_and_t] at hc
  have k3 := am_tag hc.1
  have kp := am_tag hc.2
  obtain ⟨a1, a2, -, a4⟩ := h1 lo stk h nc ns o1 e1
  obtain ⟨b1, b2, b3, b4⟩ := h2 _ _ _ _ _ o ho2
  refine ⟨by omega, by omega, b3, fun ad H locs ls S hp hlo hs r1 r2 hk => ?_⟩
  refine a4 ad H locs ls S hp hlo hs (by omega) (by omega) fun ad' H' locs' ls' S' l1 hp' hlo' hs' => ⟨fun _ => ?_, fun q => by omega⟩
  rw [kp]
  exact b4 ad' H' locs' ls' S' hp' hlo' hs' r1 r2 (am_Kont_le hk l1)
end AMTHEN
/-- callees of which some are known by what they come to -/
noncomputable def am_with (ks : List (Nat × am_G)) (sub : Nat → am_G) (mi : Nat) : am_G := List.rec (motive := fun _ => am_G) (sub mi) (fun x _ ih => am_if (Nat.beq x.1 mi) x.2 ih) ks
theorem am_with_ok {l : Launch} {Y : am_Y} {d : Nat} {sub : Nat → am_G} (hs : am_SubOK l Y d sub) : ∀ {ks : List (Nat × am_G)}, (∀ x ∈ ks, ∀ (M : am_M) (as lo1 : List am_V) (h : am_H) (o : am_O), am_db[x.1]? = some M → am_pad am_un0 (am_lay as) M.2.2.1 = some lo1 → x.2 lo1 [] h 0 0 = some o → o.1 ≤ 2 → ∀ ad : List Nat, vx_Met l M.1 (am_head M :: am_ws) (am_rm d o.2.2.2.2.2.2.1 o.2.2.2.2.2.2.2) (am_Pc Y ad as h) (am_Qc Y ad o) (am_XC Y ad o) o.2.2.2.2.2.2.1 o.2.2.2.2.2.2.2 (fun q => Y.1.heap.size ≤ q)) → am_SubOK l Y d (am_with ks sub)
  | [], _ => hs
  | x :: xs, hk => fun mi M as lo1 h o hM hpad hr ho ad => by
    have ih := am_with_ok hs (ks := xs) (fun y hy => hk y (List.mem_cons_of_mem _ hy))
    have hr2 : (am_if (Nat.beq x.1 mi) x.2 (am_with xs sub mi)) lo1 [] h 0 0 = some o := hr
    cases hq : Nat.beq x.1 mi with
    | true =>
      rw [hq] at hr2
      have e := am_tag hq
      subst e
      exact hk x List.mem_cons_self M as lo1 h o hM hpad hr2 ho ad
    | false =>
      rw [hq] at hr2
      exact ih mi M as lo1 h o hM hpad hr2 ho ad
