/-! ===== callees are sound, at every depth (laid by wip/p46/gen32.py) ===== -/
/-! a method whose class may have entries for others of its methods -/
section AMOFW
variable {l : Launch} {y : MethodName} {ws ws' : List Cond} {rm : Room} {Pc : Array Value → State → Prop} {Qc : Array Value → State → Outcome → State → Prop} {XC : String → State → State → Prop} {mc ms : Nat} {free : Addr → Prop} {cc : ByteArray} {maxL : Nat} {ret : Option FieldType}
theorem am_ofW (hy : plainFor y = true) (hw : ws = Cond.code y cc maxL ret :: ws')
    (body : ∀ (p : Program) (e : Env) (s : State) (m : MethodId) (args : Array Value) (below : List Frame) (meth : Method) (c : Code) (s₁ : State), BodyLoose p l y (headSpec ws rm) cc maxL ret e s m args below meth c s₁ → c.maxLocals = maxL → Pc args s →
      W p l e (headSpec ws rm).room s m args below meth c s.heap [] 0 0 (vx_MQ below Qc XC args s mc ms free) (entryFrame m args maxL)) : vx_Met l y ws rm Pc Qc XC mc ms free := by
  refine MetFree.of_bodySF (code := cc) (maxLocals := maxL) (ret := ret) hy (fun args s m h hn => ?_) (fun p e s m args below meth c s₁ B hml hP _ => ?_)
  · obtain ⟨meth, c, k1, k2, k3, k4, k5, k6, -, -⟩ := Cond.code_spec hn (atoms_spec (ws := ws) h _ (by rw [hw]; exact List.mem_cons_self))
    exact ⟨meth, c, k1, k2, k3, k4, k5, k6⟩
  · obtain ⟨t, q1, o, q2, q3, q4⟩ := body p e s m args below meth c s₁ B hml hP s₁ (by rw [B.state]; rfl) (Stand.of_body B)
    exact ⟨t, o, q1, q2, q3, q4⟩
theorem am_ofWH {hh : List (Nat × Nat × Nat × Nat)} (hy : plainFor y = true) (hw : ws = Cond.codeWith y cc maxL ret hh :: ws')
    (body : ∀ (p : Program) (e : Env) (s : State) (m : MethodId) (args : Array Value) (below : List Frame) (meth : Method) (c : Code) (s₁ : State), BodyLoose p l y (headSpec ws rm) cc maxL ret e s m args below meth c s₁ → c.maxLocals = maxL → Pc args s →
      W p l e (headSpec ws rm).room s m args below meth c s.heap [] 0 0 (vx_MQ below Qc XC args s mc ms free) (entryFrame m args maxL)) : vx_Met l y ws rm Pc Qc XC mc ms free := by
  refine MetFree.of_bodySF (code := cc) (maxLocals := maxL) (ret := ret) hy (fun args s m h hn => ?_) (fun p e s m args below meth c s₁ B hml hP _ => ?_)
  · obtain ⟨m9, meth, c, hn9, k1, k2, k3, k4, -, k5, k6, -⟩ := Cond.codeWith_spec (atoms_spec (ws := ws) h _ (by rw [hw]; exact List.mem_cons_self))
    cases hn.symm.trans hn9
    exact ⟨meth, c, k1, k2, k3, k4, k5, k6⟩
  · obtain ⟨t, q1, o, q2, q3, q4⟩ := body p e s m args below meth c s₁ B hml hP s₁ (by rw [B.state]; rfl) (Stand.of_body B)
    exact ⟨t, o, q1, q2, q3, q4⟩
end AMOFW
/-- the callee's contract, out of the soundness of its run -/
theorem am_callee9 {l : Launch} {Y : am_Y} {M : am_M} {d : Nat} {g : am_G} {as lo1 : List am_V} {h : am_H} {o : am_O} (hpl : plainFor M.1 = true) (hpad : am_pad am_un0 (am_lay as) M.2.2.1 = some lo1) (hrun : g lo1 [] h 0 0 = some o) (ho : o.1 ≤ 2)
    (hsnd : ∀ (ad : List Nat) (p : Program) (e : Env) (s : State) (m : MethodId) (args : Array Value) (below : List Frame) (meth : Method) (c : Code) (Q : State → Prop), am_Fm p s m args meth c Y M.1.cls M.2.1 M.2.2.1 M.2.2.2.1 → c.exceptionTable.toList = tableOf M.2.2.2.2.1 → meth.name = M.1.name → am_Snd p l e (am_rm d o.2.2.2.2.2.2.1 o.2.2.2.2.2.2.2) s m args below meth c Q Y ad M.2.2.1 0 0 M.2.1 M.2.2.2.1 g 0) (ad : List Nat) :
    vx_Met l M.1 (am_head M :: am_ws) (am_rm d o.2.2.2.2.2.2.1 o.2.2.2.2.2.2.2) (am_Pc Y ad as h) (am_Qc Y ad o) (am_XC Y ad o) o.2.2.2.2.2.2.1 o.2.2.2.2.2.2.2 (fun q => Y.1.heap.size ≤ q) := by
  have body : ∀ (p : Program) (e : Env) (s : State) (m : MethodId) (args : Array Value) (below : List Frame) (meth : Method) (c : Code) (s₁ : State), BodyLoose p l M.1 (headSpec (am_head M :: am_ws) (am_rm d o.2.2.2.2.2.2.1 o.2.2.2.2.2.2.2)) M.2.1 M.2.2.1 M.2.2.2.1 e s m args below meth c s₁ → c.maxLocals = M.2.2.1 → am_Pc Y ad as h args s →
      W p l e (headSpec (am_head M :: am_ws) (am_rm d o.2.2.2.2.2.2.1 o.2.2.2.2.2.2.2)).room s m args below meth c s.heap [] 0 0 (vx_MQ below (am_Qc Y ad o) (am_XC Y ad o) args s o.2.2.2.2.2.2.1 o.2.2.2.2.2.2.2 (fun q => Y.1.heap.size ≤ q)) (entryFrame m args M.2.2.1) := by
    intro p e s m args below meth c s₁ B hml hP
    obtain ⟨⟨vs, hvs, rfl⟩, hW, hold, hsz, hrep⟩ := hP
    have hts0 := atoms_spec (ws := am_head M :: am_ws) B.pre
    have hF : am_Fm p s m vs.toArray meth c Y M.1.cls M.2.1 M.2.2.1 M.2.2.2.1 := ⟨B.exec, B.bytes, hml, findClass_of_methodNamed B.named, fun w hw => hts0 w (List.mem_cons_of_mem _ hw), B.notSynchronized, B.returns, hW, hold, hsz⟩
    have htab := am_tabOf B (hts0 _ List.mem_cons_self)
    obtain ⟨g1, g2, g3, g4⟩ := hsnd ad p e s m vs.toArray below meth c (vx_MQ below (am_Qc Y ad o) (am_XC Y ad o) vs.toArray s o.2.2.2.2.2.2.1 o.2.2.2.2.2.2.2 (fun q => Y.1.heap.size ≤ q)) hF htab (name_of_methodNamed B.named B.method).1 lo1 [] h 0 0 o hrun
    obtain ⟨e1, e2, e3⟩ := am_entry hvs hpad
    have hlo : am_Lo Y ad M.2.2.1 lo1 (lg_sl vs ++ List.replicate (M.2.2.1 - (lg_sl vs).length) Slot.unset).toArray := ⟨e2, lv_args 0 vs, lv_entry vs e1, fun i v hv hn => by
      obtain ⟨V, j1, j2⟩ := e3 0 i v hv hn
      rw [Nat.zero_add] at j2
      exact ⟨V, j1, j2⟩⟩
    rw [lg_entry_eq]
    refine g4 ad s.heap [] _ [] (am_HP_start hrep) hlo trivial (by show 0 + _ ≤ o.2.2.2.2.2.2.1; omega) (by show 0 + _ ≤ o.2.2.2.2.2.2.2; omega) ?_
    intro ad' H' locs' ls' S' hle hp' hlo' hs'
    obtain ⟨q0, q1, q2⟩ := g3
    have hx := hF.1
    have hb := hF.2.1
    have hr := hF.2.2.2.2.2.2.1
    have hlocks := hF.2.2.2.2.2.1
    have hz1 : 0 + o.2.2.2.2.2.2.1 = o.2.2.2.2.2.2.1 := Nat.zero_add _
    have hz2 : 0 + o.2.2.2.2.2.2.2 = o.2.2.2.2.2.2.2 := Nat.zero_add _
    refine ⟨fun hk => ?_, fun hk E hE => ⟨fun q ce pc' hce hcv hcl => ?_, am_Qc Y ad o, am_XC Y ad o, _, _, rfl, by omega, by omega, fun t h1 h2 h3 => ⟨hk, hE, ad', hle, am_HP_nil (am_HP_grow hp' h2 h3)⟩⟩⟩
    · rw [hz1, hz2]
      refine vx_ret ?_
      rcases (show o.1 = 0 ∨ o.1 = 1 by omega) with k | k
      · obtain ⟨k1, k2, k3⟩ := q0 k
        rw [k1] at hs'
        have e0 := am_St_nil hs'
        subst e0
        exact W.vret hx hb (hr.trans k3) (fun t' ht _ => ⟨ad', hle, by rw [ht]; exact am_HP_nil hp', Or.inl ⟨k, rfl⟩⟩) hp'.2.2.2.1 k2 hlocks
      · obtain ⟨k1, t, k2, k3, k4⟩ := q1 k
        rw [k1] at hs'
        obtain ⟨V, S2, rfl, j1, j2⟩ := am_St_cons hs'
        have e0 := am_St_nil j2
        subst e0
        obtain ⟨n1, n2⟩ := am_fit_ok k3 j1
        have hend : ∀ t' : State, t'.heap = H' → s.WarmedH t'.vm → am_Qc Y ad o vs.toArray s (.returned (some V)) t' := fun t' ht _ => ⟨ad', hle, by rw [ht]; exact am_HP_nil hp', Or.inr ⟨k, V, j1, rfl⟩⟩
        have hr2 : meth.sig.returnType = some t := hr.trans k2
        rcases k4 with ⟨z1, z2⟩ | ⟨z1, z2⟩ | ⟨z1, z2⟩ | ⟨z1, z2⟩ | ⟨z1, z2⟩
        · obtain ⟨x, rfl⟩ := am_tI_ok j1 z1
          exact W.zret hx hb hr2 n1 hend hp'.2.2.2.1 z2 hlocks
        · obtain ⟨x, rfl⟩ := am_tL_ok j1 z1
          have et : t = .long := by
            cases t <;> first | rfl | (exfalso; simp [fits] at n2)
          subst et
          exact W.lret hx hb hr2 hend hp'.2.2.2.1 z2 hlocks
        · obtain ⟨x, rfl⟩ := am_tF_ok j1 z1
          have et : t = .float := by
            cases t <;> first | rfl | (exfalso; simp [fits] at n2)
          subst et
          exact W.fret hx hb hr2 hend hp'.2.2.2.1 z2 hlocks
        · obtain ⟨x, rfl⟩ := am_tD_ok j1 z1
          have et : t = .double := by
            cases t <;> first | rfl | (exfalso; simp [fits] at n2)
          subst et
          exact W.dret hx hb hr2 hend hp'.2.2.2.1 z2 hlocks
        · obtain ⟨x, rfl⟩ := am_tR_ok j1 z1
          have et : (∃ n, t = .object n) ∨ ∃ t2, t = .array t2 := by
            cases t with
            | object n => exact Or.inl ⟨n, rfl⟩
            | array n => exact Or.inr ⟨n, rfl⟩
            | _ => exfalso; simp [fits] at n2
          exact W.aret hx hb hr2 et (Or.inr ⟨x, rfl⟩) hend hp'.2.2.2.1 z2 hlocks
    · exact vx_out (E := E) (fun x hx2 => by rw [q2 hk] at hx2; cases hx2) hlocks hce hcv hcl (fun t h1 h2 => ⟨hk, hE, ad', hle, by rw [h1]; exact am_HP_nil hp'⟩) hp'.2.2.2.1 (by omega) (by omega)
  cases htb : M.2.2.2.2.1 with
  | nil => exact am_ofW (cc := M.2.1) (maxL := M.2.2.1) (ret := M.2.2.2.1) (ws' := am_ws) hpl (by unfold am_head; rw [htb]) (fun p e s m args below meth c s₁ B hml hP => body p e s m args below meth c s₁ B hml hP)
  | cons x xs => exact am_ofWH (cc := M.2.1) (maxL := M.2.2.1) (ret := M.2.2.2.1) (ws' := am_ws) (hh := x :: xs) hpl (by unfold am_head; rw [htb]) (fun p e s m args below meth c s₁ B hml hP => body p e s m args below meth c s₁ B hml hP)

def am_all2 (P : am_M → am_P → Prop) : List am_M → List am_P → Prop
  | a :: as, b :: bs => P a b ∧ am_all2 P as bs
  | _, _ => True
theorem am_all2_cons {P : am_M → am_P → Prop} {a : am_M} {b : am_P} {as : List am_M} {bs : List am_P} (h : P a b) (h2 : am_all2 P as bs) : am_all2 P (a :: as) (b :: bs) := And.intro h h2
theorem am_all2_at {P : am_M → am_P → Prop} : ∀ {as : List am_M} {bs : List am_P} {i : Nat} {a : am_M} {b : am_P}, am_all2 P as bs → as[i]? = some a → bs[i]? = some b → P a b
  | [], _, _, _, _, _, h, _ => by cases h
  | _ :: _, [], _, _, _, _, _, h => by cases h
  | x :: as, y :: bs, 0, _, _, h, h1, h2 => by
    cases h1
    cases h2
    exact (show P x y ∧ am_all2 P as bs from h).1
  | x :: as, y :: bs, i + 1, _, _, h, h1, h2 => am_all2_at (as := as) (bs := bs) (i := i) (show P x y ∧ am_all2 P as bs from h).2 h1 h2
def am_Good (M : am_M) (c : am_P) : Prop := c = [] ∨ ((∃ b9, am_mck b9 M = true) ∧ c = am_comp am_db am_hc am_bl M ∧ plainFor M.1 = true)
theorem am_goodAll : am_all2 am_Good am_db am_codes := by
  show am_all2 am_Good [am_m0, am_m1, am_m2, am_m3, am_m4, am_m5, am_m6, am_m7, am_m8, am_m9, am_m10, am_m11, am_m12, am_m13, am_m14, am_m15, am_m16, am_m17, am_m18, am_m19, am_m20, am_m21, am_m22, am_m23, am_m24, am_m25, am_m26, am_m27, am_m28, am_m29, am_m30, am_m31, am_m32, am_m33, am_m34, am_m35, am_m36, am_m37, am_m38, am_m39, am_m40, am_m41, am_m42, am_m43, am_m44, am_m45, am_m46, am_m47, am_m48, am_m49, am_m50, am_m51, am_m52, am_m53, am_m54, am_m55, am_m56, am_m57, am_m58, am_m59, am_m60, am_m61, am_m62, am_m63, am_m64, am_m65, am_m66, am_m67, am_m68, am_m69, am_m70, am_m71, am_m72, am_m73, am_m74, am_m75, am_m76, am_m77, am_m78, am_m79, am_m80, am_m81, am_m82, am_m83, am_m84, am_m85, am_m86, am_m87, am_m88, am_m89, am_m90, am_m91, am_m92, am_m93, am_m94, am_m95, am_m96, am_m97, am_m98, am_m99, am_m100, am_m101, am_m102, am_m103, am_m104, am_m105, am_m106, am_m107, am_m108, am_m109, am_m110, am_m111, am_m112, am_m113, am_m114, am_m115, am_m116, am_m117, am_m118, am_m119, am_m120, am_m121, am_m122, am_m123, am_m124] [am_p0, am_p1, am_p2, am_p3, am_p4, am_p5, am_p6, am_p7, am_p8, am_p9, am_p10, am_p11, am_p12, am_p13, am_p14, am_p15, am_p16, am_p17, am_p18, am_p19, am_p20, am_p21, am_p22, am_p23, am_p24, am_p25, am_p26, am_p27, am_p28, am_p29, am_p30, am_p31, am_p32, am_p33, am_p34, am_p35, am_p36, am_p37, am_p38, am_p39, am_p40, am_p41, am_p42, am_p43, am_p44, am_p45, am_p46, [], am_p48, am_p49, am_p50, am_p51, am_p52, am_p53, am_p54, am_p55, am_p56, am_p57, am_p58, am_p59, am_p60, am_p61, am_p62, am_p63, am_p64, am_p65, am_p66, [], [], [], am_p70, am_p71, am_p72, am_p73, am_p74, am_p75, am_p76, am_p77, [], am_p79, am_p80, [], [], am_p83, am_p84, am_p85, am_p86, am_p87, am_p88, am_p89, am_p90, am_p91, am_p92, am_p93, am_p94, am_p95, [], am_p97, am_p98, am_p99, [], [], [], [], am_p104, am_p105, [], am_p107, am_p108, am_p109, am_p110, am_p111, am_p112, am_p113, am_p114, am_p115, am_p116, am_p117, am_p118, am_p119, am_p120, am_p121, am_p122, am_p123, am_p124]
  refine am_all2_cons (Or.inr ⟨⟨_, am_mk0⟩, am_cm0, by decide +kernel⟩) ?_
  refine am_all2_cons (Or.inr ⟨⟨_, am_mk1⟩, am_cm1, by decide +kernel⟩) ?_
  refine am_all2_cons (Or.inr ⟨⟨_, am_mk2⟩, am_cm2, by decide +kernel⟩) ?_
  refine am_all2_cons (Or.inr ⟨⟨_, am_mk3⟩, am_cm3, by decide +kernel⟩) ?_
  refine am_all2_cons (Or.inr ⟨⟨_, am_mk4⟩, am_cm4, by decide +kernel⟩) ?_
  refine am_all2_cons (Or.inr ⟨⟨_, am_mk5⟩, am_cm5, by decide +kernel⟩) ?_
  refine am_all2_cons (Or.inr ⟨⟨_, am_mk6⟩, am_cm6, by decide +kernel⟩) ?_
  refine am_all2_cons (Or.inr ⟨⟨_, am_mk7⟩, am_cm7, by decide +kernel⟩) ?_
  refine am_all2_cons (Or.inr ⟨⟨_, am_mk8⟩, am_cm8, by decide +kernel⟩) ?_
  refine am_all2_cons (Or.inr ⟨⟨_, am_mk9⟩, am_cm9, by decide +kernel⟩) ?_
  refine am_all2_cons (Or.inr ⟨⟨_, am_mk10⟩, am_cm10, by decide +kernel⟩) ?_
  refine am_all2_cons (Or.inr ⟨⟨_, am_mk11⟩, am_cm11, by decide +kernel⟩) ?_
  refine am_all2_cons (Or.inr ⟨⟨_, am_mk12⟩, am_cm12, by decide +kernel⟩) ?_
  refine am_all2_cons (Or.inr ⟨⟨_, am_mk13⟩, am_cm13, by decide +kernel⟩) ?_
  refine am_all2_cons (Or.inr ⟨⟨_, am_mk14⟩, am_cm14, by decide +kernel⟩) ?_
  refine am_all2_cons (Or.inr ⟨⟨_, am_mk15⟩, am_cm15, by decide +kernel⟩) ?_
  refine am_all2_cons (Or.inr ⟨⟨_, am_mk16⟩, am_cm16, by decide +kernel⟩) ?_
  refine am_all2_cons (Or.inr ⟨⟨_, am_mk17⟩, am_cm17, by decide +kernel⟩) ?_
  refine am_all2_cons (Or.inr ⟨⟨_, am_mk18⟩, am_cm18, by decide +kernel⟩) ?_
  refine am_all2_cons (Or.inr ⟨⟨_, am_mk19⟩, am_cm19, by decide +kernel⟩) ?_
  refine am_all2_cons (Or.inr ⟨⟨_, am_mk20⟩, am_cm20, by decide +kernel⟩) ?_
  refine am_all2_cons (Or.inr ⟨⟨_, am_mk21⟩, am_cm21, by decide +kernel⟩) ?_
  refine am_all2_cons (Or.inr ⟨⟨_, am_mk22⟩, am_cm22, by decide +kernel⟩) ?_
  refine am_all2_cons (Or.inr ⟨⟨_, am_mk23⟩, am_cm23, by decide +kernel⟩) ?_
  refine am_all2_cons (Or.inr ⟨⟨_, am_mk24⟩, am_cm24, by decide +kernel⟩) ?_
  refine am_all2_cons (Or.inr ⟨⟨_, am_mk25⟩, am_cm25, by decide +kernel⟩) ?_
  refine am_all2_cons (Or.inr ⟨⟨_, am_mk26⟩, am_cm26, by decide +kernel⟩) ?_
  refine am_all2_cons (Or.inr ⟨⟨_, am_mk27⟩, am_cm27, by decide +kernel⟩) ?_
  refine am_all2_cons (Or.inr ⟨⟨_, am_mk28⟩, am_cm28, by decide +kernel⟩) ?_
  refine am_all2_cons (Or.inr ⟨⟨_, am_mk29⟩, am_cm29, by decide +kernel⟩) ?_
  refine am_all2_cons (Or.inr ⟨⟨_, am_mk30⟩, am_cm30, by decide +kernel⟩) ?_
  refine am_all2_cons (Or.inr ⟨⟨_, am_mk31⟩, am_cm31, by decide +kernel⟩) ?_
  refine am_all2_cons (Or.inr ⟨⟨_, am_mk32⟩, am_cm32, by decide +kernel⟩) ?_
  refine am_all2_cons (Or.inr ⟨⟨_, am_mk33⟩, am_cm33, by decide +kernel⟩) ?_
  refine am_all2_cons (Or.inr ⟨⟨_, am_mk34⟩, am_cm34, by decide +kernel⟩) ?_
  refine am_all2_cons (Or.inr ⟨⟨_, am_mk35⟩, am_cm35, by decide +kernel⟩) ?_
  refine am_all2_cons (Or.inr ⟨⟨_, am_mk36⟩, am_cm36, by decide +kernel⟩) ?_
  refine am_all2_cons (Or.inr ⟨⟨_, am_mk37⟩, am_cm37, by decide +kernel⟩) ?_
  refine am_all2_cons (Or.inr ⟨⟨_, am_mk38⟩, am_cm38, by decide +kernel⟩) ?_
  refine am_all2_cons (Or.inr ⟨⟨_, am_mk39⟩, am_cm39, by decide +kernel⟩) ?_
  refine am_all2_cons (Or.inr ⟨⟨_, am_mk40⟩, am_cm40, by decide +kernel⟩) ?_
  refine am_all2_cons (Or.inr ⟨⟨_, am_mk41⟩, am_cm41, by decide +kernel⟩) ?_
  refine am_all2_cons (Or.inr ⟨⟨_, am_mk42⟩, am_cm42, by decide +kernel⟩) ?_
  refine am_all2_cons (Or.inr ⟨⟨_, am_mk43⟩, am_cm43, by decide +kernel⟩) ?_
  refine am_all2_cons (Or.inr ⟨⟨_, am_mk44⟩, am_cm44, by decide +kernel⟩) ?_
  refine am_all2_cons (Or.inr ⟨⟨_, am_mk45⟩, am_cm45, by decide +kernel⟩) ?_
  refine am_all2_cons (Or.inr ⟨⟨_, am_mk46⟩, am_cm46, by decide +kernel⟩) ?_
  refine am_all2_cons (Or.inl rfl) ?_
  refine am_all2_cons (Or.inr ⟨⟨_, am_mk48⟩, am_cm48, by decide +kernel⟩) ?_
  refine am_all2_cons (Or.inr ⟨⟨_, am_mk49⟩, am_cm49, by decide +kernel⟩) ?_
  refine am_all2_cons (Or.inr ⟨⟨_, am_mk50⟩, am_cm50, by decide +kernel⟩) ?_
  refine am_all2_cons (Or.inr ⟨⟨_, am_mk51⟩, am_cm51, by decide +kernel⟩) ?_
  refine am_all2_cons (Or.inr ⟨⟨_, am_mk52⟩, am_cm52, by decide +kernel⟩) ?_
  refine am_all2_cons (Or.inr ⟨⟨_, am_mk53⟩, am_cm53, by decide +kernel⟩) ?_
  refine am_all2_cons (Or.inr ⟨⟨_, am_mk54⟩, am_cm54, by decide +kernel⟩) ?_
  refine am_all2_cons (Or.inr ⟨⟨_, am_mk55⟩, am_cm55, by decide +kernel⟩) ?_
  refine am_all2_cons (Or.inr ⟨⟨_, am_mk56⟩, am_cm56, by decide +kernel⟩) ?_
  refine am_all2_cons (Or.inr ⟨⟨_, am_mk57⟩, am_cm57, by decide +kernel⟩) ?_
  refine am_all2_cons (Or.inr ⟨⟨_, am_mk58⟩, am_cm58, by decide +kernel⟩) ?_
  refine am_all2_cons (Or.inr ⟨⟨_, am_mk59⟩, am_cm59, by decide +kernel⟩) ?_
  refine am_all2_cons (Or.inr ⟨⟨_, am_mk60⟩, am_cm60, by decide +kernel⟩) ?_
  refine am_all2_cons (Or.inr ⟨⟨_, am_mk61⟩, am_cm61, by decide +kernel⟩) ?_
  refine am_all2_cons (Or.inr ⟨⟨_, am_mk62⟩, am_cm62, by decide +kernel⟩) ?_
  refine am_all2_cons (Or.inr ⟨⟨_, am_mk63⟩, am_cm63, by decide +kernel⟩) ?_
  refine am_all2_cons (Or.inr ⟨⟨_, am_mk64⟩, am_cm64, by decide +kernel⟩) ?_
  refine am_all2_cons (Or.inr ⟨⟨_, am_mk65⟩, am_cm65, by decide +kernel⟩) ?_
  refine am_all2_cons (Or.inr ⟨⟨_, am_mk66⟩, am_cm66, by decide +kernel⟩) ?_
  refine am_all2_cons (Or.inl rfl) ?_
  refine am_all2_cons (Or.inl rfl) ?_
  refine am_all2_cons (Or.inl rfl) ?_
  refine am_all2_cons (Or.inr ⟨⟨_, am_mk70⟩, am_cm70, by decide +kernel⟩) ?_
  refine am_all2_cons (Or.inr ⟨⟨_, am_mk71⟩, am_cm71, by decide +kernel⟩) ?_
  refine am_all2_cons (Or.inr ⟨⟨_, am_mk72⟩, am_cm72, by decide +kernel⟩) ?_
  refine am_all2_cons (Or.inr ⟨⟨_, am_mk73⟩, am_cm73, by decide +kernel⟩) ?_
  refine am_all2_cons (Or.inr ⟨⟨_, am_mk74⟩, am_cm74, by decide +kernel⟩) ?_
  refine am_all2_cons (Or.inr ⟨⟨_, am_mk75⟩, am_cm75, by decide +kernel⟩) ?_
  refine am_all2_cons (Or.inr ⟨⟨_, am_mk76⟩, am_cm76, by decide +kernel⟩) ?_
  refine am_all2_cons (Or.inr ⟨⟨_, am_mk77⟩, am_cm77, by decide +kernel⟩) ?_
  refine am_all2_cons (Or.inl rfl) ?_
  refine am_all2_cons (Or.inr ⟨⟨_, am_mk79⟩, am_cm79, by decide +kernel⟩) ?_
  refine am_all2_cons (Or.inr ⟨⟨_, am_mk80⟩, am_cm80, by decide +kernel⟩) ?_
  refine am_all2_cons (Or.inl rfl) ?_
  refine am_all2_cons (Or.inl rfl) ?_
  refine am_all2_cons (Or.inr ⟨⟨_, am_mk83⟩, am_cm83, by decide +kernel⟩) ?_
  refine am_all2_cons (Or.inr ⟨⟨_, am_mk84⟩, am_cm84, by decide +kernel⟩) ?_
  refine am_all2_cons (Or.inr ⟨⟨_, am_mk85⟩, am_cm85, by decide +kernel⟩) ?_
  refine am_all2_cons (Or.inr ⟨⟨_, am_mk86⟩, am_cm86, by decide +kernel⟩) ?_
  refine am_all2_cons (Or.inr ⟨⟨_, am_mk87⟩, am_cm87, by decide +kernel⟩) ?_
  refine am_all2_cons (Or.inr ⟨⟨_, am_mk88⟩, am_cm88, by decide +kernel⟩) ?_
  refine am_all2_cons (Or.inr ⟨⟨_, am_mk89⟩, am_cm89, by decide +kernel⟩) ?_
  refine am_all2_cons (Or.inr ⟨⟨_, am_mk90⟩, am_cm90, by decide +kernel⟩) ?_
  refine am_all2_cons (Or.inr ⟨⟨_, am_mk91⟩, am_cm91, by decide +kernel⟩) ?_
  refine am_all2_cons (Or.inr ⟨⟨_, am_mk92⟩, am_cm92, by decide +kernel⟩) ?_
  refine am_all2_cons (Or.inr ⟨⟨_, am_mk93⟩, am_cm93, by decide +kernel⟩) ?_
  refine am_all2_cons (Or.inr ⟨⟨_, am_mk94⟩, am_cm94, by decide +kernel⟩) ?_
  refine am_all2_cons (Or.inr ⟨⟨_, am_mk95⟩, am_cm95, by decide +kernel⟩) ?_
  refine am_all2_cons (Or.inl rfl) ?_
  refine am_all2_cons (Or.inr ⟨⟨_, am_mk97⟩, am_cm97, by decide +kernel⟩) ?_
  refine am_all2_cons (Or.inr ⟨⟨_, am_mk98⟩, am_cm98, by decide +kernel⟩) ?_
  refine am_all2_cons (Or.inr ⟨⟨_, am_mk99⟩, am_cm99, by decide +kernel⟩) ?_
  refine am_all2_cons (Or.inl rfl) ?_
  refine am_all2_cons (Or.inl rfl) ?_
  refine am_all2_cons (Or.inl rfl) ?_
  refine am_all2_cons (Or.inl rfl) ?_
  refine am_all2_cons (Or.inr ⟨⟨_, am_mk104⟩, am_cm104, by decide +kernel⟩) ?_
  refine am_all2_cons (Or.inr ⟨⟨_, am_mk105⟩, am_cm105, by decide +kernel⟩) ?_
  refine am_all2_cons (Or.inl rfl) ?_
  refine am_all2_cons (Or.inr ⟨⟨_, am_mk107⟩, am_cm107, by decide +kernel⟩) ?_
  refine am_all2_cons (Or.inr ⟨⟨_, am_mk108⟩, am_cm108, by decide +kernel⟩) ?_
  refine am_all2_cons (Or.inr ⟨⟨_, am_mk109⟩, am_cm109, by decide +kernel⟩) ?_
  refine am_all2_cons (Or.inr ⟨⟨_, am_mk110⟩, am_cm110, by decide +kernel⟩) ?_
  refine am_all2_cons (Or.inr ⟨⟨_, am_mk111⟩, am_cm111, by decide +kernel⟩) ?_
  refine am_all2_cons (Or.inr ⟨⟨_, am_mk112⟩, am_cm112, by decide +kernel⟩) ?_
  refine am_all2_cons (Or.inr ⟨⟨_, am_mk113⟩, am_cm113, by decide +kernel⟩) ?_
  refine am_all2_cons (Or.inr ⟨⟨_, am_mk114⟩, am_cm114, by decide +kernel⟩) ?_
  refine am_all2_cons (Or.inr ⟨⟨_, am_mk115⟩, am_cm115, by decide +kernel⟩) ?_
  refine am_all2_cons (Or.inr ⟨⟨_, am_mk116⟩, am_cm116, by decide +kernel⟩) ?_
  refine am_all2_cons (Or.inr ⟨⟨_, am_mk117⟩, am_cm117, by decide +kernel⟩) ?_
  refine am_all2_cons (Or.inr ⟨⟨_, am_mk118⟩, am_cm118, by decide +kernel⟩) ?_
  refine am_all2_cons (Or.inr ⟨⟨_, am_mk119⟩, am_cm119, by decide +kernel⟩) ?_
  refine am_all2_cons (Or.inr ⟨⟨_, am_mk120⟩, am_cm120, by decide +kernel⟩) ?_
  refine am_all2_cons (Or.inr ⟨⟨_, am_mk121⟩, am_cm121, by decide +kernel⟩) ?_
  refine am_all2_cons (Or.inr ⟨⟨_, am_mk122⟩, am_cm122, by decide +kernel⟩) ?_
  refine am_all2_cons (Or.inr ⟨⟨_, am_mk123⟩, am_cm123, by decide +kernel⟩) ?_
  refine am_all2_cons (Or.inr ⟨⟨_, am_mk124⟩, am_cm124, by decide +kernel⟩) ?_
  exact trivial
theorem am_dr_0 {α : Type} (l : List α) : am_dr l 0 = l := by rw [am_dr_eq, List.drop_zero]
theorem am_mck_0 {b9 : Bool} {M : am_M} (h : am_mck b9 M = true) : ∀ x, M.2.2.2.2.2[0]? = some x → x.1 = 0 := by
  simp only [am_mck, Bool.and_eq_true] at h
  intro x hx
  have h2 := h.2
  cases hM : M.2.2.2.2.2 with
  | nil => rw [hM] at hx; cases hx
  | cons y ys =>
    rw [hM] at hx h2
    cases hx
    exact Nat.eq_of_beq_eq_true h2
def am_A0 : am_A := ([], [], [])
noncomputable def am_none : Nat → am_G := fun _ _ _ _ _ _ => none
theorem am_kn0 (X : List Int) : am_kn am_A0 X := ⟨trivial, fun e he => (by cases he), fun e he => (by cases he)⟩
def am_bodC (b : Nat) (r : Option am_O) : Bool := match r with
  | some o => Nat.beq o.1 1 && (Nat.beq o.2.1.1 1 && (Nat.beq o.2.1.2.1 b && (List.isEmpty o.2.1.2.2 && (Nat.beq o.2.2.2.2.2.2.1 0 && Nat.beq o.2.2.2.2.2.2.2 0))))
  | none => false
theorem am_bodC_ok {b : Nat} {r : Option am_O} (h : am_bodC b r = true) : ∃ o, r = some o ∧ o.1 = 1 ∧ o.2.1 = (1, b, []) ∧ o.2.2.2.2.2.2.1 = 0 ∧ o.2.2.2.2.2.2.2 = 0 := by
  cases r with
  | none => cases h
  | some o =>
    simp only [am_bodC, Bool.and_eq_true] at h
    obtain ⟨a1, a2, a3, a4, a5, a6⟩ := h
    exact ⟨o, rfl, Nat.eq_of_beq_eq_true a1, Prod.ext (Nat.eq_of_beq_eq_true a2) (Prod.ext (Nat.eq_of_beq_eq_true a3) (List.isEmpty_iff.mp a4)), Nat.eq_of_beq_eq_true a5, Nat.eq_of_beq_eq_true a6⟩
def am_bodL (b : Nat) : List am_V := [(3, b, []), am_un0, am_un0, am_un0, am_un0, am_un0, am_un0]
theorem am_bodP (b : Nat) : am_pad am_un0 (am_lay [(3, b, [])]) am_m18.2.2.1 = some (am_bodL b) := by
  have e1 : am_lay [(3, b, [])] = [(3, b, []), am_un0] := by
    first
      | rfl
      | with_unfolding_all rfl
      | simp [am_lay, am_c2, am_if]
  have e2 : am_m18.2.2.1 = 7 := by
    first
      | rfl
      | with_unfolding_all rfl
  rw [e1, e2]
  unfold am_bodL
  first
    | rfl
    | with_unfolding_all rfl
    | simp [am_pad, am_ob, am_rep]
noncomputable def am_bodG : am_G := am_runP am_A0 am_none am_p18 400 am_p18
theorem am_bodT_1 : (List.range 100).all (fun k => [4607182418800017408, 4611686018427387904, 4613937818241073152, 4616189618054758400].all (fun n => am_bodC (am_bits (k : Int) n).toNat (am_bodG (am_bodL (am_bits (k : Int) n).toNat) [] am_h0 0 0))) = true := by decide +kernel
theorem am_bodT_2 : (List.range 101).all (fun k => [4607182418800017408, 4611686018427387904, 4613937818241073152, 4616189618054758400].all (fun n => am_bodC (am_bits ((k + 100 : Nat) : Int) n).toNat (am_bodG (am_bodL (am_bits ((k + 100 : Nat) : Int) n).toNat) [] am_h0 0 0))) = true := by decide +kernel
theorem am_bodT_ok {k n : Nat} (hk : k ≤ 200) (hn : am_d14 n = true) : am_bodC (am_bits (k : Int) n).toNat (am_bodG (am_bodL (am_bits (k : Int) n).toNat) [] am_h0 0 0) = true := by
  by_cases h : k < 100
  · exact List.all_eq_true.mp (List.all_eq_true.mp am_bodT_1 k (List.mem_range.mpr h)) n (am_d14_mem hn)
  · have h1 := List.all_eq_true.mp (List.all_eq_true.mp am_bodT_2 (k - 100) (List.mem_range.mpr (by omega))) n (am_d14_mem hn)
    rw [Nat.sub_add_cancel (by omega)] at h1
    exact h1
theorem am_rm_ok (d a b : Nat) : d + 21 ≤ (am_rm (d + 1) a b).frames ∧ 100 * d + 500 ≤ (am_rm (d + 1) a b).locals := by
  have e1 : (am_rm (d + 1) a b).frames = d + 1 + 20 := rfl
  have e2 : (am_rm (d + 1) a b).locals = 100 * (d + 1) + 400 := rfl
  rw [e1, e2]
  omega
theorem am_subNone (l : Launch) (Y : am_Y) (d : Nat) : am_SubOK l Y d am_none := fun mi M as lo1 h o _ _ hr => by cases hr
theorem am_bodOK {l : Launch} {Y : am_Y} (hG : am_Gl l Y) (d : Nat) : am_BodOK l Y (d + 1) am_m18 := by
  intro k n hk hn
  obtain ⟨o, hrun, e1, e2, e3, e4⟩ := am_bodC_ok (am_bodT_ok hk hn)
  refine ⟨o, e1, e2, e3, e4, am_callee9 (g := am_bodG) (by decide +kernel) (am_bodP _) hrun (by omega) (fun ad p e s m args below meth c Q hF htab hnm => ?_) []⟩
  have h2 := am_rm_ok d o.2.2.2.2.2.2.1 o.2.2.2.2.2.2.2
  have h3 := am_runOK (Q := Q) (ad0 := ad) (c0 := 0) (q0 := 0) (e := e) (below := below) hG hF (am_kn0 Y.2.2.1) htab hnm h2.1 h2.2 (am_subNone l Y d) (b9 := false) (fun q => by cases q) am_mk18 400 0 0 (am_mck_0 am_mk18)
  rw [am_dr_0, ← am_cm18] at h3
  exact h3
theorem am_subOK {l : Launch} {Y : am_Y} {A : am_A} (hG : am_Gl l Y) (hA : am_kn A Y.2.2.1) (F : Nat) : ∀ d : Nat, am_SubOK l Y (d + 1) (am_sub A F am_codes d)
  | 0 => fun mi M as lo1 h o _ _ hr => by cases hr
  | d + 1 => fun mi M as lo1 h o hM hpad hr ho ad => by
    have ih := am_subOK hG hA F d
    have hr2 : (match am_nth am_codes mi with
      | some c => am_runP A (am_sub A F am_codes d) c F c
      | none => fun _ _ _ _ _ => none) lo1 [] h 0 0 = some o := hr
    rw [am_nth_eq] at hr2
    cases hc : am_codes[mi]? with
    | none => rw [hc] at hr2; cases hr2
    | some c =>
      rw [hc] at hr2
      rcases am_all2_at am_goodAll hM hc with rfl | ⟨⟨b9, hck⟩, rfl, hpl⟩
      · cases F <;> cases hr2
      · refine am_callee9 (g := am_runP A (am_sub A F am_codes d) (am_comp am_db am_hc am_bl M) F (am_comp am_db am_hc am_bl M)) hpl hpad hr2 ho (fun ad p e s m args below meth c Q hF htab hnm => ?_) ad
        have h2 := am_rm_ok (d + 1) o.2.2.2.2.2.2.1 o.2.2.2.2.2.2.2
        have h3 := am_runOK (Q := Q) (ad0 := ad) (c0 := 0) (q0 := 0) (e := e) (below := below) hG hF hA htab hnm h2.1 h2.2 ih (b9 := b9) (fun _ => am_bodOK hG d) hck F 0 0 (am_mck_0 hck)
        rw [am_dr_0] at h3
        exact h3
