/-! ===== callees are sound, at every depth (laid by wip/p46/gen32.py) ===== -/
def am_all2 (P : am_M → am_P → Prop) : List am_M → List am_P → Prop
  | a :: as, b :: bs => P a b ∧ am_all2 P as bs
  | _, _ => True
theorem am_all2_cons {P : am_M → am_P → Prop} {a : am_M} {b : am_P} {as : List am_M} {bs : List am_P} (h : P a b) (h2 : am_all2 P as bs) : am_all2 P (a :: as) (b :: bs) := And.intro h h2
theorem am_all2_at {P : am_M → am_P → Prop} : ∀ {as : List am_M} {bs : List am_P} {i : Nat} {a : am_M} {b : am_P}, am_all2 P as bs → as[i]? = some a → bs[i]? = some b → P a b
  | [], _, _, _, _, _, h, _ => by cases h
  | _ :: _, [], _, _, _, _, _, h => by cases h
  | x :: as, y :: bs, 0, _, _, h, h1, h2 => by
    cases h1
    cases h2
    exact (show P x y ∧ am_all2 P as bs from h).1
  | x :: as, y :: bs, i + 1, _, _, h, h1, h2 => am_all2_at (as := as) (bs := bs) (i := i) (show P x y ∧ am_all2 P as bs from h).2 h1 h2
def am_Good (M : am_M) (c : am_P) : Prop := c = [] ∨ ((∃ b9, am_mck b9 M = true) ∧ c = am_comp am_db am_hc am_bl M)
theorem am_goodAll : am_all2 am_Good am_db am_codes := by
  show am_all2 am_Good [am_m0, am_m1, am_m2, am_m3, am_m4, am_m5, am_m6, am_m7, am_m8, am_m9, am_m10, am_m11, am_m12, am_m13, am_m14, am_m15, am_m16, am_m17, am_m18, am_m19, am_m20, am_m21, am_m22, am_m23, am_m24, am_m25, am_m26, am_m27, am_m28, am_m29, am_m30, am_m31, am_m32, am_m33, am_m34, am_m35, am_m36, am_m37, am_m38, am_m39, am_m40, am_m41, am_m42, am_m43, am_m44, am_m45, am_m46, am_m47, am_m48, am_m49, am_m50, am_m51, am_m52, am_m53, am_m54, am_m55, am_m56, am_m57, am_m58, am_m59, am_m60, am_m61, am_m62, am_m63, am_m64, am_m65, am_m66, am_m67, am_m68, am_m69, am_m70, am_m71, am_m72, am_m73, am_m74, am_m75, am_m76, am_m77, am_m78, am_m79, am_m80, am_m81, am_m82, am_m83, am_m84, am_m85, am_m86, am_m87, am_m88, am_m89, am_m90, am_m91, am_m92, am_m93, am_m94, am_m95, am_m96, am_m97, am_m98, am_m99, am_m100, am_m101, am_m102, am_m103, am_m104, am_m105, am_m106, am_m107, am_m108, am_m109, am_m110, am_m111, am_m112, am_m113, am_m114, am_m115, am_m116, am_m117, am_m118, am_m119, am_m120, am_m121, am_m122, am_m123, am_m124] [am_p0, am_p1, am_p2, am_p3, am_p4, am_p5, am_p6, am_p7, am_p8, am_p9, am_p10, am_p11, am_p12, am_p13, am_p14, am_p15, am_p16, am_p17, am_p18, am_p19, am_p20, am_p21, am_p22, am_p23, am_p24, am_p25, am_p26, am_p27, am_p28, am_p29, am_p30, am_p31, am_p32, am_p33, am_p34, am_p35, am_p36, am_p37, am_p38, am_p39, am_p40, am_p41, am_p42, am_p43, [], [], [], [], am_p48, am_p49, am_p50, am_p51, am_p52, am_p53, am_p54, am_p55, am_p56, am_p57, am_p58, [], [], am_p61, am_p62, am_p63, [], [], [], [], [], [], [], [], am_p72, [], am_p74, am_p75, am_p76, am_p77, [], am_p79, [], [], [], am_p83, am_p84, [], [], am_p87, am_p88, am_p89, am_p90, am_p91, am_p92, am_p93, [], [], [], [], [], [], [], [], [], [], [], [], [], [], [], [], [], am_p111, am_p112, am_p113, am_p114, am_p115, am_p116, am_p117, am_p118, am_p119, am_p120, am_p121, am_p122, am_p123, am_p124]
  refine am_all2_cons (Or.inr ⟨⟨_, am_mk0⟩, am_cm0⟩) ?_
  refine am_all2_cons (Or.inr ⟨⟨_, am_mk1⟩, am_cm1⟩) ?_
  refine am_all2_cons (Or.inr ⟨⟨_, am_mk2⟩, am_cm2⟩) ?_
  refine am_all2_cons (Or.inr ⟨⟨_, am_mk3⟩, am_cm3⟩) ?_
  refine am_all2_cons (Or.inr ⟨⟨_, am_mk4⟩, am_cm4⟩) ?_
  refine am_all2_cons (Or.inr ⟨⟨_, am_mk5⟩, am_cm5⟩) ?_
  refine am_all2_cons (Or.inr ⟨⟨_, am_mk6⟩, am_cm6⟩) ?_
  refine am_all2_cons (Or.inr ⟨⟨_, am_mk7⟩, am_cm7⟩) ?_
  refine am_all2_cons (Or.inr ⟨⟨_, am_mk8⟩, am_cm8⟩) ?_
  refine am_all2_cons (Or.inr ⟨⟨_, am_mk9⟩, am_cm9⟩) ?_
  refine am_all2_cons (Or.inr ⟨⟨_, am_mk10⟩, am_cm10⟩) ?_
  refine am_all2_cons (Or.inr ⟨⟨_, am_mk11⟩, am_cm11⟩) ?_
  refine am_all2_cons (Or.inr ⟨⟨_, am_mk12⟩, am_cm12⟩) ?_
  refine am_all2_cons (Or.inr ⟨⟨_, am_mk13⟩, am_cm13⟩) ?_
  refine am_all2_cons (Or.inr ⟨⟨_, am_mk14⟩, am_cm14⟩) ?_
  refine am_all2_cons (Or.inr ⟨⟨_, am_mk15⟩, am_cm15⟩) ?_
  refine am_all2_cons (Or.inr ⟨⟨_, am_mk16⟩, am_cm16⟩) ?_
  refine am_all2_cons (Or.inr ⟨⟨_, am_mk17⟩, am_cm17⟩) ?_
  refine am_all2_cons (Or.inr ⟨⟨_, am_mk18⟩, am_cm18⟩) ?_
  refine am_all2_cons (Or.inr ⟨⟨_, am_mk19⟩, am_cm19⟩) ?_
  refine am_all2_cons (Or.inr ⟨⟨_, am_mk20⟩, am_cm20⟩) ?_
  refine am_all2_cons (Or.inr ⟨⟨_, am_mk21⟩, am_cm21⟩) ?_
  refine am_all2_cons (Or.inr ⟨⟨_, am_mk22⟩, am_cm22⟩) ?_
  refine am_all2_cons (Or.inr ⟨⟨_, am_mk23⟩, am_cm23⟩) ?_
  refine am_all2_cons (Or.inr ⟨⟨_, am_mk24⟩, am_cm24⟩) ?_
  refine am_all2_cons (Or.inr ⟨⟨_, am_mk25⟩, am_cm25⟩) ?_
  refine am_all2_cons (Or.inr ⟨⟨_, am_mk26⟩, am_cm26⟩) ?_
  refine am_all2_cons (Or.inr ⟨⟨_, am_mk27⟩, am_cm27⟩) ?_
  refine am_all2_cons (Or.inr ⟨⟨_, am_mk28⟩, am_cm28⟩) ?_
  refine am_all2_cons (Or.inr ⟨⟨_, am_mk29⟩, am_cm29⟩) ?_
  refine am_all2_cons (Or.inr ⟨⟨_, am_mk30⟩, am_cm30⟩) ?_
  refine am_all2_cons (Or.inr ⟨⟨_, am_mk31⟩, am_cm31⟩) ?_
  refine am_all2_cons (Or.inr ⟨⟨_, am_mk32⟩, am_cm32⟩) ?_
  refine am_all2_cons (Or.inr ⟨⟨_, am_mk33⟩, am_cm33⟩) ?_
  refine am_all2_cons (Or.inr ⟨⟨_, am_mk34⟩, am_cm34⟩) ?_
  refine am_all2_cons (Or.inr ⟨⟨_, am_mk35⟩, am_cm35⟩) ?_
  refine am_all2_cons (Or.inr ⟨⟨_, am_mk36⟩, am_cm36⟩) ?_
  refine am_all2_cons (Or.inr ⟨⟨_, am_mk37⟩, am_cm37⟩) ?_
  refine am_all2_cons (Or.inr ⟨⟨_, am_mk38⟩, am_cm38⟩) ?_
  refine am_all2_cons (Or.inr ⟨⟨_, am_mk39⟩, am_cm39⟩) ?_
  refine am_all2_cons (Or.inr ⟨⟨_, am_mk40⟩, am_cm40⟩) ?_
  refine am_all2_cons (Or.inr ⟨⟨_, am_mk41⟩, am_cm41⟩) ?_
  refine am_all2_cons (Or.inr ⟨⟨_, am_mk42⟩, am_cm42⟩) ?_
  refine am_all2_cons (Or.inr ⟨⟨_, am_mk43⟩, am_cm43⟩) ?_
  refine am_all2_cons (Or.inl rfl) ?_
  refine am_all2_cons (Or.inl rfl) ?_
  refine am_all2_cons (Or.inl rfl) ?_
  refine am_all2_cons (Or.inl rfl) ?_
  refine am_all2_cons (Or.inr ⟨⟨_, am_mk48⟩, am_cm48⟩) ?_
  refine am_all2_cons (Or.inr ⟨⟨_, am_mk49⟩, am_cm49⟩) ?_
  refine am_all2_cons (Or.inr ⟨⟨_, am_mk50⟩, am_cm50⟩) ?_
  refine am_all2_cons (Or.inr ⟨⟨_, am_mk51⟩, am_cm51⟩) ?_
  refine am_all2_cons (Or.inr ⟨⟨_, am_mk52⟩, am_cm52⟩) ?_
  refine am_all2_cons (Or.inr ⟨⟨_, am_mk53⟩, am_cm53⟩) ?_
  refine am_all2_cons (Or.inr ⟨⟨_, am_mk54⟩, am_cm54⟩) ?_
  refine am_all2_cons (Or.inr ⟨⟨_, am_mk55⟩, am_cm55⟩) ?_
  refine am_all2_cons (Or.inr ⟨⟨_, am_mk56⟩, am_cm56⟩) ?_
  refine am_all2_cons (Or.inr ⟨⟨_, am_mk57⟩, am_cm57⟩) ?_
  refine am_all2_cons (Or.inr ⟨⟨_, am_mk58⟩, am_cm58⟩) ?_
  refine am_all2_cons (Or.inl rfl) ?_
  refine am_all2_cons (Or.inl rfl) ?_
  refine am_all2_cons (Or.inr ⟨⟨_, am_mk61⟩, am_cm61⟩) ?_
  refine am_all2_cons (Or.inr ⟨⟨_, am_mk62⟩, am_cm62⟩) ?_
  refine am_all2_cons (Or.inr ⟨⟨_, am_mk63⟩, am_cm63⟩) ?_
  refine am_all2_cons (Or.inl rfl) ?_
  refine am_all2_cons (Or.inl rfl) ?_
  refine am_all2_cons (Or.inl rfl) ?_
  refine am_all2_cons (Or.inl rfl) ?_
  refine am_all2_cons (Or.inl rfl) ?_
  refine am_all2_cons (Or.inl rfl) ?_
  refine am_all2_cons (Or.inl rfl) ?_
  refine am_all2_cons (Or.inl rfl) ?_
  refine am_all2_cons (Or.inr ⟨⟨_, am_mk72⟩, am_cm72⟩) ?_
  refine am_all2_cons (Or.inl rfl) ?_
  refine am_all2_cons (Or.inr ⟨⟨_, am_mk74⟩, am_cm74⟩) ?_
  refine am_all2_cons (Or.inr ⟨⟨_, am_mk75⟩, am_cm75⟩) ?_
  refine am_all2_cons (Or.inr ⟨⟨_, am_mk76⟩, am_cm76⟩) ?_
  refine am_all2_cons (Or.inr ⟨⟨_, am_mk77⟩, am_cm77⟩) ?_
  refine am_all2_cons (Or.inl rfl) ?_
  refine am_all2_cons (Or.inr ⟨⟨_, am_mk79⟩, am_cm79⟩) ?_
  refine am_all2_cons (Or.inl rfl) ?_
  refine am_all2_cons (Or.inl rfl) ?_
  refine am_all2_cons (Or.inl rfl) ?_
  refine am_all2_cons (Or.inr ⟨⟨_, am_mk83⟩, am_cm83⟩) ?_
  refine am_all2_cons (Or.inr ⟨⟨_, am_mk84⟩, am_cm84⟩) ?_
  refine am_all2_cons (Or.inl rfl) ?_
  refine am_all2_cons (Or.inl rfl) ?_
  refine am_all2_cons (Or.inr ⟨⟨_, am_mk87⟩, am_cm87⟩) ?_
  refine am_all2_cons (Or.inr ⟨⟨_, am_mk88⟩, am_cm88⟩) ?_
  refine am_all2_cons (Or.inr ⟨⟨_, am_mk89⟩, am_cm89⟩) ?_
  refine am_all2_cons (Or.inr ⟨⟨_, am_mk90⟩, am_cm90⟩) ?_
  refine am_all2_cons (Or.inr ⟨⟨_, am_mk91⟩, am_cm91⟩) ?_
  refine am_all2_cons (Or.inr ⟨⟨_, am_mk92⟩, am_cm92⟩) ?_
  refine am_all2_cons (Or.inr ⟨⟨_, am_mk93⟩, am_cm93⟩) ?_
  refine am_all2_cons (Or.inl rfl) ?_
  refine am_all2_cons (Or.inl rfl) ?_
  refine am_all2_cons (Or.inl rfl) ?_
  refine am_all2_cons (Or.inl rfl) ?_
  refine am_all2_cons (Or.inl rfl) ?_
  refine am_all2_cons (Or.inl rfl) ?_
  refine am_all2_cons (Or.inl rfl) ?_
  refine am_all2_cons (Or.inl rfl) ?_
  refine am_all2_cons (Or.inl rfl) ?_
  refine am_all2_cons (Or.inl rfl) ?_
  refine am_all2_cons (Or.inl rfl) ?_
  refine am_all2_cons (Or.inl rfl) ?_
  refine am_all2_cons (Or.inl rfl) ?_
  refine am_all2_cons (Or.inl rfl) ?_
  refine am_all2_cons (Or.inl rfl) ?_
  refine am_all2_cons (Or.inl rfl) ?_
  refine am_all2_cons (Or.inl rfl) ?_
  refine am_all2_cons (Or.inr ⟨⟨_, am_mk111⟩, am_cm111⟩) ?_
  refine am_all2_cons (Or.inr ⟨⟨_, am_mk112⟩, am_cm112⟩) ?_
  refine am_all2_cons (Or.inr ⟨⟨_, am_mk113⟩, am_cm113⟩) ?_
  refine am_all2_cons (Or.inr ⟨⟨_, am_mk114⟩, am_cm114⟩) ?_
  refine am_all2_cons (Or.inr ⟨⟨_, am_mk115⟩, am_cm115⟩) ?_
  refine am_all2_cons (Or.inr ⟨⟨_, am_mk116⟩, am_cm116⟩) ?_
  refine am_all2_cons (Or.inr ⟨⟨_, am_mk117⟩, am_cm117⟩) ?_
  refine am_all2_cons (Or.inr ⟨⟨_, am_mk118⟩, am_cm118⟩) ?_
  refine am_all2_cons (Or.inr ⟨⟨_, am_mk119⟩, am_cm119⟩) ?_
  refine am_all2_cons (Or.inr ⟨⟨_, am_mk120⟩, am_cm120⟩) ?_
  refine am_all2_cons (Or.inr ⟨⟨_, am_mk121⟩, am_cm121⟩) ?_
  refine am_all2_cons (Or.inr ⟨⟨_, am_mk122⟩, am_cm122⟩) ?_
  refine am_all2_cons (Or.inr ⟨⟨_, am_mk123⟩, am_cm123⟩) ?_
  refine am_all2_cons (Or.inr ⟨⟨_, am_mk124⟩, am_cm124⟩) ?_
  exact trivial
theorem am_plain : am_db.all (fun M => plainName M.1.cls) = true := by decide +kernel
theorem am_dr_0 {α : Type} (l : List α) : am_dr l 0 = l := by rw [am_dr_eq, List.drop_zero]
theorem am_mck_0 {b9 : Bool} {M : am_M} (h : am_mck b9 M = true) : ∀ x, M.2.2.2.2.2[0]? = some x → x.1 = 0 := by
  simp only [am_mck, Bool.and_eq_true] at h
  intro x hx
  have h2 := h.2
  cases hM : M.2.2.2.2.2 with
  | nil => rw [hM] at hx; cases hx
  | cons y ys =>
    rw [hM] at hx h2
    cases hx
    exact Nat.eq_of_beq_eq_true h2
def am_A0 : am_A := ([], [], [])
noncomputable def am_none : Nat → am_G := fun _ _ _ _ _ _ => none
theorem am_kn0 (X : List Int) : am_kn am_A0 X := ⟨trivial, fun e he => (by cases he), fun e he => (by cases he)⟩
noncomputable def am_bodT (k n : Nat) : Bool := match am_pad am_un0 (am_lay [(3, (am_bits k n).toNat, [])]) am_m18.2.2.1 with
  | some lo1 => (match am_runP am_A0 am_none am_p18 400 am_p18 lo1 [] am_h0 0 0 with
    | some o => Nat.beq o.1 1 && (Nat.beq o.2.1.1 1 && (Nat.beq o.2.1.2.1 (am_bits k n).toNat && (List.isEmpty o.2.1.2.2 && (Nat.beq o.2.2.2.2.2.2.1 0 && Nat.beq o.2.2.2.2.2.2.2 0))))
    | none => false)
  | none => false
theorem am_bodT_1 : (List.range 100).all (fun k => [4607182418800017408, 4611686018427387904, 4613937818241073152, 4616189618054758400].all (fun n => am_bodT k n)) = true := by decide +kernel
theorem am_bodT_2 : (List.range 101).all (fun k => [4607182418800017408, 4611686018427387904, 4613937818241073152, 4616189618054758400].all (fun n => am_bodT (k + 100) n)) = true := by decide +kernel
theorem am_bodT_ok {k n : Nat} (hk : k ≤ 200) (hn : am_d14 n = true) : am_bodT k n = true := by
  by_cases h : k < 100
  · exact List.all_eq_true.mp (List.all_eq_true.mp am_bodT_1 k (List.mem_range.mpr h)) n (am_d14_mem hn)
  · have h1 := List.all_eq_true.mp (List.all_eq_true.mp am_bodT_2 (k - 100) (List.mem_range.mpr (by omega))) n (am_d14_mem hn)
    rw [Nat.sub_add_cancel (by omega)] at h1
    exact h1
theorem am_rm_ok (d a b : Nat) : d + 21 ≤ (am_rm (d + 1) a b).frames ∧ 100 * d + 500 ≤ (am_rm (d + 1) a b).locals := by
  have e1 : (am_rm (d + 1) a b).frames = d + 1 + 20 := rfl
  have e2 : (am_rm (d + 1) a b).locals = 100 * (d + 1) + 400 := rfl
  rw [e1, e2]
  omega
theorem am_subNone (l : Launch) (Y : am_Y) (d : Nat) : am_SubOK l Y d am_none := fun mi M as lo1 h o _ _ hr => by cases hr
theorem am_bodOK {l : Launch} {Y : am_Y} (hG : am_Gl l Y) (d : Nat) : am_BodOK l Y (d + 1) am_m18 := by
  intro k n hk hn
  have h1 := am_bodT_ok hk hn
  unfold am_bodT at h1
  split at h1
  · rename_i lo1 hpad
    split at h1
    · rename_i o hrun
      simp only [Bool.and_eq_true] at h1
      obtain ⟨a1, a2, a3, a4, a5, a6⟩ := h1
      have e1 := Nat.eq_of_beq_eq_true a1
      refine ⟨o, e1, ?_, Nat.eq_of_beq_eq_true a5, Nat.eq_of_beq_eq_true a6, am_callee (g := am_runP am_A0 am_none am_p18 400 am_p18) (List.all_eq_true.mp am_plain am_m18 (List.mem_of_getElem? (i := 18) rfl)) hpad hrun (by omega) (fun ad p e s m args below meth c Q hF htab hnm => ?_) []⟩
      · obtain ⟨x1, x2, x3⟩ := o.2.1
        exact Prod.ext (Nat.eq_of_beq_eq_true a2) (Prod.ext (Nat.eq_of_beq_eq_true a3) (List.isEmpty_iff.mp a4))
      · have h2 := am_rm_ok d o.2.2.2.2.2.2.1 o.2.2.2.2.2.2.2
        have h3 := am_runOK (Q := Q) (ad0 := ad) (c0 := 0) (q0 := 0) (e := e) (below := below) hG hF (am_kn0 Y.2.2.1) htab hnm h2.1 h2.2 (am_subNone l Y d) (b9 := false) (fun q => by cases q) am_mk18 400 0 0 (am_mck_0 am_mk18)
        rw [am_dr_0, ← am_cm18] at h3
        exact h3
    · cases h1
  · cases h1
theorem am_subOK {l : Launch} {Y : am_Y} {A : am_A} (hG : am_Gl l Y) (hA : am_kn A Y.2.2.1) (F : Nat) : ∀ d : Nat, am_SubOK l Y (d + 1) (am_sub A F am_codes d)
  | 0 => fun mi M as lo1 h o _ _ hr => by cases hr
  | d + 1 => fun mi M as lo1 h o hM hpad hr ho ad => by
    have ih := am_subOK hG hA F d
    have hr2 : (match am_nth am_codes mi with
      | some c => am_runP A (am_sub A F am_codes d) c F c
      | none => fun _ _ _ _ _ => none) lo1 [] h 0 0 = some o := hr
    rw [am_nth_eq] at hr2
    cases hc : am_codes[mi]? with
    | none => rw [hc] at hr2; cases hr2
    | some c =>
      rw [hc] at hr2
      rcases am_all2_at am_goodAll hM hc with rfl | ⟨⟨b9, hck⟩, rfl⟩
      · cases F <;> cases hr2
      · refine am_callee (g := am_runP A (am_sub A F am_codes d) (am_comp am_db am_hc am_bl M) F (am_comp am_db am_hc am_bl M)) (List.all_eq_true.mp am_plain M (List.mem_of_getElem? hM)) hpad hr2 ho (fun ad p e s m args below meth c Q hF htab hnm => ?_) ad
        have h2 := am_rm_ok (d + 1) o.2.2.2.2.2.2.1 o.2.2.2.2.2.2.2
        have h3 := am_runOK (Q := Q) (ad0 := ad) (c0 := 0) (q0 := 0) (e := e) (below := below) hG hF hA htab hnm h2.1 h2.2 ih (b9 := b9) (fun _ => am_bodOK hG d) hck F 0 0 (am_mck_0 hck)
        rw [am_dr_0] at h3
        exact h3
