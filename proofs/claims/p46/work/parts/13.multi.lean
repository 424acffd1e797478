/-! ===== new int[3][30] ===== -/
section AMMUL
variable {p : Program} {l : Launch} {e : Env} {R : Room} {s : State} {m : MethodId} {args : Array Value} {below : List Frame} {meth : Method} {c : Code} {Q : State → Prop} {Y : am_Y} {A : am_A} {ad0 : List Nat} {nL c0 q0 : Nat} {code : ByteArray} {rt : Option FieldType}
variable {sub : Nat → am_G} {go : am_G} {jmp : Nat → am_G} {pc : Nat} {own : String}
theorem am_zeros {ad : List Nat} {cy : ClassId} {M : Nat} (hAr : ArrOfT Y.1 cy .int) (hNm : Y.1.vm.findClass "[I" = some cy) : am_cell Y ad { cls := cy, slots := Array.replicate M (.int 0), vm := .none } (100, am_rep M (0, 0, [])) := by
  refine ⟨rfl, Or.inr ⟨.int, Nat.le_refl _, rfl, hAr, hNm, by rw [am_rep_eq, List.length_replicate]; simp, fun j v hv => ?_⟩⟩
  rw [am_rep_eq] at hv
  have hj : j < M := by
    have := (List.getElem?_eq_some_iff.mp hv).1
    rw [List.length_replicate] at this
    exact this
  rw [List.getElem?_replicate, if_pos hj] at hv
  cases hv
  exact ⟨.int 0, by simp [hj], rfl⟩
theorem am_sMulti (hF : am_Fm p s m args meth c Y own code nL rt) (hO : am_AO Y) {idx : Nat} (h1 : Cond.classLink own idx "[[I" ∈ am_ws) (h2 : Cond.arrayClass .int ∈ am_ws) (hd : decode code pc = .ok (.multianewarray idx 2, 4)) (hgo : am_Snd p l e R s m args below meth c Q Y ad0 nL c0 q0 code rt go (pc + 4)) : am_Snd p l e R s m args below meth c Q Y ad0 nL c0 q0 code rt (am_oMulti A sub go jmp) pc := by
  intro lo stk h nc ns o ho
  obtain ⟨y, st1, rfl, ho1⟩ := am_lc_some ho
  obtain ⟨x, rest, rfl, ho2⟩ := am_lc_some ho1
  obtain ⟨hc, ho3⟩ := am_if_some ho2
  rw [am_and_t, am_and_t] at hc
  obtain ⟨hk2, hy, hx3⟩ := hc
  obtain ⟨hf, ho4⟩ := am_if_some ho3
  rw [am_and_t, am_and_t, am_and_t] at hf
  obtain ⟨hf0, hf1, hf2, hf3⟩ := hf
  obtain ⟨g1, g2, g3, g4⟩ := hgo _ _ _ _ _ o ho4
  refine ⟨by omega, by omega, g3, fun ad H locs ls S hp hlo hs r1 r2 hkt => ?_⟩
  obtain ⟨V, S1, rfl, k1, k2⟩ := am_St_cons hs
  obtain ⟨U, S', rfl, k3, k4⟩ := am_St_cons k2
  obtain ⟨e1, e2⟩ := am_R_k2 hk2 k3 k1
  have hy2 : y.2.1 = 30 := am_tag hy
  have hx2 : x.2.1 = 3 := am_tag hx3
  rw [hx2] at e1
  rw [hy2] at e2
  subst e1
  subst e2
  have hF' := hF
  obtain ⟨hx, hb, -, hown, hts, -, -, hW, -, hsz⟩ := hF
  have hover : am_AOA s := am_AOA_moved hW.alike hO.2.2.2
  intro T hT Xs
  obtain ⟨vm₁, cA, cy, -, fA, fC, hO1, hO2, X', step⟩ := Xs.multianewarray2F (ty := .int) hx hown (hts _ h1) (show (Cond.arrayOver (.array .int)).before args s = true from hover) (hts _ h2) (g := F0 m pc ls (.int (Int32.ofNat 30) :: .int (Int32.ofNat 3) :: S')) rfl (by rw [hb]; exact hd) rfl (by decide) (by decide) (by decide) (by decide) (by decide) rfl rfl (by show c0 + nc + (1 + 3) ≤ _; omega) (by show q0 + ns + (3 + 3 * 30) ≤ _; omega)
  rw [show (Int32.ofNat 3).toNatClampNeg = 3 from by decide, show (Int32.ofNat 30).toNatClampNeg = 30 from by decide] at X' step
  have hTh : (T.setVm vm₁).heap = H := hT
  have hfl := Jvm.Free.Multi.fill_facts (T.setVm vm₁) cA cy 3 30 (defaultValue .int) 3
  have hold := fun (q : Nat) (hq : q < H.size) => Jvm.Free.Multi.fill_old (T.setVm vm₁) cA cy 3 30 (defaultValue .int) (a := q) (by rw [hTh]; exact hq) 3
  have hin := fun (j : Nat) (hj : j < 3) => Jvm.Free.Multi.fill_inner (T.setVm vm₁) cA cy 3 30 (defaultValue .int) 3 j hj
  generalize Jvm.Free.Multi.fill (T.setVm vm₁) cA cy 3 30 (defaultValue .int) 3 = F at X' step hfl hold hin
  rw [hTh] at hfl hold hin
  obtain ⟨f1, f2, -, -⟩ := hfl
  have hArI : ArrOfT Y.1 cy .int := arrOfT_moved hW.alike.symm (fun N z => ⟨(fun k h => by cases h), (hO2 0 .null).1.2⟩)
  have hArA : ArrOfT Y.1 cA (.array .int) := arrOfT_moved hW.alike.symm (fun N z => ⟨(fun k h => by cases h), by
    obtain ⟨-, k9, hk9, cm9, hkk9⟩ := (hO1 0 0 0).1
    exact ⟨k9, hk9, cm9, hkk9⟩⟩)
  have hNm0 : Y.1.vm.findClass "[I" = some cy := by
    rw [← hW.alike.findClass]
    exact fC
  have hak : am_ak Y.1 cA 104 := by
    obtain ⟨comp, c9, kA, a1, -, a3, a4, a5⟩ := arrayOverA_spec hO.2.2.2
    have e1 : c9 = cA := by
      have e2 : Y.1.vm.findClass ("[" ++ (FieldType.array .int).toString) = some cA := by
        rw [← hW.alike.findClass]
        exact fA
      exact Option.some.inj (a5.symm.trans e2)
    subst e1
    have e3 : comp = cy := Option.some.inj (a1.symm.trans hNm0)
    subst e3
    obtain ⟨kI, g7, -⟩ := Vm.findClass_spec hNm0
    exact ⟨kA, comp, kI, a3, a4, hNm0, g7⟩
  have hb0 : ∀ a ∈ ad, a < H.size := fun a ha => (hp.1.2.2.1 a ha).2
  have hHs : s.heap.size ≤ H.size := hp.2.1
  have p0 := am_HP_grow hp (H' := F.heap) (by rw [f1]; omega) hold
  obtain ⟨p1, l1, i1⟩ := am_HP_adopt hsz p0 (c := (100, am_rep 30 (0, 0, []))) (a := H.size + 1 + 0) hf0 (fun q => by have := hb0 _ q; omega) (by omega) (am_zeros hArI hNm0) (hin 0 (by decide))
  obtain ⟨p2, l2, i2⟩ := am_HP_adopt hsz p1 (c := (100, am_rep 30 (0, 0, []))) (a := H.size + 1 + 1) hf1 (fun q => by
    rcases List.mem_append.mp q with q | q
    · have := hb0 _ q
      omega
    · have : H.size + 1 + 1 = H.size + 1 + 0 := by simpa using q
      omega) (by omega) (am_zeros hArI hNm0) (hin 1 (by decide))
  obtain ⟨p3, l3, i3⟩ := am_HP_adopt hsz p2 (c := (100, am_rep 30 (0, 0, []))) (a := H.size + 1 + 2) hf2 (fun q => by
    rcases List.mem_append.mp q with q | q
    · rcases List.mem_append.mp q with q | q
      · have := hb0 _ q
        omega
      · have : H.size + 1 + 2 = H.size + 1 + 0 := by simpa using q
        omega
    · have : H.size + 1 + 2 = H.size + 1 + 1 := by simpa using q
      omega) (by omega) (am_zeros hArI hNm0) (hin 2 (by decide))
  obtain ⟨p4, l4, i4⟩ := am_HP_adopt hsz p3 (c := (104, [(10, h.1, []), (10, (am_new h (100, am_rep 30 (0, 0, []))).1, []), (10, (am_new (am_new h (100, am_rep 30 (0, 0, []))) (100, am_rep 30 (0, 0, []))).1, [])])) (a := H.size) hf3 (fun q => by
    rcases List.mem_append.mp q with q | q
    · rcases List.mem_append.mp q with q | q
      · rcases List.mem_append.mp q with q | q
        · have := hb0 _ q
          omega
        · have : H.size = H.size + 1 + 0 := by simpa using q
          omega
      · have : H.size = H.size + 1 + 1 := by simpa using q
        omega
    · have : H.size = H.size + 1 + 2 := by simpa using q
      omega) (by omega) (C := Jvm.Free.Multi.outerC cA 3 H.size 3) (by
    rw [vr_outer]
    refine ⟨rfl, Or.inr ⟨.array .int, (show 100 ≤ 104 by decide), rfl, hArA, hak, by rw [arrV_size]; rfl, fun j v hv => ?_⟩⟩
    have hle1 : ∀ (k a : Nat), ((ad ++ [H.size + 1 + 0]) ++ [H.size + 1 + 1] ++ [H.size + 1 + 2])[k]? = some a → ((ad ++ [H.size + 1 + 0]) ++ [H.size + 1 + 1] ++ [H.size + 1 + 2] ++ [H.size])[k]? = some a := fun k a hk => by
      rw [List.getElem?_append_left (List.getElem?_eq_some_iff.mp hk).1]
      exact hk
    match j, hv with
    | 0, hv => cases hv; exact ⟨_, arrV_read _ _ (by decide), ⟨H.size + 1 + 0, hle1 _ _ (l3 _ _ (l2 _ _ i1)), rfl⟩⟩
    | 1, hv => cases hv; exact ⟨_, arrV_read _ _ (by decide), ⟨H.size + 1 + 1, hle1 _ _ (l3 _ _ i2), rfl⟩⟩
    | 2, hv => cases hv; exact ⟨_, arrV_read _ _ (by decide), ⟨H.size + 1 + 2, hle1 _ _ i3, rfl⟩⟩
    | n + 3, hv => simp at hv) f2
  have hl := am_le_tr l1 (am_le_tr l2 (am_le_tr l3 l4))
  have hW2 := g4 _ F.heap locs ls (.ref H.size :: S') p4 (am_Lo_le hl hlo) ⟨⟨H.size, i4, rfl⟩, am_St_le hl k4⟩ r1 r2 (am_Kont_le hkt hl)
  obtain ⟨t, a1, b1⟩ := hW2 F rfl X'
  refine ⟨t, step t ?_, b1⟩
  have e : T.heap.size = H.size := by rw [hT]
  rw [e]
  exact a1
end AMMUL
