/-! ===== the script's numbers: at and some, by what they come to ===== -/
/-- the script's number at k, 0 behind its end -/
def am_sv (L : Nat) (xs : Nat → Int32) (k : Int) : Int := if k < (L : Int) then (xs k.toNat).toInt else 0
def am_lkA : List (List Int × am_V) → List Int → Option am_V
  | [], _ => none
  | e :: es, f => bif am_feq f e.1 then some e.2 else am_lkA es f
def am_lkS : List (List Int × Nat × am_V) → List Int → Nat → Option am_V
  | [], _, _ => none
  | e :: es, f, n => bif am_feq f e.1 && Nat.beq e.2.1 n then some e.2.2 else am_lkS es f n
/-- at(s, k): the tables' value for the form of k -/
noncomputable def am_gAt (tb : List (List Int × am_V)) : am_G := fun lo stk h nc ns => am_lc lo (fun v1 t => am_lc t (fun v2 _ => am_if (Nat.beq v1.1 12) (am_ob (am_form v2) (fun f => am_ob (am_lkA tb f) (fun r => some (1, r, 13, lo, [r], h, 0, 0)))) none))
/-- some(v, n) -/
noncomputable def am_gSome (tb : List (List Int × Nat × am_V)) : am_G := fun lo stk h nc ns => am_lc lo (fun v1 t => am_lc t (fun v2 _ => am_if (Nat.beq v2.1 0) (am_ob (am_form v1) (fun f => am_ob (am_lkS tb f v2.2.1) (fun r => some (1, r, 15, lo, [r], h, 0, 0)))) none))
theorem am_lkA_ok {tb : List (List Int × am_V)} {f : List Int} {r : am_V} (h : am_lkA tb f = some r) : ∃ e ∈ tb, am_feq f e.1 = true ∧ e.2 = r := by
  induction tb with
  | nil => cases h
  | cons e es ih =>
    unfold am_lkA at h
    cases hq : am_feq f e.1 with
    | true => rw [hq] at h; cases h; exact ⟨e, List.mem_cons_self, hq, rfl⟩
    | false =>
      rw [hq] at h
      obtain ⟨e2, k1, k2⟩ := ih h
      exact ⟨e2, List.mem_cons_of_mem _ k1, k2⟩
theorem am_lkS_ok {tb : List (List Int × Nat × am_V)} {f : List Int} {n : Nat} {r : am_V} (h : am_lkS tb f n = some r) : ∃ e ∈ tb, am_feq f e.1 = true ∧ e.2.1 = n ∧ e.2.2 = r := by
  induction tb with
  | nil => cases h
  | cons e es ih =>
    unfold am_lkS at h
    cases hq : (am_feq f e.1 && Nat.beq e.2.1 n) with
    | true =>
      rw [hq] at h
      cases h
      rw [Bool.and_eq_true] at hq
      exact ⟨e, List.mem_cons_self, hq.1, Nat.eq_of_beq_eq_true hq.2, rfl⟩
    | false =>
      rw [hq] at h
      obtain ⟨e2, k1, k2⟩ := ih h
      exact ⟨e2, List.mem_cons_of_mem _ k1, k2⟩
theorem am_form_tI {v : am_V} {f : List Int} (h : am_form v = some f) : am_tI v = true := by
  unfold am_form at h
  unfold am_tI
  rw [am_or_t]
  cases h0 : Nat.beq v.1 0 with
  | true => exact Or.inl rfl
  | false =>
    rw [h0] at h
    cases h6 : Nat.beq v.1 6 with
    | true => exact Or.inr rfl
    | false => rw [h6] at h; cases h
theorem am_d_at0 : decode method_2_code 0 = .ok (.iload_n 1, 1) := by decide +kernel
theorem am_d_at1 : decode method_2_code 1 = .ok (.aload_n 0, 1) := by decide +kernel
theorem am_d_at2 : decode method_2_code 2 = .ok (.arraylength, 1) := by decide +kernel
theorem am_d_at3 : decode method_2_code 3 = .ok (.if_icmp .ge 9, 3) := by decide +kernel
theorem am_d_at6 : decode method_2_code 6 = .ok (.aload_n 0, 1) := by decide +kernel
theorem am_d_at7 : decode method_2_code 7 = .ok (.iload_n 1, 1) := by decide +kernel
theorem am_d_at8 : decode method_2_code 8 = .ok (.iaload, 1) := by decide +kernel
theorem am_d_at9 : decode method_2_code 9 = .ok (.goto 4, 3) := by decide +kernel
theorem am_d_at12 : decode method_2_code 12 = .ok (.iconst 0, 1) := by decide +kernel
theorem am_d_at13 : decode method_2_code 13 = .ok (.ireturn, 1) := by decide +kernel
theorem am_d_so0 : decode method_3_code 0 = .ok (.iload_n 0, 1) := by decide +kernel
theorem am_d_so1 : decode method_3_code 1 = .ok (.iload_n 1, 1) := by decide +kernel
theorem am_d_so2 : decode method_3_code 2 = .ok (.irem, 1) := by decide +kernel
theorem am_d_so3 : decode method_3_code 3 = .ok (.istore_n 2, 1) := by decide +kernel
theorem am_d_so4 : decode method_3_code 4 = .ok (.iload_n 2, 1) := by decide +kernel
theorem am_d_so5 : decode method_3_code 5 = .ok (.ifCond .ge 9, 3) := by decide +kernel
theorem am_d_so8 : decode method_3_code 8 = .ok (.iload_n 2, 1) := by decide +kernel
theorem am_d_so9 : decode method_3_code 9 = .ok (.iload_n 1, 1) := by decide +kernel
theorem am_d_so10 : decode method_3_code 10 = .ok (.iadd, 1) := by decide +kernel
theorem am_d_so11 : decode method_3_code 11 = .ok (.goto 4, 3) := by decide +kernel
theorem am_d_so14 : decode method_3_code 14 = .ok (.iload_n 2, 1) := by decide +kernel
theorem am_d_so15 : decode method_3_code 15 = .ok (.ireturn, 1) := by decide +kernel
theorem am_Lo_ld {Y : am_Y} {ad : List Nat} {nL i : Nat} {lo : List am_V} {ls : Array Slot} {v : am_V} (h : am_Lo Y ad nL lo ls) (hv : lo[i]? = some v) (hn : v.1 ≠ 98) : ∃ V, am_V1 Y ad v V ∧ ls[i]? = some (.val V) := by
  obtain ⟨h1, lv, h2, h3⟩ := h
  obtain ⟨V, k1, k2⟩ := h3 i v hv hn
  exact ⟨V, k1, h2.2.2 _ k2⟩
theorem am_Lo_has {Y : am_Y} {ad : List Nat} {nL : Nat} {lo : List am_V} {ls : Array Slot} (h : am_Lo Y ad nL lo ls) : ls.size = nL ∧ lv_wf ls := by
  obtain ⟨h1, lv, h2, h3⟩ := h
  exact ⟨h2.1, h2.2.1⟩
/-- the script stands in every frame of the law -/
def am_Sc (Y : am_Y) (L : Nat) (xs : Nat → Int32) : Prop := va_X Y.2.2.2 L xs Y.1 Y.1.heap ∧ Y.2.2.2 < Y.1.heap.size ∧ L < 2147483648
theorem am_tail_range {z n : Int} (hn : 0 < n) (hz1 : -2147483648 ≤ z) (hz2 : z < 2147483648) : -2147483648 ≤ z.tdiv n ∧ z.tdiv n < 2147483648 ∧ -2147483648 ≤ z.tdiv n * n ∧ z.tdiv n * n < 2147483648 ∧ (0 ≤ z → z - z.tdiv n * n = z % n) ∧ (z < 0 → (z - z.tdiv n * n ≤ 0 ∧ (z - z.tdiv n * n < 0 → z - z.tdiv n * n + n = z % n) ∧ (z - z.tdiv n * n = 0 → z % n = 0))) ∧ -n < z - z.tdiv n * n ∧ z - z.tdiv n * n < n := by
  rcases (show z < 0 ∨ 0 ≤ z by omega) with h | h
  · have e : z.tdiv n = -((-z) / n) := by
      rw [← Int.tdiv_eq_ediv_of_nonneg (by omega : 0 ≤ -z), Int.neg_tdiv]
      omega
    have e2 := Int.emod_add_mul_ediv (-z) n
    have e3 := Int.emod_nonneg (-z) (by omega : n ≠ 0)
    have e4 := Int.emod_lt_of_pos (-z) hn
    have e5 : 0 ≤ (-z) / n := Int.ediv_nonneg (by omega) (by omega)
    have e6 : (-z) / n ≤ -z := Int.ediv_le_self n (by omega)
    rw [e]
    have e7 : -((-z) / n) * n = -(n * ((-z) / n)) := by rw [Int.neg_mul, Int.mul_comm]
    rw [e7]
    have e9 : 0 ≤ n * ((-z) / n) := Int.mul_nonneg (by omega) e5
    refine ⟨by omega, by omega, by omega, by omega, fun q => by omega, fun _ => ⟨by omega, fun q => ?_, fun q => ?_⟩, by omega, by omega⟩
    · have e8 : z = (n - (-z) % n) + n * (-((-z) / n) - 1) := by
        rw [Int.mul_sub, Int.mul_neg]
        omega
      have e10 : ((n - (-z) % n) + n * (-((-z) / n) - 1)) % n = n - (-z) % n := by
        rw [Int.add_mul_emod_self_left]
        exact Int.emod_eq_of_lt (by omega) (by omega)
      have e11 : z % n = n - (-z) % n := (congrArg (· % n) e8).trans e10
      omega
    · have e8 : z = 0 + n * (-((-z) / n)) := by
        rw [Int.mul_neg]
        omega
      have e10 : (0 + n * (-((-z) / n))) % n = 0 := by
        rw [Int.add_mul_emod_self_left]
        exact Int.emod_eq_of_lt (by omega) (by omega)
      exact (congrArg (· % n) e8).trans e10
  · have e : z.tdiv n = z / n := Int.tdiv_eq_ediv_of_nonneg h
    have e2 := Int.emod_add_mul_ediv z n
    have e3 := Int.emod_nonneg z (by omega : n ≠ 0)
    have e4 := Int.emod_lt_of_pos z hn
    have e5 : 0 ≤ z / n := Int.ediv_nonneg h (by omega)
    have e6 : z / n ≤ z := Int.ediv_le_self n h
    rw [e]
    have e7 : z / n * n = n * (z / n) := Int.mul_comm _ _
    rw [e7]
    have e9 : 0 ≤ n * (z / n) := Int.mul_nonneg (by omega) e5
    refine ⟨by omega, by omega, by omega, by omega, fun q => by omega, fun q => by omega, by omega, by omega⟩
theorem am_i_tdiv {a d : Int} (h1 : -2147483648 ≤ a) (h2 : a < 2147483648) (h3 : 0 < d) (h4 : d < 2147483648) : am_i a / am_i d = am_i (a.tdiv d) := by
  refine am_i_ext ?_
  rw [Int32.toInt_div, am_i_in h1 h2, am_i_in (by omega) h4]
section AMDR
variable {l : Launch} {Y : am_Y} {d L : Nat} {xs : Nat → Int32}
theorem am_ieq (z : Int) : ∀ {n : Nat}, z = (n : Int) → am_i z = Int32.ofNat n := fun h => by rw [h]; exact (am_i_nat _).symm
theorem am_atOK (hSc : am_Sc Y L xs) {tb : List (List Int × am_V)} (htb : ∀ e ∈ tb, ∃ fr, am_form e.2 = some fr ∧ 0 ≤ am_ev Y.2.2.1 e.1 ∧ am_ev Y.2.2.1 e.1 < 2147483648 ∧ am_ev Y.2.2.1 fr = am_sv L xs (am_ev Y.2.2.1 e.1)) (M : am_M) (as lo1 : List am_V) (h : am_H) (o : am_O) (hM : am_db[114]? = some M) (hpad : am_pad am_un0 (am_lay as) M.2.2.1 = some lo1) (hr : am_gAt tb lo1 [] h 0 0 = some o) (ad : List Nat) :
    vx_Met l M.1 (am_head M :: am_ws) (am_rm d o.2.2.2.2.2.2.1 o.2.2.2.2.2.2.2) (am_Pc Y ad as h) (am_Qc Y ad o) (am_XC Y ad o) o.2.2.2.2.2.2.1 o.2.2.2.2.2.2.2 (fun q => Y.1.heap.size ≤ q) := by
  have eM : am_m114 = M := Option.some.inj hM
  subst eM
  obtain ⟨v1, t, rfl, hr⟩ := am_lc_some hr
  obtain ⟨v2, t2, rfl, hr⟩ := am_lc_some hr
  obtain ⟨h12, hr⟩ := am_if_some hr
  obtain ⟨f, hf, hr⟩ := am_ob_some hr
  obtain ⟨r, hlk, hr⟩ := am_ob_some hr
  cases hr
  obtain ⟨en, hen, hfe, rfl⟩ := am_lkA_ok hlk
  obtain ⟨fr, q1, q2, q3, q4⟩ := htb en hen
  have efe := am_ev_eq Y.2.2.1 _ _ hfe
  refine am_calleeQ (M := am_m114) (d := d) (t := .int) (r := en.2) (by decide +kernel) hpad rfl (am_form_tI q1) (am_form_tI q1) am_d_at13 (fun ad p e s m args below meth c Q ls hF htab hnm hlo hk => ?_) ad
  have h12 := am_tag h12
  obtain ⟨V1, a1, a2⟩ := am_Lo_ld (i := 0) hlo rfl (by rw [h12]; decide)
  obtain ⟨V2, b1, b2⟩ := am_Lo_ld (i := 1) hlo rfl (by
    intro e
    have := am_form_tI hf
    unfold am_tI at this
    rw [e] at this
    cases this)
  have e1 : V1 = .ref Y.2.2.2 := by
    obtain ⟨t9, n9, f9⟩ := v1
    dsimp only at h12
    subst h12
    exact a1
  have e2 : V2 = .int (am_i (am_ev Y.2.2.1 f)) := am_R_int b1 hf
  subst e1
  subst e2
  rw [efe] at b2
  obtain ⟨hx, hb, hml, hown, hts, hlocks, hret, hW, hold, hsz⟩ := hF
  obtain ⟨hX, hb9, hL⟩ := hSc
  have hX2 : va_X Y.2.2.2 L xs s s.heap := (hX.moved hW.alike).kept (hold _ hb9)
  have hS : va_S (fun _ => False) s.heap s.heap [] := va_S.rf
  have hb2 : Y.2.2.2 < s.heap.size := Nat.lt_of_lt_of_le hb9 hsz
  have hHP : am_HP Y s [] [] am_h0 s.heap [] := am_HP_start (am_Rep_0 Y s.heap)
  have hend : ∀ z : Int, am_sv L xs (am_ev Y.2.2.1 en.1) = z → W p l e (am_rm d 0 0) s m args below meth c s.heap [] 0 0 Q (F0 m 13 ls [.int (am_i z)]) := fun z hz => by
    refine hk [] am_h0 s.heap [] ls _ hHP ?_
    rw [← hz, ← q4]
    exact am_R_form q1
  refine lv_iload_n hx hb am_d_at0 rfl b2 ?_
  refine lv_aload_n hx hb am_d_at1 rfl a2 ?_
  refine va_slen hx hb hX2 hb2 (fun q => q) hS am_d_at2 ?_
  refine lv_icmp_ge hx hb am_d_at3 (tgt := 12) rfl (fun hle => ?_) (fun hle => ?_)
  · refine lv_iconst hx hb am_d_at12 rfl ?_
    refine hend 0 ?_
    have h9 : (L : Int) ≤ am_ev Y.2.2.1 en.1 := by
      rw [am_i_nat, Int32.le_iff_toInt_le, am_i_in (by omega) (by omega), am_i_in (by omega) q3] at hle
      exact hle
    unfold am_sv
    rw [if_neg (by omega)]
  · have h9 : am_ev Y.2.2.1 en.1 < (L : Int) := by
      rw [am_i_nat, Int32.le_iff_toInt_le, am_i_in (by omega) (by omega), am_i_in (by omega) q3] at hle
      omega
    refine lv_aload_n hx hb am_d_at6 rfl a2 ?_
    refine lv_iload_n hx hb am_d_at7 rfl b2 ?_
    have hcl : (am_i (am_ev Y.2.2.1 en.1)).toNatClampNeg = (am_ev Y.2.2.1 en.1).toNat := by
      show (am_i (am_ev Y.2.2.1 en.1)).toInt.toNat = _
      rw [am_i_in (by omega) q3]
    refine va_sld hx hb hX2 hb2 (fun q => q) hS (i := am_i (am_ev Y.2.2.1 en.1)) ?_ am_d_at8 ?_
    · rintro (q | q)
      · rw [Int32.lt_iff_toInt_lt, am_i_in (by omega) q3] at q
        have : (0 : Int32).toInt = 0 := rfl
        omega
      · rw [hcl] at q
        omega
    · refine lv_goto hx hb am_d_at9 (tgt := 13) rfl ?_
      rw [hcl]
      have h8 := hend (xs (am_ev Y.2.2.1 en.1).toNat).toInt (by unfold am_sv; rw [if_pos h9])
      have h7 : am_i (xs (am_ev Y.2.2.1 en.1).toNat).toInt = xs (am_ev Y.2.2.1 en.1).toNat := Int32.ofInt_toInt _
      rw [h7] at h8
      exact h8
theorem am_someOK {tb : List (List Int × Nat × am_V)} (htb : ∀ e ∈ tb, ∃ fr, am_form e.2.2 = some fr ∧ 0 < e.2.1 ∧ e.2.1 < 2147483648 ∧ -2147483648 ≤ am_ev Y.2.2.1 e.1 ∧ am_ev Y.2.2.1 e.1 < 2147483648 ∧ am_ev Y.2.2.1 fr = am_ev Y.2.2.1 e.1 % (e.2.1 : Int)) (M : am_M) (as lo1 : List am_V) (h : am_H) (o : am_O) (hM : am_db[115]? = some M) (hpad : am_pad am_un0 (am_lay as) M.2.2.1 = some lo1) (hr : am_gSome tb lo1 [] h 0 0 = some o) (ad : List Nat) :
    vx_Met l M.1 (am_head M :: am_ws) (am_rm d o.2.2.2.2.2.2.1 o.2.2.2.2.2.2.2) (am_Pc Y ad as h) (am_Qc Y ad o) (am_XC Y ad o) o.2.2.2.2.2.2.1 o.2.2.2.2.2.2.2 (fun q => Y.1.heap.size ≤ q) := by
  have eM : am_m115 = M := Option.some.inj hM
  subst eM
  obtain ⟨v1, t, rfl, hr⟩ := am_lc_some hr
  obtain ⟨v2, t2, rfl, hr⟩ := am_lc_some hr
  obtain ⟨h2, hr⟩ := am_if_some hr
  obtain ⟨f, hf, hr⟩ := am_ob_some hr
  obtain ⟨r, hlk, hr⟩ := am_ob_some hr
  cases hr
  obtain ⟨en, hen, hfe, hn, rfl⟩ := am_lkS_ok hlk
  obtain ⟨fr, q1, n1, n2, q2, q3, q4⟩ := htb en hen
  have efe := am_ev_eq Y.2.2.1 _ _ hfe
  refine am_calleeQ (M := am_m115) (d := d) (t := .int) (r := en.2.2) (by decide +kernel) hpad rfl (am_form_tI q1) (am_form_tI q1) am_d_so15 (fun ad p e s m args below meth c Q ls hF htab hnm hlo hk => ?_) ad
  have h2 := am_tag h2
  have hF9 := hF
  obtain ⟨hx, hb, hml, hown, hts, hlocks, hret, hW, hold, hsz⟩ := hF
  obtain ⟨V1, a1, a2⟩ := am_Lo_ld (i := 0) hlo rfl (by
    intro e
    have := am_form_tI hf
    unfold am_tI at this
    rw [e] at this
    cases this)
  obtain ⟨V2, b1, b2⟩ := am_Lo_ld (i := 1) hlo rfl (by rw [h2]; decide)
  have e1 : V1 = .int (am_i (am_ev Y.2.2.1 f)) := am_R_int a1 hf
  have e2 : V2 = .int (am_i (en.2.1 : Int)) := by
    obtain ⟨t9, n9, f9⟩ := v2
    dsimp only at h2 hn
    subst h2
    rw [hn, ← am_i_nat]
    exact b1
  subst e1
  subst e2
  rw [efe] at a2
  have hHP : am_HP Y s [] [] am_h0 s.heap [] := am_HP_start (am_Rep_0 Y s.heap)
  have hend : ∀ (z : Int) (ls' : Array Slot), am_ev Y.2.2.1 en.1 % (en.2.1 : Int) = z → W p l e (am_rm d 0 0) s m args below meth c s.heap [] 0 0 Q (F0 m 15 ls' [.int (am_i z)]) := fun z ls' hz => by
    refine hk [] am_h0 s.heap [] ls' _ hHP ?_
    rw [← hz, ← q4]
    exact am_R_form q1
  obtain ⟨w1, w2, w3, w4, w5, w6, w7, w8⟩ := am_tail_range (n := (en.2.1 : Int)) (by omega) q2 q3
  have hrem : am_i (am_ev Y.2.2.1 en.1) - am_i (am_ev Y.2.2.1 en.1) / am_i (en.2.1 : Int) * am_i (en.2.1 : Int) = am_i (am_ev Y.2.2.1 en.1 - (am_ev Y.2.2.1 en.1).tdiv (en.2.1 : Int) * (en.2.1 : Int)) := by
    rw [am_i_tdiv q2 q3 (by omega) (by omega), am_i_mul, am_i_sub]
  obtain ⟨z1, z2⟩ := am_Lo_has hlo
  have hlv : lv_has ls 3 [(1, .int (am_i (en.2.1 : Int)))] := ⟨z1, z2, fun q hq => by cases List.mem_singleton.mp hq; exact b2⟩
  refine lv_iload_n hx hb am_d_so0 rfl a2 ?_
  refine lv_iload_n hx hb am_d_so1 rfl b2 ?_
  refine lv_irem hx hb am_d_so2 (fun q => ?_) ?_
  · have q9 : am_i (en.2.1 : Int) = am_i 0 := q
    rw [am_i_eq (by omega) (by omega) (by omega) (by omega)] at q9
    omega
  rw [hrem]
  generalize hz : am_ev Y.2.2.1 en.1 - (am_ev Y.2.2.1 en.1).tdiv (en.2.1 : Int) * (en.2.1 : Int) = z at w5 w6 w7 w8 ⊢
  refine lv_istore_n hx hb am_d_so3 (i := 2) rfl hlv (by decide) rfl (fun ls' hls' => ?_)
  have c2 : ls'[2]? = some (.val (.int (am_i z))) := hls'.2.2 (2, .int (am_i z)) List.mem_cons_self
  have c1 : ls'[1]? = some (.val (.int (am_i (en.2.1 : Int)))) := hls'.2.2 (1, .int (am_i (en.2.1 : Int))) (List.mem_cons_of_mem _ (List.mem_filter.mpr ⟨List.mem_singleton.mpr rfl, rfl⟩))
  refine lv_iload_n hx hb am_d_so4 rfl c2 ?_
  refine lv_if_ge hx hb am_d_so5 (tgt := 14) rfl (fun h0 => ?_) (fun h0 => ?_)
  · have h9 : 0 ≤ z := by
      rw [Int32.le_iff_toInt_le, am_i_in (by omega) (by omega)] at h0
      have : (0 : Int32).toInt = 0 := rfl
      omega
    refine lv_iload_n hx hb am_d_so14 rfl c2 ?_
    refine hend z ls' ?_
    rcases (show am_ev Y.2.2.1 en.1 < 0 ∨ 0 ≤ am_ev Y.2.2.1 en.1 by omega) with h8 | h8
    · obtain ⟨y1, y2, y3⟩ := w6 h8
      rw [y3 (by omega)]
      omega
    · exact (w5 h8).symm
  · have h9 : z < 0 := by
      rw [Int32.le_iff_toInt_le, am_i_in (by omega) (by omega)] at h0
      have : (0 : Int32).toInt = 0 := rfl
      omega
    refine lv_iload_n hx hb am_d_so8 rfl c2 ?_
    refine lv_iload_n hx hb am_d_so9 rfl c1 ?_
    refine lv_iadd hx hb am_d_so10 ?_
    refine lv_goto hx hb am_d_so11 (tgt := 15) rfl ?_
    rw [am_i_add]
    refine hend (z + (en.2.1 : Int)) ls' ?_
    rcases (show am_ev Y.2.2.1 en.1 < 0 ∨ 0 ≤ am_ev Y.2.2.1 en.1 by omega) with h8 | h8
    · obtain ⟨y1, y2, y3⟩ := w6 h8
      exact (y2 h9).symm
    · have := w5 h8
      have h7 := Int.emod_nonneg (am_ev Y.2.2.1 en.1) (show (en.2.1 : Int) ≠ 0 by omega)
      omega
end AMDR
