/-! ===== a method that passes its check: its runs are sound ===== -/
theorem am_dr_eq {α : Type} (l : List α) : ∀ k, am_dr l k = l.drop k := by
  induction l with
  | nil => intro k; cases k <;> rfl
  | cons a t ih =>
    intro k
    cases k with
    | zero => rfl
    | succ k => exact ih k
def am_seq : List am_I → Bool
  | [] => true
  | [_] => true
  | x :: y :: r => Nat.beq y.1 (x.1 + x.2.2.1) && am_seq (y :: r)
theorem am_seq_ok : ∀ {l : List am_I} {k : Nat} {x y : am_I}, am_seq l = true → l[k]? = some x → l[k + 1]? = some y → y.1 = x.1 + x.2.2.1
  | [], _, _, _, _, h, _ => by cases h
  | [a], 0, _, _, _, _, h => by cases h
  | [a], k + 1, _, _, _, h, _ => by cases h
  | a :: b :: r, 0, x, y, h, h1, h2 => by
    cases h1
    cases h2
    unfold am_seq at h
    rw [Bool.and_eq_true] at h
    exact Nat.eq_of_beq_eq_true h.1
  | a :: b :: r, k + 1, x, y, h, h1, h2 => by
    unfold am_seq at h
    rw [Bool.and_eq_true] at h
    exact am_seq_ok (l := b :: r) (k := k) h.2 h1 h2
theorem am_ix_ok : ∀ {l : List am_I} {t : Nat} {x : am_I}, l[am_ix t l]? = some x → x.1 = t
  | [], _, _, h => by cases h
  | a :: r, t, x, h => by
    unfold am_ix at h
    cases hq : Nat.beq a.1 t with
    | true =>
      rw [hq] at h
      cases h
      exact Nat.eq_of_beq_eq_true hq
    | false =>
      rw [hq] at h
      exact am_ix_ok (l := r) h
/-- a method's check -/
def am_mck (b9 : Bool) (M : am_M) : Bool := M.2.2.2.2.2.all (am_ck b9 M) && am_seq M.2.2.2.2.2 && am_tck M && (match M.2.2.2.2.2 with
  | x :: _ => Nat.beq x.1 0
  | [] => true)
section AMRUN
variable {p : Program} {l : Launch} {e : Env} {R : Room} {s : State} {m : MethodId} {args : Array Value} {below : List Frame} {meth : Method} {c : Code} {Q : State → Prop} {Y : am_Y} {A : am_A} {ad0 : List Nat} {nL c0 q0 : Nat} {code : ByteArray} {rt : Option FieldType}
variable {sub : Nat → am_G} {M : am_M}
theorem am_runOK (hG : am_Gl l Y) (hF : am_Fm p s m args meth c Y M.1.cls M.2.1 M.2.2.1 M.2.2.2.1) (hA : am_kn A Y.2.2.1) (htab : c.exceptionTable.toList = tableOf M.2.2.2.2.1) (hnm : meth.name = M.1.name) {d : Nat} (hfr : d + 21 ≤ R.frames) (hlr : 100 * d + 500 ≤ R.locals) (hsub : am_SubOK l Y d sub) {b9 : Bool} (hbod : b9 = true → am_BodOK l Y d am_m18) (hck : am_mck b9 M = true) : ∀ (n k pc : Nat), (∀ x, M.2.2.2.2.2[k]? = some x → x.1 = pc) → am_Snd p l e R s m args below meth c Q Y ad0 M.2.2.1 c0 q0 M.2.1 M.2.2.2.1 (am_runP A sub (am_comp am_db am_hc am_bl M) n (am_dr (am_comp am_db am_hc am_bl M) k)) pc := by
  simp only [am_mck, Bool.and_eq_true] at hck
  obtain ⟨⟨⟨hall, hseq⟩, htck⟩, -⟩ := hck
  have hat : ∀ k : Nat, am_dr (am_comp am_db am_hc am_bl M) k = (M.2.2.2.2.2.drop k).map (fun q => (q.1, am_op am_db am_hc am_bl M q.1 q.2.1 q.2.2.2)) := fun k => by
    rw [am_dr_eq]
    unfold am_comp
    rw [List.map_drop]
  intro n
  induction n with
  | zero =>
    intro k pc hpc lo stk h nc ns o ho
    rw [hat k] at ho
    cases hk : M.2.2.2.2.2.drop k with
    | nil =>
      rw [hk] at ho
      cases ho
    | cons x tl =>
      rw [hk] at ho
      cases ho
      have hx0 : M.2.2.2.2.2[k]? = some x := by
        have h1 := congrArg (fun l => l[0]?) hk
        rw [List.getElem?_drop] at h1
        exact h1
      have e := hpc x hx0
      refine ⟨Nat.le_refl _, Nat.le_refl _, ⟨fun q => (by cases q), fun q => (by cases q), fun q => (by cases q)⟩, fun ad H locs ls S hp hlo hs r1 r2 hkt => ?_⟩
      rw [← e]
      exact (hkt ad H locs ls S (am_le_rf ad) hp hlo hs).1 (show _ ≠ 2 from fun q => by cases q)
  | succ n ih =>
    intro k pc hpc
    rw [hat k]
    cases hk : M.2.2.2.2.2.drop k with
    | nil => exact fun lo stk h nc ns o ho => by cases ho
    | cons x tl =>
      have hx0 : M.2.2.2.2.2[k]? = some x := by
        have h1 := congrArg (fun l => l[0]?) hk
        rw [List.getElem?_drop] at h1
        exact h1
      have e := hpc x hx0
      subst e
      have htl : tl = M.2.2.2.2.2.drop (k + 1) := by
        rw [← List.drop_drop, hk]
        rfl
      have hc := List.all_eq_true.mp hall x (List.mem_of_getElem? hx0)
      simp only [am_ck, Bool.and_eq_true, decide_eq_true_eq] at hc
      show am_Snd p l e R s m args below meth c Q Y ad0 M.2.2.1 c0 q0 M.2.1 M.2.2.2.1 (am_op am_db am_hc am_bl M x.1 x.2.1 x.2.2.2 A sub (am_runP A sub (am_comp am_db am_hc am_bl M) n (tl.map (fun q => (q.1, am_op am_db am_hc am_bl M q.1 q.2.1 q.2.2.2)))) (fun t => am_runP A sub (am_comp am_db am_hc am_bl M) n (am_dr (am_comp am_db am_hc am_bl M) t))) x.1
      refine am_opOK hG hF hA htab htck hnm hfr hlr hsub hbod (fun t => ?_) hc.1.1 hc.1.2 hc.2 ?_
      · exact ih _ t fun y hy => am_ix_ok hy
      · rw [htl, ← hat]
        exact ih (k + 1) _ fun y hy => am_seq_ok hseq hx0 hy
end AMRUN
