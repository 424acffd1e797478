/-! ===== every method that the runs reach passes its check (laid by wip/p46/gen30.py) ===== -/
theorem am_mk0_0 : am_i0_0.all (am_ck true am_m0) = true := by decide +kernel
theorem am_mk0_1 : am_i0_1.all (am_ck true am_m0) = true := by decide +kernel
theorem am_mk0 : am_mck true am_m0 = true := by
  have h : am_m0.2.2.2.2.2.all (am_ck true am_m0) = true := by
    show (am_i0_0 ++ (am_i0_1)).all _ = true
    simp only [List.all_append, am_mk0_0, am_mk0_1, Bool.and_self]
  have h2 : (am_seq am_m0.2.2.2.2.2 && am_tck am_m0 && (match am_m0.2.2.2.2.2 with | x :: _ => Nat.beq x.1 0 | [] => true)) = true := by decide +kernel
  unfold am_mck
  rw [h, Bool.true_and]
  exact h2
theorem am_mk1_0 : am_i1_0.all (am_ck true am_m1) = true := by decide +kernel
theorem am_mk1 : am_mck true am_m1 = true := by
  have h : am_m1.2.2.2.2.2.all (am_ck true am_m1) = true := by
    show (am_i1_0).all _ = true
    simp only [List.all_append, am_mk1_0, Bool.and_self]
  have h2 : (am_seq am_m1.2.2.2.2.2 && am_tck am_m1 && (match am_m1.2.2.2.2.2 with | x :: _ => Nat.beq x.1 0 | [] => true)) = true := by decide +kernel
  unfold am_mck
  rw [h, Bool.true_and]
  exact h2
theorem am_mk2_0 : am_i2_0.all (am_ck true am_m2) = true := by decide +kernel
theorem am_mk2 : am_mck true am_m2 = true := by
  have h : am_m2.2.2.2.2.2.all (am_ck true am_m2) = true := by
    show (am_i2_0).all _ = true
    simp only [List.all_append, am_mk2_0, Bool.and_self]
  have h2 : (am_seq am_m2.2.2.2.2.2 && am_tck am_m2 && (match am_m2.2.2.2.2.2 with | x :: _ => Nat.beq x.1 0 | [] => true)) = true := by decide +kernel
  unfold am_mck
  rw [h, Bool.true_and]
  exact h2
theorem am_mk3_0 : am_i3_0.all (am_ck true am_m3) = true := by decide +kernel
theorem am_mk3 : am_mck true am_m3 = true := by
  have h : am_m3.2.2.2.2.2.all (am_ck true am_m3) = true := by
    show (am_i3_0).all _ = true
    simp only [List.all_append, am_mk3_0, Bool.and_self]
  have h2 : (am_seq am_m3.2.2.2.2.2 && am_tck am_m3 && (match am_m3.2.2.2.2.2 with | x :: _ => Nat.beq x.1 0 | [] => true)) = true := by decide +kernel
  unfold am_mck
  rw [h, Bool.true_and]
  exact h2
theorem am_mk4_0 : am_i4_0.all (am_ck true am_m4) = true := by decide +kernel
theorem am_mk4 : am_mck true am_m4 = true := by
  have h : am_m4.2.2.2.2.2.all (am_ck true am_m4) = true := by
    show (am_i4_0).all _ = true
    simp only [List.all_append, am_mk4_0, Bool.and_self]
  have h2 : (am_seq am_m4.2.2.2.2.2 && am_tck am_m4 && (match am_m4.2.2.2.2.2 with | x :: _ => Nat.beq x.1 0 | [] => true)) = true := by decide +kernel
  unfold am_mck
  rw [h, Bool.true_and]
  exact h2
theorem am_mk5_0 : am_i5_0.all (am_ck true am_m5) = true := by decide +kernel
theorem am_mk5 : am_mck true am_m5 = true := by
  have h : am_m5.2.2.2.2.2.all (am_ck true am_m5) = true := by
    show (am_i5_0).all _ = true
    simp only [List.all_append, am_mk5_0, Bool.and_self]
  have h2 : (am_seq am_m5.2.2.2.2.2 && am_tck am_m5 && (match am_m5.2.2.2.2.2 with | x :: _ => Nat.beq x.1 0 | [] => true)) = true := by decide +kernel
  unfold am_mck
  rw [h, Bool.true_and]
  exact h2
theorem am_mk6_0 : am_i6_0.all (am_ck true am_m6) = true := by decide +kernel
theorem am_mk6 : am_mck true am_m6 = true := by
  have h : am_m6.2.2.2.2.2.all (am_ck true am_m6) = true := by
    show (am_i6_0).all _ = true
    simp only [List.all_append, am_mk6_0, Bool.and_self]
  have h2 : (am_seq am_m6.2.2.2.2.2 && am_tck am_m6 && (match am_m6.2.2.2.2.2 with | x :: _ => Nat.beq x.1 0 | [] => true)) = true := by decide +kernel
  unfold am_mck
  rw [h, Bool.true_and]
  exact h2
theorem am_mk7_0 : am_i7_0.all (am_ck true am_m7) = true := by decide +kernel
theorem am_mk7 : am_mck true am_m7 = true := by
  have h : am_m7.2.2.2.2.2.all (am_ck true am_m7) = true := by
    show (am_i7_0).all _ = true
    simp only [List.all_append, am_mk7_0, Bool.and_self]
  have h2 : (am_seq am_m7.2.2.2.2.2 && am_tck am_m7 && (match am_m7.2.2.2.2.2 with | x :: _ => Nat.beq x.1 0 | [] => true)) = true := by decide +kernel
  unfold am_mck
  rw [h, Bool.true_and]
  exact h2
theorem am_mk8_0 : am_i8_0.all (am_ck true am_m8) = true := by decide +kernel
theorem am_mk8 : am_mck true am_m8 = true := by
  have h : am_m8.2.2.2.2.2.all (am_ck true am_m8) = true := by
    show (am_i8_0).all _ = true
    simp only [List.all_append, am_mk8_0, Bool.and_self]
  have h2 : (am_seq am_m8.2.2.2.2.2 && am_tck am_m8 && (match am_m8.2.2.2.2.2 with | x :: _ => Nat.beq x.1 0 | [] => true)) = true := by decide +kernel
  unfold am_mck
  rw [h, Bool.true_and]
  exact h2
theorem am_mk9_0 : am_i9_0.all (am_ck true am_m9) = true := by decide +kernel
theorem am_mk9 : am_mck true am_m9 = true := by
  have h : am_m9.2.2.2.2.2.all (am_ck true am_m9) = true := by
    show (am_i9_0).all _ = true
    simp only [List.all_append, am_mk9_0, Bool.and_self]
  have h2 : (am_seq am_m9.2.2.2.2.2 && am_tck am_m9 && (match am_m9.2.2.2.2.2 with | x :: _ => Nat.beq x.1 0 | [] => true)) = true := by decide +kernel
  unfold am_mck
  rw [h, Bool.true_and]
  exact h2
theorem am_mk10_0 : am_i10_0.all (am_ck true am_m10) = true := by decide +kernel
theorem am_mk10 : am_mck true am_m10 = true := by
  have h : am_m10.2.2.2.2.2.all (am_ck true am_m10) = true := by
    show (am_i10_0).all _ = true
    simp only [List.all_append, am_mk10_0, Bool.and_self]
  have h2 : (am_seq am_m10.2.2.2.2.2 && am_tck am_m10 && (match am_m10.2.2.2.2.2 with | x :: _ => Nat.beq x.1 0 | [] => true)) = true := by decide +kernel
  unfold am_mck
  rw [h, Bool.true_and]
  exact h2
theorem am_mk11_0 : am_i11_0.all (am_ck true am_m11) = true := by decide +kernel
theorem am_mk11 : am_mck true am_m11 = true := by
  have h : am_m11.2.2.2.2.2.all (am_ck true am_m11) = true := by
    show (am_i11_0).all _ = true
    simp only [List.all_append, am_mk11_0, Bool.and_self]
  have h2 : (am_seq am_m11.2.2.2.2.2 && am_tck am_m11 && (match am_m11.2.2.2.2.2 with | x :: _ => Nat.beq x.1 0 | [] => true)) = true := by decide +kernel
  unfold am_mck
  rw [h, Bool.true_and]
  exact h2
theorem am_mk12_0 : am_i12_0.all (am_ck true am_m12) = true := by decide +kernel
theorem am_mk12 : am_mck true am_m12 = true := by
  have h : am_m12.2.2.2.2.2.all (am_ck true am_m12) = true := by
    show (am_i12_0).all _ = true
    simp only [List.all_append, am_mk12_0, Bool.and_self]
  have h2 : (am_seq am_m12.2.2.2.2.2 && am_tck am_m12 && (match am_m12.2.2.2.2.2 with | x :: _ => Nat.beq x.1 0 | [] => true)) = true := by decide +kernel
  unfold am_mck
  rw [h, Bool.true_and]
  exact h2
theorem am_mk13_0 : am_i13_0.all (am_ck true am_m13) = true := by decide +kernel
theorem am_mk13 : am_mck true am_m13 = true := by
  have h : am_m13.2.2.2.2.2.all (am_ck true am_m13) = true := by
    show (am_i13_0).all _ = true
    simp only [List.all_append, am_mk13_0, Bool.and_self]
  have h2 : (am_seq am_m13.2.2.2.2.2 && am_tck am_m13 && (match am_m13.2.2.2.2.2 with | x :: _ => Nat.beq x.1 0 | [] => true)) = true := by decide +kernel
  unfold am_mck
  rw [h, Bool.true_and]
  exact h2
theorem am_mk14_0 : am_i14_0.all (am_ck true am_m14) = true := by decide +kernel
theorem am_mk14 : am_mck true am_m14 = true := by
  have h : am_m14.2.2.2.2.2.all (am_ck true am_m14) = true := by
    show (am_i14_0).all _ = true
    simp only [List.all_append, am_mk14_0, Bool.and_self]
  have h2 : (am_seq am_m14.2.2.2.2.2 && am_tck am_m14 && (match am_m14.2.2.2.2.2 with | x :: _ => Nat.beq x.1 0 | [] => true)) = true := by decide +kernel
  unfold am_mck
  rw [h, Bool.true_and]
  exact h2
theorem am_mk15_0 : am_i15_0.all (am_ck true am_m15) = true := by decide +kernel
theorem am_mk15 : am_mck true am_m15 = true := by
  have h : am_m15.2.2.2.2.2.all (am_ck true am_m15) = true := by
    show (am_i15_0).all _ = true
    simp only [List.all_append, am_mk15_0, Bool.and_self]
  have h2 : (am_seq am_m15.2.2.2.2.2 && am_tck am_m15 && (match am_m15.2.2.2.2.2 with | x :: _ => Nat.beq x.1 0 | [] => true)) = true := by decide +kernel
  unfold am_mck
  rw [h, Bool.true_and]
  exact h2
theorem am_mk16_0 : am_i16_0.all (am_ck true am_m16) = true := by decide +kernel
theorem am_mk16 : am_mck true am_m16 = true := by
  have h : am_m16.2.2.2.2.2.all (am_ck true am_m16) = true := by
    show (am_i16_0).all _ = true
    simp only [List.all_append, am_mk16_0, Bool.and_self]
  have h2 : (am_seq am_m16.2.2.2.2.2 && am_tck am_m16 && (match am_m16.2.2.2.2.2 with | x :: _ => Nat.beq x.1 0 | [] => true)) = true := by decide +kernel
  unfold am_mck
  rw [h, Bool.true_and]
  exact h2
theorem am_mk17_0 : am_i17_0.all (am_ck true am_m17) = true := by decide +kernel
theorem am_mk17 : am_mck true am_m17 = true := by
  have h : am_m17.2.2.2.2.2.all (am_ck true am_m17) = true := by
    show (am_i17_0).all _ = true
    simp only [List.all_append, am_mk17_0, Bool.and_self]
  have h2 : (am_seq am_m17.2.2.2.2.2 && am_tck am_m17 && (match am_m17.2.2.2.2.2 with | x :: _ => Nat.beq x.1 0 | [] => true)) = true := by decide +kernel
  unfold am_mck
  rw [h, Bool.true_and]
  exact h2
theorem am_mk18_0 : am_i18_0.all (am_ck false am_m18) = true := by decide +kernel
theorem am_mk18 : am_mck false am_m18 = true := by
  have h : am_m18.2.2.2.2.2.all (am_ck false am_m18) = true := by
    show (am_i18_0).all _ = true
    simp only [List.all_append, am_mk18_0, Bool.and_self]
  have h2 : (am_seq am_m18.2.2.2.2.2 && am_tck am_m18 && (match am_m18.2.2.2.2.2 with | x :: _ => Nat.beq x.1 0 | [] => true)) = true := by decide +kernel
  unfold am_mck
  rw [h, Bool.true_and]
  exact h2
theorem am_mk19_0 : am_i19_0.all (am_ck true am_m19) = true := by decide +kernel
theorem am_mk19_1 : am_i19_1.all (am_ck true am_m19) = true := by decide +kernel
theorem am_mk19 : am_mck true am_m19 = true := by
  have h : am_m19.2.2.2.2.2.all (am_ck true am_m19) = true := by
    show (am_i19_0 ++ (am_i19_1)).all _ = true
    simp only [List.all_append, am_mk19_0, am_mk19_1, Bool.and_self]
  have h2 : (am_seq am_m19.2.2.2.2.2 && am_tck am_m19 && (match am_m19.2.2.2.2.2 with | x :: _ => Nat.beq x.1 0 | [] => true)) = true := by decide +kernel
  unfold am_mck
  rw [h, Bool.true_and]
  exact h2
theorem am_mk20_0 : am_i20_0.all (am_ck true am_m20) = true := by decide +kernel
theorem am_mk20 : am_mck true am_m20 = true := by
  have h : am_m20.2.2.2.2.2.all (am_ck true am_m20) = true := by
    show (am_i20_0).all _ = true
    simp only [List.all_append, am_mk20_0, Bool.and_self]
  have h2 : (am_seq am_m20.2.2.2.2.2 && am_tck am_m20 && (match am_m20.2.2.2.2.2 with | x :: _ => Nat.beq x.1 0 | [] => true)) = true := by decide +kernel
  unfold am_mck
  rw [h, Bool.true_and]
  exact h2
theorem am_mk21_0 : am_i21_0.all (am_ck true am_m21) = true := by decide +kernel
theorem am_mk21 : am_mck true am_m21 = true := by
  have h : am_m21.2.2.2.2.2.all (am_ck true am_m21) = true := by
    show (am_i21_0).all _ = true
    simp only [List.all_append, am_mk21_0, Bool.and_self]
  have h2 : (am_seq am_m21.2.2.2.2.2 && am_tck am_m21 && (match am_m21.2.2.2.2.2 with | x :: _ => Nat.beq x.1 0 | [] => true)) = true := by decide +kernel
  unfold am_mck
  rw [h, Bool.true_and]
  exact h2
theorem am_mk22_0 : am_i22_0.all (am_ck true am_m22) = true := by decide +kernel
theorem am_mk22 : am_mck true am_m22 = true := by
  have h : am_m22.2.2.2.2.2.all (am_ck true am_m22) = true := by
    show (am_i22_0).all _ = true
    simp only [List.all_append, am_mk22_0, Bool.and_self]
  have h2 : (am_seq am_m22.2.2.2.2.2 && am_tck am_m22 && (match am_m22.2.2.2.2.2 with | x :: _ => Nat.beq x.1 0 | [] => true)) = true := by decide +kernel
  unfold am_mck
  rw [h, Bool.true_and]
  exact h2
theorem am_mk23_0 : am_i23_0.all (am_ck true am_m23) = true := by decide +kernel
theorem am_mk23 : am_mck true am_m23 = true := by
  have h : am_m23.2.2.2.2.2.all (am_ck true am_m23) = true := by
    show (am_i23_0).all _ = true
    simp only [List.all_append, am_mk23_0, Bool.and_self]
  have h2 : (am_seq am_m23.2.2.2.2.2 && am_tck am_m23 && (match am_m23.2.2.2.2.2 with | x :: _ => Nat.beq x.1 0 | [] => true)) = true := by decide +kernel
  unfold am_mck
  rw [h, Bool.true_and]
  exact h2
theorem am_mk24_0 : am_i24_0.all (am_ck true am_m24) = true := by decide +kernel
theorem am_mk24 : am_mck true am_m24 = true := by
  have h : am_m24.2.2.2.2.2.all (am_ck true am_m24) = true := by
    show (am_i24_0).all _ = true
    simp only [List.all_append, am_mk24_0, Bool.and_self]
  have h2 : (am_seq am_m24.2.2.2.2.2 && am_tck am_m24 && (match am_m24.2.2.2.2.2 with | x :: _ => Nat.beq x.1 0 | [] => true)) = true := by decide +kernel
  unfold am_mck
  rw [h, Bool.true_and]
  exact h2
theorem am_mk25_0 : am_i25_0.all (am_ck true am_m25) = true := by decide +kernel
theorem am_mk25 : am_mck true am_m25 = true := by
  have h : am_m25.2.2.2.2.2.all (am_ck true am_m25) = true := by
    show (am_i25_0).all _ = true
    simp only [List.all_append, am_mk25_0, Bool.and_self]
  have h2 : (am_seq am_m25.2.2.2.2.2 && am_tck am_m25 && (match am_m25.2.2.2.2.2 with | x :: _ => Nat.beq x.1 0 | [] => true)) = true := by decide +kernel
  unfold am_mck
  rw [h, Bool.true_and]
  exact h2
theorem am_mk26_0 : am_i26_0.all (am_ck true am_m26) = true := by decide +kernel
theorem am_mk26_1 : am_i26_1.all (am_ck true am_m26) = true := by decide +kernel
theorem am_mk26_2 : am_i26_2.all (am_ck true am_m26) = true := by decide +kernel
theorem am_mk26_3 : am_i26_3.all (am_ck true am_m26) = true := by decide +kernel
theorem am_mk26 : am_mck true am_m26 = true := by
  have h : am_m26.2.2.2.2.2.all (am_ck true am_m26) = true := by
    show (am_i26_0 ++ (am_i26_1 ++ (am_i26_2 ++ (am_i26_3)))).all _ = true
    simp only [List.all_append, am_mk26_0, am_mk26_1, am_mk26_2, am_mk26_3, Bool.and_self]
  have h2 : (am_seq am_m26.2.2.2.2.2 && am_tck am_m26 && (match am_m26.2.2.2.2.2 with | x :: _ => Nat.beq x.1 0 | [] => true)) = true := by decide +kernel
  unfold am_mck
  rw [h, Bool.true_and]
  exact h2
theorem am_mk27_0 : am_i27_0.all (am_ck true am_m27) = true := by decide +kernel
theorem am_mk27 : am_mck true am_m27 = true := by
  have h : am_m27.2.2.2.2.2.all (am_ck true am_m27) = true := by
    show (am_i27_0).all _ = true
    simp only [List.all_append, am_mk27_0, Bool.and_self]
  have h2 : (am_seq am_m27.2.2.2.2.2 && am_tck am_m27 && (match am_m27.2.2.2.2.2 with | x :: _ => Nat.beq x.1 0 | [] => true)) = true := by decide +kernel
  unfold am_mck
  rw [h, Bool.true_and]
  exact h2
theorem am_mk28_0 : am_i28_0.all (am_ck true am_m28) = true := by decide +kernel
theorem am_mk28 : am_mck true am_m28 = true := by
  have h : am_m28.2.2.2.2.2.all (am_ck true am_m28) = true := by
    show (am_i28_0).all _ = true
    simp only [List.all_append, am_mk28_0, Bool.and_self]
  have h2 : (am_seq am_m28.2.2.2.2.2 && am_tck am_m28 && (match am_m28.2.2.2.2.2 with | x :: _ => Nat.beq x.1 0 | [] => true)) = true := by decide +kernel
  unfold am_mck
  rw [h, Bool.true_and]
  exact h2
theorem am_mk29_0 : am_i29_0.all (am_ck true am_m29) = true := by decide +kernel
theorem am_mk29 : am_mck true am_m29 = true := by
  have h : am_m29.2.2.2.2.2.all (am_ck true am_m29) = true := by
    show (am_i29_0).all _ = true
    simp only [List.all_append, am_mk29_0, Bool.and_self]
  have h2 : (am_seq am_m29.2.2.2.2.2 && am_tck am_m29 && (match am_m29.2.2.2.2.2 with | x :: _ => Nat.beq x.1 0 | [] => true)) = true := by decide +kernel
  unfold am_mck
  rw [h, Bool.true_and]
  exact h2
theorem am_mk30_0 : am_i30_0.all (am_ck true am_m30) = true := by decide +kernel
theorem am_mk30 : am_mck true am_m30 = true := by
  have h : am_m30.2.2.2.2.2.all (am_ck true am_m30) = true := by
    show (am_i30_0).all _ = true
    simp only [List.all_append, am_mk30_0, Bool.and_self]
  have h2 : (am_seq am_m30.2.2.2.2.2 && am_tck am_m30 && (match am_m30.2.2.2.2.2 with | x :: _ => Nat.beq x.1 0 | [] => true)) = true := by decide +kernel
  unfold am_mck
  rw [h, Bool.true_and]
  exact h2
theorem am_mk31_0 : am_i31_0.all (am_ck true am_m31) = true := by decide +kernel
theorem am_mk31 : am_mck true am_m31 = true := by
  have h : am_m31.2.2.2.2.2.all (am_ck true am_m31) = true := by
    show (am_i31_0).all _ = true
    simp only [List.all_append, am_mk31_0, Bool.and_self]
  have h2 : (am_seq am_m31.2.2.2.2.2 && am_tck am_m31 && (match am_m31.2.2.2.2.2 with | x :: _ => Nat.beq x.1 0 | [] => true)) = true := by decide +kernel
  unfold am_mck
  rw [h, Bool.true_and]
  exact h2
theorem am_mk32_0 : am_i32_0.all (am_ck true am_m32) = true := by decide +kernel
theorem am_mk32 : am_mck true am_m32 = true := by
  have h : am_m32.2.2.2.2.2.all (am_ck true am_m32) = true := by
    show (am_i32_0).all _ = true
    simp only [List.all_append, am_mk32_0, Bool.and_self]
  have h2 : (am_seq am_m32.2.2.2.2.2 && am_tck am_m32 && (match am_m32.2.2.2.2.2 with | x :: _ => Nat.beq x.1 0 | [] => true)) = true := by decide +kernel
  unfold am_mck
  rw [h, Bool.true_and]
  exact h2
theorem am_mk33_0 : am_i33_0.all (am_ck true am_m33) = true := by decide +kernel
theorem am_mk33 : am_mck true am_m33 = true := by
  have h : am_m33.2.2.2.2.2.all (am_ck true am_m33) = true := by
    show (am_i33_0).all _ = true
    simp only [List.all_append, am_mk33_0, Bool.and_self]
  have h2 : (am_seq am_m33.2.2.2.2.2 && am_tck am_m33 && (match am_m33.2.2.2.2.2 with | x :: _ => Nat.beq x.1 0 | [] => true)) = true := by decide +kernel
  unfold am_mck
  rw [h, Bool.true_and]
  exact h2
theorem am_mk34_0 : am_i34_0.all (am_ck true am_m34) = true := by decide +kernel
theorem am_mk34 : am_mck true am_m34 = true := by
  have h : am_m34.2.2.2.2.2.all (am_ck true am_m34) = true := by
    show (am_i34_0).all _ = true
    simp only [List.all_append, am_mk34_0, Bool.and_self]
  have h2 : (am_seq am_m34.2.2.2.2.2 && am_tck am_m34 && (match am_m34.2.2.2.2.2 with | x :: _ => Nat.beq x.1 0 | [] => true)) = true := by decide +kernel
  unfold am_mck
  rw [h, Bool.true_and]
  exact h2
theorem am_mk35_0 : am_i35_0.all (am_ck true am_m35) = true := by decide +kernel
theorem am_mk35 : am_mck true am_m35 = true := by
  have h : am_m35.2.2.2.2.2.all (am_ck true am_m35) = true := by
    show (am_i35_0).all _ = true
    simp only [List.all_append, am_mk35_0, Bool.and_self]
  have h2 : (am_seq am_m35.2.2.2.2.2 && am_tck am_m35 && (match am_m35.2.2.2.2.2 with | x :: _ => Nat.beq x.1 0 | [] => true)) = true := by decide +kernel
  unfold am_mck
  rw [h, Bool.true_and]
  exact h2
theorem am_mk36_0 : am_i36_0.all (am_ck true am_m36) = true := by decide +kernel
theorem am_mk36 : am_mck true am_m36 = true := by
  have h : am_m36.2.2.2.2.2.all (am_ck true am_m36) = true := by
    show (am_i36_0).all _ = true
    simp only [List.all_append, am_mk36_0, Bool.and_self]
  have h2 : (am_seq am_m36.2.2.2.2.2 && am_tck am_m36 && (match am_m36.2.2.2.2.2 with | x :: _ => Nat.beq x.1 0 | [] => true)) = true := by decide +kernel
  unfold am_mck
  rw [h, Bool.true_and]
  exact h2
theorem am_mk37_0 : am_i37_0.all (am_ck true am_m37) = true := by decide +kernel
theorem am_mk37 : am_mck true am_m37 = true := by
  have h : am_m37.2.2.2.2.2.all (am_ck true am_m37) = true := by
    show (am_i37_0).all _ = true
    simp only [List.all_append, am_mk37_0, Bool.and_self]
  have h2 : (am_seq am_m37.2.2.2.2.2 && am_tck am_m37 && (match am_m37.2.2.2.2.2 with | x :: _ => Nat.beq x.1 0 | [] => true)) = true := by decide +kernel
  unfold am_mck
  rw [h, Bool.true_and]
  exact h2
theorem am_mk38_0 : am_i38_0.all (am_ck true am_m38) = true := by decide +kernel
theorem am_mk38 : am_mck true am_m38 = true := by
  have h : am_m38.2.2.2.2.2.all (am_ck true am_m38) = true := by
    show (am_i38_0).all _ = true
    simp only [List.all_append, am_mk38_0, Bool.and_self]
  have h2 : (am_seq am_m38.2.2.2.2.2 && am_tck am_m38 && (match am_m38.2.2.2.2.2 with | x :: _ => Nat.beq x.1 0 | [] => true)) = true := by decide +kernel
  unfold am_mck
  rw [h, Bool.true_and]
  exact h2
theorem am_mk39_0 : am_i39_0.all (am_ck true am_m39) = true := by decide +kernel
theorem am_mk39 : am_mck true am_m39 = true := by
  have h : am_m39.2.2.2.2.2.all (am_ck true am_m39) = true := by
    show (am_i39_0).all _ = true
    simp only [List.all_append, am_mk39_0, Bool.and_self]
  have h2 : (am_seq am_m39.2.2.2.2.2 && am_tck am_m39 && (match am_m39.2.2.2.2.2 with | x :: _ => Nat.beq x.1 0 | [] => true)) = true := by decide +kernel
  unfold am_mck
  rw [h, Bool.true_and]
  exact h2
theorem am_mk40_0 : am_i40_0.all (am_ck true am_m40) = true := by decide +kernel
theorem am_mk40 : am_mck true am_m40 = true := by
  have h : am_m40.2.2.2.2.2.all (am_ck true am_m40) = true := by
    show (am_i40_0).all _ = true
    simp only [List.all_append, am_mk40_0, Bool.and_self]
  have h2 : (am_seq am_m40.2.2.2.2.2 && am_tck am_m40 && (match am_m40.2.2.2.2.2 with | x :: _ => Nat.beq x.1 0 | [] => true)) = true := by decide +kernel
  unfold am_mck
  rw [h, Bool.true_and]
  exact h2
theorem am_mk41_0 : am_i41_0.all (am_ck true am_m41) = true := by decide +kernel
theorem am_mk41 : am_mck true am_m41 = true := by
  have h : am_m41.2.2.2.2.2.all (am_ck true am_m41) = true := by
    show (am_i41_0).all _ = true
    simp only [List.all_append, am_mk41_0, Bool.and_self]
  have h2 : (am_seq am_m41.2.2.2.2.2 && am_tck am_m41 && (match am_m41.2.2.2.2.2 with | x :: _ => Nat.beq x.1 0 | [] => true)) = true := by decide +kernel
  unfold am_mck
  rw [h, Bool.true_and]
  exact h2
theorem am_mk42_0 : am_i42_0.all (am_ck true am_m42) = true := by decide +kernel
theorem am_mk42 : am_mck true am_m42 = true := by
  have h : am_m42.2.2.2.2.2.all (am_ck true am_m42) = true := by
    show (am_i42_0).all _ = true
    simp only [List.all_append, am_mk42_0, Bool.and_self]
  have h2 : (am_seq am_m42.2.2.2.2.2 && am_tck am_m42 && (match am_m42.2.2.2.2.2 with | x :: _ => Nat.beq x.1 0 | [] => true)) = true := by decide +kernel
  unfold am_mck
  rw [h, Bool.true_and]
  exact h2
theorem am_mk43_0 : am_i43_0.all (am_ck true am_m43) = true := by decide +kernel
theorem am_mk43 : am_mck true am_m43 = true := by
  have h : am_m43.2.2.2.2.2.all (am_ck true am_m43) = true := by
    show (am_i43_0).all _ = true
    simp only [List.all_append, am_mk43_0, Bool.and_self]
  have h2 : (am_seq am_m43.2.2.2.2.2 && am_tck am_m43 && (match am_m43.2.2.2.2.2 with | x :: _ => Nat.beq x.1 0 | [] => true)) = true := by decide +kernel
  unfold am_mck
  rw [h, Bool.true_and]
  exact h2
theorem am_mk44_0 : am_i44_0.all (am_ck true am_m44) = true := by decide +kernel
theorem am_mk44 : am_mck true am_m44 = true := by
  have h : am_m44.2.2.2.2.2.all (am_ck true am_m44) = true := by
    show (am_i44_0).all _ = true
    simp only [List.all_append, am_mk44_0, Bool.and_self]
  have h2 : (am_seq am_m44.2.2.2.2.2 && am_tck am_m44 && (match am_m44.2.2.2.2.2 with | x :: _ => Nat.beq x.1 0 | [] => true)) = true := by decide +kernel
  unfold am_mck
  rw [h, Bool.true_and]
  exact h2
theorem am_mk45_0 : am_i45_0.all (am_ck true am_m45) = true := by decide +kernel
theorem am_mk45 : am_mck true am_m45 = true := by
  have h : am_m45.2.2.2.2.2.all (am_ck true am_m45) = true := by
    show (am_i45_0).all _ = true
    simp only [List.all_append, am_mk45_0, Bool.and_self]
  have h2 : (am_seq am_m45.2.2.2.2.2 && am_tck am_m45 && (match am_m45.2.2.2.2.2 with | x :: _ => Nat.beq x.1 0 | [] => true)) = true := by decide +kernel
  unfold am_mck
  rw [h, Bool.true_and]
  exact h2
theorem am_mk46_0 : am_i46_0.all (am_ck true am_m46) = true := by decide +kernel
theorem am_mk46 : am_mck true am_m46 = true := by
  have h : am_m46.2.2.2.2.2.all (am_ck true am_m46) = true := by
    show (am_i46_0).all _ = true
    simp only [List.all_append, am_mk46_0, Bool.and_self]
  have h2 : (am_seq am_m46.2.2.2.2.2 && am_tck am_m46 && (match am_m46.2.2.2.2.2 with | x :: _ => Nat.beq x.1 0 | [] => true)) = true := by decide +kernel
  unfold am_mck
  rw [h, Bool.true_and]
  exact h2
theorem am_mk48_0 : am_i48_0.all (am_ck true am_m48) = true := by decide +kernel
theorem am_mk48 : am_mck true am_m48 = true := by
  have h : am_m48.2.2.2.2.2.all (am_ck true am_m48) = true := by
    show (am_i48_0).all _ = true
    simp only [List.all_append, am_mk48_0, Bool.and_self]
  have h2 : (am_seq am_m48.2.2.2.2.2 && am_tck am_m48 && (match am_m48.2.2.2.2.2 with | x :: _ => Nat.beq x.1 0 | [] => true)) = true := by decide +kernel
  unfold am_mck
  rw [h, Bool.true_and]
  exact h2
theorem am_mk49_0 : am_i49_0.all (am_ck true am_m49) = true := by decide +kernel
theorem am_mk49_1 : am_i49_1.all (am_ck true am_m49) = true := by decide +kernel
theorem am_mk49 : am_mck true am_m49 = true := by
  have h : am_m49.2.2.2.2.2.all (am_ck true am_m49) = true := by
    show (am_i49_0 ++ (am_i49_1)).all _ = true
    simp only [List.all_append, am_mk49_0, am_mk49_1, Bool.and_self]
  have h2 : (am_seq am_m49.2.2.2.2.2 && am_tck am_m49 && (match am_m49.2.2.2.2.2 with | x :: _ => Nat.beq x.1 0 | [] => true)) = true := by decide +kernel
  unfold am_mck
  rw [h, Bool.true_and]
  exact h2
theorem am_mk50_0 : am_i50_0.all (am_ck true am_m50) = true := by decide +kernel
theorem am_mk50 : am_mck true am_m50 = true := by
  have h : am_m50.2.2.2.2.2.all (am_ck true am_m50) = true := by
    show (am_i50_0).all _ = true
    simp only [List.all_append, am_mk50_0, Bool.and_self]
  have h2 : (am_seq am_m50.2.2.2.2.2 && am_tck am_m50 && (match am_m50.2.2.2.2.2 with | x :: _ => Nat.beq x.1 0 | [] => true)) = true := by decide +kernel
  unfold am_mck
  rw [h, Bool.true_and]
  exact h2
theorem am_mk51_0 : am_i51_0.all (am_ck true am_m51) = true := by decide +kernel
theorem am_mk51 : am_mck true am_m51 = true := by
  have h : am_m51.2.2.2.2.2.all (am_ck true am_m51) = true := by
    show (am_i51_0).all _ = true
    simp only [List.all_append, am_mk51_0, Bool.and_self]
  have h2 : (am_seq am_m51.2.2.2.2.2 && am_tck am_m51 && (match am_m51.2.2.2.2.2 with | x :: _ => Nat.beq x.1 0 | [] => true)) = true := by decide +kernel
  unfold am_mck
  rw [h, Bool.true_and]
  exact h2
theorem am_mk52_0 : am_i52_0.all (am_ck true am_m52) = true := by decide +kernel
theorem am_mk52 : am_mck true am_m52 = true := by
  have h : am_m52.2.2.2.2.2.all (am_ck true am_m52) = true := by
    show (am_i52_0).all _ = true
    simp only [List.all_append, am_mk52_0, Bool.and_self]
  have h2 : (am_seq am_m52.2.2.2.2.2 && am_tck am_m52 && (match am_m52.2.2.2.2.2 with | x :: _ => Nat.beq x.1 0 | [] => true)) = true := by decide +kernel
  unfold am_mck
  rw [h, Bool.true_and]
  exact h2
theorem am_mk53_0 : am_i53_0.all (am_ck true am_m53) = true := by decide +kernel
theorem am_mk53 : am_mck true am_m53 = true := by
  have h : am_m53.2.2.2.2.2.all (am_ck true am_m53) = true := by
    show (am_i53_0).all _ = true
    simp only [List.all_append, am_mk53_0, Bool.and_self]
  have h2 : (am_seq am_m53.2.2.2.2.2 && am_tck am_m53 && (match am_m53.2.2.2.2.2 with | x :: _ => Nat.beq x.1 0 | [] => true)) = true := by decide +kernel
  unfold am_mck
  rw [h, Bool.true_and]
  exact h2
theorem am_mk54_0 : am_i54_0.all (am_ck true am_m54) = true := by decide +kernel
theorem am_mk54 : am_mck true am_m54 = true := by
  have h : am_m54.2.2.2.2.2.all (am_ck true am_m54) = true := by
    show (am_i54_0).all _ = true
    simp only [List.all_append, am_mk54_0, Bool.and_self]
  have h2 : (am_seq am_m54.2.2.2.2.2 && am_tck am_m54 && (match am_m54.2.2.2.2.2 with | x :: _ => Nat.beq x.1 0 | [] => true)) = true := by decide +kernel
  unfold am_mck
  rw [h, Bool.true_and]
  exact h2
theorem am_mk55_0 : am_i55_0.all (am_ck true am_m55) = true := by decide +kernel
theorem am_mk55 : am_mck true am_m55 = true := by
  have h : am_m55.2.2.2.2.2.all (am_ck true am_m55) = true := by
    show (am_i55_0).all _ = true
    simp only [List.all_append, am_mk55_0, Bool.and_self]
  have h2 : (am_seq am_m55.2.2.2.2.2 && am_tck am_m55 && (match am_m55.2.2.2.2.2 with | x :: _ => Nat.beq x.1 0 | [] => true)) = true := by decide +kernel
  unfold am_mck
  rw [h, Bool.true_and]
  exact h2
theorem am_mk56_0 : am_i56_0.all (am_ck true am_m56) = true := by decide +kernel
theorem am_mk56 : am_mck true am_m56 = true := by
  have h : am_m56.2.2.2.2.2.all (am_ck true am_m56) = true := by
    show (am_i56_0).all _ = true
    simp only [List.all_append, am_mk56_0, Bool.and_self]
  have h2 : (am_seq am_m56.2.2.2.2.2 && am_tck am_m56 && (match am_m56.2.2.2.2.2 with | x :: _ => Nat.beq x.1 0 | [] => true)) = true := by decide +kernel
  unfold am_mck
  rw [h, Bool.true_and]
  exact h2
theorem am_mk57_0 : am_i57_0.all (am_ck true am_m57) = true := by decide +kernel
theorem am_mk57 : am_mck true am_m57 = true := by
  have h : am_m57.2.2.2.2.2.all (am_ck true am_m57) = true := by
    show (am_i57_0).all _ = true
    simp only [List.all_append, am_mk57_0, Bool.and_self]
  have h2 : (am_seq am_m57.2.2.2.2.2 && am_tck am_m57 && (match am_m57.2.2.2.2.2 with | x :: _ => Nat.beq x.1 0 | [] => true)) = true := by decide +kernel
  unfold am_mck
  rw [h, Bool.true_and]
  exact h2
theorem am_mk58_0 : am_i58_0.all (am_ck true am_m58) = true := by decide +kernel
theorem am_mk58_1 : am_i58_1.all (am_ck true am_m58) = true := by decide +kernel
theorem am_mk58 : am_mck true am_m58 = true := by
  have h : am_m58.2.2.2.2.2.all (am_ck true am_m58) = true := by
    show (am_i58_0 ++ (am_i58_1)).all _ = true
    simp only [List.all_append, am_mk58_0, am_mk58_1, Bool.and_self]
  have h2 : (am_seq am_m58.2.2.2.2.2 && am_tck am_m58 && (match am_m58.2.2.2.2.2 with | x :: _ => Nat.beq x.1 0 | [] => true)) = true := by decide +kernel
  unfold am_mck
  rw [h, Bool.true_and]
  exact h2
theorem am_mk59_0 : am_i59_0.all (am_ck true am_m59) = true := by decide +kernel
theorem am_mk59 : am_mck true am_m59 = true := by
  have h : am_m59.2.2.2.2.2.all (am_ck true am_m59) = true := by
    show (am_i59_0).all _ = true
    simp only [List.all_append, am_mk59_0, Bool.and_self]
  have h2 : (am_seq am_m59.2.2.2.2.2 && am_tck am_m59 && (match am_m59.2.2.2.2.2 with | x :: _ => Nat.beq x.1 0 | [] => true)) = true := by decide +kernel
  unfold am_mck
  rw [h, Bool.true_and]
  exact h2
theorem am_mk60_0 : am_i60_0.all (am_ck true am_m60) = true := by decide +kernel
theorem am_mk60 : am_mck true am_m60 = true := by
  have h : am_m60.2.2.2.2.2.all (am_ck true am_m60) = true := by
    show (am_i60_0).all _ = true
    simp only [List.all_append, am_mk60_0, Bool.and_self]
  have h2 : (am_seq am_m60.2.2.2.2.2 && am_tck am_m60 && (match am_m60.2.2.2.2.2 with | x :: _ => Nat.beq x.1 0 | [] => true)) = true := by decide +kernel
  unfold am_mck
  rw [h, Bool.true_and]
  exact h2
theorem am_mk61_0 : am_i61_0.all (am_ck true am_m61) = true := by decide +kernel
theorem am_mk61 : am_mck true am_m61 = true := by
  have h : am_m61.2.2.2.2.2.all (am_ck true am_m61) = true := by
    show (am_i61_0).all _ = true
    simp only [List.all_append, am_mk61_0, Bool.and_self]
  have h2 : (am_seq am_m61.2.2.2.2.2 && am_tck am_m61 && (match am_m61.2.2.2.2.2 with | x :: _ => Nat.beq x.1 0 | [] => true)) = true := by decide +kernel
  unfold am_mck
  rw [h, Bool.true_and]
  exact h2
theorem am_mk62_0 : am_i62_0.all (am_ck true am_m62) = true := by decide +kernel
theorem am_mk62_1 : am_i62_1.all (am_ck true am_m62) = true := by decide +kernel
theorem am_mk62 : am_mck true am_m62 = true := by
  have h : am_m62.2.2.2.2.2.all (am_ck true am_m62) = true := by
    show (am_i62_0 ++ (am_i62_1)).all _ = true
    simp only [List.all_append, am_mk62_0, am_mk62_1, Bool.and_self]
  have h2 : (am_seq am_m62.2.2.2.2.2 && am_tck am_m62 && (match am_m62.2.2.2.2.2 with | x :: _ => Nat.beq x.1 0 | [] => true)) = true := by decide +kernel
  unfold am_mck
  rw [h, Bool.true_and]
  exact h2
theorem am_mk63_0 : am_i63_0.all (am_ck true am_m63) = true := by decide +kernel
theorem am_mk63 : am_mck true am_m63 = true := by
  have h : am_m63.2.2.2.2.2.all (am_ck true am_m63) = true := by
    show (am_i63_0).all _ = true
    simp only [List.all_append, am_mk63_0, Bool.and_self]
  have h2 : (am_seq am_m63.2.2.2.2.2 && am_tck am_m63 && (match am_m63.2.2.2.2.2 with | x :: _ => Nat.beq x.1 0 | [] => true)) = true := by decide +kernel
  unfold am_mck
  rw [h, Bool.true_and]
  exact h2
theorem am_mk64_0 : am_i64_0.all (am_ck true am_m64) = true := by decide +kernel
theorem am_mk64 : am_mck true am_m64 = true := by
  have h : am_m64.2.2.2.2.2.all (am_ck true am_m64) = true := by
    show (am_i64_0).all _ = true
    simp only [List.all_append, am_mk64_0, Bool.and_self]
  have h2 : (am_seq am_m64.2.2.2.2.2 && am_tck am_m64 && (match am_m64.2.2.2.2.2 with | x :: _ => Nat.beq x.1 0 | [] => true)) = true := by decide +kernel
  unfold am_mck
  rw [h, Bool.true_and]
  exact h2
theorem am_mk65_0 : am_i65_0.all (am_ck true am_m65) = true := by decide +kernel
theorem am_mk65 : am_mck true am_m65 = true := by
  have h : am_m65.2.2.2.2.2.all (am_ck true am_m65) = true := by
    show (am_i65_0).all _ = true
    simp only [List.all_append, am_mk65_0, Bool.and_self]
  have h2 : (am_seq am_m65.2.2.2.2.2 && am_tck am_m65 && (match am_m65.2.2.2.2.2 with | x :: _ => Nat.beq x.1 0 | [] => true)) = true := by decide +kernel
  unfold am_mck
  rw [h, Bool.true_and]
  exact h2
theorem am_mk66_0 : am_i66_0.all (am_ck true am_m66) = true := by decide +kernel
theorem am_mk66 : am_mck true am_m66 = true := by
  have h : am_m66.2.2.2.2.2.all (am_ck true am_m66) = true := by
    show (am_i66_0).all _ = true
    simp only [List.all_append, am_mk66_0, Bool.and_self]
  have h2 : (am_seq am_m66.2.2.2.2.2 && am_tck am_m66 && (match am_m66.2.2.2.2.2 with | x :: _ => Nat.beq x.1 0 | [] => true)) = true := by decide +kernel
  unfold am_mck
  rw [h, Bool.true_and]
  exact h2
theorem am_mk70_0 : am_i70_0.all (am_ck true am_m70) = true := by decide +kernel
theorem am_mk70 : am_mck true am_m70 = true := by
  have h : am_m70.2.2.2.2.2.all (am_ck true am_m70) = true := by
    show (am_i70_0).all _ = true
    simp only [List.all_append, am_mk70_0, Bool.and_self]
  have h2 : (am_seq am_m70.2.2.2.2.2 && am_tck am_m70 && (match am_m70.2.2.2.2.2 with | x :: _ => Nat.beq x.1 0 | [] => true)) = true := by decide +kernel
  unfold am_mck
  rw [h, Bool.true_and]
  exact h2
theorem am_mk71_0 : am_i71_0.all (am_ck true am_m71) = true := by decide +kernel
theorem am_mk71 : am_mck true am_m71 = true := by
  have h : am_m71.2.2.2.2.2.all (am_ck true am_m71) = true := by
    show (am_i71_0).all _ = true
    simp only [List.all_append, am_mk71_0, Bool.and_self]
  have h2 : (am_seq am_m71.2.2.2.2.2 && am_tck am_m71 && (match am_m71.2.2.2.2.2 with | x :: _ => Nat.beq x.1 0 | [] => true)) = true := by decide +kernel
  unfold am_mck
  rw [h, Bool.true_and]
  exact h2
theorem am_mk72_0 : am_i72_0.all (am_ck true am_m72) = true := by decide +kernel
theorem am_mk72 : am_mck true am_m72 = true := by
  have h : am_m72.2.2.2.2.2.all (am_ck true am_m72) = true := by
    show (am_i72_0).all _ = true
    simp only [List.all_append, am_mk72_0, Bool.and_self]
  have h2 : (am_seq am_m72.2.2.2.2.2 && am_tck am_m72 && (match am_m72.2.2.2.2.2 with | x :: _ => Nat.beq x.1 0 | [] => true)) = true := by decide +kernel
  unfold am_mck
  rw [h, Bool.true_and]
  exact h2
theorem am_mk73_0 : am_i73_0.all (am_ck true am_m73) = true := by decide +kernel
theorem am_mk73 : am_mck true am_m73 = true := by
  have h : am_m73.2.2.2.2.2.all (am_ck true am_m73) = true := by
    show (am_i73_0).all _ = true
    simp only [List.all_append, am_mk73_0, Bool.and_self]
  have h2 : (am_seq am_m73.2.2.2.2.2 && am_tck am_m73 && (match am_m73.2.2.2.2.2 with | x :: _ => Nat.beq x.1 0 | [] => true)) = true := by decide +kernel
  unfold am_mck
  rw [h, Bool.true_and]
  exact h2
theorem am_mk74_0 : am_i74_0.all (am_ck true am_m74) = true := by decide +kernel
theorem am_mk74 : am_mck true am_m74 = true := by
  have h : am_m74.2.2.2.2.2.all (am_ck true am_m74) = true := by
    show (am_i74_0).all _ = true
    simp only [List.all_append, am_mk74_0, Bool.and_self]
  have h2 : (am_seq am_m74.2.2.2.2.2 && am_tck am_m74 && (match am_m74.2.2.2.2.2 with | x :: _ => Nat.beq x.1 0 | [] => true)) = true := by decide +kernel
  unfold am_mck
  rw [h, Bool.true_and]
  exact h2
theorem am_mk75_0 : am_i75_0.all (am_ck true am_m75) = true := by decide +kernel
theorem am_mk75 : am_mck true am_m75 = true := by
  have h : am_m75.2.2.2.2.2.all (am_ck true am_m75) = true := by
    show (am_i75_0).all _ = true
    simp only [List.all_append, am_mk75_0, Bool.and_self]
  have h2 : (am_seq am_m75.2.2.2.2.2 && am_tck am_m75 && (match am_m75.2.2.2.2.2 with | x :: _ => Nat.beq x.1 0 | [] => true)) = true := by decide +kernel
  unfold am_mck
  rw [h, Bool.true_and]
  exact h2
theorem am_mk76_0 : am_i76_0.all (am_ck true am_m76) = true := by decide +kernel
theorem am_mk76 : am_mck true am_m76 = true := by
  have h : am_m76.2.2.2.2.2.all (am_ck true am_m76) = true := by
    show (am_i76_0).all _ = true
    simp only [List.all_append, am_mk76_0, Bool.and_self]
  have h2 : (am_seq am_m76.2.2.2.2.2 && am_tck am_m76 && (match am_m76.2.2.2.2.2 with | x :: _ => Nat.beq x.1 0 | [] => true)) = true := by decide +kernel
  unfold am_mck
  rw [h, Bool.true_and]
  exact h2
theorem am_mk77_0 : am_i77_0.all (am_ck true am_m77) = true := by decide +kernel
theorem am_mk77 : am_mck true am_m77 = true := by
  have h : am_m77.2.2.2.2.2.all (am_ck true am_m77) = true := by
    show (am_i77_0).all _ = true
    simp only [List.all_append, am_mk77_0, Bool.and_self]
  have h2 : (am_seq am_m77.2.2.2.2.2 && am_tck am_m77 && (match am_m77.2.2.2.2.2 with | x :: _ => Nat.beq x.1 0 | [] => true)) = true := by decide +kernel
  unfold am_mck
  rw [h, Bool.true_and]
  exact h2
theorem am_mk79_0 : am_i79_0.all (am_ck true am_m79) = true := by decide +kernel
theorem am_mk79 : am_mck true am_m79 = true := by
  have h : am_m79.2.2.2.2.2.all (am_ck true am_m79) = true := by
    show (am_i79_0).all _ = true
    simp only [List.all_append, am_mk79_0, Bool.and_self]
  have h2 : (am_seq am_m79.2.2.2.2.2 && am_tck am_m79 && (match am_m79.2.2.2.2.2 with | x :: _ => Nat.beq x.1 0 | [] => true)) = true := by decide +kernel
  unfold am_mck
  rw [h, Bool.true_and]
  exact h2
theorem am_mk80_0 : am_i80_0.all (am_ck true am_m80) = true := by decide +kernel
theorem am_mk80 : am_mck true am_m80 = true := by
  have h : am_m80.2.2.2.2.2.all (am_ck true am_m80) = true := by
    show (am_i80_0).all _ = true
    simp only [List.all_append, am_mk80_0, Bool.and_self]
  have h2 : (am_seq am_m80.2.2.2.2.2 && am_tck am_m80 && (match am_m80.2.2.2.2.2 with | x :: _ => Nat.beq x.1 0 | [] => true)) = true := by decide +kernel
  unfold am_mck
  rw [h, Bool.true_and]
  exact h2
theorem am_mk83_0 : am_i83_0.all (am_ck true am_m83) = true := by decide +kernel
theorem am_mk83 : am_mck true am_m83 = true := by
  have h : am_m83.2.2.2.2.2.all (am_ck true am_m83) = true := by
    show (am_i83_0).all _ = true
    simp only [List.all_append, am_mk83_0, Bool.and_self]
  have h2 : (am_seq am_m83.2.2.2.2.2 && am_tck am_m83 && (match am_m83.2.2.2.2.2 with | x :: _ => Nat.beq x.1 0 | [] => true)) = true := by decide +kernel
  unfold am_mck
  rw [h, Bool.true_and]
  exact h2
theorem am_mk84_0 : am_i84_0.all (am_ck true am_m84) = true := by decide +kernel
theorem am_mk84 : am_mck true am_m84 = true := by
  have h : am_m84.2.2.2.2.2.all (am_ck true am_m84) = true := by
    show (am_i84_0).all _ = true
    simp only [List.all_append, am_mk84_0, Bool.and_self]
  have h2 : (am_seq am_m84.2.2.2.2.2 && am_tck am_m84 && (match am_m84.2.2.2.2.2 with | x :: _ => Nat.beq x.1 0 | [] => true)) = true := by decide +kernel
  unfold am_mck
  rw [h, Bool.true_and]
  exact h2
theorem am_mk85_0 : am_i85_0.all (am_ck true am_m85) = true := by decide +kernel
theorem am_mk85 : am_mck true am_m85 = true := by
  have h : am_m85.2.2.2.2.2.all (am_ck true am_m85) = true := by
    show (am_i85_0).all _ = true
    simp only [List.all_append, am_mk85_0, Bool.and_self]
  have h2 : (am_seq am_m85.2.2.2.2.2 && am_tck am_m85 && (match am_m85.2.2.2.2.2 with | x :: _ => Nat.beq x.1 0 | [] => true)) = true := by decide +kernel
  unfold am_mck
  rw [h, Bool.true_and]
  exact h2
theorem am_mk86_0 : am_i86_0.all (am_ck true am_m86) = true := by decide +kernel
theorem am_mk86 : am_mck true am_m86 = true := by
  have h : am_m86.2.2.2.2.2.all (am_ck true am_m86) = true := by
    show (am_i86_0).all _ = true
    simp only [List.all_append, am_mk86_0, Bool.and_self]
  have h2 : (am_seq am_m86.2.2.2.2.2 && am_tck am_m86 && (match am_m86.2.2.2.2.2 with | x :: _ => Nat.beq x.1 0 | [] => true)) = true := by decide +kernel
  unfold am_mck
  rw [h, Bool.true_and]
  exact h2
theorem am_mk87_0 : am_i87_0.all (am_ck true am_m87) = true := by decide +kernel
theorem am_mk87 : am_mck true am_m87 = true := by
  have h : am_m87.2.2.2.2.2.all (am_ck true am_m87) = true := by
    show (am_i87_0).all _ = true
    simp only [List.all_append, am_mk87_0, Bool.and_self]
  have h2 : (am_seq am_m87.2.2.2.2.2 && am_tck am_m87 && (match am_m87.2.2.2.2.2 with | x :: _ => Nat.beq x.1 0 | [] => true)) = true := by decide +kernel
  unfold am_mck
  rw [h, Bool.true_and]
  exact h2
theorem am_mk88_0 : am_i88_0.all (am_ck true am_m88) = true := by decide +kernel
theorem am_mk88 : am_mck true am_m88 = true := by
  have h : am_m88.2.2.2.2.2.all (am_ck true am_m88) = true := by
    show (am_i88_0).all _ = true
    simp only [List.all_append, am_mk88_0, Bool.and_self]
  have h2 : (am_seq am_m88.2.2.2.2.2 && am_tck am_m88 && (match am_m88.2.2.2.2.2 with | x :: _ => Nat.beq x.1 0 | [] => true)) = true := by decide +kernel
  unfold am_mck
  rw [h, Bool.true_and]
  exact h2
theorem am_mk89_0 : am_i89_0.all (am_ck true am_m89) = true := by decide +kernel
theorem am_mk89 : am_mck true am_m89 = true := by
  have h : am_m89.2.2.2.2.2.all (am_ck true am_m89) = true := by
    show (am_i89_0).all _ = true
    simp only [List.all_append, am_mk89_0, Bool.and_self]
  have h2 : (am_seq am_m89.2.2.2.2.2 && am_tck am_m89 && (match am_m89.2.2.2.2.2 with | x :: _ => Nat.beq x.1 0 | [] => true)) = true := by decide +kernel
  unfold am_mck
  rw [h, Bool.true_and]
  exact h2
theorem am_mk90_0 : am_i90_0.all (am_ck true am_m90) = true := by decide +kernel
theorem am_mk90 : am_mck true am_m90 = true := by
  have h : am_m90.2.2.2.2.2.all (am_ck true am_m90) = true := by
    show (am_i90_0).all _ = true
    simp only [List.all_append, am_mk90_0, Bool.and_self]
  have h2 : (am_seq am_m90.2.2.2.2.2 && am_tck am_m90 && (match am_m90.2.2.2.2.2 with | x :: _ => Nat.beq x.1 0 | [] => true)) = true := by decide +kernel
  unfold am_mck
  rw [h, Bool.true_and]
  exact h2
theorem am_mk91_0 : am_i91_0.all (am_ck true am_m91) = true := by decide +kernel
theorem am_mk91 : am_mck true am_m91 = true := by
  have h : am_m91.2.2.2.2.2.all (am_ck true am_m91) = true := by
    show (am_i91_0).all _ = true
    simp only [List.all_append, am_mk91_0, Bool.and_self]
  have h2 : (am_seq am_m91.2.2.2.2.2 && am_tck am_m91 && (match am_m91.2.2.2.2.2 with | x :: _ => Nat.beq x.1 0 | [] => true)) = true := by decide +kernel
  unfold am_mck
  rw [h, Bool.true_and]
  exact h2
theorem am_mk92_0 : am_i92_0.all (am_ck true am_m92) = true := by decide +kernel
theorem am_mk92 : am_mck true am_m92 = true := by
  have h : am_m92.2.2.2.2.2.all (am_ck true am_m92) = true := by
    show (am_i92_0).all _ = true
    simp only [List.all_append, am_mk92_0, Bool.and_self]
  have h2 : (am_seq am_m92.2.2.2.2.2 && am_tck am_m92 && (match am_m92.2.2.2.2.2 with | x :: _ => Nat.beq x.1 0 | [] => true)) = true := by decide +kernel
  unfold am_mck
  rw [h, Bool.true_and]
  exact h2
theorem am_mk93_0 : am_i93_0.all (am_ck true am_m93) = true := by decide +kernel
theorem am_mk93 : am_mck true am_m93 = true := by
  have h : am_m93.2.2.2.2.2.all (am_ck true am_m93) = true := by
    show (am_i93_0).all _ = true
    simp only [List.all_append, am_mk93_0, Bool.and_self]
  have h2 : (am_seq am_m93.2.2.2.2.2 && am_tck am_m93 && (match am_m93.2.2.2.2.2 with | x :: _ => Nat.beq x.1 0 | [] => true)) = true := by decide +kernel
  unfold am_mck
  rw [h, Bool.true_and]
  exact h2
theorem am_mk94_0 : am_i94_0.all (am_ck true am_m94) = true := by decide +kernel
theorem am_mk94 : am_mck true am_m94 = true := by
  have h : am_m94.2.2.2.2.2.all (am_ck true am_m94) = true := by
    show (am_i94_0).all _ = true
    simp only [List.all_append, am_mk94_0, Bool.and_self]
  have h2 : (am_seq am_m94.2.2.2.2.2 && am_tck am_m94 && (match am_m94.2.2.2.2.2 with | x :: _ => Nat.beq x.1 0 | [] => true)) = true := by decide +kernel
  unfold am_mck
  rw [h, Bool.true_and]
  exact h2
theorem am_mk95_0 : am_i95_0.all (am_ck true am_m95) = true := by decide +kernel
theorem am_mk95_1 : am_i95_1.all (am_ck true am_m95) = true := by decide +kernel
theorem am_mk95 : am_mck true am_m95 = true := by
  have h : am_m95.2.2.2.2.2.all (am_ck true am_m95) = true := by
    show (am_i95_0 ++ (am_i95_1)).all _ = true
    simp only [List.all_append, am_mk95_0, am_mk95_1, Bool.and_self]
  have h2 : (am_seq am_m95.2.2.2.2.2 && am_tck am_m95 && (match am_m95.2.2.2.2.2 with | x :: _ => Nat.beq x.1 0 | [] => true)) = true := by decide +kernel
  unfold am_mck
  rw [h, Bool.true_and]
  exact h2
theorem am_mk97_0 : am_i97_0.all (am_ck true am_m97) = true := by decide +kernel
theorem am_mk97 : am_mck true am_m97 = true := by
  have h : am_m97.2.2.2.2.2.all (am_ck true am_m97) = true := by
    show (am_i97_0).all _ = true
    simp only [List.all_append, am_mk97_0, Bool.and_self]
  have h2 : (am_seq am_m97.2.2.2.2.2 && am_tck am_m97 && (match am_m97.2.2.2.2.2 with | x :: _ => Nat.beq x.1 0 | [] => true)) = true := by decide +kernel
  unfold am_mck
  rw [h, Bool.true_and]
  exact h2
theorem am_mk98_0 : am_i98_0.all (am_ck true am_m98) = true := by decide +kernel
theorem am_mk98 : am_mck true am_m98 = true := by
  have h : am_m98.2.2.2.2.2.all (am_ck true am_m98) = true := by
    show (am_i98_0).all _ = true
    simp only [List.all_append, am_mk98_0, Bool.and_self]
  have h2 : (am_seq am_m98.2.2.2.2.2 && am_tck am_m98 && (match am_m98.2.2.2.2.2 with | x :: _ => Nat.beq x.1 0 | [] => true)) = true := by decide +kernel
  unfold am_mck
  rw [h, Bool.true_and]
  exact h2
theorem am_mk99_0 : am_i99_0.all (am_ck true am_m99) = true := by decide +kernel
theorem am_mk99 : am_mck true am_m99 = true := by
  have h : am_m99.2.2.2.2.2.all (am_ck true am_m99) = true := by
    show (am_i99_0).all _ = true
    simp only [List.all_append, am_mk99_0, Bool.and_self]
  have h2 : (am_seq am_m99.2.2.2.2.2 && am_tck am_m99 && (match am_m99.2.2.2.2.2 with | x :: _ => Nat.beq x.1 0 | [] => true)) = true := by decide +kernel
  unfold am_mck
  rw [h, Bool.true_and]
  exact h2
theorem am_mk104_0 : am_i104_0.all (am_ck true am_m104) = true := by decide +kernel
theorem am_mk104 : am_mck true am_m104 = true := by
  have h : am_m104.2.2.2.2.2.all (am_ck true am_m104) = true := by
    show (am_i104_0).all _ = true
    simp only [List.all_append, am_mk104_0, Bool.and_self]
  have h2 : (am_seq am_m104.2.2.2.2.2 && am_tck am_m104 && (match am_m104.2.2.2.2.2 with | x :: _ => Nat.beq x.1 0 | [] => true)) = true := by decide +kernel
  unfold am_mck
  rw [h, Bool.true_and]
  exact h2
theorem am_mk105_0 : am_i105_0.all (am_ck true am_m105) = true := by decide +kernel
theorem am_mk105 : am_mck true am_m105 = true := by
  have h : am_m105.2.2.2.2.2.all (am_ck true am_m105) = true := by
    show (am_i105_0).all _ = true
    simp only [List.all_append, am_mk105_0, Bool.and_self]
  have h2 : (am_seq am_m105.2.2.2.2.2 && am_tck am_m105 && (match am_m105.2.2.2.2.2 with | x :: _ => Nat.beq x.1 0 | [] => true)) = true := by decide +kernel
  unfold am_mck
  rw [h, Bool.true_and]
  exact h2
theorem am_mk107_0 : am_i107_0.all (am_ck true am_m107) = true := by decide +kernel
theorem am_mk107 : am_mck true am_m107 = true := by
  have h : am_m107.2.2.2.2.2.all (am_ck true am_m107) = true := by
    show (am_i107_0).all _ = true
    simp only [List.all_append, am_mk107_0, Bool.and_self]
  have h2 : (am_seq am_m107.2.2.2.2.2 && am_tck am_m107 && (match am_m107.2.2.2.2.2 with | x :: _ => Nat.beq x.1 0 | [] => true)) = true := by decide +kernel
  unfold am_mck
  rw [h, Bool.true_and]
  exact h2
theorem am_mk108_0 : am_i108_0.all (am_ck true am_m108) = true := by decide +kernel
theorem am_mk108 : am_mck true am_m108 = true := by
  have h : am_m108.2.2.2.2.2.all (am_ck true am_m108) = true := by
    show (am_i108_0).all _ = true
    simp only [List.all_append, am_mk108_0, Bool.and_self]
  have h2 : (am_seq am_m108.2.2.2.2.2 && am_tck am_m108 && (match am_m108.2.2.2.2.2 with | x :: _ => Nat.beq x.1 0 | [] => true)) = true := by decide +kernel
  unfold am_mck
  rw [h, Bool.true_and]
  exact h2
theorem am_mk109_0 : am_i109_0.all (am_ck true am_m109) = true := by decide +kernel
theorem am_mk109 : am_mck true am_m109 = true := by
  have h : am_m109.2.2.2.2.2.all (am_ck true am_m109) = true := by
    show (am_i109_0).all _ = true
    simp only [List.all_append, am_mk109_0, Bool.and_self]
  have h2 : (am_seq am_m109.2.2.2.2.2 && am_tck am_m109 && (match am_m109.2.2.2.2.2 with | x :: _ => Nat.beq x.1 0 | [] => true)) = true := by decide +kernel
  unfold am_mck
  rw [h, Bool.true_and]
  exact h2
theorem am_mk110_0 : am_i110_0.all (am_ck true am_m110) = true := by decide +kernel
theorem am_mk110 : am_mck true am_m110 = true := by
  have h : am_m110.2.2.2.2.2.all (am_ck true am_m110) = true := by
    show (am_i110_0).all _ = true
    simp only [List.all_append, am_mk110_0, Bool.and_self]
  have h2 : (am_seq am_m110.2.2.2.2.2 && am_tck am_m110 && (match am_m110.2.2.2.2.2 with | x :: _ => Nat.beq x.1 0 | [] => true)) = true := by decide +kernel
  unfold am_mck
  rw [h, Bool.true_and]
  exact h2
theorem am_mk111_0 : am_i111_0.all (am_ck true am_m111) = true := by decide +kernel
theorem am_mk111 : am_mck true am_m111 = true := by
  have h : am_m111.2.2.2.2.2.all (am_ck true am_m111) = true := by
    show (am_i111_0).all _ = true
    simp only [List.all_append, am_mk111_0, Bool.and_self]
  have h2 : (am_seq am_m111.2.2.2.2.2 && am_tck am_m111 && (match am_m111.2.2.2.2.2 with | x :: _ => Nat.beq x.1 0 | [] => true)) = true := by decide +kernel
  unfold am_mck
  rw [h, Bool.true_and]
  exact h2
theorem am_mk112_0 : am_i112_0.all (am_ck true am_m112) = true := by decide +kernel
theorem am_mk112 : am_mck true am_m112 = true := by
  have h : am_m112.2.2.2.2.2.all (am_ck true am_m112) = true := by
    show (am_i112_0).all _ = true
    simp only [List.all_append, am_mk112_0, Bool.and_self]
  have h2 : (am_seq am_m112.2.2.2.2.2 && am_tck am_m112 && (match am_m112.2.2.2.2.2 with | x :: _ => Nat.beq x.1 0 | [] => true)) = true := by decide +kernel
  unfold am_mck
  rw [h, Bool.true_and]
  exact h2
theorem am_mk113_0 : am_i113_0.all (am_ck true am_m113) = true := by decide +kernel
theorem am_mk113_1 : am_i113_1.all (am_ck true am_m113) = true := by decide +kernel
theorem am_mk113_2 : am_i113_2.all (am_ck true am_m113) = true := by decide +kernel
theorem am_mk113_3 : am_i113_3.all (am_ck true am_m113) = true := by decide +kernel
theorem am_mk113_4 : am_i113_4.all (am_ck true am_m113) = true := by decide +kernel
theorem am_mk113_5 : am_i113_5.all (am_ck true am_m113) = true := by decide +kernel
theorem am_mk113_6 : am_i113_6.all (am_ck true am_m113) = true := by decide +kernel
theorem am_mk113 : am_mck true am_m113 = true := by
  have h : am_m113.2.2.2.2.2.all (am_ck true am_m113) = true := by
    show (am_i113_0 ++ (am_i113_1 ++ (am_i113_2 ++ (am_i113_3 ++ (am_i113_4 ++ (am_i113_5 ++ (am_i113_6))))))).all _ = true
    simp only [List.all_append, am_mk113_0, am_mk113_1, am_mk113_2, am_mk113_3, am_mk113_4, am_mk113_5, am_mk113_6, Bool.and_self]
  have h2 : (am_seq am_m113.2.2.2.2.2 && am_tck am_m113 && (match am_m113.2.2.2.2.2 with | x :: _ => Nat.beq x.1 0 | [] => true)) = true := by decide +kernel
  unfold am_mck
  rw [h, Bool.true_and]
  exact h2
theorem am_mk114_0 : am_i114_0.all (am_ck true am_m114) = true := by decide +kernel
theorem am_mk114 : am_mck true am_m114 = true := by
  have h : am_m114.2.2.2.2.2.all (am_ck true am_m114) = true := by
    show (am_i114_0).all _ = true
    simp only [List.all_append, am_mk114_0, Bool.and_self]
  have h2 : (am_seq am_m114.2.2.2.2.2 && am_tck am_m114 && (match am_m114.2.2.2.2.2 with | x :: _ => Nat.beq x.1 0 | [] => true)) = true := by decide +kernel
  unfold am_mck
  rw [h, Bool.true_and]
  exact h2
theorem am_mk115_0 : am_i115_0.all (am_ck true am_m115) = true := by decide +kernel
theorem am_mk115 : am_mck true am_m115 = true := by
  have h : am_m115.2.2.2.2.2.all (am_ck true am_m115) = true := by
    show (am_i115_0).all _ = true
    simp only [List.all_append, am_mk115_0, Bool.and_self]
  have h2 : (am_seq am_m115.2.2.2.2.2 && am_tck am_m115 && (match am_m115.2.2.2.2.2 with | x :: _ => Nat.beq x.1 0 | [] => true)) = true := by decide +kernel
  unfold am_mck
  rw [h, Bool.true_and]
  exact h2
theorem am_mk116_0 : am_i116_0.all (am_ck true am_m116) = true := by decide +kernel
theorem am_mk116 : am_mck true am_m116 = true := by
  have h : am_m116.2.2.2.2.2.all (am_ck true am_m116) = true := by
    show (am_i116_0).all _ = true
    simp only [List.all_append, am_mk116_0, Bool.and_self]
  have h2 : (am_seq am_m116.2.2.2.2.2 && am_tck am_m116 && (match am_m116.2.2.2.2.2 with | x :: _ => Nat.beq x.1 0 | [] => true)) = true := by decide +kernel
  unfold am_mck
  rw [h, Bool.true_and]
  exact h2
theorem am_mk117_0 : am_i117_0.all (am_ck true am_m117) = true := by decide +kernel
theorem am_mk117_1 : am_i117_1.all (am_ck true am_m117) = true := by decide +kernel
theorem am_mk117_2 : am_i117_2.all (am_ck true am_m117) = true := by decide +kernel
theorem am_mk117 : am_mck true am_m117 = true := by
  have h : am_m117.2.2.2.2.2.all (am_ck true am_m117) = true := by
    show (am_i117_0 ++ (am_i117_1 ++ (am_i117_2))).all _ = true
    simp only [List.all_append, am_mk117_0, am_mk117_1, am_mk117_2, Bool.and_self]
  have h2 : (am_seq am_m117.2.2.2.2.2 && am_tck am_m117 && (match am_m117.2.2.2.2.2 with | x :: _ => Nat.beq x.1 0 | [] => true)) = true := by decide +kernel
  unfold am_mck
  rw [h, Bool.true_and]
  exact h2
theorem am_mk118_0 : am_i118_0.all (am_ck true am_m118) = true := by decide +kernel
theorem am_mk118 : am_mck true am_m118 = true := by
  have h : am_m118.2.2.2.2.2.all (am_ck true am_m118) = true := by
    show (am_i118_0).all _ = true
    simp only [List.all_append, am_mk118_0, Bool.and_self]
  have h2 : (am_seq am_m118.2.2.2.2.2 && am_tck am_m118 && (match am_m118.2.2.2.2.2 with | x :: _ => Nat.beq x.1 0 | [] => true)) = true := by decide +kernel
  unfold am_mck
  rw [h, Bool.true_and]
  exact h2
theorem am_mk119_0 : am_i119_0.all (am_ck true am_m119) = true := by decide +kernel
theorem am_mk119_1 : am_i119_1.all (am_ck true am_m119) = true := by decide +kernel
theorem am_mk119_2 : am_i119_2.all (am_ck true am_m119) = true := by decide +kernel
theorem am_mk119_3 : am_i119_3.all (am_ck true am_m119) = true := by decide +kernel
theorem am_mk119_4 : am_i119_4.all (am_ck true am_m119) = true := by decide +kernel
theorem am_mk119_5 : am_i119_5.all (am_ck true am_m119) = true := by decide +kernel
theorem am_mk119 : am_mck true am_m119 = true := by
  have h : am_m119.2.2.2.2.2.all (am_ck true am_m119) = true := by
    show (am_i119_0 ++ (am_i119_1 ++ (am_i119_2 ++ (am_i119_3 ++ (am_i119_4 ++ (am_i119_5)))))).all _ = true
    simp only [List.all_append, am_mk119_0, am_mk119_1, am_mk119_2, am_mk119_3, am_mk119_4, am_mk119_5, Bool.and_self]
  have h2 : (am_seq am_m119.2.2.2.2.2 && am_tck am_m119 && (match am_m119.2.2.2.2.2 with | x :: _ => Nat.beq x.1 0 | [] => true)) = true := by decide +kernel
  unfold am_mck
  rw [h, Bool.true_and]
  exact h2
theorem am_mk120_0 : am_i120_0.all (am_ck true am_m120) = true := by decide +kernel
theorem am_mk120_1 : am_i120_1.all (am_ck true am_m120) = true := by decide +kernel
theorem am_mk120_2 : am_i120_2.all (am_ck true am_m120) = true := by decide +kernel
theorem am_mk120_3 : am_i120_3.all (am_ck true am_m120) = true := by decide +kernel
theorem am_mk120_4 : am_i120_4.all (am_ck true am_m120) = true := by decide +kernel
theorem am_mk120_5 : am_i120_5.all (am_ck true am_m120) = true := by decide +kernel
theorem am_mk120_6 : am_i120_6.all (am_ck true am_m120) = true := by decide +kernel
theorem am_mk120_7 : am_i120_7.all (am_ck true am_m120) = true := by decide +kernel
theorem am_mk120_8 : am_i120_8.all (am_ck true am_m120) = true := by decide +kernel
theorem am_mk120_9 : am_i120_9.all (am_ck true am_m120) = true := by decide +kernel
theorem am_mk120_10 : am_i120_10.all (am_ck true am_m120) = true := by decide +kernel
theorem am_mk120_11 : am_i120_11.all (am_ck true am_m120) = true := by decide +kernel
theorem am_mk120_12 : am_i120_12.all (am_ck true am_m120) = true := by decide +kernel
theorem am_mk120_13 : am_i120_13.all (am_ck true am_m120) = true := by decide +kernel
theorem am_mk120_14 : am_i120_14.all (am_ck true am_m120) = true := by decide +kernel
theorem am_mk120_15 : am_i120_15.all (am_ck true am_m120) = true := by decide +kernel
theorem am_mk120_16 : am_i120_16.all (am_ck true am_m120) = true := by decide +kernel
theorem am_mk120_17 : am_i120_17.all (am_ck true am_m120) = true := by decide +kernel
theorem am_mk120_18 : am_i120_18.all (am_ck true am_m120) = true := by decide +kernel
theorem am_mk120_19 : am_i120_19.all (am_ck true am_m120) = true := by decide +kernel
theorem am_mk120 : am_mck true am_m120 = true := by
  have h : am_m120.2.2.2.2.2.all (am_ck true am_m120) = true := by
    show (am_i120_0 ++ (am_i120_1 ++ (am_i120_2 ++ (am_i120_3 ++ (am_i120_4 ++ (am_i120_5 ++ (am_i120_6 ++ (am_i120_7 ++ (am_i120_8 ++ (am_i120_9 ++ (am_i120_10 ++ (am_i120_11 ++ (am_i120_12 ++ (am_i120_13 ++ (am_i120_14 ++ (am_i120_15 ++ (am_i120_16 ++ (am_i120_17 ++ (am_i120_18 ++ (am_i120_19)))))))))))))))))))).all _ = true
    simp only [List.all_append, am_mk120_0, am_mk120_1, am_mk120_2, am_mk120_3, am_mk120_4, am_mk120_5, am_mk120_6, am_mk120_7, am_mk120_8, am_mk120_9, am_mk120_10, am_mk120_11, am_mk120_12, am_mk120_13, am_mk120_14, am_mk120_15, am_mk120_16, am_mk120_17, am_mk120_18, am_mk120_19, Bool.and_self]
  have h2 : (am_seq am_m120.2.2.2.2.2 && am_tck am_m120 && (match am_m120.2.2.2.2.2 with | x :: _ => Nat.beq x.1 0 | [] => true)) = true := by decide +kernel
  unfold am_mck
  rw [h, Bool.true_and]
  exact h2
theorem am_mk121_0 : am_i121_0.all (am_ck true am_m121) = true := by decide +kernel
theorem am_mk121 : am_mck true am_m121 = true := by
  have h : am_m121.2.2.2.2.2.all (am_ck true am_m121) = true := by
    show (am_i121_0).all _ = true
    simp only [List.all_append, am_mk121_0, Bool.and_self]
  have h2 : (am_seq am_m121.2.2.2.2.2 && am_tck am_m121 && (match am_m121.2.2.2.2.2 with | x :: _ => Nat.beq x.1 0 | [] => true)) = true := by decide +kernel
  unfold am_mck
  rw [h, Bool.true_and]
  exact h2
theorem am_mk122_0 : am_i122_0.all (am_ck true am_m122) = true := by decide +kernel
theorem am_mk122 : am_mck true am_m122 = true := by
  have h : am_m122.2.2.2.2.2.all (am_ck true am_m122) = true := by
    show (am_i122_0).all _ = true
    simp only [List.all_append, am_mk122_0, Bool.and_self]
  have h2 : (am_seq am_m122.2.2.2.2.2 && am_tck am_m122 && (match am_m122.2.2.2.2.2 with | x :: _ => Nat.beq x.1 0 | [] => true)) = true := by decide +kernel
  unfold am_mck
  rw [h, Bool.true_and]
  exact h2
theorem am_mk123_0 : am_i123_0.all (am_ck true am_m123) = true := by decide +kernel
theorem am_mk123 : am_mck true am_m123 = true := by
  have h : am_m123.2.2.2.2.2.all (am_ck true am_m123) = true := by
    show (am_i123_0).all _ = true
    simp only [List.all_append, am_mk123_0, Bool.and_self]
  have h2 : (am_seq am_m123.2.2.2.2.2 && am_tck am_m123 && (match am_m123.2.2.2.2.2 with | x :: _ => Nat.beq x.1 0 | [] => true)) = true := by decide +kernel
  unfold am_mck
  rw [h, Bool.true_and]
  exact h2
theorem am_mk124_0 : am_i124_0.all (am_ck true am_m124) = true := by decide +kernel
theorem am_mk124 : am_mck true am_m124 = true := by
  have h : am_m124.2.2.2.2.2.all (am_ck true am_m124) = true := by
    show (am_i124_0).all _ = true
    simp only [List.all_append, am_mk124_0, Bool.and_self]
  have h2 : (am_seq am_m124.2.2.2.2.2 && am_tck am_m124 && (match am_m124.2.2.2.2.2 with | x :: _ => Nat.beq x.1 0 | [] => true)) = true := by decide +kernel
  unfold am_mck
  rw [h, Bool.true_and]
  exact h2
