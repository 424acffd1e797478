/-! ===== the compiled text is the program (laid by wip/p46/gen31.py) ===== -/
set_option maxRecDepth 200000 in
theorem am_cm0_0 : am_p0_0 = am_i0_0.map (fun q => (q.1, am_op am_db am_hc am_bl am_m0 q.1 q.2.1 q.2.2.2)) := rfl
set_option maxRecDepth 200000 in
theorem am_cm0_1 : am_p0_1 = am_i0_1.map (fun q => (q.1, am_op am_db am_hc am_bl am_m0 q.1 q.2.1 q.2.2.2)) := rfl
theorem am_cm0 : am_p0 = am_comp am_db am_hc am_bl am_m0 := by
  show am_p0_0 ++ (am_p0_1) = (am_i0_0 ++ (am_i0_1)).map (fun q => (q.1, am_op am_db am_hc am_bl am_m0 q.1 q.2.1 q.2.2.2))
  rw [am_cm0_0, am_cm0_1]
  simp only [List.map_append]
set_option maxRecDepth 200000 in
theorem am_cm1_0 : am_p1_0 = am_i1_0.map (fun q => (q.1, am_op am_db am_hc am_bl am_m1 q.1 q.2.1 q.2.2.2)) := rfl
theorem am_cm1 : am_p1 = am_comp am_db am_hc am_bl am_m1 := by
  show am_p1_0 = (am_i1_0).map (fun q => (q.1, am_op am_db am_hc am_bl am_m1 q.1 q.2.1 q.2.2.2))
  rw [am_cm1_0]
set_option maxRecDepth 200000 in
theorem am_cm2_0 : am_p2_0 = am_i2_0.map (fun q => (q.1, am_op am_db am_hc am_bl am_m2 q.1 q.2.1 q.2.2.2)) := rfl
theorem am_cm2 : am_p2 = am_comp am_db am_hc am_bl am_m2 := by
  show am_p2_0 = (am_i2_0).map (fun q => (q.1, am_op am_db am_hc am_bl am_m2 q.1 q.2.1 q.2.2.2))
  rw [am_cm2_0]
set_option maxRecDepth 200000 in
theorem am_cm3_0 : am_p3_0 = am_i3_0.map (fun q => (q.1, am_op am_db am_hc am_bl am_m3 q.1 q.2.1 q.2.2.2)) := rfl
theorem am_cm3 : am_p3 = am_comp am_db am_hc am_bl am_m3 := by
  show am_p3_0 = (am_i3_0).map (fun q => (q.1, am_op am_db am_hc am_bl am_m3 q.1 q.2.1 q.2.2.2))
  rw [am_cm3_0]
set_option maxRecDepth 200000 in
theorem am_cm4_0 : am_p4_0 = am_i4_0.map (fun q => (q.1, am_op am_db am_hc am_bl am_m4 q.1 q.2.1 q.2.2.2)) := rfl
theorem am_cm4 : am_p4 = am_comp am_db am_hc am_bl am_m4 := by
  show am_p4_0 = (am_i4_0).map (fun q => (q.1, am_op am_db am_hc am_bl am_m4 q.1 q.2.1 q.2.2.2))
  rw [am_cm4_0]
set_option maxRecDepth 200000 in
theorem am_cm5_0 : am_p5_0 = am_i5_0.map (fun q => (q.1, am_op am_db am_hc am_bl am_m5 q.1 q.2.1 q.2.2.2)) := rfl
theorem am_cm5 : am_p5 = am_comp am_db am_hc am_bl am_m5 := by
  show am_p5_0 = (am_i5_0).map (fun q => (q.1, am_op am_db am_hc am_bl am_m5 q.1 q.2.1 q.2.2.2))
  rw [am_cm5_0]
set_option maxRecDepth 200000 in
theorem am_cm6_0 : am_p6_0 = am_i6_0.map (fun q => (q.1, am_op am_db am_hc am_bl am_m6 q.1 q.2.1 q.2.2.2)) := rfl
theorem am_cm6 : am_p6 = am_comp am_db am_hc am_bl am_m6 := by
  show am_p6_0 = (am_i6_0).map (fun q => (q.1, am_op am_db am_hc am_bl am_m6 q.1 q.2.1 q.2.2.2))
  rw [am_cm6_0]
set_option maxRecDepth 200000 in
theorem am_cm7_0 : am_p7_0 = am_i7_0.map (fun q => (q.1, am_op am_db am_hc am_bl am_m7 q.1 q.2.1 q.2.2.2)) := rfl
theorem am_cm7 : am_p7 = am_comp am_db am_hc am_bl am_m7 := by
  show am_p7_0 = (am_i7_0).map (fun q => (q.1, am_op am_db am_hc am_bl am_m7 q.1 q.2.1 q.2.2.2))
  rw [am_cm7_0]
set_option maxRecDepth 200000 in
theorem am_cm8_0 : am_p8_0 = am_i8_0.map (fun q => (q.1, am_op am_db am_hc am_bl am_m8 q.1 q.2.1 q.2.2.2)) := rfl
theorem am_cm8 : am_p8 = am_comp am_db am_hc am_bl am_m8 := by
  show am_p8_0 = (am_i8_0).map (fun q => (q.1, am_op am_db am_hc am_bl am_m8 q.1 q.2.1 q.2.2.2))
  rw [am_cm8_0]
set_option maxRecDepth 200000 in
theorem am_cm9_0 : am_p9_0 = am_i9_0.map (fun q => (q.1, am_op am_db am_hc am_bl am_m9 q.1 q.2.1 q.2.2.2)) := rfl
theorem am_cm9 : am_p9 = am_comp am_db am_hc am_bl am_m9 := by
  show am_p9_0 = (am_i9_0).map (fun q => (q.1, am_op am_db am_hc am_bl am_m9 q.1 q.2.1 q.2.2.2))
  rw [am_cm9_0]
set_option maxRecDepth 200000 in
theorem am_cm10_0 : am_p10_0 = am_i10_0.map (fun q => (q.1, am_op am_db am_hc am_bl am_m10 q.1 q.2.1 q.2.2.2)) := rfl
theorem am_cm10 : am_p10 = am_comp am_db am_hc am_bl am_m10 := by
  show am_p10_0 = (am_i10_0).map (fun q => (q.1, am_op am_db am_hc am_bl am_m10 q.1 q.2.1 q.2.2.2))
  rw [am_cm10_0]
set_option maxRecDepth 200000 in
theorem am_cm11_0 : am_p11_0 = am_i11_0.map (fun q => (q.1, am_op am_db am_hc am_bl am_m11 q.1 q.2.1 q.2.2.2)) := rfl
theorem am_cm11 : am_p11 = am_comp am_db am_hc am_bl am_m11 := by
  show am_p11_0 = (am_i11_0).map (fun q => (q.1, am_op am_db am_hc am_bl am_m11 q.1 q.2.1 q.2.2.2))
  rw [am_cm11_0]
set_option maxRecDepth 200000 in
theorem am_cm12_0 : am_p12_0 = am_i12_0.map (fun q => (q.1, am_op am_db am_hc am_bl am_m12 q.1 q.2.1 q.2.2.2)) := rfl
theorem am_cm12 : am_p12 = am_comp am_db am_hc am_bl am_m12 := by
  show am_p12_0 = (am_i12_0).map (fun q => (q.1, am_op am_db am_hc am_bl am_m12 q.1 q.2.1 q.2.2.2))
  rw [am_cm12_0]
set_option maxRecDepth 200000 in
theorem am_cm13_0 : am_p13_0 = am_i13_0.map (fun q => (q.1, am_op am_db am_hc am_bl am_m13 q.1 q.2.1 q.2.2.2)) := rfl
theorem am_cm13 : am_p13 = am_comp am_db am_hc am_bl am_m13 := by
  show am_p13_0 = (am_i13_0).map (fun q => (q.1, am_op am_db am_hc am_bl am_m13 q.1 q.2.1 q.2.2.2))
  rw [am_cm13_0]
set_option maxRecDepth 200000 in
theorem am_cm14_0 : am_p14_0 = am_i14_0.map (fun q => (q.1, am_op am_db am_hc am_bl am_m14 q.1 q.2.1 q.2.2.2)) := rfl
theorem am_cm14 : am_p14 = am_comp am_db am_hc am_bl am_m14 := by
  show am_p14_0 = (am_i14_0).map (fun q => (q.1, am_op am_db am_hc am_bl am_m14 q.1 q.2.1 q.2.2.2))
  rw [am_cm14_0]
set_option maxRecDepth 200000 in
theorem am_cm15_0 : am_p15_0 = am_i15_0.map (fun q => (q.1, am_op am_db am_hc am_bl am_m15 q.1 q.2.1 q.2.2.2)) := rfl
theorem am_cm15 : am_p15 = am_comp am_db am_hc am_bl am_m15 := by
  show am_p15_0 = (am_i15_0).map (fun q => (q.1, am_op am_db am_hc am_bl am_m15 q.1 q.2.1 q.2.2.2))
  rw [am_cm15_0]
set_option maxRecDepth 200000 in
theorem am_cm16_0 : am_p16_0 = am_i16_0.map (fun q => (q.1, am_op am_db am_hc am_bl am_m16 q.1 q.2.1 q.2.2.2)) := rfl
theorem am_cm16 : am_p16 = am_comp am_db am_hc am_bl am_m16 := by
  show am_p16_0 = (am_i16_0).map (fun q => (q.1, am_op am_db am_hc am_bl am_m16 q.1 q.2.1 q.2.2.2))
  rw [am_cm16_0]
set_option maxRecDepth 200000 in
theorem am_cm17_0 : am_p17_0 = am_i17_0.map (fun q => (q.1, am_op am_db am_hc am_bl am_m17 q.1 q.2.1 q.2.2.2)) := rfl
theorem am_cm17 : am_p17 = am_comp am_db am_hc am_bl am_m17 := by
  show am_p17_0 = (am_i17_0).map (fun q => (q.1, am_op am_db am_hc am_bl am_m17 q.1 q.2.1 q.2.2.2))
  rw [am_cm17_0]
set_option maxRecDepth 200000 in
theorem am_cm18_0 : am_p18_0 = am_i18_0.map (fun q => (q.1, am_op am_db am_hc am_bl am_m18 q.1 q.2.1 q.2.2.2)) := rfl
theorem am_cm18 : am_p18 = am_comp am_db am_hc am_bl am_m18 := by
  show am_p18_0 = (am_i18_0).map (fun q => (q.1, am_op am_db am_hc am_bl am_m18 q.1 q.2.1 q.2.2.2))
  rw [am_cm18_0]
set_option maxRecDepth 200000 in
theorem am_cm19_0 : am_p19_0 = am_i19_0.map (fun q => (q.1, am_op am_db am_hc am_bl am_m19 q.1 q.2.1 q.2.2.2)) := rfl
set_option maxRecDepth 200000 in
theorem am_cm19_1 : am_p19_1 = am_i19_1.map (fun q => (q.1, am_op am_db am_hc am_bl am_m19 q.1 q.2.1 q.2.2.2)) := rfl
theorem am_cm19 : am_p19 = am_comp am_db am_hc am_bl am_m19 := by
  show am_p19_0 ++ (am_p19_1) = (am_i19_0 ++ (am_i19_1)).map (fun q => (q.1, am_op am_db am_hc am_bl am_m19 q.1 q.2.1 q.2.2.2))
  rw [am_cm19_0, am_cm19_1]
  simp only [List.map_append]
set_option maxRecDepth 200000 in
theorem am_cm20_0 : am_p20_0 = am_i20_0.map (fun q => (q.1, am_op am_db am_hc am_bl am_m20 q.1 q.2.1 q.2.2.2)) := rfl
theorem am_cm20 : am_p20 = am_comp am_db am_hc am_bl am_m20 := by
  show am_p20_0 = (am_i20_0).map (fun q => (q.1, am_op am_db am_hc am_bl am_m20 q.1 q.2.1 q.2.2.2))
  rw [am_cm20_0]
set_option maxRecDepth 200000 in
theorem am_cm21_0 : am_p21_0 = am_i21_0.map (fun q => (q.1, am_op am_db am_hc am_bl am_m21 q.1 q.2.1 q.2.2.2)) := rfl
theorem am_cm21 : am_p21 = am_comp am_db am_hc am_bl am_m21 := by
  show am_p21_0 = (am_i21_0).map (fun q => (q.1, am_op am_db am_hc am_bl am_m21 q.1 q.2.1 q.2.2.2))
  rw [am_cm21_0]
set_option maxRecDepth 200000 in
theorem am_cm22_0 : am_p22_0 = am_i22_0.map (fun q => (q.1, am_op am_db am_hc am_bl am_m22 q.1 q.2.1 q.2.2.2)) := rfl
theorem am_cm22 : am_p22 = am_comp am_db am_hc am_bl am_m22 := by
  show am_p22_0 = (am_i22_0).map (fun q => (q.1, am_op am_db am_hc am_bl am_m22 q.1 q.2.1 q.2.2.2))
  rw [am_cm22_0]
set_option maxRecDepth 200000 in
theorem am_cm23_0 : am_p23_0 = am_i23_0.map (fun q => (q.1, am_op am_db am_hc am_bl am_m23 q.1 q.2.1 q.2.2.2)) := rfl
theorem am_cm23 : am_p23 = am_comp am_db am_hc am_bl am_m23 := by
  show am_p23_0 = (am_i23_0).map (fun q => (q.1, am_op am_db am_hc am_bl am_m23 q.1 q.2.1 q.2.2.2))
  rw [am_cm23_0]
set_option maxRecDepth 200000 in
theorem am_cm24_0 : am_p24_0 = am_i24_0.map (fun q => (q.1, am_op am_db am_hc am_bl am_m24 q.1 q.2.1 q.2.2.2)) := rfl
theorem am_cm24 : am_p24 = am_comp am_db am_hc am_bl am_m24 := by
  show am_p24_0 = (am_i24_0).map (fun q => (q.1, am_op am_db am_hc am_bl am_m24 q.1 q.2.1 q.2.2.2))
  rw [am_cm24_0]
set_option maxRecDepth 200000 in
theorem am_cm25_0 : am_p25_0 = am_i25_0.map (fun q => (q.1, am_op am_db am_hc am_bl am_m25 q.1 q.2.1 q.2.2.2)) := rfl
theorem am_cm25 : am_p25 = am_comp am_db am_hc am_bl am_m25 := by
  show am_p25_0 = (am_i25_0).map (fun q => (q.1, am_op am_db am_hc am_bl am_m25 q.1 q.2.1 q.2.2.2))
  rw [am_cm25_0]
set_option maxRecDepth 200000 in
theorem am_cm26_0 : am_p26_0 = am_i26_0.map (fun q => (q.1, am_op am_db am_hc am_bl am_m26 q.1 q.2.1 q.2.2.2)) := rfl
set_option maxRecDepth 200000 in
theorem am_cm26_1 : am_p26_1 = am_i26_1.map (fun q => (q.1, am_op am_db am_hc am_bl am_m26 q.1 q.2.1 q.2.2.2)) := rfl
set_option maxRecDepth 200000 in
theorem am_cm26_2 : am_p26_2 = am_i26_2.map (fun q => (q.1, am_op am_db am_hc am_bl am_m26 q.1 q.2.1 q.2.2.2)) := rfl
set_option maxRecDepth 200000 in
theorem am_cm26_3 : am_p26_3 = am_i26_3.map (fun q => (q.1, am_op am_db am_hc am_bl am_m26 q.1 q.2.1 q.2.2.2)) := rfl
theorem am_cm26 : am_p26 = am_comp am_db am_hc am_bl am_m26 := by
  show am_p26_0 ++ (am_p26_1 ++ (am_p26_2 ++ (am_p26_3))) = (am_i26_0 ++ (am_i26_1 ++ (am_i26_2 ++ (am_i26_3)))).map (fun q => (q.1, am_op am_db am_hc am_bl am_m26 q.1 q.2.1 q.2.2.2))
  rw [am_cm26_0, am_cm26_1, am_cm26_2, am_cm26_3]
  simp only [List.map_append]
set_option maxRecDepth 200000 in
theorem am_cm27_0 : am_p27_0 = am_i27_0.map (fun q => (q.1, am_op am_db am_hc am_bl am_m27 q.1 q.2.1 q.2.2.2)) := rfl
theorem am_cm27 : am_p27 = am_comp am_db am_hc am_bl am_m27 := by
  show am_p27_0 = (am_i27_0).map (fun q => (q.1, am_op am_db am_hc am_bl am_m27 q.1 q.2.1 q.2.2.2))
  rw [am_cm27_0]
set_option maxRecDepth 200000 in
theorem am_cm28_0 : am_p28_0 = am_i28_0.map (fun q => (q.1, am_op am_db am_hc am_bl am_m28 q.1 q.2.1 q.2.2.2)) := rfl
theorem am_cm28 : am_p28 = am_comp am_db am_hc am_bl am_m28 := by
  show am_p28_0 = (am_i28_0).map (fun q => (q.1, am_op am_db am_hc am_bl am_m28 q.1 q.2.1 q.2.2.2))
  rw [am_cm28_0]
set_option maxRecDepth 200000 in
theorem am_cm29_0 : am_p29_0 = am_i29_0.map (fun q => (q.1, am_op am_db am_hc am_bl am_m29 q.1 q.2.1 q.2.2.2)) := rfl
theorem am_cm29 : am_p29 = am_comp am_db am_hc am_bl am_m29 := by
  show am_p29_0 = (am_i29_0).map (fun q => (q.1, am_op am_db am_hc am_bl am_m29 q.1 q.2.1 q.2.2.2))
  rw [am_cm29_0]
set_option maxRecDepth 200000 in
theorem am_cm30_0 : am_p30_0 = am_i30_0.map (fun q => (q.1, am_op am_db am_hc am_bl am_m30 q.1 q.2.1 q.2.2.2)) := rfl
theorem am_cm30 : am_p30 = am_comp am_db am_hc am_bl am_m30 := by
  show am_p30_0 = (am_i30_0).map (fun q => (q.1, am_op am_db am_hc am_bl am_m30 q.1 q.2.1 q.2.2.2))
  rw [am_cm30_0]
set_option maxRecDepth 200000 in
theorem am_cm31_0 : am_p31_0 = am_i31_0.map (fun q => (q.1, am_op am_db am_hc am_bl am_m31 q.1 q.2.1 q.2.2.2)) := rfl
theorem am_cm31 : am_p31 = am_comp am_db am_hc am_bl am_m31 := by
  show am_p31_0 = (am_i31_0).map (fun q => (q.1, am_op am_db am_hc am_bl am_m31 q.1 q.2.1 q.2.2.2))
  rw [am_cm31_0]
set_option maxRecDepth 200000 in
theorem am_cm32_0 : am_p32_0 = am_i32_0.map (fun q => (q.1, am_op am_db am_hc am_bl am_m32 q.1 q.2.1 q.2.2.2)) := rfl
theorem am_cm32 : am_p32 = am_comp am_db am_hc am_bl am_m32 := by
  show am_p32_0 = (am_i32_0).map (fun q => (q.1, am_op am_db am_hc am_bl am_m32 q.1 q.2.1 q.2.2.2))
  rw [am_cm32_0]
set_option maxRecDepth 200000 in
theorem am_cm33_0 : am_p33_0 = am_i33_0.map (fun q => (q.1, am_op am_db am_hc am_bl am_m33 q.1 q.2.1 q.2.2.2)) := rfl
theorem am_cm33 : am_p33 = am_comp am_db am_hc am_bl am_m33 := by
  show am_p33_0 = (am_i33_0).map (fun q => (q.1, am_op am_db am_hc am_bl am_m33 q.1 q.2.1 q.2.2.2))
  rw [am_cm33_0]
set_option maxRecDepth 200000 in
theorem am_cm34_0 : am_p34_0 = am_i34_0.map (fun q => (q.1, am_op am_db am_hc am_bl am_m34 q.1 q.2.1 q.2.2.2)) := rfl
theorem am_cm34 : am_p34 = am_comp am_db am_hc am_bl am_m34 := by
  show am_p34_0 = (am_i34_0).map (fun q => (q.1, am_op am_db am_hc am_bl am_m34 q.1 q.2.1 q.2.2.2))
  rw [am_cm34_0]
set_option maxRecDepth 200000 in
theorem am_cm35_0 : am_p35_0 = am_i35_0.map (fun q => (q.1, am_op am_db am_hc am_bl am_m35 q.1 q.2.1 q.2.2.2)) := rfl
theorem am_cm35 : am_p35 = am_comp am_db am_hc am_bl am_m35 := by
  show am_p35_0 = (am_i35_0).map (fun q => (q.1, am_op am_db am_hc am_bl am_m35 q.1 q.2.1 q.2.2.2))
  rw [am_cm35_0]
set_option maxRecDepth 200000 in
theorem am_cm36_0 : am_p36_0 = am_i36_0.map (fun q => (q.1, am_op am_db am_hc am_bl am_m36 q.1 q.2.1 q.2.2.2)) := rfl
theorem am_cm36 : am_p36 = am_comp am_db am_hc am_bl am_m36 := by
  show am_p36_0 = (am_i36_0).map (fun q => (q.1, am_op am_db am_hc am_bl am_m36 q.1 q.2.1 q.2.2.2))
  rw [am_cm36_0]
set_option maxRecDepth 200000 in
theorem am_cm37_0 : am_p37_0 = am_i37_0.map (fun q => (q.1, am_op am_db am_hc am_bl am_m37 q.1 q.2.1 q.2.2.2)) := rfl
theorem am_cm37 : am_p37 = am_comp am_db am_hc am_bl am_m37 := by
  show am_p37_0 = (am_i37_0).map (fun q => (q.1, am_op am_db am_hc am_bl am_m37 q.1 q.2.1 q.2.2.2))
  rw [am_cm37_0]
set_option maxRecDepth 200000 in
theorem am_cm38_0 : am_p38_0 = am_i38_0.map (fun q => (q.1, am_op am_db am_hc am_bl am_m38 q.1 q.2.1 q.2.2.2)) := rfl
theorem am_cm38 : am_p38 = am_comp am_db am_hc am_bl am_m38 := by
  show am_p38_0 = (am_i38_0).map (fun q => (q.1, am_op am_db am_hc am_bl am_m38 q.1 q.2.1 q.2.2.2))
  rw [am_cm38_0]
set_option maxRecDepth 200000 in
theorem am_cm39_0 : am_p39_0 = am_i39_0.map (fun q => (q.1, am_op am_db am_hc am_bl am_m39 q.1 q.2.1 q.2.2.2)) := rfl
theorem am_cm39 : am_p39 = am_comp am_db am_hc am_bl am_m39 := by
  show am_p39_0 = (am_i39_0).map (fun q => (q.1, am_op am_db am_hc am_bl am_m39 q.1 q.2.1 q.2.2.2))
  rw [am_cm39_0]
set_option maxRecDepth 200000 in
theorem am_cm40_0 : am_p40_0 = am_i40_0.map (fun q => (q.1, am_op am_db am_hc am_bl am_m40 q.1 q.2.1 q.2.2.2)) := rfl
theorem am_cm40 : am_p40 = am_comp am_db am_hc am_bl am_m40 := by
  show am_p40_0 = (am_i40_0).map (fun q => (q.1, am_op am_db am_hc am_bl am_m40 q.1 q.2.1 q.2.2.2))
  rw [am_cm40_0]
set_option maxRecDepth 200000 in
theorem am_cm41_0 : am_p41_0 = am_i41_0.map (fun q => (q.1, am_op am_db am_hc am_bl am_m41 q.1 q.2.1 q.2.2.2)) := rfl
theorem am_cm41 : am_p41 = am_comp am_db am_hc am_bl am_m41 := by
  show am_p41_0 = (am_i41_0).map (fun q => (q.1, am_op am_db am_hc am_bl am_m41 q.1 q.2.1 q.2.2.2))
  rw [am_cm41_0]
set_option maxRecDepth 200000 in
theorem am_cm42_0 : am_p42_0 = am_i42_0.map (fun q => (q.1, am_op am_db am_hc am_bl am_m42 q.1 q.2.1 q.2.2.2)) := rfl
theorem am_cm42 : am_p42 = am_comp am_db am_hc am_bl am_m42 := by
  show am_p42_0 = (am_i42_0).map (fun q => (q.1, am_op am_db am_hc am_bl am_m42 q.1 q.2.1 q.2.2.2))
  rw [am_cm42_0]
set_option maxRecDepth 200000 in
theorem am_cm43_0 : am_p43_0 = am_i43_0.map (fun q => (q.1, am_op am_db am_hc am_bl am_m43 q.1 q.2.1 q.2.2.2)) := rfl
theorem am_cm43 : am_p43 = am_comp am_db am_hc am_bl am_m43 := by
  show am_p43_0 = (am_i43_0).map (fun q => (q.1, am_op am_db am_hc am_bl am_m43 q.1 q.2.1 q.2.2.2))
  rw [am_cm43_0]
set_option maxRecDepth 200000 in
theorem am_cm44_0 : am_p44_0 = am_i44_0.map (fun q => (q.1, am_op am_db am_hc am_bl am_m44 q.1 q.2.1 q.2.2.2)) := rfl
theorem am_cm44 : am_p44 = am_comp am_db am_hc am_bl am_m44 := by
  show am_p44_0 = (am_i44_0).map (fun q => (q.1, am_op am_db am_hc am_bl am_m44 q.1 q.2.1 q.2.2.2))
  rw [am_cm44_0]
set_option maxRecDepth 200000 in
theorem am_cm45_0 : am_p45_0 = am_i45_0.map (fun q => (q.1, am_op am_db am_hc am_bl am_m45 q.1 q.2.1 q.2.2.2)) := rfl
theorem am_cm45 : am_p45 = am_comp am_db am_hc am_bl am_m45 := by
  show am_p45_0 = (am_i45_0).map (fun q => (q.1, am_op am_db am_hc am_bl am_m45 q.1 q.2.1 q.2.2.2))
  rw [am_cm45_0]
set_option maxRecDepth 200000 in
theorem am_cm46_0 : am_p46_0 = am_i46_0.map (fun q => (q.1, am_op am_db am_hc am_bl am_m46 q.1 q.2.1 q.2.2.2)) := rfl
theorem am_cm46 : am_p46 = am_comp am_db am_hc am_bl am_m46 := by
  show am_p46_0 = (am_i46_0).map (fun q => (q.1, am_op am_db am_hc am_bl am_m46 q.1 q.2.1 q.2.2.2))
  rw [am_cm46_0]
set_option maxRecDepth 200000 in
theorem am_cm48_0 : am_p48_0 = am_i48_0.map (fun q => (q.1, am_op am_db am_hc am_bl am_m48 q.1 q.2.1 q.2.2.2)) := rfl
theorem am_cm48 : am_p48 = am_comp am_db am_hc am_bl am_m48 := by
  show am_p48_0 = (am_i48_0).map (fun q => (q.1, am_op am_db am_hc am_bl am_m48 q.1 q.2.1 q.2.2.2))
  rw [am_cm48_0]
set_option maxRecDepth 200000 in
theorem am_cm49_0 : am_p49_0 = am_i49_0.map (fun q => (q.1, am_op am_db am_hc am_bl am_m49 q.1 q.2.1 q.2.2.2)) := rfl
set_option maxRecDepth 200000 in
theorem am_cm49_1 : am_p49_1 = am_i49_1.map (fun q => (q.1, am_op am_db am_hc am_bl am_m49 q.1 q.2.1 q.2.2.2)) := rfl
theorem am_cm49 : am_p49 = am_comp am_db am_hc am_bl am_m49 := by
  show am_p49_0 ++ (am_p49_1) = (am_i49_0 ++ (am_i49_1)).map (fun q => (q.1, am_op am_db am_hc am_bl am_m49 q.1 q.2.1 q.2.2.2))
  rw [am_cm49_0, am_cm49_1]
  simp only [List.map_append]
set_option maxRecDepth 200000 in
theorem am_cm50_0 : am_p50_0 = am_i50_0.map (fun q => (q.1, am_op am_db am_hc am_bl am_m50 q.1 q.2.1 q.2.2.2)) := rfl
theorem am_cm50 : am_p50 = am_comp am_db am_hc am_bl am_m50 := by
  show am_p50_0 = (am_i50_0).map (fun q => (q.1, am_op am_db am_hc am_bl am_m50 q.1 q.2.1 q.2.2.2))
  rw [am_cm50_0]
set_option maxRecDepth 200000 in
theorem am_cm51_0 : am_p51_0 = am_i51_0.map (fun q => (q.1, am_op am_db am_hc am_bl am_m51 q.1 q.2.1 q.2.2.2)) := rfl
theorem am_cm51 : am_p51 = am_comp am_db am_hc am_bl am_m51 := by
  show am_p51_0 = (am_i51_0).map (fun q => (q.1, am_op am_db am_hc am_bl am_m51 q.1 q.2.1 q.2.2.2))
  rw [am_cm51_0]
set_option maxRecDepth 200000 in
theorem am_cm52_0 : am_p52_0 = am_i52_0.map (fun q => (q.1, am_op am_db am_hc am_bl am_m52 q.1 q.2.1 q.2.2.2)) := rfl
theorem am_cm52 : am_p52 = am_comp am_db am_hc am_bl am_m52 := by
  show am_p52_0 = (am_i52_0).map (fun q => (q.1, am_op am_db am_hc am_bl am_m52 q.1 q.2.1 q.2.2.2))
  rw [am_cm52_0]
set_option maxRecDepth 200000 in
theorem am_cm53_0 : am_p53_0 = am_i53_0.map (fun q => (q.1, am_op am_db am_hc am_bl am_m53 q.1 q.2.1 q.2.2.2)) := rfl
theorem am_cm53 : am_p53 = am_comp am_db am_hc am_bl am_m53 := by
  show am_p53_0 = (am_i53_0).map (fun q => (q.1, am_op am_db am_hc am_bl am_m53 q.1 q.2.1 q.2.2.2))
  rw [am_cm53_0]
set_option maxRecDepth 200000 in
theorem am_cm54_0 : am_p54_0 = am_i54_0.map (fun q => (q.1, am_op am_db am_hc am_bl am_m54 q.1 q.2.1 q.2.2.2)) := rfl
theorem am_cm54 : am_p54 = am_comp am_db am_hc am_bl am_m54 := by
  show am_p54_0 = (am_i54_0).map (fun q => (q.1, am_op am_db am_hc am_bl am_m54 q.1 q.2.1 q.2.2.2))
  rw [am_cm54_0]
set_option maxRecDepth 200000 in
theorem am_cm55_0 : am_p55_0 = am_i55_0.map (fun q => (q.1, am_op am_db am_hc am_bl am_m55 q.1 q.2.1 q.2.2.2)) := rfl
theorem am_cm55 : am_p55 = am_comp am_db am_hc am_bl am_m55 := by
  show am_p55_0 = (am_i55_0).map (fun q => (q.1, am_op am_db am_hc am_bl am_m55 q.1 q.2.1 q.2.2.2))
  rw [am_cm55_0]
set_option maxRecDepth 200000 in
theorem am_cm56_0 : am_p56_0 = am_i56_0.map (fun q => (q.1, am_op am_db am_hc am_bl am_m56 q.1 q.2.1 q.2.2.2)) := rfl
theorem am_cm56 : am_p56 = am_comp am_db am_hc am_bl am_m56 := by
  show am_p56_0 = (am_i56_0).map (fun q => (q.1, am_op am_db am_hc am_bl am_m56 q.1 q.2.1 q.2.2.2))
  rw [am_cm56_0]
set_option maxRecDepth 200000 in
theorem am_cm57_0 : am_p57_0 = am_i57_0.map (fun q => (q.1, am_op am_db am_hc am_bl am_m57 q.1 q.2.1 q.2.2.2)) := rfl
theorem am_cm57 : am_p57 = am_comp am_db am_hc am_bl am_m57 := by
  show am_p57_0 = (am_i57_0).map (fun q => (q.1, am_op am_db am_hc am_bl am_m57 q.1 q.2.1 q.2.2.2))
  rw [am_cm57_0]
set_option maxRecDepth 200000 in
theorem am_cm58_0 : am_p58_0 = am_i58_0.map (fun q => (q.1, am_op am_db am_hc am_bl am_m58 q.1 q.2.1 q.2.2.2)) := rfl
set_option maxRecDepth 200000 in
theorem am_cm58_1 : am_p58_1 = am_i58_1.map (fun q => (q.1, am_op am_db am_hc am_bl am_m58 q.1 q.2.1 q.2.2.2)) := rfl
theorem am_cm58 : am_p58 = am_comp am_db am_hc am_bl am_m58 := by
  show am_p58_0 ++ (am_p58_1) = (am_i58_0 ++ (am_i58_1)).map (fun q => (q.1, am_op am_db am_hc am_bl am_m58 q.1 q.2.1 q.2.2.2))
  rw [am_cm58_0, am_cm58_1]
  simp only [List.map_append]
set_option maxRecDepth 200000 in
theorem am_cm59_0 : am_p59_0 = am_i59_0.map (fun q => (q.1, am_op am_db am_hc am_bl am_m59 q.1 q.2.1 q.2.2.2)) := rfl
theorem am_cm59 : am_p59 = am_comp am_db am_hc am_bl am_m59 := by
  show am_p59_0 = (am_i59_0).map (fun q => (q.1, am_op am_db am_hc am_bl am_m59 q.1 q.2.1 q.2.2.2))
  rw [am_cm59_0]
set_option maxRecDepth 200000 in
theorem am_cm60_0 : am_p60_0 = am_i60_0.map (fun q => (q.1, am_op am_db am_hc am_bl am_m60 q.1 q.2.1 q.2.2.2)) := rfl
theorem am_cm60 : am_p60 = am_comp am_db am_hc am_bl am_m60 := by
  show am_p60_0 = (am_i60_0).map (fun q => (q.1, am_op am_db am_hc am_bl am_m60 q.1 q.2.1 q.2.2.2))
  rw [am_cm60_0]
set_option maxRecDepth 200000 in
theorem am_cm61_0 : am_p61_0 = am_i61_0.map (fun q => (q.1, am_op am_db am_hc am_bl am_m61 q.1 q.2.1 q.2.2.2)) := rfl
theorem am_cm61 : am_p61 = am_comp am_db am_hc am_bl am_m61 := by
  show am_p61_0 = (am_i61_0).map (fun q => (q.1, am_op am_db am_hc am_bl am_m61 q.1 q.2.1 q.2.2.2))
  rw [am_cm61_0]
set_option maxRecDepth 200000 in
theorem am_cm62_0 : am_p62_0 = am_i62_0.map (fun q => (q.1, am_op am_db am_hc am_bl am_m62 q.1 q.2.1 q.2.2.2)) := rfl
set_option maxRecDepth 200000 in
theorem am_cm62_1 : am_p62_1 = am_i62_1.map (fun q => (q.1, am_op am_db am_hc am_bl am_m62 q.1 q.2.1 q.2.2.2)) := rfl
theorem am_cm62 : am_p62 = am_comp am_db am_hc am_bl am_m62 := by
  show am_p62_0 ++ (am_p62_1) = (am_i62_0 ++ (am_i62_1)).map (fun q => (q.1, am_op am_db am_hc am_bl am_m62 q.1 q.2.1 q.2.2.2))
  rw [am_cm62_0, am_cm62_1]
  simp only [List.map_append]
set_option maxRecDepth 200000 in
theorem am_cm63_0 : am_p63_0 = am_i63_0.map (fun q => (q.1, am_op am_db am_hc am_bl am_m63 q.1 q.2.1 q.2.2.2)) := rfl
theorem am_cm63 : am_p63 = am_comp am_db am_hc am_bl am_m63 := by
  show am_p63_0 = (am_i63_0).map (fun q => (q.1, am_op am_db am_hc am_bl am_m63 q.1 q.2.1 q.2.2.2))
  rw [am_cm63_0]
set_option maxRecDepth 200000 in
theorem am_cm64_0 : am_p64_0 = am_i64_0.map (fun q => (q.1, am_op am_db am_hc am_bl am_m64 q.1 q.2.1 q.2.2.2)) := rfl
theorem am_cm64 : am_p64 = am_comp am_db am_hc am_bl am_m64 := by
  show am_p64_0 = (am_i64_0).map (fun q => (q.1, am_op am_db am_hc am_bl am_m64 q.1 q.2.1 q.2.2.2))
  rw [am_cm64_0]
set_option maxRecDepth 200000 in
theorem am_cm65_0 : am_p65_0 = am_i65_0.map (fun q => (q.1, am_op am_db am_hc am_bl am_m65 q.1 q.2.1 q.2.2.2)) := rfl
theorem am_cm65 : am_p65 = am_comp am_db am_hc am_bl am_m65 := by
  show am_p65_0 = (am_i65_0).map (fun q => (q.1, am_op am_db am_hc am_bl am_m65 q.1 q.2.1 q.2.2.2))
  rw [am_cm65_0]
set_option maxRecDepth 200000 in
theorem am_cm66_0 : am_p66_0 = am_i66_0.map (fun q => (q.1, am_op am_db am_hc am_bl am_m66 q.1 q.2.1 q.2.2.2)) := rfl
theorem am_cm66 : am_p66 = am_comp am_db am_hc am_bl am_m66 := by
  show am_p66_0 = (am_i66_0).map (fun q => (q.1, am_op am_db am_hc am_bl am_m66 q.1 q.2.1 q.2.2.2))
  rw [am_cm66_0]
set_option maxRecDepth 200000 in
theorem am_cm70_0 : am_p70_0 = am_i70_0.map (fun q => (q.1, am_op am_db am_hc am_bl am_m70 q.1 q.2.1 q.2.2.2)) := rfl
theorem am_cm70 : am_p70 = am_comp am_db am_hc am_bl am_m70 := by
  show am_p70_0 = (am_i70_0).map (fun q => (q.1, am_op am_db am_hc am_bl am_m70 q.1 q.2.1 q.2.2.2))
  rw [am_cm70_0]
set_option maxRecDepth 200000 in
theorem am_cm71_0 : am_p71_0 = am_i71_0.map (fun q => (q.1, am_op am_db am_hc am_bl am_m71 q.1 q.2.1 q.2.2.2)) := rfl
theorem am_cm71 : am_p71 = am_comp am_db am_hc am_bl am_m71 := by
  show am_p71_0 = (am_i71_0).map (fun q => (q.1, am_op am_db am_hc am_bl am_m71 q.1 q.2.1 q.2.2.2))
  rw [am_cm71_0]
set_option maxRecDepth 200000 in
theorem am_cm72_0 : am_p72_0 = am_i72_0.map (fun q => (q.1, am_op am_db am_hc am_bl am_m72 q.1 q.2.1 q.2.2.2)) := rfl
theorem am_cm72 : am_p72 = am_comp am_db am_hc am_bl am_m72 := by
  show am_p72_0 = (am_i72_0).map (fun q => (q.1, am_op am_db am_hc am_bl am_m72 q.1 q.2.1 q.2.2.2))
  rw [am_cm72_0]
set_option maxRecDepth 200000 in
theorem am_cm73_0 : am_p73_0 = am_i73_0.map (fun q => (q.1, am_op am_db am_hc am_bl am_m73 q.1 q.2.1 q.2.2.2)) := rfl
theorem am_cm73 : am_p73 = am_comp am_db am_hc am_bl am_m73 := by
  show am_p73_0 = (am_i73_0).map (fun q => (q.1, am_op am_db am_hc am_bl am_m73 q.1 q.2.1 q.2.2.2))
  rw [am_cm73_0]
set_option maxRecDepth 200000 in
theorem am_cm74_0 : am_p74_0 = am_i74_0.map (fun q => (q.1, am_op am_db am_hc am_bl am_m74 q.1 q.2.1 q.2.2.2)) := rfl
theorem am_cm74 : am_p74 = am_comp am_db am_hc am_bl am_m74 := by
  show am_p74_0 = (am_i74_0).map (fun q => (q.1, am_op am_db am_hc am_bl am_m74 q.1 q.2.1 q.2.2.2))
  rw [am_cm74_0]
set_option maxRecDepth 200000 in
theorem am_cm75_0 : am_p75_0 = am_i75_0.map (fun q => (q.1, am_op am_db am_hc am_bl am_m75 q.1 q.2.1 q.2.2.2)) := rfl
theorem am_cm75 : am_p75 = am_comp am_db am_hc am_bl am_m75 := by
  show am_p75_0 = (am_i75_0).map (fun q => (q.1, am_op am_db am_hc am_bl am_m75 q.1 q.2.1 q.2.2.2))
  rw [am_cm75_0]
set_option maxRecDepth 200000 in
theorem am_cm76_0 : am_p76_0 = am_i76_0.map (fun q => (q.1, am_op am_db am_hc am_bl am_m76 q.1 q.2.1 q.2.2.2)) := rfl
theorem am_cm76 : am_p76 = am_comp am_db am_hc am_bl am_m76 := by
  show am_p76_0 = (am_i76_0).map (fun q => (q.1, am_op am_db am_hc am_bl am_m76 q.1 q.2.1 q.2.2.2))
  rw [am_cm76_0]
set_option maxRecDepth 200000 in
theorem am_cm77_0 : am_p77_0 = am_i77_0.map (fun q => (q.1, am_op am_db am_hc am_bl am_m77 q.1 q.2.1 q.2.2.2)) := rfl
theorem am_cm77 : am_p77 = am_comp am_db am_hc am_bl am_m77 := by
  show am_p77_0 = (am_i77_0).map (fun q => (q.1, am_op am_db am_hc am_bl am_m77 q.1 q.2.1 q.2.2.2))
  rw [am_cm77_0]
set_option maxRecDepth 200000 in
theorem am_cm79_0 : am_p79_0 = am_i79_0.map (fun q => (q.1, am_op am_db am_hc am_bl am_m79 q.1 q.2.1 q.2.2.2)) := rfl
theorem am_cm79 : am_p79 = am_comp am_db am_hc am_bl am_m79 := by
  show am_p79_0 = (am_i79_0).map (fun q => (q.1, am_op am_db am_hc am_bl am_m79 q.1 q.2.1 q.2.2.2))
  rw [am_cm79_0]
set_option maxRecDepth 200000 in
theorem am_cm80_0 : am_p80_0 = am_i80_0.map (fun q => (q.1, am_op am_db am_hc am_bl am_m80 q.1 q.2.1 q.2.2.2)) := rfl
theorem am_cm80 : am_p80 = am_comp am_db am_hc am_bl am_m80 := by
  show am_p80_0 = (am_i80_0).map (fun q => (q.1, am_op am_db am_hc am_bl am_m80 q.1 q.2.1 q.2.2.2))
  rw [am_cm80_0]
set_option maxRecDepth 200000 in
theorem am_cm83_0 : am_p83_0 = am_i83_0.map (fun q => (q.1, am_op am_db am_hc am_bl am_m83 q.1 q.2.1 q.2.2.2)) := rfl
theorem am_cm83 : am_p83 = am_comp am_db am_hc am_bl am_m83 := by
  show am_p83_0 = (am_i83_0).map (fun q => (q.1, am_op am_db am_hc am_bl am_m83 q.1 q.2.1 q.2.2.2))
  rw [am_cm83_0]
set_option maxRecDepth 200000 in
theorem am_cm84_0 : am_p84_0 = am_i84_0.map (fun q => (q.1, am_op am_db am_hc am_bl am_m84 q.1 q.2.1 q.2.2.2)) := rfl
theorem am_cm84 : am_p84 = am_comp am_db am_hc am_bl am_m84 := by
  show am_p84_0 = (am_i84_0).map (fun q => (q.1, am_op am_db am_hc am_bl am_m84 q.1 q.2.1 q.2.2.2))
  rw [am_cm84_0]
set_option maxRecDepth 200000 in
theorem am_cm85_0 : am_p85_0 = am_i85_0.map (fun q => (q.1, am_op am_db am_hc am_bl am_m85 q.1 q.2.1 q.2.2.2)) := rfl
theorem am_cm85 : am_p85 = am_comp am_db am_hc am_bl am_m85 := by
  show am_p85_0 = (am_i85_0).map (fun q => (q.1, am_op am_db am_hc am_bl am_m85 q.1 q.2.1 q.2.2.2))
  rw [am_cm85_0]
set_option maxRecDepth 200000 in
theorem am_cm86_0 : am_p86_0 = am_i86_0.map (fun q => (q.1, am_op am_db am_hc am_bl am_m86 q.1 q.2.1 q.2.2.2)) := rfl
theorem am_cm86 : am_p86 = am_comp am_db am_hc am_bl am_m86 := by
  show am_p86_0 = (am_i86_0).map (fun q => (q.1, am_op am_db am_hc am_bl am_m86 q.1 q.2.1 q.2.2.2))
  rw [am_cm86_0]
set_option maxRecDepth 200000 in
theorem am_cm87_0 : am_p87_0 = am_i87_0.map (fun q => (q.1, am_op am_db am_hc am_bl am_m87 q.1 q.2.1 q.2.2.2)) := rfl
theorem am_cm87 : am_p87 = am_comp am_db am_hc am_bl am_m87 := by
  show am_p87_0 = (am_i87_0).map (fun q => (q.1, am_op am_db am_hc am_bl am_m87 q.1 q.2.1 q.2.2.2))
  rw [am_cm87_0]
set_option maxRecDepth 200000 in
theorem am_cm88_0 : am_p88_0 = am_i88_0.map (fun q => (q.1, am_op am_db am_hc am_bl am_m88 q.1 q.2.1 q.2.2.2)) := rfl
theorem am_cm88 : am_p88 = am_comp am_db am_hc am_bl am_m88 := by
  show am_p88_0 = (am_i88_0).map (fun q => (q.1, am_op am_db am_hc am_bl am_m88 q.1 q.2.1 q.2.2.2))
  rw [am_cm88_0]
set_option maxRecDepth 200000 in
theorem am_cm89_0 : am_p89_0 = am_i89_0.map (fun q => (q.1, am_op am_db am_hc am_bl am_m89 q.1 q.2.1 q.2.2.2)) := rfl
theorem am_cm89 : am_p89 = am_comp am_db am_hc am_bl am_m89 := by
  show am_p89_0 = (am_i89_0).map (fun q => (q.1, am_op am_db am_hc am_bl am_m89 q.1 q.2.1 q.2.2.2))
  rw [am_cm89_0]
set_option maxRecDepth 200000 in
theorem am_cm90_0 : am_p90_0 = am_i90_0.map (fun q => (q.1, am_op am_db am_hc am_bl am_m90 q.1 q.2.1 q.2.2.2)) := rfl
theorem am_cm90 : am_p90 = am_comp am_db am_hc am_bl am_m90 := by
  show am_p90_0 = (am_i90_0).map (fun q => (q.1, am_op am_db am_hc am_bl am_m90 q.1 q.2.1 q.2.2.2))
  rw [am_cm90_0]
set_option maxRecDepth 200000 in
theorem am_cm91_0 : am_p91_0 = am_i91_0.map (fun q => (q.1, am_op am_db am_hc am_bl am_m91 q.1 q.2.1 q.2.2.2)) := rfl
theorem am_cm91 : am_p91 = am_comp am_db am_hc am_bl am_m91 := by
  show am_p91_0 = (am_i91_0).map (fun q => (q.1, am_op am_db am_hc am_bl am_m91 q.1 q.2.1 q.2.2.2))
  rw [am_cm91_0]
set_option maxRecDepth 200000 in
theorem am_cm92_0 : am_p92_0 = am_i92_0.map (fun q => (q.1, am_op am_db am_hc am_bl am_m92 q.1 q.2.1 q.2.2.2)) := rfl
theorem am_cm92 : am_p92 = am_comp am_db am_hc am_bl am_m92 := by
  show am_p92_0 = (am_i92_0).map (fun q => (q.1, am_op am_db am_hc am_bl am_m92 q.1 q.2.1 q.2.2.2))
  rw [am_cm92_0]
set_option maxRecDepth 200000 in
theorem am_cm93_0 : am_p93_0 = am_i93_0.map (fun q => (q.1, am_op am_db am_hc am_bl am_m93 q.1 q.2.1 q.2.2.2)) := rfl
theorem am_cm93 : am_p93 = am_comp am_db am_hc am_bl am_m93 := by
  show am_p93_0 = (am_i93_0).map (fun q => (q.1, am_op am_db am_hc am_bl am_m93 q.1 q.2.1 q.2.2.2))
  rw [am_cm93_0]
set_option maxRecDepth 200000 in
theorem am_cm94_0 : am_p94_0 = am_i94_0.map (fun q => (q.1, am_op am_db am_hc am_bl am_m94 q.1 q.2.1 q.2.2.2)) := rfl
theorem am_cm94 : am_p94 = am_comp am_db am_hc am_bl am_m94 := by
  show am_p94_0 = (am_i94_0).map (fun q => (q.1, am_op am_db am_hc am_bl am_m94 q.1 q.2.1 q.2.2.2))
  rw [am_cm94_0]
set_option maxRecDepth 200000 in
theorem am_cm95_0 : am_p95_0 = am_i95_0.map (fun q => (q.1, am_op am_db am_hc am_bl am_m95 q.1 q.2.1 q.2.2.2)) := rfl
set_option maxRecDepth 200000 in
theorem am_cm95_1 : am_p95_1 = am_i95_1.map (fun q => (q.1, am_op am_db am_hc am_bl am_m95 q.1 q.2.1 q.2.2.2)) := rfl
theorem am_cm95 : am_p95 = am_comp am_db am_hc am_bl am_m95 := by
  show am_p95_0 ++ (am_p95_1) = (am_i95_0 ++ (am_i95_1)).map (fun q => (q.1, am_op am_db am_hc am_bl am_m95 q.1 q.2.1 q.2.2.2))
  rw [am_cm95_0, am_cm95_1]
  simp only [List.map_append]
set_option maxRecDepth 200000 in
theorem am_cm97_0 : am_p97_0 = am_i97_0.map (fun q => (q.1, am_op am_db am_hc am_bl am_m97 q.1 q.2.1 q.2.2.2)) := rfl
theorem am_cm97 : am_p97 = am_comp am_db am_hc am_bl am_m97 := by
  show am_p97_0 = (am_i97_0).map (fun q => (q.1, am_op am_db am_hc am_bl am_m97 q.1 q.2.1 q.2.2.2))
  rw [am_cm97_0]
set_option maxRecDepth 200000 in
theorem am_cm98_0 : am_p98_0 = am_i98_0.map (fun q => (q.1, am_op am_db am_hc am_bl am_m98 q.1 q.2.1 q.2.2.2)) := rfl
theorem am_cm98 : am_p98 = am_comp am_db am_hc am_bl am_m98 := by
  show am_p98_0 = (am_i98_0).map (fun q => (q.1, am_op am_db am_hc am_bl am_m98 q.1 q.2.1 q.2.2.2))
  rw [am_cm98_0]
set_option maxRecDepth 200000 in
theorem am_cm99_0 : am_p99_0 = am_i99_0.map (fun q => (q.1, am_op am_db am_hc am_bl am_m99 q.1 q.2.1 q.2.2.2)) := rfl
theorem am_cm99 : am_p99 = am_comp am_db am_hc am_bl am_m99 := by
  show am_p99_0 = (am_i99_0).map (fun q => (q.1, am_op am_db am_hc am_bl am_m99 q.1 q.2.1 q.2.2.2))
  rw [am_cm99_0]
set_option maxRecDepth 200000 in
theorem am_cm104_0 : am_p104_0 = am_i104_0.map (fun q => (q.1, am_op am_db am_hc am_bl am_m104 q.1 q.2.1 q.2.2.2)) := rfl
theorem am_cm104 : am_p104 = am_comp am_db am_hc am_bl am_m104 := by
  show am_p104_0 = (am_i104_0).map (fun q => (q.1, am_op am_db am_hc am_bl am_m104 q.1 q.2.1 q.2.2.2))
  rw [am_cm104_0]
set_option maxRecDepth 200000 in
theorem am_cm105_0 : am_p105_0 = am_i105_0.map (fun q => (q.1, am_op am_db am_hc am_bl am_m105 q.1 q.2.1 q.2.2.2)) := rfl
theorem am_cm105 : am_p105 = am_comp am_db am_hc am_bl am_m105 := by
  show am_p105_0 = (am_i105_0).map (fun q => (q.1, am_op am_db am_hc am_bl am_m105 q.1 q.2.1 q.2.2.2))
  rw [am_cm105_0]
set_option maxRecDepth 200000 in
theorem am_cm107_0 : am_p107_0 = am_i107_0.map (fun q => (q.1, am_op am_db am_hc am_bl am_m107 q.1 q.2.1 q.2.2.2)) := rfl
theorem am_cm107 : am_p107 = am_comp am_db am_hc am_bl am_m107 := by
  show am_p107_0 = (am_i107_0).map (fun q => (q.1, am_op am_db am_hc am_bl am_m107 q.1 q.2.1 q.2.2.2))
  rw [am_cm107_0]
set_option maxRecDepth 200000 in
theorem am_cm108_0 : am_p108_0 = am_i108_0.map (fun q => (q.1, am_op am_db am_hc am_bl am_m108 q.1 q.2.1 q.2.2.2)) := rfl
theorem am_cm108 : am_p108 = am_comp am_db am_hc am_bl am_m108 := by
  show am_p108_0 = (am_i108_0).map (fun q => (q.1, am_op am_db am_hc am_bl am_m108 q.1 q.2.1 q.2.2.2))
  rw [am_cm108_0]
set_option maxRecDepth 200000 in
theorem am_cm109_0 : am_p109_0 = am_i109_0.map (fun q => (q.1, am_op am_db am_hc am_bl am_m109 q.1 q.2.1 q.2.2.2)) := rfl
theorem am_cm109 : am_p109 = am_comp am_db am_hc am_bl am_m109 := by
  show am_p109_0 = (am_i109_0).map (fun q => (q.1, am_op am_db am_hc am_bl am_m109 q.1 q.2.1 q.2.2.2))
  rw [am_cm109_0]
set_option maxRecDepth 200000 in
theorem am_cm110_0 : am_p110_0 = am_i110_0.map (fun q => (q.1, am_op am_db am_hc am_bl am_m110 q.1 q.2.1 q.2.2.2)) := rfl
theorem am_cm110 : am_p110 = am_comp am_db am_hc am_bl am_m110 := by
  show am_p110_0 = (am_i110_0).map (fun q => (q.1, am_op am_db am_hc am_bl am_m110 q.1 q.2.1 q.2.2.2))
  rw [am_cm110_0]
set_option maxRecDepth 200000 in
theorem am_cm111_0 : am_p111_0 = am_i111_0.map (fun q => (q.1, am_op am_db am_hc am_bl am_m111 q.1 q.2.1 q.2.2.2)) := rfl
theorem am_cm111 : am_p111 = am_comp am_db am_hc am_bl am_m111 := by
  show am_p111_0 = (am_i111_0).map (fun q => (q.1, am_op am_db am_hc am_bl am_m111 q.1 q.2.1 q.2.2.2))
  rw [am_cm111_0]
set_option maxRecDepth 200000 in
theorem am_cm112_0 : am_p112_0 = am_i112_0.map (fun q => (q.1, am_op am_db am_hc am_bl am_m112 q.1 q.2.1 q.2.2.2)) := rfl
theorem am_cm112 : am_p112 = am_comp am_db am_hc am_bl am_m112 := by
  show am_p112_0 = (am_i112_0).map (fun q => (q.1, am_op am_db am_hc am_bl am_m112 q.1 q.2.1 q.2.2.2))
  rw [am_cm112_0]
set_option maxRecDepth 200000 in
theorem am_cm113_0 : am_p113_0 = am_i113_0.map (fun q => (q.1, am_op am_db am_hc am_bl am_m113 q.1 q.2.1 q.2.2.2)) := rfl
set_option maxRecDepth 200000 in
theorem am_cm113_1 : am_p113_1 = am_i113_1.map (fun q => (q.1, am_op am_db am_hc am_bl am_m113 q.1 q.2.1 q.2.2.2)) := rfl
set_option maxRecDepth 200000 in
theorem am_cm113_2 : am_p113_2 = am_i113_2.map (fun q => (q.1, am_op am_db am_hc am_bl am_m113 q.1 q.2.1 q.2.2.2)) := rfl
set_option maxRecDepth 200000 in
theorem am_cm113_3 : am_p113_3 = am_i113_3.map (fun q => (q.1, am_op am_db am_hc am_bl am_m113 q.1 q.2.1 q.2.2.2)) := rfl
set_option maxRecDepth 200000 in
theorem am_cm113_4 : am_p113_4 = am_i113_4.map (fun q => (q.1, am_op am_db am_hc am_bl am_m113 q.1 q.2.1 q.2.2.2)) := rfl
set_option maxRecDepth 200000 in
theorem am_cm113_5 : am_p113_5 = am_i113_5.map (fun q => (q.1, am_op am_db am_hc am_bl am_m113 q.1 q.2.1 q.2.2.2)) := rfl
set_option maxRecDepth 200000 in
theorem am_cm113_6 : am_p113_6 = am_i113_6.map (fun q => (q.1, am_op am_db am_hc am_bl am_m113 q.1 q.2.1 q.2.2.2)) := rfl
theorem am_cm113 : am_p113 = am_comp am_db am_hc am_bl am_m113 := by
  show am_p113_0 ++ (am_p113_1 ++ (am_p113_2 ++ (am_p113_3 ++ (am_p113_4 ++ (am_p113_5 ++ (am_p113_6)))))) = (am_i113_0 ++ (am_i113_1 ++ (am_i113_2 ++ (am_i113_3 ++ (am_i113_4 ++ (am_i113_5 ++ (am_i113_6))))))).map (fun q => (q.1, am_op am_db am_hc am_bl am_m113 q.1 q.2.1 q.2.2.2))
  rw [am_cm113_0, am_cm113_1, am_cm113_2, am_cm113_3, am_cm113_4, am_cm113_5, am_cm113_6]
  simp only [List.map_append]
set_option maxRecDepth 200000 in
theorem am_cm114_0 : am_p114_0 = am_i114_0.map (fun q => (q.1, am_op am_db am_hc am_bl am_m114 q.1 q.2.1 q.2.2.2)) := rfl
theorem am_cm114 : am_p114 = am_comp am_db am_hc am_bl am_m114 := by
  show am_p114_0 = (am_i114_0).map (fun q => (q.1, am_op am_db am_hc am_bl am_m114 q.1 q.2.1 q.2.2.2))
  rw [am_cm114_0]
set_option maxRecDepth 200000 in
theorem am_cm115_0 : am_p115_0 = am_i115_0.map (fun q => (q.1, am_op am_db am_hc am_bl am_m115 q.1 q.2.1 q.2.2.2)) := rfl
theorem am_cm115 : am_p115 = am_comp am_db am_hc am_bl am_m115 := by
  show am_p115_0 = (am_i115_0).map (fun q => (q.1, am_op am_db am_hc am_bl am_m115 q.1 q.2.1 q.2.2.2))
  rw [am_cm115_0]
set_option maxRecDepth 200000 in
theorem am_cm116_0 : am_p116_0 = am_i116_0.map (fun q => (q.1, am_op am_db am_hc am_bl am_m116 q.1 q.2.1 q.2.2.2)) := rfl
theorem am_cm116 : am_p116 = am_comp am_db am_hc am_bl am_m116 := by
  show am_p116_0 = (am_i116_0).map (fun q => (q.1, am_op am_db am_hc am_bl am_m116 q.1 q.2.1 q.2.2.2))
  rw [am_cm116_0]
set_option maxRecDepth 200000 in
theorem am_cm117_0 : am_p117_0 = am_i117_0.map (fun q => (q.1, am_op am_db am_hc am_bl am_m117 q.1 q.2.1 q.2.2.2)) := rfl
set_option maxRecDepth 200000 in
theorem am_cm117_1 : am_p117_1 = am_i117_1.map (fun q => (q.1, am_op am_db am_hc am_bl am_m117 q.1 q.2.1 q.2.2.2)) := rfl
set_option maxRecDepth 200000 in
theorem am_cm117_2 : am_p117_2 = am_i117_2.map (fun q => (q.1, am_op am_db am_hc am_bl am_m117 q.1 q.2.1 q.2.2.2)) := rfl
theorem am_cm117 : am_p117 = am_comp am_db am_hc am_bl am_m117 := by
  show am_p117_0 ++ (am_p117_1 ++ (am_p117_2)) = (am_i117_0 ++ (am_i117_1 ++ (am_i117_2))).map (fun q => (q.1, am_op am_db am_hc am_bl am_m117 q.1 q.2.1 q.2.2.2))
  rw [am_cm117_0, am_cm117_1, am_cm117_2]
  simp only [List.map_append]
set_option maxRecDepth 200000 in
theorem am_cm118_0 : am_p118_0 = am_i118_0.map (fun q => (q.1, am_op am_db am_hc am_bl am_m118 q.1 q.2.1 q.2.2.2)) := rfl
theorem am_cm118 : am_p118 = am_comp am_db am_hc am_bl am_m118 := by
  show am_p118_0 = (am_i118_0).map (fun q => (q.1, am_op am_db am_hc am_bl am_m118 q.1 q.2.1 q.2.2.2))
  rw [am_cm118_0]
set_option maxRecDepth 200000 in
theorem am_cm119_0 : am_p119_0 = am_i119_0.map (fun q => (q.1, am_op am_db am_hc am_bl am_m119 q.1 q.2.1 q.2.2.2)) := rfl
set_option maxRecDepth 200000 in
theorem am_cm119_1 : am_p119_1 = am_i119_1.map (fun q => (q.1, am_op am_db am_hc am_bl am_m119 q.1 q.2.1 q.2.2.2)) := rfl
set_option maxRecDepth 200000 in
theorem am_cm119_2 : am_p119_2 = am_i119_2.map (fun q => (q.1, am_op am_db am_hc am_bl am_m119 q.1 q.2.1 q.2.2.2)) := rfl
set_option maxRecDepth 200000 in
theorem am_cm119_3 : am_p119_3 = am_i119_3.map (fun q => (q.1, am_op am_db am_hc am_bl am_m119 q.1 q.2.1 q.2.2.2)) := rfl
set_option maxRecDepth 200000 in
theorem am_cm119_4 : am_p119_4 = am_i119_4.map (fun q => (q.1, am_op am_db am_hc am_bl am_m119 q.1 q.2.1 q.2.2.2)) := rfl
set_option maxRecDepth 200000 in
theorem am_cm119_5 : am_p119_5 = am_i119_5.map (fun q => (q.1, am_op am_db am_hc am_bl am_m119 q.1 q.2.1 q.2.2.2)) := rfl
theorem am_cm119 : am_p119 = am_comp am_db am_hc am_bl am_m119 := by
  show am_p119_0 ++ (am_p119_1 ++ (am_p119_2 ++ (am_p119_3 ++ (am_p119_4 ++ (am_p119_5))))) = (am_i119_0 ++ (am_i119_1 ++ (am_i119_2 ++ (am_i119_3 ++ (am_i119_4 ++ (am_i119_5)))))).map (fun q => (q.1, am_op am_db am_hc am_bl am_m119 q.1 q.2.1 q.2.2.2))
  rw [am_cm119_0, am_cm119_1, am_cm119_2, am_cm119_3, am_cm119_4, am_cm119_5]
  simp only [List.map_append]
set_option maxRecDepth 200000 in
theorem am_cm120_0 : am_p120_0 = am_i120_0.map (fun q => (q.1, am_op am_db am_hc am_bl am_m120 q.1 q.2.1 q.2.2.2)) := rfl
set_option maxRecDepth 200000 in
theorem am_cm120_1 : am_p120_1 = am_i120_1.map (fun q => (q.1, am_op am_db am_hc am_bl am_m120 q.1 q.2.1 q.2.2.2)) := rfl
set_option maxRecDepth 200000 in
theorem am_cm120_2 : am_p120_2 = am_i120_2.map (fun q => (q.1, am_op am_db am_hc am_bl am_m120 q.1 q.2.1 q.2.2.2)) := rfl
set_option maxRecDepth 200000 in
theorem am_cm120_3 : am_p120_3 = am_i120_3.map (fun q => (q.1, am_op am_db am_hc am_bl am_m120 q.1 q.2.1 q.2.2.2)) := rfl
set_option maxRecDepth 200000 in
theorem am_cm120_4 : am_p120_4 = am_i120_4.map (fun q => (q.1, am_op am_db am_hc am_bl am_m120 q.1 q.2.1 q.2.2.2)) := rfl
set_option maxRecDepth 200000 in
theorem am_cm120_5 : am_p120_5 = am_i120_5.map (fun q => (q.1, am_op am_db am_hc am_bl am_m120 q.1 q.2.1 q.2.2.2)) := rfl
set_option maxRecDepth 200000 in
theorem am_cm120_6 : am_p120_6 = am_i120_6.map (fun q => (q.1, am_op am_db am_hc am_bl am_m120 q.1 q.2.1 q.2.2.2)) := rfl
set_option maxRecDepth 200000 in
theorem am_cm120_7 : am_p120_7 = am_i120_7.map (fun q => (q.1, am_op am_db am_hc am_bl am_m120 q.1 q.2.1 q.2.2.2)) := rfl
set_option maxRecDepth 200000 in
theorem am_cm120_8 : am_p120_8 = am_i120_8.map (fun q => (q.1, am_op am_db am_hc am_bl am_m120 q.1 q.2.1 q.2.2.2)) := rfl
set_option maxRecDepth 200000 in
theorem am_cm120_9 : am_p120_9 = am_i120_9.map (fun q => (q.1, am_op am_db am_hc am_bl am_m120 q.1 q.2.1 q.2.2.2)) := rfl
set_option maxRecDepth 200000 in
theorem am_cm120_10 : am_p120_10 = am_i120_10.map (fun q => (q.1, am_op am_db am_hc am_bl am_m120 q.1 q.2.1 q.2.2.2)) := rfl
set_option maxRecDepth 200000 in
theorem am_cm120_11 : am_p120_11 = am_i120_11.map (fun q => (q.1, am_op am_db am_hc am_bl am_m120 q.1 q.2.1 q.2.2.2)) := rfl
set_option maxRecDepth 200000 in
theorem am_cm120_12 : am_p120_12 = am_i120_12.map (fun q => (q.1, am_op am_db am_hc am_bl am_m120 q.1 q.2.1 q.2.2.2)) := rfl
set_option maxRecDepth 200000 in
theorem am_cm120_13 : am_p120_13 = am_i120_13.map (fun q => (q.1, am_op am_db am_hc am_bl am_m120 q.1 q.2.1 q.2.2.2)) := rfl
set_option maxRecDepth 200000 in
theorem am_cm120_14 : am_p120_14 = am_i120_14.map (fun q => (q.1, am_op am_db am_hc am_bl am_m120 q.1 q.2.1 q.2.2.2)) := rfl
set_option maxRecDepth 200000 in
theorem am_cm120_15 : am_p120_15 = am_i120_15.map (fun q => (q.1, am_op am_db am_hc am_bl am_m120 q.1 q.2.1 q.2.2.2)) := rfl
set_option maxRecDepth 200000 in
theorem am_cm120_16 : am_p120_16 = am_i120_16.map (fun q => (q.1, am_op am_db am_hc am_bl am_m120 q.1 q.2.1 q.2.2.2)) := rfl
set_option maxRecDepth 200000 in
theorem am_cm120_17 : am_p120_17 = am_i120_17.map (fun q => (q.1, am_op am_db am_hc am_bl am_m120 q.1 q.2.1 q.2.2.2)) := rfl
set_option maxRecDepth 200000 in
theorem am_cm120_18 : am_p120_18 = am_i120_18.map (fun q => (q.1, am_op am_db am_hc am_bl am_m120 q.1 q.2.1 q.2.2.2)) := rfl
set_option maxRecDepth 200000 in
theorem am_cm120_19 : am_p120_19 = am_i120_19.map (fun q => (q.1, am_op am_db am_hc am_bl am_m120 q.1 q.2.1 q.2.2.2)) := rfl
theorem am_cm120 : am_p120 = am_comp am_db am_hc am_bl am_m120 := by
  show am_p120_0 ++ (am_p120_1 ++ (am_p120_2 ++ (am_p120_3 ++ (am_p120_4 ++ (am_p120_5 ++ (am_p120_6 ++ (am_p120_7 ++ (am_p120_8 ++ (am_p120_9 ++ (am_p120_10 ++ (am_p120_11 ++ (am_p120_12 ++ (am_p120_13 ++ (am_p120_14 ++ (am_p120_15 ++ (am_p120_16 ++ (am_p120_17 ++ (am_p120_18 ++ (am_p120_19))))))))))))))))))) = (am_i120_0 ++ (am_i120_1 ++ (am_i120_2 ++ (am_i120_3 ++ (am_i120_4 ++ (am_i120_5 ++ (am_i120_6 ++ (am_i120_7 ++ (am_i120_8 ++ (am_i120_9 ++ (am_i120_10 ++ (am_i120_11 ++ (am_i120_12 ++ (am_i120_13 ++ (am_i120_14 ++ (am_i120_15 ++ (am_i120_16 ++ (am_i120_17 ++ (am_i120_18 ++ (am_i120_19)))))))))))))))))))).map (fun q => (q.1, am_op am_db am_hc am_bl am_m120 q.1 q.2.1 q.2.2.2))
  rw [am_cm120_0, am_cm120_1, am_cm120_2, am_cm120_3, am_cm120_4, am_cm120_5, am_cm120_6, am_cm120_7, am_cm120_8, am_cm120_9, am_cm120_10, am_cm120_11, am_cm120_12, am_cm120_13, am_cm120_14, am_cm120_15, am_cm120_16, am_cm120_17, am_cm120_18, am_cm120_19]
  simp only [List.map_append]
set_option maxRecDepth 200000 in
theorem am_cm121_0 : am_p121_0 = am_i121_0.map (fun q => (q.1, am_op am_db am_hc am_bl am_m121 q.1 q.2.1 q.2.2.2)) := rfl
theorem am_cm121 : am_p121 = am_comp am_db am_hc am_bl am_m121 := by
  show am_p121_0 = (am_i121_0).map (fun q => (q.1, am_op am_db am_hc am_bl am_m121 q.1 q.2.1 q.2.2.2))
  rw [am_cm121_0]
set_option maxRecDepth 200000 in
theorem am_cm122_0 : am_p122_0 = am_i122_0.map (fun q => (q.1, am_op am_db am_hc am_bl am_m122 q.1 q.2.1 q.2.2.2)) := rfl
theorem am_cm122 : am_p122 = am_comp am_db am_hc am_bl am_m122 := by
  show am_p122_0 = (am_i122_0).map (fun q => (q.1, am_op am_db am_hc am_bl am_m122 q.1 q.2.1 q.2.2.2))
  rw [am_cm122_0]
set_option maxRecDepth 200000 in
theorem am_cm123_0 : am_p123_0 = am_i123_0.map (fun q => (q.1, am_op am_db am_hc am_bl am_m123 q.1 q.2.1 q.2.2.2)) := rfl
theorem am_cm123 : am_p123 = am_comp am_db am_hc am_bl am_m123 := by
  show am_p123_0 = (am_i123_0).map (fun q => (q.1, am_op am_db am_hc am_bl am_m123 q.1 q.2.1 q.2.2.2))
  rw [am_cm123_0]
set_option maxRecDepth 200000 in
theorem am_cm124_0 : am_p124_0 = am_i124_0.map (fun q => (q.1, am_op am_db am_hc am_bl am_m124 q.1 q.2.1 q.2.2.2)) := rfl
theorem am_cm124 : am_p124 = am_comp am_db am_hc am_bl am_m124 := by
  show am_p124_0 = (am_i124_0).map (fun q => (q.1, am_op am_db am_hc am_bl am_m124 q.1 q.2.1 q.2.2.2))
  rw [am_cm124_0]
