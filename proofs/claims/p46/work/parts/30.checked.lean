/-! ===== try ===== -/
theorem am_try1 : (am_i120_1.all (fun x => am_cI true am_m120 x.1 x.2.1 x.2.2.2)) = true := by decide +kernel
