/-! ===== tuning: its pieces, by the kernel (laid by wip/p46/gen39.py) ===== -/
set_option maxRecDepth 100000 in
theorem am_tOKH : (List.range 16).all (fun pat => am_frC (am_tH pat) && am_shS am_tLA (am_tH pat) && (List.range 5).all (fun k => am_shS (am_tLB k) (am_tH pat))) = true := by decide +kernel
set_option maxRecDepth 100000 in
theorem am_tckA0 : (List.range 4).all (fun p => (List.range 16).all (fun pat => (Nat.beq (am_tbit pat p) 0 != am_tnull 0) || am_ckA 0 p pat)) = true := by decide +kernel
set_option maxRecDepth 100000 in
theorem am_tckA1 : (List.range 4).all (fun p => (List.range 16).all (fun pat => (Nat.beq (am_tbit pat p) 0 != am_tnull 1) || am_ckA 1 p pat)) = true := by decide +kernel
set_option maxRecDepth 100000 in
theorem am_tckA2 : (List.range 4).all (fun p => (List.range 16).all (fun pat => (Nat.beq (am_tbit pat p) 0 != am_tnull 2) || am_ckA 2 p pat)) = true := by decide +kernel
set_option maxRecDepth 100000 in
theorem am_tckA3 : (List.range 4).all (fun p => (List.range 16).all (fun pat => (Nat.beq (am_tbit pat p) 0 != am_tnull 3) || am_ckA 3 p pat)) = true := by decide +kernel
set_option maxRecDepth 100000 in
theorem am_tckA4 : (List.range 4).all (fun p => (List.range 16).all (fun pat => (Nat.beq (am_tbit pat p) 0 != am_tnull 4) || am_ckA 4 p pat)) = true := by decide +kernel
set_option maxRecDepth 100000 in
theorem am_tckA5 : (List.range 4).all (fun p => (List.range 16).all (fun pat => (Nat.beq (am_tbit pat p) 0 != am_tnull 5) || am_ckA 5 p pat)) = true := by decide +kernel
set_option maxRecDepth 100000 in
theorem am_tckA6 : (List.range 4).all (fun p => (List.range 16).all (fun pat => (Nat.beq (am_tbit pat p) 0 != am_tnull 6) || am_ckA 6 p pat)) = true := by decide +kernel
set_option maxRecDepth 100000 in
theorem am_tckA7 : (List.range 4).all (fun p => (List.range 16).all (fun pat => (Nat.beq (am_tbit pat p) 0 != am_tnull 7) || am_ckA 7 p pat)) = true := by decide +kernel
set_option maxRecDepth 100000 in
theorem am_tckA8 : (List.range 4).all (fun p => (List.range 16).all (fun pat => (Nat.beq (am_tbit pat p) 0 != am_tnull 8) || am_ckA 8 p pat)) = true := by decide +kernel
set_option maxRecDepth 100000 in
theorem am_tckA9 : (List.range 4).all (fun p => (List.range 16).all (fun pat => (Nat.beq (am_tbit pat p) 0 != am_tnull 9) || am_ckA 9 p pat)) = true := by decide +kernel
set_option maxRecDepth 100000 in
theorem am_tckA10 : (List.range 4).all (fun p => (List.range 16).all (fun pat => (Nat.beq (am_tbit pat p) 0 != am_tnull 10) || am_ckA 10 p pat)) = true := by decide +kernel
set_option maxRecDepth 100000 in
theorem am_tckA11 : (List.range 4).all (fun p => (List.range 16).all (fun pat => (Nat.beq (am_tbit pat p) 0 != am_tnull 11) || am_ckA 11 p pat)) = true := by decide +kernel
set_option maxRecDepth 100000 in
theorem am_tckA12 : (List.range 4).all (fun p => (List.range 16).all (fun pat => (Nat.beq (am_tbit pat p) 0 != am_tnull 12) || am_ckA 12 p pat)) = true := by decide +kernel
set_option maxRecDepth 100000 in
theorem am_tckA13 : (List.range 4).all (fun p => (List.range 16).all (fun pat => (Nat.beq (am_tbit pat p) 0 != am_tnull 13) || am_ckA 13 p pat)) = true := by decide +kernel
set_option maxRecDepth 100000 in
theorem am_tckA14 : (List.range 4).all (fun p => (List.range 16).all (fun pat => (Nat.beq (am_tbit pat p) 0 != am_tnull 14) || am_ckA 14 p pat)) = true := by decide +kernel
set_option maxRecDepth 100000 in
theorem am_tckA15 : (List.range 4).all (fun p => (List.range 16).all (fun pat => (Nat.beq (am_tbit pat p) 0 != am_tnull 15) || am_ckA 15 p pat)) = true := by decide +kernel
set_option maxRecDepth 100000 in
theorem am_tckA16 : (List.range 4).all (fun p => (List.range 16).all (fun pat => (Nat.beq (am_tbit pat p) 0 != am_tnull 16) || am_ckA 16 p pat)) = true := by decide +kernel
set_option maxRecDepth 100000 in
theorem am_tckA17 : (List.range 4).all (fun p => (List.range 16).all (fun pat => (Nat.beq (am_tbit pat p) 0 != am_tnull 17) || am_ckA 17 p pat)) = true := by decide +kernel
set_option maxRecDepth 100000 in
theorem am_tckA18 : (List.range 4).all (fun p => (List.range 16).all (fun pat => (Nat.beq (am_tbit pat p) 0 != am_tnull 18) || am_ckA 18 p pat)) = true := by decide +kernel
set_option maxRecDepth 100000 in
theorem am_tckB0 : (List.range 4).all (fun k => (List.range 16).all (fun pat => (Nat.beq (am_tbit pat k) 0 != Nat.ble 4 0) || am_ckB 0 k pat)) = true := by decide +kernel
set_option maxRecDepth 100000 in
theorem am_tckB1 : (List.range 4).all (fun k => (List.range 16).all (fun pat => (Nat.beq (am_tbit pat k) 0 != Nat.ble 4 1) || am_ckB 1 k pat)) = true := by decide +kernel
set_option maxRecDepth 100000 in
theorem am_tckB2 : (List.range 4).all (fun k => (List.range 16).all (fun pat => (Nat.beq (am_tbit pat k) 0 != Nat.ble 4 2) || am_ckB 2 k pat)) = true := by decide +kernel
set_option maxRecDepth 100000 in
theorem am_tckB3 : (List.range 4).all (fun k => (List.range 16).all (fun pat => (Nat.beq (am_tbit pat k) 0 != Nat.ble 4 3) || am_ckB 3 k pat)) = true := by decide +kernel
set_option maxRecDepth 100000 in
theorem am_tckB4 : (List.range 4).all (fun k => (List.range 16).all (fun pat => (Nat.beq (am_tbit pat k) 0 != Nat.ble 4 4) || am_ckB 4 k pat)) = true := by decide +kernel
set_option maxRecDepth 100000 in
theorem am_tckC0 : (List.range 3).all (fun c1 => (List.range 3).all (fun c2 => (List.range 3).all (fun c3 => am_ckC (am_tC4 0 c1 c2 c3)))) = true := by decide +kernel
set_option maxRecDepth 100000 in
theorem am_tckC1 : (List.range 3).all (fun c1 => (List.range 3).all (fun c2 => (List.range 3).all (fun c3 => am_ckC (am_tC4 1 c1 c2 c3)))) = true := by decide +kernel
set_option maxRecDepth 100000 in
theorem am_tckC2 : (List.range 3).all (fun c1 => (List.range 3).all (fun c2 => (List.range 3).all (fun c3 => am_ckC (am_tC4 2 c1 c2 c3)))) = true := by decide +kernel
set_option maxRecDepth 100000 in
theorem am_tckD : (List.range 16).all am_ckD = true := by decide +kernel
set_option maxRecDepth 100000 in
theorem am_tckE : am_ckE = true := by decide +kernel
