def am_A0 : am_A := ([], [], [])
/-- a try: CombCylinder() -/
theorem am_t1 : (match am_run am_A0 am_db am_hc am_bl 100000 20 100000 am_m0 (am_m0.2.2.2.2.2, [(10, 0, []), (98, 0, [])], [], [(6, [(4, 0, []), (4, 0, []), (4, 0, []), (4, 0, []), (4, 0, []), (0, 0, []), (0, 0, []), (0, 0, []), (0, 0, [])])], 0, 0) with
  | some (0, _, _, _, _, h, nc, ns) => Nat.beq nc 127 && Nat.beq ns 1561 && Nat.beq (List.length h) 128
  | _ => false) = true := by decide +kernel
