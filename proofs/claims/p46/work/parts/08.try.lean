def am_A0 : am_A := ([], [], [])
theorem am_t1 : (match am_runP am_A0 (am_sub am_A0 100000 am_codes 20) am_p119 1000 am_p119 [(98, 0, []), (98, 0, []), (98, 0, [])] [] am_h0 0 0 with
  | some o => Nat.beq o.1 3
  | _ => false) = true := by decide +kernel
