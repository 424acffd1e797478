/-! ===== coins: the states between its rounds, its pieces by the kernel (laid by wip/p46/gen48.py, out of coins.py). Unknowns: 16 the round; 20 to 22 the script's numbers, 23 weight, 24 width ===== -/
def am_cc0 (t : Nat) : am_C := (6, [(10, 1, []), (10, 2, []), (10, 3, []), (10, 66, []), (10, 67, []), (0, 0, []), (0, t, []), (0, 0, []), (0, 0, [])])
def am_cH (t : Nat) : am_H := (128, (am_cc0 t :: am_tB0.drop 1) :: am_tB1 :: am_tB2 :: am_tB3 :: (am_tB4 ++ List.replicate 4 (5, [(0, 0, []), (0, 0, []), (0, 0, []), (0, 0, []), (0, 0, []), (0, 0, []), (0, 0, []), (0, 45, []), (0, 0, []), (0, 0, []), (0, 0, []), (0, 0, [])])) :: am_tB5 :: am_tB6 :: am_tB7 :: List.replicate 2 (List.replicate 16 (999, [])))
def am_cL (t : Nat) : List am_V := (12, 0, []) :: (10, 0, []) :: (1, t, []) :: am_un0 :: am_uv 16 :: List.replicate 8 am_un0
def am_cW : List (Int × Int) := [(0, 1), (2, 6), (7, 8)]
def am_cD : List (Int × Int) := [(0, 0), (1, 3), (4, 4)]
def am_cA (w x : Nat) : am_A := (am_BC 19 ++ [(-2147483648, 2147483647), (-2147483648, 2147483647), (-2147483648, 2147483647), am_cW[w]?.getD (0, 0), am_cD[x]?.getD (0, 0)], [], [])
def am_cta : List (List Int × am_V) := [(am_lf 40 [(16, 1)], am_uv 20), (am_lf 60 [(16, 1)], am_uv 21), (am_lf 80 [(16, 1)], am_uv 22)]
def am_cts (pr : Nat) : List (List Int × Nat × am_V) := [(am_un1 20 1, 9, am_uv 23), (am_un1 21 1, 5, am_uv 24), (am_un1 22 1, 3, (0, pr, []))]
noncomputable def am_cSub (A : am_A) (pr : Nat) : Nat → am_G := am_with [(114, am_gAt am_cta), (115, am_gSome (am_cts pr))] (am_sub A 100000 am_codes 28)
def am_cN1 : List Nat := [75, 84, 83, 75, 84, 83, 75, 84, 83, 81, 90, 89, 86, 95, 94, 84, 93, 92, 78, 87, 86, 78, 87, 86, 78, 87, 86]
def am_cN2 : List Nat := [76, 81, 83, 76, 81, 83, 76, 81, 83, 82, 87, 89, 87, 92, 94, 85, 90, 92, 79, 84, 86, 79, 84, 86, 79, 84, 86]
def am_ct2 (t w x : Nat) : Nat := bif Nat.beq w 1 && Nat.beq x 1 then t + 1 else t
noncomputable def am_ckF (t w x pr : Nat) : Bool := am_pck (am_cA w x) (am_cSub (am_cA w x) pr) am_p117 8 ((bif Nat.ble 2 (am_ct2 t w x) then am_cN2 else am_cN1)[9 * w + 3 * x + pr]?.getD 0) 13 [] (am_cL t) (am_cH t) (am_ovl [(16, 1, [(16, 1)])]) (List.range 128) (am_cL (am_ct2 t w x)) (am_cH (am_ct2 t w x)) 0 0
def am_cAE : am_A := (am_BC 20, [], [])
noncomputable def am_ckG (t : Nat) : Bool := am_pce am_cAE (am_sub am_cAE 100000 am_codes 28) am_p117 8 100 256 (am_ovl [(16, 20, [])]) (am_cL t) (am_cH t) 0 0
noncomputable def am_ckI : Bool := am_pck am_A1 (am_sub am_A1 100000 am_codes 28) am_p117 0 8 13 [] ((12, 0, []) :: List.replicate 12 am_un0) am_h0 (am_ovl [(16, 0, [])]) (List.range 128) (am_cL 0) (am_cH 0) 128 1570
set_option maxRecDepth 100000 in
theorem am_cOKH : (List.range 21).all (fun t => am_frC (am_cH t) && am_shS (am_cL t) (am_cH t)) = true := by decide +kernel
set_option maxRecDepth 100000 in
theorem am_cckF0 : (List.range 20).all (fun t => (List.range 3).all (fun x => (List.range 3).all (fun pr => am_ckF t 0 x pr))) = true := by decide +kernel
set_option maxRecDepth 100000 in
theorem am_cckF1 : (List.range 20).all (fun t => (List.range 3).all (fun x => (List.range 3).all (fun pr => am_ckF t 1 x pr))) = true := by decide +kernel
set_option maxRecDepth 100000 in
theorem am_cckF2 : (List.range 20).all (fun t => (List.range 3).all (fun x => (List.range 3).all (fun pr => am_ckF t 2 x pr))) = true := by decide +kernel
set_option maxRecDepth 100000 in
theorem am_cckG : (List.range 21).all am_ckG = true := by decide +kernel
set_option maxRecDepth 100000 in
theorem am_cckI : am_ckI = true := by decide +kernel
