def try_g (o : Nat) : mv_B := [(0, 4294967295), (0, 4294967295), (0, 4294967295), (0, 4294967295), (0, 4294967295), (0, 4294967295), (0, 4294967295), (0, 4294967295), (2147483648 + o, 2147483648 + o), (0, 4294967295), (2147483656, 2147483656)]
set_option maxRecDepth 1000000 in
theorem try_0 : mv_ev mv_bk mv_mi mv_dv mv_xn 200000 40 0 0 [] [(0, (7, 0))] [] [] 0 0 (try_g 0) (fun _ res h _ _ => Nat.beq res.1 1 && Nat.beq res.2.2 1) = true := by decide +kernel
set_option maxRecDepth 1000000 in
theorem try_1 : mv_ev mv_bk mv_mi mv_dv mv_xn 200000 40 0 0 [] [(0, (7, 0))] [] [] 0 0 (try_g 1) (fun _ res h _ _ => Nat.beq res.1 1 && Nat.beq res.2.2 1) = true := by decide +kernel
set_option maxRecDepth 1000000 in
theorem try_2 : mv_ev mv_bk mv_mi mv_dv mv_xn 200000 40 0 0 [] [(0, (7, 0))] [] [] 0 0 (try_g 2) (fun _ res h _ _ => Nat.beq res.1 1 && Nat.beq res.2.2 1) = true := by decide +kernel
set_option maxRecDepth 1000000 in
theorem try_3 : mv_ev mv_bk mv_mi mv_dv mv_xn 200000 40 0 0 [] [(0, (7, 0))] [] [] 0 0 (try_g 3) (fun _ res h _ _ => Nat.beq res.1 1 && Nat.beq res.2.2 1) = true := by decide +kernel
set_option maxRecDepth 1000000 in
theorem try_4 : mv_ev mv_bk mv_mi mv_dv mv_xn 200000 40 0 0 [] [(0, (7, 0))] [] [] 0 0 (try_g 4) (fun _ res h _ _ => Nat.beq res.1 1 && Nat.beq res.2.2 1) = true := by decide +kernel
set_option maxRecDepth 1000000 in
theorem try_5 : mv_ev mv_bk mv_mi mv_dv mv_xn 200000 40 0 0 [] [(0, (7, 0))] [] [] 0 0 (try_g 5) (fun _ res h _ _ => Nat.beq res.1 1 && Nat.beq res.2.2 1) = true := by decide +kernel
set_option maxRecDepth 1000000 in
theorem try_6 : mv_ev mv_bk mv_mi mv_dv mv_xn 200000 40 0 0 [] [(0, (7, 0))] [] [] 0 0 (try_g 6) (fun _ res h _ _ => Nat.beq res.1 1 && Nat.beq res.2.2 1) = true := by decide +kernel
set_option maxRecDepth 1000000 in
theorem try_7 : mv_ev mv_bk mv_mi mv_dv mv_xn 200000 40 0 0 [] [(0, (7, 0))] [] [] 0 0 (try_g 7) (fun _ res h _ _ => Nat.beq res.1 1 && Nat.beq res.2.2 1) = true := by decide +kernel
set_option maxRecDepth 1000000 in
theorem try_8 : mv_ev mv_bk mv_mi mv_dv mv_xn 200000 40 0 0 [] [(0, (7, 0))] [] [] 0 0 (try_g 8) (fun _ res h _ _ => Nat.beq res.1 1 && Nat.beq res.2.2 1) = true := by decide +kernel
set_option maxRecDepth 1000000 in
theorem try_9 : mv_ev mv_bk mv_mi mv_dv mv_xn 200000 40 0 0 [] [(0, (7, 0))] [] [] 0 0 (try_g 9) (fun _ res h _ _ => Nat.beq res.1 1 && Nat.beq res.2.2 1) = true := by decide +kernel
set_option maxRecDepth 1000000 in
theorem try_10 : mv_ev mv_bk mv_mi mv_dv mv_xn 200000 40 0 0 [] [(0, (7, 0))] [] [] 0 0 (try_g 10) (fun _ res h _ _ => Nat.beq res.1 1 && Nat.beq res.2.2 1) = true := by decide +kernel
set_option maxRecDepth 1000000 in
theorem try_11 : mv_ev mv_bk mv_mi mv_dv mv_xn 200000 40 0 0 [] [(0, (7, 0))] [] [] 0 0 (try_g 11) (fun _ res h _ _ => Nat.beq res.1 1 && Nat.beq res.2.2 1) = true := by decide +kernel
set_option maxRecDepth 1000000 in
theorem try_13 : mv_ev mv_bk mv_mi mv_dv mv_xn 200000 40 0 0 [] [(0, (7, 0))] [] [] 0 0 (try_g 13) (fun _ res h _ _ => Nat.beq res.1 1 && Nat.beq res.2.2 1) = true := by decide +kernel
set_option maxRecDepth 1000000 in
theorem try_14 : mv_ev mv_bk mv_mi mv_dv mv_xn 200000 40 0 0 [] [(0, (7, 0))] [] [] 0 0 (try_g 14) (fun _ res h _ _ => Nat.beq res.1 1 && Nat.beq res.2.2 1) = true := by decide +kernel
set_option maxRecDepth 1000000 in
theorem try_16 : mv_ev mv_bk mv_mi mv_dv mv_xn 200000 40 0 0 [] [(0, (7, 0))] [] [] 0 0 (try_g 16) (fun _ res h _ _ => Nat.beq res.1 1 && Nat.beq res.2.2 1) = true := by decide +kernel
set_option maxRecDepth 1000000 in
theorem try_17 : mv_ev mv_bk mv_mi mv_dv mv_xn 200000 40 0 0 [] [(0, (7, 0))] [] [] 0 0 (try_g 17) (fun _ res h _ _ => Nat.beq res.1 1 && Nat.beq res.2.2 1) = true := by decide +kernel
