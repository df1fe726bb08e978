set_option maxRecDepth 100000 in
theorem am_k_l400 : ((am_clw.drop 400).take 50).all (fun e => decide (decode code e.1 = .ok (e.2.1, e.2.2))) = true := by decide +kernel
set_option maxRecDepth 100000 in
theorem am_k_l450 : ((am_clw.drop 450).take 50).all (fun e => decide (decode code e.1 = .ok (e.2.1, e.2.2))) = true := by decide +kernel
set_option maxRecDepth 100000 in
theorem am_k_l500 : ((am_clw.drop 500).take 50).all (fun e => decide (decode code e.1 = .ok (e.2.1, e.2.2))) = true := by decide +kernel
set_option maxRecDepth 100000 in
theorem am_k_l550 : ((am_clw.drop 550).take 50).all (fun e => decide (decode code e.1 = .ok (e.2.1, e.2.2))) = true := by decide +kernel
