set_option maxRecDepth 100000 in
theorem am_k_l800 : ((am_clw.drop 800).take 50).all (fun e => decide (decode code e.1 = .ok (e.2.1, e.2.2))) = true := by decide +kernel
set_option maxRecDepth 100000 in
theorem am_k_l850 : ((am_clw.drop 850).take 50).all (fun e => decide (decode code e.1 = .ok (e.2.1, e.2.2))) = true := by decide +kernel
set_option maxRecDepth 100000 in
theorem am_k_l900 : ((am_clw.drop 900).take 50).all (fun e => decide (decode code e.1 = .ok (e.2.1, e.2.2))) = true := by decide +kernel
