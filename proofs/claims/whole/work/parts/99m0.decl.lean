set_option maxRecDepth 100000 in
theorem am_k_l0 : ((am_clw.drop 0).take 50).all (fun e => decide (decode code e.1 = .ok (e.2.1, e.2.2))) = true := by decide +kernel
set_option maxRecDepth 100000 in
theorem am_k_l50 : ((am_clw.drop 50).take 50).all (fun e => decide (decode code e.1 = .ok (e.2.1, e.2.2))) = true := by decide +kernel
set_option maxRecDepth 100000 in
theorem am_k_l100 : ((am_clw.drop 100).take 50).all (fun e => decide (decode code e.1 = .ok (e.2.1, e.2.2))) = true := by decide +kernel
set_option maxRecDepth 100000 in
theorem am_k_l150 : ((am_clw.drop 150).take 50).all (fun e => decide (decode code e.1 = .ok (e.2.1, e.2.2))) = true := by decide +kernel
