set_option maxRecDepth 100000 in
theorem am_k_l600 : ((am_clw.drop 600).take 50).all (fun e => decide (decode code e.1 = .ok (e.2.1, e.2.2))) = true := by decide +kernel
set_option maxRecDepth 100000 in
theorem am_k_l650 : ((am_clw.drop 650).take 50).all (fun e => decide (decode code e.1 = .ok (e.2.1, e.2.2))) = true := by decide +kernel
set_option maxRecDepth 100000 in
theorem am_k_l700 : ((am_clw.drop 700).take 50).all (fun e => decide (decode code e.1 = .ok (e.2.1, e.2.2))) = true := by decide +kernel
set_option maxRecDepth 100000 in
theorem am_k_l750 : ((am_clw.drop 750).take 50).all (fun e => decide (decode code e.1 = .ok (e.2.1, e.2.2))) = true := by decide +kernel
