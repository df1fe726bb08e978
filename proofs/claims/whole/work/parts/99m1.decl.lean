set_option maxRecDepth 100000 in
theorem am_k_l200 : ((am_clw.drop 200).take 50).all (fun e => decide (decode code e.1 = .ok (e.2.1, e.2.2))) = true := by decide +kernel
set_option maxRecDepth 100000 in
theorem am_k_l250 : ((am_clw.drop 250).take 50).all (fun e => decide (decode code e.1 = .ok (e.2.1, e.2.2))) = true := by decide +kernel
set_option maxRecDepth 100000 in
theorem am_k_l300 : ((am_clw.drop 300).take 50).all (fun e => decide (decode code e.1 = .ok (e.2.1, e.2.2))) = true := by decide +kernel
set_option maxRecDepth 100000 in
theorem am_k_l350 : ((am_clw.drop 350).take 50).all (fun e => decide (decode code e.1 = .ok (e.2.1, e.2.2))) = true := by decide +kernel
