set_option maxRecDepth 100000 in
theorem am_k_e3 : (List.range' 129 43).all (fun k => (am_cl k).all (fun e => decide (decode (am_by k) e.1 = .ok (e.2.1, e.2.2)))) = true := by decide +kernel
set_option maxRecDepth 100000 in
theorem am_k_e4 : (List.range' 172 43).all (fun k => (am_cl k).all (fun e => decide (decode (am_by k) e.1 = .ok (e.2.1, e.2.2)))) = true := by decide +kernel
set_option maxRecDepth 100000 in
theorem am_k_e5 : (List.range' 215 43).all (fun k => (am_cl k).all (fun e => decide (decode (am_by k) e.1 = .ok (e.2.1, e.2.2)))) = true := by decide +kernel
