set_option maxRecDepth 100000 in
theorem am_k_e3 : (List.range' 129 20).all (fun k => (am_cl k).all (fun e => decide (decode (am_by k) e.1 = .ok (e.2.1, e.2.2)))) = true := by decide +kernel
set_option maxRecDepth 100000 in
theorem am_k_e4 : (List.range' 149 5).all (fun k => (am_cl k).all (fun e => decide (decode (am_by k) e.1 = .ok (e.2.1, e.2.2)))) = true := by decide +kernel
set_option maxRecDepth 100000 in
theorem am_k_e5 : (List.range' 154 20).all (fun k => (am_cl k).all (fun e => decide (decode (am_by k) e.1 = .ok (e.2.1, e.2.2)))) = true := by decide +kernel
set_option maxRecDepth 100000 in
theorem am_k_e6 : (List.range' 174 18).all (fun k => (am_cl k).all (fun e => decide (decode (am_by k) e.1 = .ok (e.2.1, e.2.2)))) = true := by decide +kernel
set_option maxRecDepth 100000 in
theorem am_k_e7 : (List.range' 192 18).all (fun k => (am_cl k).all (fun e => decide (decode (am_by k) e.1 = .ok (e.2.1, e.2.2)))) = true := by decide +kernel
set_option maxRecDepth 100000 in
theorem am_k_e8 : (List.range' 210 22).all (fun k => (am_cl k).all (fun e => decide (decode (am_by k) e.1 = .ok (e.2.1, e.2.2)))) = true := by decide +kernel
set_option maxRecDepth 100000 in
theorem am_k_e9 : (List.range' 232 26).all (fun k => (am_cl k).all (fun e => decide (decode (am_by k) e.1 = .ok (e.2.1, e.2.2)))) = true := by decide +kernel
