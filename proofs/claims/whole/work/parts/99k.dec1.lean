theorem lk_mem {α : Type} {p : Nat} {v : α} : ∀ l : List (Nat × α), l.lookup p = some v → (p, v) ∈ l
  | [], h => by cases h
  | (a, b) :: l, h => by
    rw [List.lookup_cons] at h
    by_cases e : p = a
    · rw [if_pos (by rw [e]; exact beq_self_eq_true a)] at h
      cases h; subst e
      exact List.mem_cons_self
    · rw [if_neg (by rw [beq_iff_eq]; exact e)] at h
      exact List.mem_cons_of_mem _ (lk_mem l h)
set_option maxRecDepth 100000 in
theorem am_k_e0 : (List.range' 0 43).all (fun k => (am_cl k).all (fun e => decide (decode (am_by k) e.1 = .ok (e.2.1, e.2.2)))) = true := by decide +kernel
set_option maxRecDepth 100000 in
theorem am_k_e1 : (List.range' 43 43).all (fun k => (am_cl k).all (fun e => decide (decode (am_by k) e.1 = .ok (e.2.1, e.2.2)))) = true := by decide +kernel
set_option maxRecDepth 100000 in
theorem am_k_e2 : (List.range' 86 43).all (fun k => (am_cl k).all (fun e => decide (decode (am_by k) e.1 = .ok (e.2.1, e.2.2)))) = true := by decide +kernel
