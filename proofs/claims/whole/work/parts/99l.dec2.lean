set_option maxRecDepth 100000 in
theorem am_k_e3 : (List.range' 129 43).all (fun k => (am_cl k).all (fun e => decide (decode (am_by k) e.1 = .ok (e.2.1, e.2.2)))) = true := by decide +kernel
set_option maxRecDepth 100000 in
theorem am_k_e4 : (List.range' 172 43).all (fun k => (am_cl k).all (fun e => decide (decode (am_by k) e.1 = .ok (e.2.1, e.2.2)))) = true := by decide +kernel
set_option maxRecDepth 100000 in
theorem am_k_e5 : (List.range' 215 43).all (fun k => (am_cl k).all (fun e => decide (decode (am_by k) e.1 = .ok (e.2.1, e.2.2)))) = true := by decide +kernel
theorem am_decs : am_Decs := by
  intro k hk pc i n h
  have hk : k < 258 := hk
  have hm : (pc, i, n) ∈ am_cl k := lk_mem _ h
  have key : ∀ a, (List.range' a 43).all (fun k => (am_cl k).all (fun e => decide (decode (am_by k) e.1 = .ok (e.2.1, e.2.2)))) = true → a ≤ k → k < a + 43 → decode (am_by k) pc = .ok (i, n) := fun a h h1 h2 => of_decide_eq_true (List.all_eq_true.mp (List.all_eq_true.mp h k (List.mem_range'_1.mpr ⟨h1, h2⟩)) (pc, i, n) hm)
  rcases (show k < 43 ∨ (43 ≤ k ∧ k < 86) ∨ (86 ≤ k ∧ k < 129) ∨ (129 ≤ k ∧ k < 172) ∨ (172 ≤ k ∧ k < 215) ∨ (215 ≤ k ∧ k < 258) by omega) with c | c | c | c | c | c
  · exact key 0 am_k_e0 (Nat.zero_le _) (by omega)
  · exact key 43 am_k_e1 c.1 (by omega)
  · exact key 86 am_k_e2 c.1 (by omega)
  · exact key 129 am_k_e3 c.1 (by omega)
  · exact key 172 am_k_e4 c.1 (by omega)
  · exact key 215 am_k_e5 c.1 (by omega)
