set_option maxRecDepth 100000 in
theorem am_k_cd0 : (List.range' 0 43).map (fun k => lw_tbl[(am_mp.getD k (0, 0, 0, 0)).1]?) = (List.range' 0 43).map (fun k => some (.code (am_y k) (am_by k) (am_ml k) (am_rt k))) := rfl
set_option maxRecDepth 100000 in
theorem am_k_cd1 : (List.range' 43 43).map (fun k => lw_tbl[(am_mp.getD k (0, 0, 0, 0)).1]?) = (List.range' 43 43).map (fun k => some (.code (am_y k) (am_by k) (am_ml k) (am_rt k))) := rfl
set_option maxRecDepth 100000 in
theorem am_k_cd2 : (List.range' 86 43).map (fun k => lw_tbl[(am_mp.getD k (0, 0, 0, 0)).1]?) = (List.range' 86 43).map (fun k => some (.code (am_y k) (am_by k) (am_ml k) (am_rt k))) := rfl
set_option maxRecDepth 100000 in
theorem am_k_cd3 : (List.range' 129 43).map (fun k => lw_tbl[(am_mp.getD k (0, 0, 0, 0)).1]?) = (List.range' 129 43).map (fun k => some (.code (am_y k) (am_by k) (am_ml k) (am_rt k))) := rfl
set_option maxRecDepth 100000 in
theorem am_k_cd4 : (List.range' 172 43).map (fun k => lw_tbl[(am_mp.getD k (0, 0, 0, 0)).1]?) = (List.range' 172 43).map (fun k => some (.code (am_y k) (am_by k) (am_ml k) (am_rt k))) := rfl
set_option maxRecDepth 100000 in
theorem am_k_cd5 : (List.range' 215 43).map (fun k => lw_tbl[(am_mp.getD k (0, 0, 0, 0)).1]?) = (List.range' 215 43).map (fun k => some (.code (am_y k) (am_by k) (am_ml k) (am_rt k))) := rfl
theorem am_codes : am_Codes := by
  intro k hk
  have hk : k < 258 := hk
  have key : ∀ a, (List.range' a 43).map (fun k => lw_tbl[(am_mp.getD k (0, 0, 0, 0)).1]?) = (List.range' a 43).map (fun k => some (.code (am_y k) (am_by k) (am_ml k) (am_rt k))) → a ≤ k → k < a + 43 → lw_tbl[(am_mp.getD k (0, 0, 0, 0)).1]? = some (.code (am_y k) (am_by k) (am_ml k) (am_rt k)) := fun a h h1 h2 => List.map_inj_left.mp h k (List.mem_range'_1.mpr ⟨h1, h2⟩)
  have e : lw_tbl[(am_mp.getD k (0, 0, 0, 0)).1]? = some (.code (am_y k) (am_by k) (am_ml k) (am_rt k)) := by
    rcases (show k < 43 ∨ (43 ≤ k ∧ k < 86) ∨ (86 ≤ k ∧ k < 129) ∨ (129 ≤ k ∧ k < 172) ∨ (172 ≤ k ∧ k < 215) ∨ (215 ≤ k ∧ k < 258) by omega) with c | c | c | c | c | c
    · exact key 0 am_k_cd0 (Nat.zero_le _) (by omega)
    · exact key 43 am_k_cd1 c.1 (by omega)
    · exact key 86 am_k_cd2 c.1 (by omega)
    · exact key 129 am_k_cd3 c.1 (by omega)
    · exact key 172 am_k_cd4 c.1 (by omega)
    · exact key 215 am_k_cd5 c.1 (by omega)
  exact List.mem_filter.mpr ⟨List.mem_of_getElem? e, rfl⟩
