theorem lk_mem {α : Type} {p : Nat} {v : α} : ∀ l : List (Nat × α), l.lookup p = some v → (p, v) ∈ l
  | [], h => by cases h
  | (a, b) :: l, h => by
    rw [List.lookup_cons] at h
    rcases q : p == a with _ | _
    · rw [q] at h
      exact List.mem_cons_of_mem _ (lk_mem l h)
    · rw [q] at h
      have e : p = a := beq_iff_eq.mp q
      have h : some b = some v := h
      injection h with h
      rw [e, h]
      exact List.mem_cons_self
theorem am_decs : am_Decs := by
  intro k hk pc i n h
  have hk : k < 258 := hk
  have hm : (pc, i, n) ∈ am_cl k := lk_mem _ h
  have key : ∀ a m, (List.range' a m).all (fun k => (am_cl k).all (fun e => decide (decode (am_by k) e.1 = .ok (e.2.1, e.2.2)))) = true → a ≤ k → k < a + m → decode (am_by k) pc = .ok (i, n) := fun a m h h1 h2 => of_decide_eq_true (List.all_eq_true.mp (List.all_eq_true.mp h k (List.mem_range'_1.mpr ⟨h1, h2⟩)) (pc, i, n) hm)
  rcases (show (0 ≤ k ∧ k < 43) ∨ (43 ≤ k ∧ k < 86) ∨ (86 ≤ k ∧ k < 129) ∨ (129 ≤ k ∧ k < 149) ∨ (149 ≤ k ∧ k < 154) ∨ (154 ≤ k ∧ k < 174) ∨ (174 ≤ k ∧ k < 192) ∨ (192 ≤ k ∧ k < 210) ∨ (210 ≤ k ∧ k < 232) ∨ (232 ≤ k ∧ k < 258) by omega) with c | c | c | c | c | c | c | c | c | c
  · exact key 0 43 am_k_e0 c.1 c.2
  · exact key 43 43 am_k_e1 c.1 c.2
  · exact key 86 43 am_k_e2 c.1 c.2
  · exact key 129 20 am_k_e3 c.1 c.2
  · exact key 149 5 am_k_e4 c.1 c.2
  · exact key 154 20 am_k_e5 c.1 c.2
  · exact key 174 18 am_k_e6 c.1 c.2
  · exact key 192 18 am_k_e7 c.1 c.2
  · exact key 210 22 am_k_e8 c.1 c.2
  · exact key 232 26 am_k_e9 c.1 c.2
set_option maxRecDepth 100000 in
theorem am_ll9 : am_clw.length = 941 := by decide +kernel
theorem am_decl : am_DecL := by
  intro pc i n h
  have hm : (pc, i, n) ∈ am_clw := lk_mem _ h
  rw [am_k_lw.1]
  obtain ⟨j, hj⟩ := List.getElem?_of_mem hm
  have jl : j < 941 := by
    have := (List.getElem?_eq_some_iff.mp hj).1
    rw [am_ll9] at this; exact this
  have key : ∀ a, ((am_clw.drop a).take 50).all (fun e => decide (decode code e.1 = .ok (e.2.1, e.2.2))) = true → a ≤ j → j < a + 50 → decode code pc = .ok (i, n) := fun a h h1 h2 => of_decide_eq_true (List.all_eq_true.mp h (pc, i, n) (List.mem_of_getElem? (i := j - a) (by rw [List.getElem?_take, if_pos (by omega), List.getElem?_drop, show a + (j - a) = j from by omega, hj])))
  rcases (show (0 ≤ j ∧ j < 50) ∨ (50 ≤ j ∧ j < 100) ∨ (100 ≤ j ∧ j < 150) ∨ (150 ≤ j ∧ j < 200) ∨ (200 ≤ j ∧ j < 250) ∨ (250 ≤ j ∧ j < 300) ∨ (300 ≤ j ∧ j < 350) ∨ (350 ≤ j ∧ j < 400) ∨ (400 ≤ j ∧ j < 450) ∨ (450 ≤ j ∧ j < 500) ∨ (500 ≤ j ∧ j < 550) ∨ (550 ≤ j ∧ j < 600) ∨ (600 ≤ j ∧ j < 650) ∨ (650 ≤ j ∧ j < 700) ∨ (700 ≤ j ∧ j < 750) ∨ (750 ≤ j ∧ j < 800) ∨ (800 ≤ j ∧ j < 850) ∨ (850 ≤ j ∧ j < 900) ∨ (900 ≤ j ∧ j < 950) by omega) with c | c | c | c | c | c | c | c | c | c | c | c | c | c | c | c | c | c | c
  · exact key 0 am_k_l0 c.1 c.2
  · exact key 50 am_k_l50 c.1 c.2
  · exact key 100 am_k_l100 c.1 c.2
  · exact key 150 am_k_l150 c.1 c.2
  · exact key 200 am_k_l200 c.1 c.2
  · exact key 250 am_k_l250 c.1 c.2
  · exact key 300 am_k_l300 c.1 c.2
  · exact key 350 am_k_l350 c.1 c.2
  · exact key 400 am_k_l400 c.1 c.2
  · exact key 450 am_k_l450 c.1 c.2
  · exact key 500 am_k_l500 c.1 c.2
  · exact key 550 am_k_l550 c.1 c.2
  · exact key 600 am_k_l600 c.1 c.2
  · exact key 650 am_k_l650 c.1 c.2
  · exact key 700 am_k_l700 c.1 c.2
  · exact key 750 am_k_l750 c.1 c.2
  · exact key 800 am_k_l800 c.1 c.2
  · exact key 850 am_k_l850 c.1 c.2
  · exact key 900 am_k_l900 c.1 c.2
def am_jok (e : Nat × Instr × Nat) : Bool := match e.2.1 with
  | .ifCond _ off => decide (0 ≤ (e.1 : Int) + off)
  | .if_icmp _ off => decide (0 ≤ (e.1 : Int) + off)
  | _ => true
set_option maxRecDepth 100000 in
theorem am_k_jp : (List.range 259).all (fun k => (am_cl k).all am_jok) = true := by decide +kernel
theorem am_jp {k pc n : Nat} {i : Instr} (hk : k < 259) (h : am_code k pc = some (i, n)) (cc9 : Jvm.ClassFile.Cond) (off : Int) (hi : i = .ifCond cc9 off ∨ i = .if_icmp cc9 off) : 0 ≤ (pc : Int) + off := by
  have := List.all_eq_true.mp (List.all_eq_true.mp am_k_jp k (List.mem_range.mpr hk)) (pc, i, n) (lk_mem _ h)
  rcases hi with rfl | rfl
  · exact of_decide_eq_true this
  · exact of_decide_eq_true this
theorem am_jps : am_Jps := fun k hk pc i n h cc9 off hi => am_jp (Nat.lt_succ_of_lt hk) h cc9 off hi
theorem am_jpl : am_JpL := fun pc i n h cc9 off hi => am_jp (by decide) h cc9 off hi
