theorem am_lk {β : Type} : ∀ {l : List (Nat × β)} {a : Nat} {b : β}, l.lookup a = some b → (a, b) ∈ l
  | [], _, _, h => by simp at h
  | (k, c) :: l, a, b, h => by
    simp only [List.lookup] at h
    split at h
    · rename_i e
      cases h
      have := eq_of_beq e
      subst this
      exact List.mem_cons_self
    · exact List.mem_cons_of_mem _ (am_lk h)
theorem am_all2 {β : Type} {L : List (List β)} {f : Nat → β → Bool} {N : Nat} (h : (List.range N).all (fun o => (L.getD o []).all (f o)) = true) {o : Nat} (ho : o < N) {b : β} (hb : b ∈ L.getD o []) : f o b = true :=
  List.all_eq_true.mp (List.all_eq_true.mp h o (List.mem_range.mpr ho)) b hb
theorem am_fld_ok {own idx ci j : Nat} (ho : own < am_nC) (h : am_fld own idx = some (ci, j)) : ci < am_nO ∧ j < am_N ci ∧ Cond.fieldLink (am_cn own) idx (am_F ci j).1 (am_F ci j).2.1 (am_F ci j).2.2.1 ∈ am_TB := by
  unfold am_fld at h
  split at h
  · rename_i q hq
    cases h
    have h1 := am_all2 am_k_f ho (am_lk hq)
    simp only [Bool.and_eq_true, decide_eq_true_eq] at h1
    exact ⟨h1.1.1, h1.1.2, am_ok_mem h1.2⟩
  · cases h
theorem am_ci_ok {own idx : Nat} {v : Int32} (ho : own < am_nC) (h : am_ci own idx = some v) : Cond.constant (am_cn own) idx v ∈ am_TB := by
  unfold am_ci at h
  split at h
  · rename_i q hq
    cases h
    exact am_ok_mem (am_all2 am_k_ci ho (am_lk hq))
  · cases h
theorem am_cj_ok {own idx : Nat} {v : Int64} (ho : own < am_nC) (h : am_cj own idx = some v) : Cond.constantLong (am_cn own) idx v ∈ am_TB := by
  unfold am_cj at h
  split at h
  · rename_i q hq
    cases h
    exact am_ok_mem (am_all2 am_k_cj ho (am_lk hq))
  · cases h
theorem am_nw_ok {own idx ci : Nat} (ho : own < am_nC) (h : am_nw own idx = some ci) : ci < am_nO ∧ Cond.classLink (am_cn own) idx (am_cn ci) ∈ am_TB := by
  unfold am_nw at h
  split at h
  · rename_i q hq
    cases h
    have h1 := am_all2 am_k_nw ho (am_lk hq)
    simp only [Bool.and_eq_true, decide_eq_true_eq] at h1
    exact ⟨h1.1, am_ok_mem h1.2⟩
  · cases h
theorem am_cls_at {ci : Nat} (h : ci < am_nO) : classes[ci]? = some (am_cn ci, am_F ci, am_N ci) := by
  unfold classes
  rw [List.getElem?_map, List.getElem?_range h]
  rfl
theorem am_cok_of {ci : Nat} (h : ci < am_nO) : Cond.instantiable (am_cn ci) (am_N ci) ∈ am_TB ∧ Cond.initialized (am_cn ci) ∈ am_TB ∧ ∀ j, j < am_N ci → u_lay (am_cn ci) (am_F ci) j ∈ am_TB ∧ parseFieldDescriptor (am_F ci j).2.2.1 = some (am_T ci j) ∧ (am_F ci j).1 = am_cn ci := by
  have h1 := List.all_eq_true.mp am_k_c ci (List.mem_range.mpr h)
  simp only [am_cok, Bool.and_eq_true] at h1
  refine ⟨am_ok_mem h1.1.1, am_ok_mem h1.1.2, fun j hj => ?_⟩
  have h2 := List.all_eq_true.mp h1.2 j (List.mem_range.mpr hj)
  simp only [Bool.and_eq_true, decide_eq_true_eq] at h2
  exact ⟨am_ok_mem h2.1.1, h2.1.2, h2.2⟩
theorem am_uws {ci : Nat} (h : ci < am_nO) : ∀ w ∈ u_ws (am_cn ci) (am_F ci) (am_N ci), w ∈ am_TB := by
  intro w hw
  obtain ⟨j, hj, rfl⟩ := List.mem_map.mp hw
  exact ((am_cok_of h).2.2 j (List.mem_range.mp hj)).1

theorem sm_ild {p : Program} {l : Launch} {e : Env} {Rm : Room} {s : State} {m : MethodId} {args : Array Value} {below : List Frame} {meth : Method} {c : Code} {Q : State → Prop} {D : va_G} {A : Nat → Prop} {ea : Nat → Nat} {nL : Nat} {adr0 : List Nat} {call : am_Fn} {R : am_R} {pc pc2 : Nat} {ls : am_L} {st : List Value} {mem : am_M} {H : Heap} {locs : List Loc} {cells slots : Nat} {jl : Array Slot} {js : List Value} {adr : List Nat} {ws : va_W} {j : Nat} (h : am_do call (am_ild pc2 ls st mem j) (am_Sim p l e Rm s m args below meth c Q D A ea nL adr0) R) (hJ : am_J s D A ea nL Rm adr0 ls st mem H locs cells slots jl js adr ws) (row : ∀ x : Int32, jl[j]? = some (.val (.int x)) → W p l e Rm s m args below meth c H locs cells slots Q (F0 m pc2 jl (.int x :: js)) → W p l e Rm s m args below meth c H locs cells slots Q (F0 m pc jl js)) : W p l e Rm s m args below meth c H locs cells slots Q (F0 m pc jl js) := by
  obtain ⟨h0, h1, h2, h3, h4, h5, h6, h7, h8⟩ := hJ
  unfold am_ild at h
  split at h
  · rename_i x hx
    obtain ⟨w, g1, g2⟩ := h5.at hx
    have g2 : w = .int x := g2
    subst g2
    exact row x g1 (h _ _ _ _ _ _ _ _ ⟨h0, h1, h2, h3, h4, h5, ⟨_, _, rfl, rfl, h6⟩, h7, h8⟩)
  · exact h.elim
theorem sm_lld {p : Program} {l : Launch} {e : Env} {Rm : Room} {s : State} {m : MethodId} {args : Array Value} {below : List Frame} {meth : Method} {c : Code} {Q : State → Prop} {D : va_G} {A : Nat → Prop} {ea : Nat → Nat} {nL : Nat} {adr0 : List Nat} {call : am_Fn} {R : am_R} {pc pc2 : Nat} {ls : am_L} {st : List Value} {mem : am_M} {H : Heap} {locs : List Loc} {cells slots : Nat} {jl : Array Slot} {js : List Value} {adr : List Nat} {ws : va_W} {j : Nat} (h : am_do call (am_lld pc2 ls st mem j) (am_Sim p l e Rm s m args below meth c Q D A ea nL adr0) R) (hJ : am_J s D A ea nL Rm adr0 ls st mem H locs cells slots jl js adr ws) (row : ∀ x : Int64, jl[j]? = some (.val (.long x)) → W p l e Rm s m args below meth c H locs cells slots Q (F0 m pc2 jl (.long x :: js)) → W p l e Rm s m args below meth c H locs cells slots Q (F0 m pc jl js)) : W p l e Rm s m args below meth c H locs cells slots Q (F0 m pc jl js) := by
  obtain ⟨h0, h1, h2, h3, h4, h5, h6, h7, h8⟩ := hJ
  unfold am_lld at h
  split at h
  · rename_i x hx
    obtain ⟨w, g1, g2⟩ := h5.at hx
    have g2 : w = .long x := g2
    subst g2
    exact row x g1 (h _ _ _ _ _ _ _ _ ⟨h0, h1, h2, h3, h4, h5, ⟨_, _, rfl, rfl, h6⟩, h7, h8⟩)
  · exact h.elim
theorem sm_ald {p : Program} {l : Launch} {e : Env} {Rm : Room} {s : State} {m : MethodId} {args : Array Value} {below : List Frame} {meth : Method} {c : Code} {Q : State → Prop} {D : va_G} {A : Nat → Prop} {ea : Nat → Nat} {nL : Nat} {adr0 : List Nat} {call : am_Fn} {R : am_R} {pc pc2 : Nat} {ls : am_L} {st : List Value} {mem : am_M} {H : Heap} {locs : List Loc} {cells slots : Nat} {jl : Array Slot} {js : List Value} {adr : List Nat} {ws : va_W} {j : Nat} (h : am_do call (am_ald pc2 ls st mem j) (am_Sim p l e Rm s m args below meth c Q D A ea nL adr0) R) (hJ : am_J s D A ea nL Rm adr0 ls st mem H locs cells slots jl js adr ws) (row : ∀ x : Nat, jl[j]? = some (.val (.ref x)) → W p l e Rm s m args below meth c H locs cells slots Q (F0 m pc2 jl (.ref x :: js)) → W p l e Rm s m args below meth c H locs cells slots Q (F0 m pc jl js)) : W p l e Rm s m args below meth c H locs cells slots Q (F0 m pc jl js) := by
  obtain ⟨h0, h1, h2, h3, h4, h5, h6, h7, h8⟩ := hJ
  unfold am_ald at h
  split at h
  · rename_i x hx
    obtain ⟨w, g1, g2⟩ := h5.at hx
    obtain ⟨a, g3, g4⟩ := id g2
    subst g4
    exact row a g1 (h _ _ _ _ _ _ _ _ ⟨h0, h1, h2, h3, h4, h5, ⟨_, _, rfl, g2, h6⟩, h7, h8⟩)
  · rename_i x hx
    obtain ⟨w, g1, g2⟩ := h5.at hx
    have g4 : w = .ref (ea x.toNat) := g2
    subst g4
    exact row _ g1 (h _ _ _ _ _ _ _ _ ⟨h0, h1, h2, h3, h4, h5, ⟨_, _, rfl, g2, h6⟩, h7, h8⟩)
  · exact h.elim
theorem sm_ist {p : Program} {l : Launch} {e : Env} {Rm : Room} {s : State} {m : MethodId} {args : Array Value} {below : List Frame} {meth : Method} {c : Code} {Q : State → Prop} {D : va_G} {A : Nat → Prop} {ea : Nat → Nat} {nL : Nat} {adr0 : List Nat} {call : am_Fn} {R : am_R} {pc pc2 : Nat} {ls : am_L} {st : List Value} {mem : am_M} {H : Heap} {locs : List Loc} {cells slots : Nat} {jl : Array Slot} {js : List Value} {adr : List Nat} {ws : va_W} {j : Nat} (h : am_do call (am_ist pc2 ls st mem j) (am_Sim p l e Rm s m args below meth c Q D A ea nL adr0) R) (hJ : am_J s D A ea nL Rm adr0 ls st mem H locs cells slots jl js adr ws) (row : ∀ (x : Int32) (js2 : List Value) (lv : List (Nat × Value)), js = .int x :: js2 → lv_has jl nL lv → j < nL → (∀ jl2 : Array Slot, lv_has jl2 nL ((j, .int x) :: lv.filter (fun q => !(q.1 == j) && !(q.1 + 1 == j && q.2.category == 2))) → W p l e Rm s m args below meth c H locs cells slots Q (F0 m pc2 jl2 js2)) → W p l e Rm s m args below meth c H locs cells slots Q (F0 m pc jl js)) : W p l e Rm s m args below meth c H locs cells slots Q (F0 m pc jl js) := by
  obtain ⟨h0, h1, h2, h3, h4, h5, h6, h7, h8⟩ := hJ
  unfold am_ist at h
  split at h
  · rename_i x st2
    obtain ⟨w, js2, e1, e2, e3⟩ := h6
    have e2 : w = .int x := e2
    subst e2
    split at h
    · rename_i hc
      simp only [Bool.and_eq_true, decide_eq_true_eq] at hc
      obtain ⟨lv, g1, g2⟩ := am_has h5
      refine row x js2 lv e1 g1 (by have := h5.1; omega) (fun jl2 hl2 => h _ _ _ _ _ _ _ _ ⟨h0, h1, h2, h3, h4, ?_, e3, h7, h8⟩)
      exact h5.put hc.2 (v := .int x) rfl g2 hl2
    · exact h.elim
  · exact h.elim
theorem sm_lst {p : Program} {l : Launch} {e : Env} {Rm : Room} {s : State} {m : MethodId} {args : Array Value} {below : List Frame} {meth : Method} {c : Code} {Q : State → Prop} {D : va_G} {A : Nat → Prop} {ea : Nat → Nat} {nL : Nat} {adr0 : List Nat} {call : am_Fn} {R : am_R} {pc pc2 : Nat} {ls : am_L} {st : List Value} {mem : am_M} {H : Heap} {locs : List Loc} {cells slots : Nat} {jl : Array Slot} {js : List Value} {adr : List Nat} {ws : va_W} {j : Nat} (h : am_do call (am_lst pc2 ls st mem j) (am_Sim p l e Rm s m args below meth c Q D A ea nL adr0) R) (hJ : am_J s D A ea nL Rm adr0 ls st mem H locs cells slots jl js adr ws) (row : ∀ (x : Int64) (js2 : List Value) (lv : List (Nat × Value)), js = .long x :: js2 → lv_has jl nL lv → j + 1 < nL → (∀ jl2 : Array Slot, lv_has jl2 nL ((j, .long x) :: lv.filter (fun q => !(q.1 == j) && (!(q.1 == j + 1) && !(q.1 + 1 == j && q.2.category == 2)))) → W p l e Rm s m args below meth c H locs cells slots Q (F0 m pc2 jl2 js2)) → W p l e Rm s m args below meth c H locs cells slots Q (F0 m pc jl js)) : W p l e Rm s m args below meth c H locs cells slots Q (F0 m pc jl js) := by
  obtain ⟨h0, h1, h2, h3, h4, h5, h6, h7, h8⟩ := hJ
  unfold am_lst at h
  split at h
  · rename_i x st2
    obtain ⟨w, js2, e1, e2, e3⟩ := h6
    have e2 : w = .long x := e2
    subst e2
    split at h
    · rename_i hc
      simp only [Bool.and_eq_true, decide_eq_true_eq] at hc
      obtain ⟨lv, g1, g2⟩ := am_has h5
      refine row x js2 lv e1 g1 (by have := h5.1; omega) (fun jl2 hl2 => h _ _ _ _ _ _ _ _ ⟨h0, h1, h2, h3, h4, ?_, e3, h7, h8⟩)
      exact h5.put2 hc.2 (v := .long x) rfl g2 hl2
    · exact h.elim
  · exact h.elim
theorem sm_ast {p : Program} {l : Launch} {e : Env} {Rm : Room} {s : State} {m : MethodId} {args : Array Value} {below : List Frame} {meth : Method} {c : Code} {Q : State → Prop} {D : va_G} {A : Nat → Prop} {ea : Nat → Nat} {nL : Nat} {adr0 : List Nat} {call : am_Fn} {R : am_R} {pc pc2 : Nat} {ls : am_L} {st : List Value} {mem : am_M} {H : Heap} {locs : List Loc} {cells slots : Nat} {jl : Array Slot} {js : List Value} {adr : List Nat} {ws : va_W} {j : Nat} (h : am_do call (am_ast pc2 ls st mem j) (am_Sim p l e Rm s m args below meth c Q D A ea nL adr0) R) (hJ : am_J s D A ea nL Rm adr0 ls st mem H locs cells slots jl js adr ws) (row : ∀ (x : Nat) (js2 : List Value) (lv : List (Nat × Value)), js = .ref x :: js2 → lv_has jl nL lv → j < nL → (∀ jl2 : Array Slot, lv_has jl2 nL ((j, .ref x) :: lv.filter (fun q => !(q.1 == j) && !(q.1 + 1 == j && q.2.category == 2))) → W p l e Rm s m args below meth c H locs cells slots Q (F0 m pc2 jl2 js2)) → W p l e Rm s m args below meth c H locs cells slots Q (F0 m pc jl js)) : W p l e Rm s m args below meth c H locs cells slots Q (F0 m pc jl js) := by
  obtain ⟨h0, h1, h2, h3, h4, h5, h6, h7, h8⟩ := hJ
  unfold am_ast at h
  split at h
  · rename_i x st2
    obtain ⟨w, js2, e1, e2, e3⟩ := h6
    obtain ⟨a, e4, e5⟩ := id e2
    subst e5
    split at h
    · rename_i hc
      simp only [Bool.and_eq_true, decide_eq_true_eq] at hc
      obtain ⟨lv, g1, g2⟩ := am_has h5
      refine row a js2 lv e1 g1 (by have := h5.1; omega) (fun jl2 hl2 => h _ _ _ _ _ _ _ _ ⟨h0, h1, h2, h3, h4, ?_, e3, h7, h8⟩)
      exact h5.put hc.2 (v := .ref x) e2 g2 hl2
    · exact h.elim
  · exact h.elim
theorem sm_iic {p : Program} {l : Launch} {e : Env} {Rm : Room} {s : State} {m : MethodId} {args : Array Value} {below : List Frame} {meth : Method} {c : Code} {Q : State → Prop} {D : va_G} {A : Nat → Prop} {ea : Nat → Nat} {nL : Nat} {adr0 : List Nat} {call : am_Fn} {R : am_R} {pc pc2 : Nat} {ls : am_L} {st : List Value} {mem : am_M} {H : Heap} {locs : List Loc} {cells slots : Nat} {jl : Array Slot} {js : List Value} {adr : List Nat} {ws : va_W} {j : Nat} {n : Int} (h : am_do call (am_iic pc2 ls st mem j n) (am_Sim p l e Rm s m args below meth c Q D A ea nL adr0) R) (hJ : am_J s D A ea nL Rm adr0 ls st mem H locs cells slots jl js adr ws) (row : ∀ (x : Int32) (lv : List (Nat × Value)) (k : Nat), lv_has jl nL lv → lv[k]? = some (j, .int x) → j < nL → (∀ jl2 : Array Slot, lv_has jl2 nL ((j, .int (x + Int32.ofInt n)) :: lv.filter (fun q => !(q.1 == j) && !(q.1 + 1 == j && q.2.category == 2))) → W p l e Rm s m args below meth c H locs cells slots Q (F0 m pc2 jl2 js)) → W p l e Rm s m args below meth c H locs cells slots Q (F0 m pc jl js)) : W p l e Rm s m args below meth c H locs cells slots Q (F0 m pc jl js) := by
  obtain ⟨h0, h1, h2, h3, h4, h5, h6, h7, h8⟩ := hJ
  unfold am_iic at h
  split at h
  · rename_i x hx
    obtain ⟨w, g3, g4⟩ := h5.at hx
    have g4 : w = .int x := g4
    subst g4
    split at h
    · rename_i hc
      simp only [Bool.and_eq_true, decide_eq_true_eq] at hc
      obtain ⟨lv, g1, g2⟩ := am_has h5
      obtain ⟨k, hk⟩ := List.getElem?_of_mem (g2 j _ _ (am_get_spec hx) g3)
      refine row x lv k g1 hk (by have := h5.1; omega) (fun jl2 hl2 => h _ _ _ _ _ _ _ _ ⟨h0, h1, h2, h3, h4, ?_, h6, h7, h8⟩)
      exact h5.put hc.2 (v := .int (x + Int32.ofInt n)) rfl g2 hl2
    · exact h.elim
  · exact h.elim
theorem sm_ibs {p : Program} {l : Launch} {e : Env} {Rm : Room} {s : State} {m : MethodId} {args : Array Value} {below : List Frame} {meth : Method} {c : Code} {Q : State → Prop} {D : va_G} {A : Nat → Prop} {ea : Nat → Nat} {nL : Nat} {adr0 : List Nat} {call : am_Fn} {R : am_R} {pc pc2 : Nat} {ls : am_L} {st : List Value} {mem : am_M} {H : Heap} {locs : List Loc} {cells slots : Nat} {jl : Array Slot} {js : List Value} {adr : List Nat} {ws : va_W} {f : Int32 → Int32 → Option Int32} (h : am_do call (am_ibs f pc2 ls st mem) (am_Sim p l e Rm s m args below meth c Q D A ea nL adr0) R) (hJ : am_J s D A ea nL Rm adr0 ls st mem H locs cells slots jl js adr ws) (row : ∀ (x y z : Int32) (js2 : List Value), js = .int y :: .int x :: js2 → f x y = some z → W p l e Rm s m args below meth c H locs cells slots Q (F0 m pc2 jl (.int z :: js2)) → W p l e Rm s m args below meth c H locs cells slots Q (F0 m pc jl js)) : W p l e Rm s m args below meth c H locs cells slots Q (F0 m pc jl js) := by
  obtain ⟨h0, h1, h2, h3, h4, h5, h6, h7, h8⟩ := hJ
  unfold am_ibs at h
  split at h
  · rename_i y x st2
    obtain ⟨w1, l1, e1, e2, w2, l2, e3, e4, e5⟩ := h6
    have e2 : w1 = .int y := e2
    have e4 : w2 = .int x := e4
    subst e2; subst e4; subst e3
    split at h
    · rename_i z hz
      exact row x y z l2 e1 hz (h _ _ _ _ _ _ _ _ ⟨h0, h1, h2, h3, h4, h5, ⟨_, _, rfl, rfl, e5⟩, h7, h8⟩)
    · exact h.elim
  · exact h.elim
theorem sm_lbs {p : Program} {l : Launch} {e : Env} {Rm : Room} {s : State} {m : MethodId} {args : Array Value} {below : List Frame} {meth : Method} {c : Code} {Q : State → Prop} {D : va_G} {A : Nat → Prop} {ea : Nat → Nat} {nL : Nat} {adr0 : List Nat} {call : am_Fn} {R : am_R} {pc pc2 : Nat} {ls : am_L} {st : List Value} {mem : am_M} {H : Heap} {locs : List Loc} {cells slots : Nat} {jl : Array Slot} {js : List Value} {adr : List Nat} {ws : va_W} {f : Int64 → Int64 → Option Int64} (h : am_do call (am_lbs f pc2 ls st mem) (am_Sim p l e Rm s m args below meth c Q D A ea nL adr0) R) (hJ : am_J s D A ea nL Rm adr0 ls st mem H locs cells slots jl js adr ws) (row : ∀ (x y z : Int64) (js2 : List Value), js = .long y :: .long x :: js2 → f x y = some z → W p l e Rm s m args below meth c H locs cells slots Q (F0 m pc2 jl (.long z :: js2)) → W p l e Rm s m args below meth c H locs cells slots Q (F0 m pc jl js)) : W p l e Rm s m args below meth c H locs cells slots Q (F0 m pc jl js) := by
  obtain ⟨h0, h1, h2, h3, h4, h5, h6, h7, h8⟩ := hJ
  unfold am_lbs at h
  split at h
  · rename_i y x st2
    obtain ⟨w1, l1, e1, e2, w2, l2, e3, e4, e5⟩ := h6
    have e2 : w1 = .long y := e2
    have e4 : w2 = .long x := e4
    subst e2; subst e4; subst e3
    split at h
    · rename_i z hz
      exact row x y z l2 e1 hz (h _ _ _ _ _ _ _ _ ⟨h0, h1, h2, h3, h4, h5, ⟨_, _, rfl, rfl, e5⟩, h7, h8⟩)
    · exact h.elim
  · exact h.elim
theorem sm_to {p : Program} {l : Launch} {e : Env} {Rm : Room} {s : State} {m : MethodId} {args : Array Value} {below : List Frame} {meth : Method} {c : Code} {Q : State → Prop} {D : va_G} {A : Nat → Prop} {ea : Nat → Nat} {nL : Nat} {adr0 : List Nat} {call : am_Fn} {R : am_R} {pc : Nat} {ls : am_L} {st : List Value} {mem : am_M} {off : Int} (h : am_do call (am_to pc off ls st mem) (am_Sim p l e Rm s m args below meth c Q D A ea nL adr0) R) : ∃ t : Nat, (pc : Int) + off = (t : Int) ∧ (am_Sim p l e Rm s m args below meth c Q D A ea nL adr0) t ls st mem := by
  unfold am_to am_jmp at h
  split at h
  · rename_i t ht
    split at ht
    · rename_i h0
      cases ht
      exact ⟨_, (Int.toNat_of_nonneg h0).symm, h⟩
    · cases ht
  · exact h.elim
theorem sm_iald {p : Program} {l : Launch} {e : Env} {Rm : Room} {s : State} {m : MethodId} {args : Array Value} {below : List Frame} {meth : Method} {c : Code} {Q : State → Prop} {D : va_G} {A : Nat → Prop} {ea : Nat → Nat} {nL : Nat} {adr0 : List Nat} {call : am_Fn} {R : am_R} {pc : Nat} {ls : am_L} {st : List Value} {mem : am_M} {H : Heap} {locs : List Loc} {cells slots : Nat} {jl : Array Slot} {js : List Value} {adr : List Nat} {ws : va_W} {k : Nat} {X : am_X} {base : Nat} {cc : ByteArray} (F : am_Fx p s m args meth c Rm k X base ea A D) (hb : c.code = cc) (hd : decode cc pc = .ok (.iaload, 1)) (h : am_do call (am_iald X (pc + 1) ls st mem) (am_Sim p l e Rm s m args below meth c Q D A ea nL adr0) R) (hJ : am_J s D A ea nL Rm adr0 ls st mem H locs cells slots jl js adr ws)  : W p l e Rm s m args below meth c H locs cells slots Q (F0 m pc jl js) := by
  obtain ⟨h0, h1, h2, h3, h4, h5, h6, h7, h8⟩ := hJ
  obtain ⟨hx, -, -, -, hK, -, hG, hbs, -, hsx, -⟩ := F
  unfold am_iald at h
  split at h
  · rename_i i a st2
    obtain ⟨w1, l1, e1, e2, w2, l2, e3, ⟨ad, e4, e6⟩, e5⟩ := h6
    have e2 : w1 = .int i := e2
    subst e2; subst e6; subst e3; subst e1
    split at h
    · rename_i n f hm
      split at h
      · rename_i hi
        obtain ⟨a', e', q1, q2, cA, q3, q4, q5⟩ := h1.2.2 a _ hm
        rw [e4] at q1
        cases q1
        subst q3
        exact va_iald hx hb (am_K1 hK q4 q5) h2 a 0 q2 rfl (am_in_vp hi) hd (h _ _ _ _ _ _ _ _ ⟨h0, h1, h2, h3, h4, h5, ⟨_, _, rfl, rfl, e5⟩, h7, h8⟩)
      · exact h.elim
    · exact h.elim
  · rename_i i u st2
    obtain ⟨w1, l1, e1, e2, w2, l2, e3, e4, e5⟩ := h6
    have e2 : w1 = .int i := e2
    have e4 : w2 = .ref (ea u.toNat) := e4
    subst e2; subst e4; subst e3; subst e1
    split at h
    · rename_i x
      split at h
      · rename_i hu
        subst hu
        split at h
        · rename_i hi
          obtain ⟨g1, g2, g3⟩ := hsx x rfl
          exact va_sld hx hb g1 g2 (fun q => absurd (hG _ q) (by show ¬ base ≤ ea 0; omega)) h4 (am_in_vp hi) hd (h _ _ _ _ _ _ _ _ ⟨h0, h1, h2, h3, h4, h5, ⟨_, _, rfl, rfl, e5⟩, h7, h8⟩)
        · exact h.elim
      · exact h.elim
    · exact h.elim
  · exact h.elim
