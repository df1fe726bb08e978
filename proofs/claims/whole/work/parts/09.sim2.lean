theorem am_fit_ok {t : FieldType} {v w : Value} {adr : List Nat} {ea : Nat → Nat} (h : am_fit t v = true) (hv : am_v adr ea v w) : narrow t w = w ∧ fits t w = true := by
  unfold am_fit at h
  split at h
  · rename_i x
    have : w = .int x := hv
    subst this
    exact ⟨rfl, rfl⟩
  · obtain ⟨a, -, rfl⟩ := hv
    exact ⟨rfl, rfl⟩
  · have : w = .null := hv
    subst this
    exact ⟨rfl, rfl⟩
  · obtain ⟨a, -, rfl⟩ := hv
    exact ⟨rfl, rfl⟩
  · have : w = .null := hv
    subst this
    exact ⟨rfl, rfl⟩
  · cases h
theorem am_k_xf : (List.range am_nC).all (fun own => (am_xfs.getD own []).all (fun e => (am_ok e.2.2 (.fieldLink (am_cn own) e.1 "java/lang/String" "value" "[B") && decide (e.2.1 = .float 3)) || (am_ok e.2.2 (.fieldLink (am_cn own) e.1 "java/lang/String" "coder" "B") && decide (e.2.1 = .int 0)))) = true := by decide +kernel
theorem am_xf_ok {own idx base : Nat} {ea : Nat → Nat} {s : State} {v : Value} (ho : own < am_nC) (hex : am_ex base ea s) (h : am_xf own idx = some v) : ∃ (n d : String) (w : Value), va_OF "java/lang/String" n d w (ea 2) (fun q => base ≤ q) s s.heap ∧ Cond.fieldLink (am_cn own) idx "java/lang/String" n d ∈ am_TB ∧ ∀ adr, am_v adr ea v w := by
  unfold am_xf at h
  split at h
  · rename_i q hq
    cases h
    have h1 := am_all2 am_k_xf ho (am_lk hq)
    simp only [Bool.and_eq_true, Bool.or_eq_true, decide_eq_true_eq] at h1
    have hS := hex.2.2.2.1.1 0 Nat.zero_lt_one
    rcases h1 with h1 | h1
    · exact ⟨_, _, _, hS.2.2.1, am_ok_mem h1.1, fun adr => by rw [h1.2]; rfl⟩
    · exact ⟨_, _, _, hS.2.1, am_ok_mem h1.1, fun adr => by rw [h1.2]; rfl⟩
  · cases h
theorem am_k_st : (List.range am_nC).all (fun own => (am_sts.getD own []).all (fun e => (am_ok e.2.2 (.fieldLink (am_cn own) e.1 "HouseKeepers$Match" "DIGIT_WEIGHT" "[J") && decide (e.2.1 = .float 1)) || (am_ok e.2.2 (.fieldLink (am_cn own) e.1 "java/lang/String" "COMPACT_STRINGS" "Z") && decide (e.2.1 = .int 1)))) = true := by decide +kernel
theorem am_sta_ok {own idx base : Nat} {ea : Nat → Nat} {s : State} {v : Value} (ho : own < am_nC) (hex : am_ex base ea s) (h : am_sta own idx = some v) : ∃ (C n d : String) (w : Value), va_Z C n d w (fun q => base ≤ q) s s.heap ∧ Cond.fieldLink (am_cn own) idx C n d ∈ am_TB ∧ ∀ adr, am_v adr ea v w := by
  unfold am_sta at h
  split at h
  · rename_i q hq
    cases h
    have h1 := am_all2 am_k_st ho (am_lk hq)
    simp only [Bool.and_eq_true, Bool.or_eq_true, decide_eq_true_eq] at h1
    rcases h1 with h1 | h1
    · exact ⟨_, _, _, _, hex.1, am_ok_mem h1.1, fun adr => by rw [h1.2]; rfl⟩
    · exact ⟨_, _, _, _, hex.2.2.1, am_ok_mem h1.1, fun adr => by rw [h1.2]; rfl⟩
  · cases h
theorem am_k_sr : (List.range am_nC).all (fun own => (am_srs.getD own []).all (fun e => (decide (am_cn own = "HouseKeepers$Rules") && decide (e.1 = 11)) || (decide (am_cn own = "HouseKeepers$Text") && decide (e.1 = 66)))) = true := by decide +kernel
theorem am_sr_ok {own idx base : Nat} {ea : Nat → Nat} {s : State} (ho : own < am_nC) (hex : am_ex base ea s) (h : ((am_srs.getD own []).lookup idx).isSome = true) : vk_R (am_cn own) idx "tnpbdlhkyz" (ea 2) s := by
  obtain ⟨q, hq⟩ := Option.isSome_iff_exists.mp h
  have h1 := am_all2 am_k_sr ho (am_lk hq)
  simp only [Bool.and_eq_true, Bool.or_eq_true, decide_eq_true_eq] at h1
  rcases h1 with h1 | h1
  · rw [h1.1, h1.2]; exact hex.2.2.2.2.1
  · rw [h1.1, h1.2]; exact hex.2.2.2.2.2.1
theorem sm_bald {p : Program} {l : Launch} {e : Env} {Rm : Room} {s : State} {m : MethodId} {args : Array Value} {below : List Frame} {meth : Method} {c : Code} {Q : State → Prop} {D : va_G} {A : Nat → Prop} {ea : Nat → Nat} {nL : Nat} {adr0 : List Nat} {call : am_Fn} {R : am_R} {pc : Nat} {ls : am_L} {st : List Value} {mem : am_M} {H : Heap} {locs : List Loc} {cells slots : Nat} {jl : Array Slot} {js : List Value} {adr : List Nat} {ws : va_W} {k : Nat} {X : am_X} {base : Nat} {cc : ByteArray} (F : am_Fx p s m args meth c Rm k X base ea A D) (hb : c.code = cc) (hd : decode cc pc = .ok (.baload, 1)) (h : am_do call (am_bald (pc + 1) ls st mem) (am_Sim p l e Rm s m args below meth c Q D A ea nL adr0) R) (hJ : am_J s D A ea nL Rm adr0 ls st mem H locs cells slots jl js adr ws)  : W p l e Rm s m args below meth c H locs cells slots Q (F0 m pc jl js) := by
  obtain ⟨h0, h1, h2, h3, h4, h5, h6, h7, h8⟩ := hJ
  obtain ⟨hx, -, hown, hts, hK, hA, hG, hbs, hex, hsx, hin2, -, hoC, -⟩ := F
  unfold am_bald at h
  split at h
  · rename_i i a st2
    obtain ⟨w1, l1, e1, e2, w2, l2, e3, ⟨ad, e4, e6⟩, e5⟩ := h6
    have e2 : w1 = .int i := e2
    subst e2; subst e6; subst e3; subst e1
    split at h
    · rename_i n f hm
      split at h
      · rename_i hi
        obtain ⟨a', e', q1, q2, cA, q3, q4, q5⟩ := h1.2.2 a _ hm
        rw [e4] at q1
        cases q1
        subst q3
        exact va_bald hx hb (am_K1 hK q4 q5) h2 a 0 q2 rfl (am_in_vp hi) hd (h _ _ _ _ _ _ _ _ ⟨h0, h1, h2, h3, h4, h5, ⟨_, _, rfl, rfl, e5⟩, h7, h8⟩)
      · exact h.elim
    · rename_i n f hm
      split at h
      · rename_i hi
        obtain ⟨a', e', q1, q2, cA, q3, q4, q5⟩ := h1.2.2 a _ hm
        rw [e4] at q1
        cases q1
        subst q3
        exact va_zald hx hb (am_K1 hK q4 q5) h2 a 0 q2 rfl (am_in_vp hi) hd (h _ _ _ _ _ _ _ _ ⟨h0, h1, h2, h3, h4, h5, ⟨_, _, rfl, rfl, e5⟩, h7, h8⟩)
      · exact h.elim
    · exact h.elim
  · rename_i i u st2
    obtain ⟨w1, l1, e1, e2, w2, l2, e3, e4, e5⟩ := h6
    have e2 : w1 = .int i := e2
    have e4 : w2 = .ref (ea u.toNat) := e4
    subst e2; subst e4; subst e3; subst e1
    split at h
    · rename_i hu
      subst hu
      split at h
      · rename_i hi
        exact va_tb hx hb (va_T.narrow (hex.2.2.2.1.1 0 Nat.zero_lt_one).2.2.2 hG) h4 (am_in_vp hi) rfl hd (h _ _ _ _ _ _ _ _ ⟨h0, h1, h2, h3, h4, h5, ⟨_, _, rfl, rfl, e5⟩, h7, h8⟩)
      · exact h.elim
    · exact h.elim
  · exact h.elim
theorem sm_lald {p : Program} {l : Launch} {e : Env} {Rm : Room} {s : State} {m : MethodId} {args : Array Value} {below : List Frame} {meth : Method} {c : Code} {Q : State → Prop} {D : va_G} {A : Nat → Prop} {ea : Nat → Nat} {nL : Nat} {adr0 : List Nat} {call : am_Fn} {R : am_R} {pc : Nat} {ls : am_L} {st : List Value} {mem : am_M} {H : Heap} {locs : List Loc} {cells slots : Nat} {jl : Array Slot} {js : List Value} {adr : List Nat} {ws : va_W} {k : Nat} {X : am_X} {base : Nat} {cc : ByteArray} (F : am_Fx p s m args meth c Rm k X base ea A D) (hb : c.code = cc) (hd : decode cc pc = .ok (.laload, 1)) (h : am_do call (am_lald (pc + 1) ls st mem) (am_Sim p l e Rm s m args below meth c Q D A ea nL adr0) R) (hJ : am_J s D A ea nL Rm adr0 ls st mem H locs cells slots jl js adr ws)  : W p l e Rm s m args below meth c H locs cells slots Q (F0 m pc jl js) := by
  obtain ⟨h0, h1, h2, h3, h4, h5, h6, h7, h8⟩ := hJ
  obtain ⟨hx, -, hown, hts, hK, hA, hG, hbs, hex, hsx, hin2, -, hoC, -⟩ := F
  unfold am_lald at h
  split at h
  · rename_i i a st2
    obtain ⟨w1, l1, e1, e2, w2, l2, e3, ⟨ad, e4, e6⟩, e5⟩ := h6
    have e2 : w1 = .int i := e2
    subst e2; subst e6; subst e3; subst e1
    split at h
    · rename_i n f hm
      split at h
      · rename_i hi
        obtain ⟨a', e', q1, q2, cA, q3, q4, q5⟩ := h1.2.2 a _ hm
        rw [e4] at q1
        cases q1
        subst q3
        exact va_lald hx hb (am_K1 hK q4 q5) h2 a 0 q2 rfl (am_in_vp hi) hd (h _ _ _ _ _ _ _ _ ⟨h0, h1, h2, h3, h4, h5, ⟨_, _, rfl, rfl, e5⟩, h7, h8⟩)
      · exact h.elim
    · exact h.elim
  · rename_i i u st2
    obtain ⟨w1, l1, e1, e2, w2, l2, e3, e4, e5⟩ := h6
    have e2 : w1 = .int i := e2
    have e4 : w2 = .ref (ea u.toNat) := e4
    subst e2; subst e4; subst e3; subst e1
    split at h
    · rename_i hu
      subst hu
      split at h
      · rename_i hi
        exact va_tl hx hb (va_T.narrow hex.2.1 hG) h4 (am_in_vp hi) rfl hd (h _ _ _ _ _ _ _ _ ⟨h0, h1, h2, h3, h4, h5, ⟨_, _, rfl, rfl, e5⟩, h7, h8⟩)
      · exact h.elim
    · exact h.elim
  · exact h.elim
theorem sm_aald {p : Program} {l : Launch} {e : Env} {Rm : Room} {s : State} {m : MethodId} {args : Array Value} {below : List Frame} {meth : Method} {c : Code} {Q : State → Prop} {D : va_G} {A : Nat → Prop} {ea : Nat → Nat} {nL : Nat} {adr0 : List Nat} {call : am_Fn} {R : am_R} {pc : Nat} {ls : am_L} {st : List Value} {mem : am_M} {H : Heap} {locs : List Loc} {cells slots : Nat} {jl : Array Slot} {js : List Value} {adr : List Nat} {ws : va_W} {k : Nat} {X : am_X} {base : Nat} {cc : ByteArray} (F : am_Fx p s m args meth c Rm k X base ea A D) (hb : c.code = cc) (hd : decode cc pc = .ok (.aaload, 1)) (h : am_do call (am_aald (pc + 1) ls st mem) (am_Sim p l e Rm s m args below meth c Q D A ea nL adr0) R) (hJ : am_J s D A ea nL Rm adr0 ls st mem H locs cells slots jl js adr ws)  : W p l e Rm s m args below meth c H locs cells slots Q (F0 m pc jl js) := by
  obtain ⟨h0, h1, h2, h3, h4, h5, h6, h7, h8⟩ := hJ
  obtain ⟨hx, -, hown, hts, hK, hA, hG, hbs, hex, hsx, hin2, -, hoC, -⟩ := F
  unfold am_aald at h
  split at h
  · rename_i i a st2
    obtain ⟨w1, l1, e1, e2, w2, l2, e3, ⟨ad, e4, e6⟩, e5⟩ := h6
    have e2 : w1 = .int i := e2
    subst e2; subst e6; subst e3; subst e1
    split at h
    · rename_i n f hm
      split at h
      · rename_i hi
        split at h
        · rename_i b hfb
          obtain ⟨a', e', q1, q2, cA, g, q3, q4, q5⟩ := h1.2.2 a _ hm
          rw [e4] at q1
          cases q1
          subst q3
          have hv := am_in_vp hi
          have hlt : i.toNatClampNeg < n := Nat.not_le.mp fun q => hv (Or.inr q)
          obtain ⟨z, z1, z2⟩ := q5 _ _ hlt hfb
          refine W.aald (v := .ref z) (ty := .array .int) hx hb (h2 a _ q2) (q4 n (fun j => va_rf (g j))) rfl (fun q => by cases q) (by show ¬ (i < 0 ∨ (arrV _ _ _).slots.size ≤ _); rw [arrV_size]; exact hv) (by show (arrV _ _ _).slots[_]? = _; rw [arrV_read _ _ hlt, z2]; rfl) rfl rfl hd ?_
          exact h _ _ _ _ _ _ _ _ ⟨h0, h1, h2, h3, h4, h5, ⟨_, _, rfl, ⟨z, z1, rfl⟩, e5⟩, h7, h8⟩
        · exact h.elim
      · exact h.elim
    · exact h.elim
  · exact h.elim
theorem sm_iast {p : Program} {l : Launch} {e : Env} {Rm : Room} {s : State} {m : MethodId} {args : Array Value} {below : List Frame} {meth : Method} {c : Code} {Q : State → Prop} {D : va_G} {A : Nat → Prop} {ea : Nat → Nat} {nL : Nat} {adr0 : List Nat} {call : am_Fn} {R : am_R} {pc : Nat} {ls : am_L} {st : List Value} {mem : am_M} {H : Heap} {locs : List Loc} {cells slots : Nat} {jl : Array Slot} {js : List Value} {adr : List Nat} {ws : va_W} {k : Nat} {X : am_X} {base : Nat} {cc : ByteArray} (F : am_Fx p s m args meth c Rm k X base ea A D) (hb : c.code = cc) (hd : decode cc pc = .ok (.iastore, 1)) (h : am_do call (am_iast (pc + 1) ls st mem) (am_Sim p l e Rm s m args below meth c Q D A ea nL adr0) R) (hJ : am_J s D A ea nL Rm adr0 ls st mem H locs cells slots jl js adr ws)  : W p l e Rm s m args below meth c H locs cells slots Q (F0 m pc jl js) := by
  obtain ⟨h0, h1, h2, h3, h4, h5, h6, h7, h8⟩ := hJ
  obtain ⟨hx, -, hown, hts, hK, hA, hG, hbs, hex, hsx, hin2, -, hoC, -⟩ := F
  unfold am_iast at h
  split at h
  · rename_i x i a st2
    obtain ⟨w0, l0, f1, f2, w1, l1, e1, e2, w2, l2, e3, ⟨ad, e4, e6⟩, e5⟩ := h6
    have f2 : w0 = .int x := f2
    have e2 : w1 = .int i := e2
    subst f2; subst e2; subst e6; subst e3; subst e1; subst f1
    split at h
    · rename_i n f hm
      split at h
      · rename_i hi
        obtain ⟨a', e', q1, q2, cA, q3, q4, q5⟩ := h1.2.2 a _ hm
        rw [e4] at q1
        cases q1
        subst q3
        refine va_iast hx hb (am_K1 hK q4 q5) h2 h3 h4 a 0 q2 rfl (am_in_vp hi) hd (fun H1 locs1 p2 p3 p4 => ?_)
        exact h _ _ _ _ _ _ _ _ ⟨h0, h1.set q2 ⟨cA, rfl, q4, q5⟩, p2, p3, p4, h5, e5, h7, h8⟩
      · exact h.elim
    · exact h.elim
  · exact h.elim
theorem sm_bast {p : Program} {l : Launch} {e : Env} {Rm : Room} {s : State} {m : MethodId} {args : Array Value} {below : List Frame} {meth : Method} {c : Code} {Q : State → Prop} {D : va_G} {A : Nat → Prop} {ea : Nat → Nat} {nL : Nat} {adr0 : List Nat} {call : am_Fn} {R : am_R} {pc : Nat} {ls : am_L} {st : List Value} {mem : am_M} {H : Heap} {locs : List Loc} {cells slots : Nat} {jl : Array Slot} {js : List Value} {adr : List Nat} {ws : va_W} {k : Nat} {X : am_X} {base : Nat} {cc : ByteArray} (F : am_Fx p s m args meth c Rm k X base ea A D) (hb : c.code = cc) (hd : decode cc pc = .ok (.bastore, 1)) (h : am_do call (am_bast (pc + 1) ls st mem) (am_Sim p l e Rm s m args below meth c Q D A ea nL adr0) R) (hJ : am_J s D A ea nL Rm adr0 ls st mem H locs cells slots jl js adr ws)  : W p l e Rm s m args below meth c H locs cells slots Q (F0 m pc jl js) := by
  obtain ⟨h0, h1, h2, h3, h4, h5, h6, h7, h8⟩ := hJ
  obtain ⟨hx, -, hown, hts, hK, hA, hG, hbs, hex, hsx, hin2, -, hoC, -⟩ := F
  unfold am_bast at h
  split at h
  · rename_i x i a st2
    obtain ⟨w0, l0, f1, f2, w1, l1, e1, e2, w2, l2, e3, ⟨ad, e4, e6⟩, e5⟩ := h6
    have f2 : w0 = .int x := f2
    have e2 : w1 = .int i := e2
    subst f2; subst e2; subst e6; subst e3; subst e1; subst f1
    split at h
    · rename_i n f hm
      split at h
      · rename_i hi
        obtain ⟨a', e', q1, q2, cA, q3, q4, q5⟩ := h1.2.2 a _ hm
        rw [e4] at q1
        cases q1
        subst q3
        refine va_bast hx hb (am_K1 hK q4 q5) h2 h3 h4 a 0 q2 rfl (am_in_vp hi) hd (fun H1 locs1 p2 p3 p4 => ?_)
        exact h _ _ _ _ _ _ _ _ ⟨h0, h1.set q2 ⟨cA, rfl, q4, q5⟩, p2, p3, p4, h5, e5, h7, h8⟩
      · exact h.elim
    · rename_i n f hm
      split at h
      · rename_i hi
        obtain ⟨a', e', q1, q2, cA, q3, q4, q5⟩ := h1.2.2 a _ hm
        rw [e4] at q1
        cases q1
        subst q3
        refine va_zast hx hb (am_K1 hK q4 q5) h2 h3 h4 a 0 q2 rfl (am_in_vp hi) hd (fun H1 locs1 p2 p3 p4 => ?_)
        exact h _ _ _ _ _ _ _ _ ⟨h0, h1.set q2 ⟨cA, rfl, q4, q5⟩, p2, p3, p4, h5, e5, h7, h8⟩
      · exact h.elim
    · exact h.elim
  · exact h.elim
theorem sm_last {p : Program} {l : Launch} {e : Env} {Rm : Room} {s : State} {m : MethodId} {args : Array Value} {below : List Frame} {meth : Method} {c : Code} {Q : State → Prop} {D : va_G} {A : Nat → Prop} {ea : Nat → Nat} {nL : Nat} {adr0 : List Nat} {call : am_Fn} {R : am_R} {pc : Nat} {ls : am_L} {st : List Value} {mem : am_M} {H : Heap} {locs : List Loc} {cells slots : Nat} {jl : Array Slot} {js : List Value} {adr : List Nat} {ws : va_W} {k : Nat} {X : am_X} {base : Nat} {cc : ByteArray} (F : am_Fx p s m args meth c Rm k X base ea A D) (hb : c.code = cc) (hd : decode cc pc = .ok (.lastore, 1)) (h : am_do call (am_last (pc + 1) ls st mem) (am_Sim p l e Rm s m args below meth c Q D A ea nL adr0) R) (hJ : am_J s D A ea nL Rm adr0 ls st mem H locs cells slots jl js adr ws)  : W p l e Rm s m args below meth c H locs cells slots Q (F0 m pc jl js) := by
  obtain ⟨h0, h1, h2, h3, h4, h5, h6, h7, h8⟩ := hJ
  obtain ⟨hx, -, hown, hts, hK, hA, hG, hbs, hex, hsx, hin2, -, hoC, -⟩ := F
  unfold am_last at h
  split at h
  · rename_i x i a st2
    obtain ⟨w0, l0, f1, f2, w1, l1, e1, e2, w2, l2, e3, ⟨ad, e4, e6⟩, e5⟩ := h6
    have f2 : w0 = .long x := f2
    have e2 : w1 = .int i := e2
    subst f2; subst e2; subst e6; subst e3; subst e1; subst f1
    split at h
    · rename_i n f hm
      split at h
      · rename_i hi
        obtain ⟨a', e', q1, q2, cA, q3, q4, q5⟩ := h1.2.2 a _ hm
        rw [e4] at q1
        cases q1
        subst q3
        refine va_last hx hb (am_K1 hK q4 q5) h2 h3 h4 a 0 q2 rfl (am_in_vp hi) hd (fun H1 locs1 p2 p3 p4 => ?_)
        exact h _ _ _ _ _ _ _ _ ⟨h0, h1.set q2 ⟨cA, rfl, q4, q5⟩, p2, p3, p4, h5, e5, h7, h8⟩
      · exact h.elim
    · exact h.elim
  · exact h.elim
theorem sm_alen {p : Program} {l : Launch} {e : Env} {Rm : Room} {s : State} {m : MethodId} {args : Array Value} {below : List Frame} {meth : Method} {c : Code} {Q : State → Prop} {D : va_G} {A : Nat → Prop} {ea : Nat → Nat} {nL : Nat} {adr0 : List Nat} {call : am_Fn} {R : am_R} {pc : Nat} {ls : am_L} {st : List Value} {mem : am_M} {H : Heap} {locs : List Loc} {cells slots : Nat} {jl : Array Slot} {js : List Value} {adr : List Nat} {ws : va_W} {k : Nat} {X : am_X} {base : Nat} {cc : ByteArray} (F : am_Fx p s m args meth c Rm k X base ea A D) (hb : c.code = cc) (hd : decode cc pc = .ok (.arraylength, 1)) (h : am_do call (am_alen X (pc + 1) ls st mem) (am_Sim p l e Rm s m args below meth c Q D A ea nL adr0) R) (hJ : am_J s D A ea nL Rm adr0 ls st mem H locs cells slots jl js adr ws)  : W p l e Rm s m args below meth c H locs cells slots Q (F0 m pc jl js) := by
  obtain ⟨h0, h1, h2, h3, h4, h5, h6, h7, h8⟩ := hJ
  obtain ⟨hx, -, hown, hts, hK, hA, hG, hbs, hex, hsx, hin2, -, hoC, -⟩ := F
  unfold am_alen at h
  split at h
  · rename_i a st2
    obtain ⟨w2, l2, e3, ⟨ad, e4, e6⟩, e5⟩ := h6
    subst e6; subst e3
    split at h
    · rename_i kd n f hm
      obtain ⟨a', e', q1, q2, cA, q3, q4, q5⟩ := h1.2.2 a _ hm
      rw [e4] at q1
      cases q1
      subst q3
      exact va_alen hx hb (am_K1 hK q4 q5) h2 a 0 q2 rfl rfl hd (h _ _ _ _ _ _ _ _ ⟨h0, h1, h2, h3, h4, h5, ⟨_, _, rfl, rfl, e5⟩, h7, h8⟩)
    · rename_i n f hm
      obtain ⟨a', e', q1, q2, cA, q3, q4, q5⟩ := h1.2.2 a _ hm
      rw [e4] at q1
      cases q1
      subst q3
      exact va_alen hx hb (am_K1 hK q4 q5) h2 a 0 q2 rfl rfl hd (h _ _ _ _ _ _ _ _ ⟨h0, h1, h2, h3, h4, h5, ⟨_, _, rfl, rfl, e5⟩, h7, h8⟩)
    · rename_i n f hm
      obtain ⟨a', e', q1, q2, cA, g, q3, q4, q5⟩ := h1.2.2 a _ hm
      rw [e4] at q1
      cases q1
      subst q3
      refine W.alen (n := Int32.ofNat n) hx hb (h2 a _ q2) (q4 n (fun j => va_rf (g j))) (by show (arrV _ _ _).slots.size.toInt32 = _; rw [arrV_size]) rfl rfl hd ?_
      exact h _ _ _ _ _ _ _ _ ⟨h0, h1, h2, h3, h4, h5, ⟨_, _, rfl, rfl, e5⟩, h7, h8⟩
    · exact h.elim
  · rename_i u st2
    obtain ⟨w2, l2, e3, e4, e5⟩ := h6
    have e4 : w2 = .ref (ea u.toNat) := e4
    subst e4; subst e3
    split at h
    · rename_i hu
      subst hu
      exact va_tlen hx hb (va_T.narrow (hex.2.2.2.1.1 0 Nat.zero_lt_one).2.2.2 hG) h4 rfl hd (h _ _ _ _ _ _ _ _ ⟨h0, h1, h2, h3, h4, h5, ⟨_, _, rfl, rfl, e5⟩, h7, h8⟩)
    · split at h
      · rename_i x
        split at h
        · rename_i hu
          subst hu
          obtain ⟨g1, g2, g3⟩ := hsx x rfl
          exact va_slen hx hb g1 g2 (fun q => absurd (hG _ q) (by show ¬ base ≤ ea 0; omega)) h4 hd (h _ _ _ _ _ _ _ _ ⟨h0, h1, h2, h3, h4, h5, ⟨_, _, rfl, rfl, e5⟩, h7, h8⟩)
        · exact h.elim
      · exact h.elim
  · exact h.elim
theorem sm_getf {p : Program} {l : Launch} {e : Env} {Rm : Room} {s : State} {m : MethodId} {args : Array Value} {below : List Frame} {meth : Method} {c : Code} {Q : State → Prop} {D : va_G} {A : Nat → Prop} {ea : Nat → Nat} {nL : Nat} {adr0 : List Nat} {call : am_Fn} {R : am_R} {pc : Nat} {ls : am_L} {st : List Value} {mem : am_M} {H : Heap} {locs : List Loc} {cells slots : Nat} {jl : Array Slot} {js : List Value} {adr : List Nat} {ws : va_W} {k : Nat} {X : am_X} {base : Nat} {cc : ByteArray} {idx : Nat} (F : am_Fx p s m args meth c Rm k X base ea A D) (hb : c.code = cc) (hd : decode cc pc = .ok (.getfield idx, 3)) (h : am_do call (am_getf (am_own k) idx (pc + 3) ls st mem) (am_Sim p l e Rm s m args below meth c Q D A ea nL adr0) R) (hJ : am_J s D A ea nL Rm adr0 ls st mem H locs cells slots jl js adr ws)  : W p l e Rm s m args below meth c H locs cells slots Q (F0 m pc jl js) := by
  obtain ⟨h0, h1, h2, h3, h4, h5, h6, h7, h8⟩ := hJ
  obtain ⟨hx, -, hown, hts, hK, hA, hG, hbs, hex, hsx, hin2, -, hoC, -⟩ := F
  unfold am_getf at h
  split at h
  · rename_i a st2
    obtain ⟨w2, l2, e3, ⟨ad, e4, e6⟩, e5⟩ := h6
    subst e6; subst e3
    split at h
    · rename_i ci j hf
      obtain ⟨z1, z2, z3⟩ := am_fld_ok hoC hf
      split at h
      · rename_i ci' fs hm
        split at h
        · rename_i hci
          subst hci
          split at h
          · rename_i v hv
            obtain ⟨a', e', q1, q2, q3, gs, q4, q5, q6⟩ := h1.2.2 a _ hm
            rw [e4] at q1
            cases q1
            subst q4
            obtain ⟨w, r1, r2⟩ := q6.get hv
            exact va_get (C := am_cn ci') (T := am_F ci') (N := am_N ci') hx hb hts (am_uws z1) hown hK h2 a q2 (am_cls_at z1) j z2 (hts _ z3) (fun _ h9 => h9) r1 hd (h _ _ _ _ _ _ _ _ ⟨h0, h1, h2, h3, h4, h5, ⟨_, _, rfl, r2, e5⟩, h7, h8⟩)
          · exact h.elim
        · exact h.elim
      · exact h.elim
    · exact h.elim
  · rename_i u st2
    obtain ⟨w2, l2, e3, e4, e5⟩ := h6
    have e4 : w2 = .ref (ea u.toNat) := e4
    subst e4; subst e3
    split at h
    · rename_i hu
      subst hu
      split at h
      · rename_i v hv
        obtain ⟨n, d, w, g1, g2, g3⟩ := am_xf_ok hoC hex hv
        exact vk_getf hx hb (va_OF.narrow g1 hG) h4 hown (hts _ g2) (fun _ h9 => h9) hd (h _ _ _ _ _ _ _ _ ⟨h0, h1, h2, h3, h4, h5, ⟨_, _, rfl, g3 adr, e5⟩, h7, h8⟩)
      · exact h.elim
    · exact h.elim
  · exact h.elim
theorem sm_putf {p : Program} {l : Launch} {e : Env} {Rm : Room} {s : State} {m : MethodId} {args : Array Value} {below : List Frame} {meth : Method} {c : Code} {Q : State → Prop} {D : va_G} {A : Nat → Prop} {ea : Nat → Nat} {nL : Nat} {adr0 : List Nat} {call : am_Fn} {R : am_R} {pc : Nat} {ls : am_L} {st : List Value} {mem : am_M} {H : Heap} {locs : List Loc} {cells slots : Nat} {jl : Array Slot} {js : List Value} {adr : List Nat} {ws : va_W} {k : Nat} {X : am_X} {base : Nat} {cc : ByteArray} {idx : Nat} (F : am_Fx p s m args meth c Rm k X base ea A D) (hb : c.code = cc) (hd : decode cc pc = .ok (.putfield idx, 3)) (h : am_do call (am_putf k (am_own k) idx (pc + 3) ls st mem) (am_Sim p l e Rm s m args below meth c Q D A ea nL adr0) R) (hJ : am_J s D A ea nL Rm adr0 ls st mem H locs cells slots jl js adr ws)  : W p l e Rm s m args below meth c H locs cells slots Q (F0 m pc jl js) := by
  obtain ⟨h0, h1, h2, h3, h4, h5, h6, h7, h8⟩ := hJ
  obtain ⟨hx, -, hown, hts, hK, hA, hG, hbs, hex, hsx, hin2, -, hoC, -⟩ := F
  unfold am_putf at h
  split at h
  · rename_i v a st2
    obtain ⟨w1, l1, e1, e2, w2, l2, e3, ⟨ad, e4, e6⟩, e5⟩ := h6
    subst e6; subst e3; subst e1
    split at h
    · rename_i ci j hf
      obtain ⟨z1, z2, z3⟩ := am_fld_ok hoC hf
      split at h
      · rename_i ci' fs hm
        split at h
        · rename_i hcond
          simp only [Bool.and_eq_true, decide_eq_true_eq, Bool.or_eq_true, Bool.not_eq_true'] at hcond
          obtain ⟨⟨⟨hci, hjl⟩, hfit⟩, hfin⟩ := hcond
          subst hci
          obtain ⟨a', e', q1, q2, q3, gs, q4, q5, q6⟩ := h1.2.2 a _ hm
          rw [e4] at q1
          cases q1
          subst q4
          obtain ⟨y1, y2, y3⟩ := am_cok_of z1
          obtain ⟨n1, n2⟩ := am_fit_ok hfit e2
          have hty : ∀ k, k < am_N ci' → parseFieldDescriptor (am_F ci' k).2.2.1 = some (am_T ci' k) := fun k hk => (y3 k hk).2.1
          have hlen : j < gs.length := by rw [q6.len]; exact hjl
          have hK2 : ∀ (H1 : Heap) (locs1 : List Loc), va_P D classes (ws.set a (ad, .inr (ci', gs.set j w1))) H1 → va_D A (ws.set a (ad, .inr (ci', gs.set j w1))) → va_S A s.heap H1 locs1 → W p l e Rm s m args below meth c H1 locs1 cells slots Q (F0 m (pc + 3) jl l2) := fun H1 locs1 p2 p3 p4 =>
            h _ _ _ _ _ _ _ _ ⟨h0, h1.set q2 ⟨q3, _, rfl, by rw [List.length_set]; exact q5, q6.set e2⟩, p2, p3, p4, h5, e5, h7, h8⟩
          rcases hfin with hfin | hfin
          · exact va_put (C := am_cn ci') (T := am_F ci') (N := am_N ci') hx hb hts (am_uws z1) (am_T ci') hty (am_k_d ci' z1) hown hK h2 h3 h4 a q2 (am_cls_at z1) j z2 (hts _ z3) (fun _ h9 => h9) hfin (hty j z2) n1 n2 hlen hd hK2
          · by_cases hff : (am_F ci' j).2.2.2 = true
            · exact va_putF (C := am_cn ci') (T := am_F ci') (N := am_N ci') hx hb hts (am_uws z1) (am_T ci') hty (am_k_d ci' z1) hown hK h2 h3 h4 a q2 (am_cls_at z1) j z2 (hts _ z3) (fun _ h9 => h9) hff (hin2 hfin.1) ((y3 j z2).2.2.trans (by rw [hfin.2])) (hty j z2) n1 n2 hlen hd hK2
            · exact va_put (C := am_cn ci') (T := am_F ci') (N := am_N ci') hx hb hts (am_uws z1) (am_T ci') hty (am_k_d ci' z1) hown hK h2 h3 h4 a q2 (am_cls_at z1) j z2 (hts _ z3) (fun _ h9 => h9) (by simpa using hff) (hty j z2) n1 n2 hlen hd hK2
        · exact h.elim
      · exact h.elim
    · exact h.elim
  · exact h.elim
