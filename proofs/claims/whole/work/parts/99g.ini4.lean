/-! the reference is made: its loops -/
theorem r_M_init_352 {d : Nat} {R : am_R} {I : Nat → Nat → Int32} {L : Nat → Nat → Int64} {a : Nat} (h : (((nI a) < 10 → (am_Run am_X0 (am_meth d) 149 R 360 [some (.ref 113), some (.int (nI a)), some (.int 0)] [] (am_mk I L, 0, 0))) ∧ (¬ (nI a) < 10 → (am_Run am_X0 (am_meth d) 149 R 402 [some (.ref 113), some (.int 0), none] [] (am_mk I L, 0, 0))))) : am_Run am_X0 (am_meth d) 149 R 352 [some (.ref 113), some (.int (nI a)), none] [] (am_mk I L, 0, 0) := by
  refine ar_iload_n (j := 1) (q := 353) rfl rfl rfl rfl ?_
  refine ar_bipush (v := 10) (q := 355) rfl rfl rfl ?_
  obtain ⟨hA, hB⟩ := h
  refine ar_br am_d_ge (t := 400) (q := 358) rfl rfl rfl (fun c_1 => ?_) (fun c_1 => ?_)
  · have h := hB c_1
    clear hA hB
    refine ar_iconst (v := 0) (q := 401) rfl rfl rfl ?_
    refine ar_istore_n (j := 1) (ls' := [some (.ref 113), some (.int 0), none]) (q := 402) rfl rfl rfl rfl rfl ?_
    exact am_Run.weak (ls' := _) (by exact ⟨rfl, ⟨rfl, trivial⟩⟩) h
  · have c_1 := Classical.not_not.mp c_1
    have h := hA c_1
    clear hA hB
    refine ar_iconst (v := 0) (q := 359) rfl rfl rfl ?_
    refine ar_istore_n (j := 2) (ls' := [some (.ref 113), some (.int (nI a)), some (.int 0)]) (q := 360) rfl rfl rfl rfl rfl ?_
    exact am_Run.weak (ls' := _) (by exact ⟨rfl, ⟨rfl, ⟨rfl, trivial⟩⟩⟩) h
theorem r_M_init_360 {d : Nat} {R : am_R} {I : Nat → Nat → Int32} {L : Nat → Nat → Int64} {a : Nat} {c : Nat} (h : (((nI c) < 10 → ((((nI a) = (nI c) → (∃ j_3 : Nat, j_3 < 100 ∧ (10 * (nI a)) + (nI c) = nI j_3 ∧ (∀ I_6 : Nat → Nat → Int32, I_6 = va_up I 115 (upd (I 115) j_3 0) → (am_Run am_X0 (am_meth d) 149 R 360 [some (.ref 113), some (.int (nI a)), some (.int (nI (c + 1)))] [] (am_mk I_6 L, 0, 0))))) ∧ (¬ (nI a) = (nI c) → (∃ j_8 : Nat, j_8 < 100 ∧ (10 * (nI a)) + (nI c) = nI j_8 ∧ (∀ I_11 : Nat → Nat → Int32, I_11 = va_up I 115 (upd (I 115) j_8 24) → (am_Run am_X0 (am_meth d) 149 R 360 [some (.ref 113), some (.int (nI a)), some (.int (nI (c + 1)))] [] (am_mk I_11 L, 0, 0)))))))) ∧ (¬ (nI c) < 10 → (am_Run am_X0 (am_meth d) 149 R 352 [some (.ref 113), some (.int (nI (a + 1))), none] [] (am_mk I L, 0, 0))))) : am_Run am_X0 (am_meth d) 149 R 360 [some (.ref 113), some (.int (nI a)), some (.int (nI c))] [] (am_mk I L, 0, 0) := by
  refine ar_iload_n (j := 2) (q := 361) rfl rfl rfl rfl ?_
  refine ar_bipush (v := 10) (q := 363) rfl rfl rfl ?_
  obtain ⟨hA, hB⟩ := h
  refine ar_br am_d_ge (t := 394) (q := 366) rfl rfl rfl (fun c_1 => ?_) (fun c_1 => ?_)
  · have h := hB c_1
    clear hA hB
    refine ar_iinc (v := nI (a + 1)) (ls' := [some (.ref 113), some (.int (nI (a + 1))), some (.int (nI c))]) (q := 397) rfl rfl rfl (nI_1 _) rfl rfl ?_
    refine ar_goto (t := 352) rfl rfl ?_
    exact am_Run.weak (ls' := _) (by exact ⟨rfl, ⟨rfl, trivial⟩⟩) h
  · have c_1 := Classical.not_not.mp c_1
    have h := hA c_1
    clear hA hB
    refine ar_aload_n (j := 0) (q := 367) rfl rfl rfl rfl ?_
    refine ar_getf (v := .ref 115) (q := 370) rfl rfl mk_113 rfl rfl ?_
    refine ar_bipush (v := 10) (q := 372) rfl rfl rfl ?_
    refine ar_iload_n (j := 1) (q := 373) rfl rfl rfl rfl ?_
    refine ar_ib (i := .imul) (z := 10 * (nI a)) (q := 374) rfl rfl rfl rfl rfl ?_
    refine ar_iload_n (j := 2) (q := 375) rfl rfl rfl rfl ?_
    refine ar_ib (i := .iadd) (z := (10 * (nI a)) + (nI c)) (q := 376) rfl rfl rfl rfl rfl ?_
    refine ar_iload_n (j := 1) (q := 377) rfl rfl rfl rfl ?_
    refine ar_iload_n (j := 2) (q := 378) rfl rfl rfl rfl ?_
    obtain ⟨hA, hB⟩ := h
    refine ar_br am_c_ne (t := 385) (q := 381) rfl rfl rfl (fun c_2 => ?_) (fun c_2 => ?_)
    · have h := hB c_2
      clear hA hB
      refine ar_bipush (v := 24) (q := 387) rfl rfl rfl ?_
      obtain ⟨j_8, hx_9, hi_10, h⟩ := h
      obtain ⟨I_11, hI_12⟩ : ∃ z : Nat → Nat → Int32, z = va_up I 115 (upd (I 115) j_8 24) := ⟨_, rfl⟩
      have h := h I_11 hI_12
      refine ar_iast (hp2 := am_mk I_11 L) (q := 388) rfl mk_115 (am_inE hi_10 hx_9 (by decide)) (by rw [am_clT (n := 100) hi_10 hx_9 (by decide), hI_12]; exact mk_s115) rfl ?_
      refine ar_iinc (v := nI (c + 1)) (ls' := [some (.ref 113), some (.int (nI a)), some (.int (nI (c + 1)))]) (q := 391) rfl rfl rfl (nI_1 _) rfl rfl ?_
      refine ar_goto (t := 360) rfl rfl ?_
      exact am_Run.weak (ls' := _) (by exact ⟨rfl, ⟨rfl, ⟨rfl, trivial⟩⟩⟩) h
    · have c_2 := Classical.not_not.mp c_2
      have h := hA c_2
      clear hA hB
      refine ar_iconst (v := 0) (q := 382) rfl rfl rfl ?_
      refine ar_goto (t := 387) rfl rfl ?_
      obtain ⟨j_3, hx_4, hi_5, h⟩ := h
      obtain ⟨I_6, hI_7⟩ : ∃ z : Nat → Nat → Int32, z = va_up I 115 (upd (I 115) j_3 0) := ⟨_, rfl⟩
      have h := h I_6 hI_7
      refine ar_iast (hp2 := am_mk I_6 L) (q := 388) rfl mk_115 (am_inE hi_5 hx_4 (by decide)) (by rw [am_clT (n := 100) hi_5 hx_4 (by decide), hI_7]; exact mk_s115) rfl ?_
      refine ar_iinc (v := nI (c + 1)) (ls' := [some (.ref 113), some (.int (nI a)), some (.int (nI (c + 1)))]) (q := 391) rfl rfl rfl (nI_1 _) rfl rfl ?_
      refine ar_goto (t := 360) rfl rfl ?_
      exact am_Run.weak (ls' := _) (by exact ⟨rfl, ⟨rfl, ⟨rfl, trivial⟩⟩⟩) h
theorem r_M_init_402 {d : Nat} {R : am_R} {I : Nat → Nat → Int32} {L : Nat → Nat → Int64} {a : Nat} (h : (((nI a) < 5 → (a < 5 ∧ (∀ I_3 : Nat → Nat → Int32, I_3 = va_up I 116 (upd (I 116) a 180) → (am_Run am_X0 (am_meth d) 149 R 402 [some (.ref 113), some (.int (nI (a + 1))), none] [] (am_mk I_3 L, 0, 0))))) ∧ (¬ (nI a) < 5 → (am_Run am_X0 (am_meth d) 149 R 424 [some (.ref 113), some (.int 0), none] [] (am_mk I L, 0, 0))))) : am_Run am_X0 (am_meth d) 149 R 402 [some (.ref 113), some (.int (nI a)), none] [] (am_mk I L, 0, 0) := by
  refine ar_iload_n (j := 1) (q := 403) rfl rfl rfl rfl ?_
  refine ar_iconst (v := 5) (q := 404) rfl rfl rfl ?_
  obtain ⟨hA, hB⟩ := h
  refine ar_br am_d_ge (t := 422) (q := 407) rfl rfl rfl (fun c_1 => ?_) (fun c_1 => ?_)
  · have h := hB c_1
    clear hA hB
    refine ar_iconst (v := 0) (q := 423) rfl rfl rfl ?_
    refine ar_istore_n (j := 1) (ls' := [some (.ref 113), some (.int 0), none]) (q := 424) rfl rfl rfl rfl rfl ?_
    exact am_Run.weak (ls' := _) (by exact ⟨rfl, ⟨rfl, trivial⟩⟩) h
  · have c_1 := Classical.not_not.mp c_1
    have h := hA c_1
    clear hA hB
    refine ar_aload_n (j := 0) (q := 408) rfl rfl rfl rfl ?_
    refine ar_getf (v := .ref 116) (q := 411) rfl rfl mk_113 rfl rfl ?_
    refine ar_iload_n (j := 1) (q := 412) rfl rfl rfl rfl ?_
    refine ar_sipush (v := 180) (q := 415) rfl rfl rfl ?_
    obtain ⟨hx_2, h⟩ := h
    obtain ⟨I_3, hI_4⟩ : ∃ z : Nat → Nat → Int32, z = va_up I 116 (upd (I 116) a 180) := ⟨_, rfl⟩
    have h := h I_3 hI_4
    refine ar_iast (hp2 := am_mk I_3 L) (q := 416) rfl mk_116 (am_inE rfl hx_2 (by decide)) (by rw [am_clT (n := 5) rfl hx_2 (by decide), hI_4]; exact mk_s116) rfl ?_
    refine ar_iinc (v := nI (a + 1)) (ls' := [some (.ref 113), some (.int (nI (a + 1))), none]) (q := 419) rfl rfl rfl (nI_1 _) rfl rfl ?_
    refine ar_goto (t := 402) rfl rfl ?_
    exact am_Run.weak (ls' := _) (by exact ⟨rfl, ⟨rfl, trivial⟩⟩) h
theorem r_M_init_424 {d : Nat} {R : am_R} {I : Nat → Nat → Int32} {L : Nat → Nat → Int64} {a : Nat} (h : (((nI a) < 620 → (a < 620 ∧ (∀ I_3 : Nat → Nat → Int32, I_3 = va_up I 124 (upd (I 124) a 1) → (am_Run am_X0 (am_meth d) 149 R 424 [some (.ref 113), some (.int (nI (a + 1))), none] [] (am_mk I_3 L, 0, 0))))) ∧ (¬ (nI a) < 620 → (am_Run am_X0 (am_meth d) 149 R 446 [some (.ref 113), some (.int 0), none] [] (am_mk I L, 0, 0))))) : am_Run am_X0 (am_meth d) 149 R 424 [some (.ref 113), some (.int (nI a)), none] [] (am_mk I L, 0, 0) := by
  refine ar_iload_n (j := 1) (q := 425) rfl rfl rfl rfl ?_
  refine ar_sipush (v := 620) (q := 428) rfl rfl rfl ?_
  obtain ⟨hA, hB⟩ := h
  refine ar_br am_d_ge (t := 444) (q := 431) rfl rfl rfl (fun c_1 => ?_) (fun c_1 => ?_)
  · have h := hB c_1
    clear hA hB
    refine ar_iconst (v := 0) (q := 445) rfl rfl rfl ?_
    refine ar_istore_n (j := 1) (ls' := [some (.ref 113), some (.int 0), none]) (q := 446) rfl rfl rfl rfl rfl ?_
    exact am_Run.weak (ls' := _) (by exact ⟨rfl, ⟨rfl, trivial⟩⟩) h
  · have c_1 := Classical.not_not.mp c_1
    have h := hA c_1
    clear hA hB
    refine ar_aload_n (j := 0) (q := 432) rfl rfl rfl rfl ?_
    refine ar_getf (v := .ref 124) (q := 435) rfl rfl mk_113 rfl rfl ?_
    refine ar_iload_n (j := 1) (q := 436) rfl rfl rfl rfl ?_
    refine ar_iconst (v := 1) (q := 437) rfl rfl rfl ?_
    obtain ⟨hx_2, h⟩ := h
    obtain ⟨I_3, hI_4⟩ : ∃ z : Nat → Nat → Int32, z = va_up I 124 (upd (I 124) a 1) := ⟨_, rfl⟩
    have h := h I_3 hI_4
    refine ar_iast (hp2 := am_mk I_3 L) (q := 438) rfl mk_124 (am_inE rfl hx_2 (by decide)) (by rw [am_clT (n := 620) rfl hx_2 (by decide), hI_4]; exact mk_s124) rfl ?_
    refine ar_iinc (v := nI (a + 1)) (ls' := [some (.ref 113), some (.int (nI (a + 1))), none]) (q := 441) rfl rfl rfl (nI_1 _) rfl rfl ?_
    refine ar_goto (t := 424) rfl rfl ?_
    exact am_Run.weak (ls' := _) (by exact ⟨rfl, ⟨rfl, trivial⟩⟩) h
theorem r_M_init_446 {d : Nat} {R : am_R} {I : Nat → Nat → Int32} {L : Nat → Nat → Int64} {a : Nat} (h : (((nI a) < 120 → (a < 120 ∧ (∀ I_3 : Nat → Nat → Int32, I_3 = va_up I 132 (upd (I 132) a (-1 : Int32)) → (am_Run am_X0 (am_meth d) 149 R 446 [some (.ref 113), some (.int (nI (a + 1))), none] [] (am_mk I_3 L, 0, 0))))) ∧ (¬ (nI a) < 120 → (R none (am_mk I L, 0, 0))))) : am_Run am_X0 (am_meth d) 149 R 446 [some (.ref 113), some (.int (nI a)), none] [] (am_mk I L, 0, 0) := by
  refine ar_iload_n (j := 1) (q := 447) rfl rfl rfl rfl ?_
  refine ar_bipush (v := 120) (q := 449) rfl rfl rfl ?_
  obtain ⟨hA, hB⟩ := h
  refine ar_br am_d_ge (t := 465) (q := 452) rfl rfl rfl (fun c_1 => ?_) (fun c_1 => ?_)
  · have h := hB c_1
    clear hA hB
    exact ar_vret rfl rfl h
  · have c_1 := Classical.not_not.mp c_1
    have h := hA c_1
    clear hA hB
    refine ar_aload_n (j := 0) (q := 453) rfl rfl rfl rfl ?_
    refine ar_getf (v := .ref 132) (q := 456) rfl rfl mk_113 rfl rfl ?_
    refine ar_iload_n (j := 1) (q := 457) rfl rfl rfl rfl ?_
    refine ar_iconst (v := (-1 : Int32)) (q := 458) rfl rfl rfl ?_
    obtain ⟨hx_2, h⟩ := h
    obtain ⟨I_3, hI_4⟩ : ∃ z : Nat → Nat → Int32, z = va_up I 132 (upd (I 132) a (-1 : Int32)) := ⟨_, rfl⟩
    have h := h I_3 hI_4
    refine ar_iast (hp2 := am_mk I_3 L) (q := 459) rfl mk_132 (am_inE rfl hx_2 (by decide)) (by rw [am_clT (n := 120) rfl hx_2 (by decide), hI_4]; exact mk_s132) rfl ?_
    refine ar_iinc (v := nI (a + 1)) (ls' := [some (.ref 113), some (.int (nI (a + 1))), none]) (q := 462) rfl rfl rfl (nI_1 _) rfl rfl ?_
    refine ar_goto (t := 446) rfl rfl ?_
    exact am_Run.weak (ls' := _) (by exact ⟨rfl, ⟨rfl, trivial⟩⟩) h
